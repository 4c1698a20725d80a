theorem LM_op {n p o d : Nat} {F G : Nat} {B : Nat → Nat} {E : List (Nat × Nat × Nat)} {st : List Nat} {ν0 ν : aw_M} (hG : 0 < G) (h : MS B n ν0 E o d st 0 p ν) : LM F G ν = (f_X11_operand F 203 ν).bind fun r28 => if r28.1 = true then LM F (G - 1) r28.2 else some (-1 - r28.2.1 203 16, r28.2) := by
  rw [LM_s hG]
  unfold f_X11_sentence_48 f_X11_sentence_101
  rw [if_pos rfl, h.2.2.2.2.2.2.2.1, if_pos (show nI 0 = 0 from rfl), if_pos (show nI 0 = 0 from rfl)]
  rfl
/-- not, or a bracket that opens: the reference's stack grows -/
theorem push_m {F n p o d x : Nat} {B : Nat → Nat} {E : List (Nat × Nat × Nat)} {st : List Nat} {ν0 ν : aw_M} (hF : 2000 ≤ F) (ho : o < 20) (hd : d ≤ 8) (hl : st.length < 45) (hx : (x = 10 ∧ isKw B n 200 p 11 = true) ∨ (x = 13 ∧ isSg B n 200 p 40 = true)) (h : MS B n ν0 E o d st 0 p ν) : T (f_X11_operand F 203 ν) fun r => r.1 = true ∧ MS B n ν0 E (o + 1) (d + 1) (st ++ [x]) 0 (tN B n 200 p) r.2 := by
  have pm := h.2.1
  have r42 : aw_rf 203 42 = 225 := by simp only [rf203, rf203b]
  have hK : tK B n 200 p ≠ 4 ∧ tK B n 200 p ≠ 5 := by
    rcases hx with ⟨-, hx⟩ | ⟨-, hx⟩
    · rw [(of_decide_eq_true hx).1]; decide
    · rw [(of_decide_eq_true hx).1]; decide
  unfold f_X11_operand
  rw [isWord_m (i := 11) pm (by decide) (by decide), Option.bind_some]
  dsimp only
  rw [show f_X11_isSign F 203 40 ν = some (isSg B n 200 p 40, ν) from isSign_m pm (by decide), Option.bind_some]
  dsimp only
  rw [leafOf_m pm, Option.bind_some]
  dsimp only
  have f38 : T (f_X11_operand_38 F 203 (isKw B n 200 p 11) (isSg B n 200 p 40) (leafK B n p) ν) fun r => r.1 = true ∧ MS B n ν0 E (o + 1) (d + 1) (st ++ [x]) 0 (tN B n 200 p) r.2 := by
    unfold f_X11_operand_38
    rw [h.2.2.2.1, h.2.2.2.2.2.2.1, if_neg (show ¬ nI o = 20 from fun h => by have := (nI_eq (b := 20) (by omega) (by decide)).1 h; omega), if_pos (show nI d ≤ 8 from (show nI d ≤ nI 8 from nI_le hd (by decide))), plet, nI_1]
    refine T_call (MS_step hF (MS_44 (o' := o + 1) h) hK) ?_
    intro ν1 g
    have f103 : ∀ z, z = nI x → T (f_X11_operand_103 F 203 z (ν1.1 203 45) ν1) fun r => r.1 = true ∧ MS B n ν0 E (o + 1) (d + 1) (st ++ [x]) 0 (tN B n 200 p) r.2 := fun z hz => by
      have e45 := g.2.2.2.2.1
      have e46 := g.2.2.2.2.2.2.1
      unfold f_X11_operand_103
      rw [e45, pI_in_t hl (by decide), pg_t, plet, r42, nI_clamp (by omega), rI_a (by decide), e45, nI_1, plet, rI_k (by decide), rI_a (by decide), e46, nI_1, plet, T_some, hz]
      exact ⟨rfl, MS_46 (MS_225 g)⟩
    unfold f_X11_operand_84
    rcases hx with ⟨rfl, hx⟩ | ⟨rfl, hx⟩
    · rw [if_pos hx, if_pos hx]
      exact f103 10 rfl
    · have hF : ¬ isKw B n 200 p 11 = true := fun h => by
        have := (of_decide_eq_true h).1
        have := (of_decide_eq_true hx).1
        omega
      rw [if_neg hF, if_pos hx, if_neg hF]
      exact f103 13 rfl
  by_cases c : isKw B n 200 p 11 = true
  · rw [if_pos c]
    exact f38
  · rw [if_neg c]
    rcases hx with ⟨-, hx⟩ | ⟨-, hx⟩
    · exact absurd hx c
    · rw [if_pos hx]
      exact f38
theorem one_t {F n nq m : Nat} {B : Nat → Nat} {W : Nat → List Nat} {μ0 ν0 : aw_M} (hF : 2000 ≤ F) (nx : NmX nq W μ0) (nm : NmM nq W ν0) (hinj : ∀ q r, q < nq → r < nq → W q = W r → q = r) (h1 : OneOK F B n nq μ0 ν0 m) (h2 : CondOK F B n nq μ0 ν0 m) : OneOK F B n nq μ0 ν0 (m + 1) := by
  intro d E o c p st G μ ν kc Q hm pre hk hf
  obtain ⟨hd9, hec, hht, ho20, hst, hok, sx, ms, hG⟩ := pre
  have px := sx.2.1
  rw [LM_op (by omega) ms]
  show RT ((g_X3_readOne F (g_X3_readCond F (g_X3_readAll F (h_X3_readOne F m))) (h_X3_readOne F m) 71 1 5 (nI d) μ).bind kc) _ Q
  by_cases hp : o < 20 ∧ d ≤ 8 ∧ (isKw B n 200 p 11 = true ∨ isSg B n 200 p 40 = true)
  rotate_left
  · refine RT_call (opr_t hF nx nm hinj (by omega) ho20 (by omega) hp sx ms) ?_
    rintro ⟨r1, μ1⟩ ⟨r2, ν1⟩ h
    rcases h with ⟨rfl, rfl, ho, p1, s, hp1, s12, s19, s13, s14, sx1, ms1⟩ | ⟨rfl, rfl, v, a, v1, v4, va, fx, fm⟩
    · dsimp only
      rw [if_pos rfl]
      have hp1n := sx1.2.1.1
      have hnx : nxh (htE E) s = htE E + 1 := by
        unfold nxh
        rw [if_neg (by omega), if_neg (by omega)]
      refine hk (E ++ [s]) (E ++ [s]) 0 (o + 1) p1 (G - 1) μ1 ν1 ⟨hp1, by omega, by omega, (tell_0 _).symm, okE_s hok ⟨by omega, s19, fun h => by omega, fun h => by omega, by rw [hnx]; omega, s13, s14⟩, by rw [htE_s, hnx], by rw [htE_s, hnx]; omega, by rw [lenE_s]; omega, ?_, sx1, ?_, by omega⟩
      · show st.length + 0 + 0 + 2 ≤ 2 * (o + 1)
        omega
      · show MS B n ν0 (E ++ [s]) (o + 1) d ((st ++ []) ++ []) 1 p1 ν1
        rw [List.append_nil, List.append_nil]
        exact ms1
    · dsimp only
      rw [if_neg Bool.false_ne_true, fm.2.2]
      exact hf μ1 ν1 v a v1 v4 va fx fm
  obtain ⟨ho, hd, hp⟩ := hp
  by_cases hop : isSg B n 200 p 40 = true
  · -- a bracket
    have hK : tK B n 200 p = 3 := (of_decide_eq_true hop).1
    refine RT_r (push_m (x := 13) hF ho hd (by omega) (.inr ⟨rfl, hop⟩) ms) ?_
    rintro ⟨r2, ν1⟩ ⟨hr, ms1⟩
    dsimp only at hr ms1
    subst hr
    dsimp only
    rw [if_pos rfl]
    unfold g_X3_readOne f_X3_readOne_36
    rw [show f_X6_atSign F 1 40 μ = some (isSg B n 200 p 40, μ) from atSign_x px (by decide), Option.bind_some]
    dsimp only
    rw [if_pos hop, sx.2.2.2, if_neg (show ¬ (20 : Int32) ≤ nI o from (show ¬ nI 20 ≤ nI o from nI_ge ho (by decide))), if_pos (show nI d ≤ 8 from (show nI d ≤ nI 8 from nI_le hd (by decide))), plet, plet, nI_1, Option.bind_assoc]
    refine RT_l (SX_step hF (SX_71 (o' := o + 1) sx) (by rw [hK]; decide)) ?_
    rintro μ1 ⟨hp1, sx1⟩
    have hn1 := sx1.2.1.1
    generalize tN B n 200 p = p1 at hp1 sx1 ms1 hn1
    rw [if_pos hop, nI_1, Option.bind_assoc]
    refine h2 (d + 1) E (o + 1) c p1 (st ++ [13]) (G - 1) μ1 ν1 _ Q (by omega) (by rw [topS_s]; decide) ⟨by omega, by omega, by omega, by omega, by rw [lenS]; omega, hok, sx1, ms1, by omega⟩ ?_ ?_
    · intro E2 E1 a k o2 p2 G2 μ2 ν2 ha h10 h9 su
      have hlen := Suc_len su
      obtain ⟨jp, jo, jo20, jE, jok, jht, jhto, jlc, jsl, jsx, jms, jG⟩ := su
      rw [lenS] at jsl
      dsimp only
      rw [if_pos rfl]
      unfold f_X6_passSign
      rw [show f_X6_atSign F 1 41 μ2 = some (isSg B n 200 p2 41, μ2) from atSign_x jsx.2.1 (by decide), Option.bind_some]
      dsimp only
      by_cases hcl : isSg B n 200 p2 41 = true
      · have hK2 : tK B n 200 p2 = 3 := (of_decide_eq_true hcl).1
        rw [if_pos hcl, Option.bind_assoc, Option.bind_assoc]
        refine RT_l (SX_step hF jsx (by rw [hK2]; decide)) ?_
        rintro μ3 ⟨hp3, sx3⟩
        rw [Option.bind_some]
        dsimp only
        rw [if_pos rfl, Option.bind_some]
        refine behind_c hF (by omega) hcl ha (by omega) (by omega) (by omega) jms ?_
        intro ν3 ms3
        have hn3 := sx3.2.1.1
        rw [← jE] at ms3
        refine hk E1 E1 0 o2 _ (G2 - 1) μ3 ν3 ⟨by omega, by omega, jo20, (tell_0 _).symm, jok, jht, jhto, jlc, ?_, sx3, ?_, by omega⟩
        · show st.length + 0 + 0 + 2 ≤ 2 * o2
          omega
        · show MS B n ν0 E1 o2 d ((st ++ []) ++ []) 1 _ ν3
          rw [List.append_nil, List.append_nil]
          exact ms3
      · have hclF : isSg B n 200 p2 41 = false := by
          cases e : isSg B n 200 p2 41 with
          | false => rfl
          | true => exact absurd e hcl
        rw [if_neg hcl, Option.bind_assoc, Option.bind_assoc]
        refine RT_l (failS (v := 1) jsx) ?_
        rintro ⟨r3, μ3⟩ ⟨hr3, fx3⟩
        dsimp only at hr3 fx3
        subst hr3
        rw [Option.bind_some]
        dsimp only
        rw [if_neg Bool.false_ne_true, Option.bind_some]
        refine behind_f hF (by omega) h10 h9 (.inr ⟨topS_s _ _, by simp, hclF⟩) ha (by rw [lenS]; omega) (by omega) (by omega) jms ?_
        intro ν3 fm3
        exact hf μ3 ν3 1 _ (by decide) (by decide) (tS_le jsx.2.1.1) fx3 fm3
    · intro μ' ν' v x h2 h3 h4 h5 h6
      dsimp only
      rw [if_neg Bool.false_ne_true, Option.bind_some]
      exact hf μ' ν' v x h2 h3 h4 h5 h6
  · -- not
    have h11 : isKw B n 200 p 11 = true := hp.resolve_right hop
    have hK : tK B n 200 p = 1 := (of_decide_eq_true h11).1
    have hx : kx (tW B n p) = nI 11 := (kx_is (by decide)).2 ((ix_is (by decide)).1 (of_decide_eq_true h11).2)
    have kx' := kk_is (tK_le B n 200 p)
    refine RT_r (push_m (x := 10) hF ho hd (by omega) (.inl ⟨rfl, h11⟩) ms) ?_
    rintro ⟨r2, ν1⟩ ⟨hr, ms1⟩
    dsimp only at hr ms1
    subst hr
    dsimp only
    rw [if_pos rfl]
    unfold g_X3_readOne f_X3_readOne_36
    rw [show f_X6_atSign F 1 40 μ = some (isSg B n 200 p 40, μ) from atSign_x px (by decide), Option.bind_some]
    dsimp only
    rw [if_neg hop, px.2.2.2.2.2.1, if_pos (kx'.1.2 hK), (px.2.2.2.2.2.2.1 hK).2, hx, if_pos (show (11 : Int32) ≤ nI 11 by decide), sx.2.2.2, if_neg (show ¬ (20 : Int32) ≤ nI o from (show ¬ nI 20 ≤ nI o from nI_ge ho (by decide))), if_pos (show nI d ≤ 8 from (show nI d ≤ nI 8 from nI_le hd (by decide))), plet, rI_a (by decide), (px.2.2.2.2.2.2.1 hK).2, hx, plet, nI_1, Option.bind_assoc]
    refine RT_l (SX_step hF (SX_71 (o' := o + 1) sx) (by rw [hK]; decide)) ?_
    rintro μ1 ⟨hp1, sx1⟩
    have hn1 := sx1.2.1.1
    generalize tN B n 200 p = p1 at hp1 sx1 ms1 hn1
    rw [if_neg hop, if_pos (show nI 11 = 11 from rfl), nI_1, Option.bind_assoc]
    refine h1 (d + 1) E (o + 1) (c + 1) p1 (st ++ [10]) (G - 1) μ1 ν1 _ Q (by omega) ⟨by omega, by omega, by omega, by omega, by rw [lenS]; omega, hok, sx1, ms1, by omega⟩ ?_ ?_
    · intro E2 E1 k o2 p2 G2 μ2 ν2 su
      have hlen := Suc_len su
      obtain ⟨jp, jo, jo20, jE, jok, jht, jhto, jlc, jsl, jsx, jms, jG⟩ := su
      rw [lenS] at jsl
      dsimp only
      rw [if_pos rfl, Option.bind_assoc]
      refine RT_l (add_t (a := 11) (b := 0) (cc := 0) (c := 0) rfl (by omega) jsx) ?_
      rintro ⟨r3, μ3⟩ ⟨hr3, sx3⟩
      dsimp only at hr3 sx3
      subst hr3
      dsimp only
      rw [if_pos rfl, Option.bind_some]
      refine hk E2 (E1 ++ [(11, 0, 0)]) (k + 1) o2 p2 G2 μ3 ν2 ⟨by omega, by omega, jo20, ?_, okE_s jok ⟨(show 9 ≤ 11 by decide), (show (11 : Nat) ≤ 19 by decide), fun _ => by omega, fun h => absurd h (show ¬ (11 : Nat) ≤ 10 by decide), ?_, fun h => absurd h (show ¬ (11 : Nat) = 13 by decide), fun h => absurd h (show ¬ (14 : Nat) ≤ 11 by decide)⟩, ?_, ?_, ?_, ?_, sx3, ?_, jG⟩
      · rw [jE]
        show _ = tell E2 (10 :: ([] ++ List.replicate k 10))
        rw [tell_c]
        rfl
      · show htE E1 ≤ 20
        omega
      · rw [htE_s]
        exact jht
      · rw [htE_s]
        exact jhto
      · rw [lenE_s]
        omega
      · have e0 : ([] : List Nat).length = 0 := rfl
        omega
      · have e1 : (st ++ []) ++ List.replicate (k + 1) 10 = ((st ++ [10]) ++ []) ++ List.replicate k 10 := by
          rw [List.replicate_succ]
          simp
        rw [e1, show d + (k + 1) = d + 1 + k by omega]
        exact jms
    · intro μ' ν' v x h2 h3 h4 h5 h6
      dsimp only
      rw [if_neg Bool.false_ne_true, Option.bind_some]
      exact hf μ' ν' v x h2 h3 h4 h5 h6
theorem one_all {F n nq : Nat} {B : Nat → Nat} {W : Nat → List Nat} {μ0 ν0 : aw_M} (hF : 2000 ≤ F) (nx : NmX nq W μ0) (nm : NmM nq W ν0) (hinj : ∀ q r, q < nq → r < nq → W q = W r → q = r) : ∀ m, OneOK F B n nq μ0 ν0 m
  | 0 => by
    intro d E o c p st G μ ν kc Q hm pre hk hf
    have := pre.1
    omega
  | m + 1 => one_t hF nx nm hinj (one_all hF nx nm hinj m) (cond_t hF (all_t hF (one_all hF nx nm hinj m)))
