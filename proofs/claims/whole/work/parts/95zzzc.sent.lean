/-! sentences: the descent of the class against the stack of the reference -/
def Fls (n : Nat) (μ0 ν0 : aw_M) (kc : Bool × aw_M → Option (Bool × aw_M)) (Q : Bool × aw_M → Int32 × aw_M → Prop) : Prop := ∀ μ' ν' v a, 1 ≤ v → v ≤ 4 → a ≤ n → FLX μ0 v a μ' → FLM ν0 v a ν' → RT (kc (false, μ')) (some (-1 - nI a, ν')) Q
/-- what stands before a piece -/
def Pre (B : Nat → Nat) (n nq : Nat) (μ0 ν0 : aw_M) (d : Nat) (E : List (Nat × Nat × Nat)) (o c p : Nat) (st : List Nat) (G : Nat) (μ ν : aw_M) : Prop := d ≤ 9 ∧ E.length + c ≤ 2 * o ∧ htE E ≤ o ∧ o ≤ 20 ∧ st.length ≤ 2 * o ∧ okE nq E ∧ SX B n μ0 E o p μ ∧ MS B n ν0 E o d st 0 p ν ∧ n - p + 2 ≤ G
/-- what stands behind it: a is still to be told by the reference, and k nots -/
def Suc (B : Nat → Nat) (n nq : Nat) (μ0 ν0 : aw_M) (d : Nat) (E : List (Nat × Nat × Nat)) (o c p : Nat) (st : List Nat) (E2 E1 : List (Nat × Nat × Nat)) (a : List Nat) (k o1 p1 G1 : Nat) (μ1 ν1 : aw_M) : Prop := p < p1 ∧ o < o1 ∧ o1 ≤ 20 ∧ E1 = tell E2 (a ++ List.replicate k 10) ∧ okE nq E1 ∧ htE E1 = htE E + 1 ∧ htE E1 ≤ o1 ∧ E1.length + 1 + c ≤ 2 * o1 ∧ st.length + a.length + k + 2 ≤ 2 * o1 ∧ SX B n μ0 E1 o1 p1 μ1 ∧ MS B n ν0 E2 o1 (d + k) ((st ++ a) ++ List.replicate k 10) 1 p1 ν1 ∧ n - p1 + 2 ≤ G1
def OneOK (F : Nat) (B : Nat → Nat) (n nq : Nat) (μ0 ν0 : aw_M) (m : Nat) : Prop := ∀ (d : Nat) (E : List (Nat × Nat × Nat)) (o c p : Nat) (st : List Nat) (G : Nat) (μ ν : aw_M) (kc : Bool × aw_M → Option (Bool × aw_M)) (Q : Bool × aw_M → Int32 × aw_M → Prop), 10 ≤ m + d → Pre B n nq μ0 ν0 d E o c p st G μ ν → (∀ E2 E1 k o1 p1 G1 μ1 ν1, Suc B n nq μ0 ν0 d E o c p st E2 E1 [] k o1 p1 G1 μ1 ν1 → RT (kc (true, μ1)) (LM F G1 ν1) Q) → Fls n μ0 ν0 kc Q → RT ((h_X3_readOne F m 71 1 5 (nI d) μ).bind kc) (LM F G ν) Q
def AllOK (F : Nat) (B : Nat → Nat) (n nq : Nat) (μ0 ν0 : aw_M) (m : Nat) : Prop := ∀ (d : Nat) (E : List (Nat × Nat × Nat)) (o c p : Nat) (st : List Nat) (G : Nat) (μ ν : aw_M) (kc : Bool × aw_M → Option (Bool × aw_M)) (Q : Bool × aw_M → Int32 × aw_M → Prop), 10 ≤ m + d → (topS st ≤ 13 ∧ topS st ≠ 11 ∧ topS st ≠ 10) → Pre B n nq μ0 ν0 d E o c p st G μ ν → (∀ E2 E1 a k o1 p1 G1 μ1 ν1, (∀ x, x ∈ a → x = 11) → isKw B n 200 p1 10 = false → Suc B n nq μ0 ν0 d E o c p st E2 E1 a k o1 p1 G1 μ1 ν1 → RT (kc (true, μ1)) (LM F G1 ν1) Q) → Fls n μ0 ν0 kc Q → RT ((g_X3_readAll F (h_X3_readOne F m) 71 1 5 (nI d) μ).bind kc) (LM F G ν) Q
def CondOK (F : Nat) (B : Nat → Nat) (n nq : Nat) (μ0 ν0 : aw_M) (m : Nat) : Prop := ∀ (d : Nat) (E : List (Nat × Nat × Nat)) (o c p : Nat) (st : List Nat) (G : Nat) (μ ν : aw_M) (kc : Bool × aw_M → Option (Bool × aw_M)) (Q : Bool × aw_M → Int32 × aw_M → Prop), 10 ≤ m + d → (topS st ≤ 13 ∧ topS st ≠ 11 ∧ topS st ≠ 10 ∧ topS st ≠ 12) → Pre B n nq μ0 ν0 d E o c p st G μ ν → (∀ E2 E1 a k o1 p1 G1 μ1 ν1, (∀ x, x ∈ a → x = 11 ∨ x = 12) → isKw B n 200 p1 10 = false → isKw B n 200 p1 9 = false → Suc B n nq μ0 ν0 d E o c p st E2 E1 a k o1 p1 G1 μ1 ν1 → RT (kc (true, μ1)) (LM F G1 ν1) Q) → Fls n μ0 ν0 kc Q → RT ((g_X3_readCond F (g_X3_readAll F (h_X3_readOne F m)) 71 1 5 (nI d) μ).bind kc) (LM F G ν) Q
theorem rep_len (k : Nat) : (List.replicate k 10).length = k := List.length_replicate
theorem Suc_len {B : Nat → Nat} {n nq d o c p k o1 p1 G1 : Nat} {μ0 ν0 μ1 ν1 : aw_M} {E E2 E1 : List (Nat × Nat × Nat)} {st a : List Nat} (h : Suc B n nq μ0 ν0 d E o c p st E2 E1 a k o1 p1 G1 μ1 ν1) : E1.length = E2.length + a.length + k := by
  rw [h.2.2.2.1, tell_len, List.length_append, rep_len]
  omega
/-- one more step told at the end -/
theorem add_t {F n p o a b cc c : Nat} {B : Nat → Nat} {E : List (Nat × Nat × Nat)} {μ0 μ : aw_M} {a' : Int32} (ea : a' = nI a) (hE : E.length < 40) (h : SX B n μ0 E o p μ) : T (f_X3_addStep F 71 a' 0 0 μ) fun r => r.1 = true ∧ SX B n μ0 (E ++ [(a, 0, 0)]) o p r.2 := SX_add (b := 0) (c := 0) ea rfl rfl hE h
theorem all_t {F n nq m : Nat} {B : Nat → Nat} {μ0 ν0 : aw_M} (hF : 2000 ≤ F) (h1 : OneOK F B n nq μ0 ν0 m) : AllOK F B n nq μ0 ν0 m := by
  intro d E o c p st G μ ν kc Q hm hst pre hk hf
  have hd9 := pre.1
  have loop : ∀ (j i F' : Nat), i + j = 20 → j < F' → ∀ (E2 E1 : List (Nat × Nat × Nat)) (a : List Nat) (k o1 p1 G1 : Nat) (μ1 ν1 : aw_M), i + 1 ≤ o1 → (∀ x, x ∈ a → x = 11) → Suc B n nq μ0 ν0 d E o c p st E2 E1 a k o1 p1 G1 μ1 ν1 → RT ((aw_loop (fun k s => f_X3_readAll_15 F (h_X3_readOne F m) 71 1 5 k s.1 s.2.1 s.2.2) F' (nI d, nI i, μ1)).bind kc) (LM F G1 ν1) Q := by
    intro j
    induction j with
    | zero =>
      intro i F' hi hF' E2 E1 a k o1 p1 G1 μ1 ν1 hio ha su
      have := su.2.2.1
      omega
    | succ j ih =>
      intro i F' hi hF' E2 E1 a k o1 p1 G1 μ1 ν1 hio ha su
      have hlen := Suc_len su
      obtain ⟨hp, ho, ho20, hE1, hok, hht, hhto, hlc, hsl, sx, ms, hG⟩ := id su
      rw [lp_F (by omega)]
      show RT ((f_X3_readAll_15 F (h_X3_readOne F m) 71 1 5 (aw_loop (fun k s => f_X3_readAll_15 F (h_X3_readOne F m) 71 1 5 k s.1 s.2.1 s.2.2) (F' - 1)) (nI d) (nI i) μ1).bind kc) (LM F G1 ν1) Q
      unfold f_X3_readAll_15
      rw [if_neg (show ¬ (20 : Int32) ≤ nI i from (show ¬ nI 20 ≤ nI i from nI_ge (by omega) (by decide))), show f_X6_atKey F 1 10 μ1 = some (isKw B n 200 p1 10, μ1) from atKey_x (i := 10) sx.2.1 (by decide), Option.bind_some]
      dsimp only
      cases hkw : isKw B n 200 p1 10 with
      | false =>
        rw [if_neg Bool.false_ne_true, Option.bind_some]
        exact hk E2 E1 a k o1 p1 G1 μ1 ν1 ha hkw su
      | true =>
        have hK : tK B n 200 p1 = 1 := (of_decide_eq_true hkw).1
        rw [if_pos rfl, Option.bind_assoc]
        refine RT_l (SX_step hF sx (by rw [hK]; decide)) ?_
        rintro μ2 ⟨hp2, sx2⟩
        have hn2 := sx2.2.1.1
        refine behind_j (c := 11) hF (by omega) (.inl rfl) hkw (fun x hx => .inl (ha x hx)) ⟨hst.1, hst.2.1, hst.2.2, fun h => by cases h⟩ (by omega) (by omega) (by omega) ms ?_
        intro ν2 ms2
        rw [← hE1] at ms2
        rw [Option.bind_assoc]
        refine h1 d E1 o1 (c + 1) _ (st ++ [11]) (G1 - 1) μ2 ν2 _ Q hm ⟨hd9, by omega, hhto, ho20, by rw [lenS]; omega, hok, sx2, ms2, by omega⟩ ?_ ?_
        · rintro E4 E3 k3 o3 p3 G3 μ3 ν3 su3
          have hlen3 := Suc_len su3
          obtain ⟨jp, jo, jo20, jE, jok, jht, jhto, jlc, jsl, jsx, jms, jG⟩ := su3
          dsimp only
          rw [if_pos rfl, Option.bind_assoc]
          rw [lenS] at jsl
          refine RT_l (add_t (a := 10) (b := 0) (cc := 0) (c := 0) rfl (by omega) jsx) ?_
          rintro ⟨r, μ4⟩ ⟨-, sx4⟩
          dsimp only at sx4 ⊢
          rw [nI_1]
          refine ih (i + 1) (F' - 1) (by omega) (by omega) E4 (E3 ++ [(10, 0, 0)]) [11] k3 o3 p3 G3 μ4 ν3 (by omega) (fun x hx => List.mem_singleton.1 hx) ⟨by omega, by omega, jo20, ?_, okE_s jok ⟨by decide, (show (10 : Nat) ≤ 19 by decide), fun h => absurd h (show ¬ (10 : Nat) = 11 by decide), fun _ => by omega, ?_, fun h => absurd h (show ¬ (10 : Nat) = 13 by decide), fun h => absurd h (show ¬ (14 : Nat) ≤ 10 by decide)⟩, ?_, ?_, ?_, ?_, sx4, ?_, jG⟩
          · rw [jE]
            show _ = tell E4 (11 :: ([] ++ List.replicate k3 10))
            rw [tell_c]
            rfl
          · show htE E3 - 1 ≤ 20
            omega
          · rw [htE_s]
            show htE E3 - 1 = _
            omega
          · rw [htE_s]
            show htE E3 - 1 ≤ _
            omega
          · rw [lenE_s]
            omega
          · show st.length + 1 + k3 + 2 ≤ 2 * o3
            have : ([] : List Nat).length = 0 := rfl
            omega
          · rw [List.append_nil] at jms
            exact jms
        · intro μ' ν' v x h2 h3 h4 h5 h6
          dsimp only
          rw [if_neg Bool.false_ne_true, Option.bind_some]
          exact hf μ' ν' v x h2 h3 h4 h5 h6
  unfold g_X3_readAll
  rw [Option.bind_assoc]
  refine h1 d E o c p st G μ ν _ Q hm pre ?_ ?_
  · intro E2 E1 k o1 p1 G1 μ1 ν1 su
    dsimp only
    rw [if_pos rfl]
    have := su.2.1
    exact loop 20 0 F rfl (by omega) E2 E1 [] k o1 p1 G1 μ1 ν1 (by omega) (fun x hx => absurd hx List.not_mem_nil) su
  · intro μ' ν' v x h2 h3 h4 h5 h6
    dsimp only
    rw [if_neg Bool.false_ne_true, Option.bind_some]
    exact hf μ' ν' v x h2 h3 h4 h5 h6
theorem cond_t {F n nq m : Nat} {B : Nat → Nat} {μ0 ν0 : aw_M} (hF : 2000 ≤ F) (h1 : AllOK F B n nq μ0 ν0 m) : CondOK F B n nq μ0 ν0 m := by
  intro d E o c p st G μ ν kc Q hm hst pre hk hf
  have hd9 := pre.1
  have loop : ∀ (j i F' : Nat), i + j = 20 → j < F' → ∀ (E2 E1 : List (Nat × Nat × Nat)) (a : List Nat) (k o1 p1 G1 : Nat) (μ1 ν1 : aw_M), i + 1 ≤ o1 → (∀ x, x ∈ a → x = 11 ∨ x = 12) → isKw B n 200 p1 10 = false → Suc B n nq μ0 ν0 d E o c p st E2 E1 a k o1 p1 G1 μ1 ν1 → RT ((aw_loop (fun k s => f_X3_readCond_15 F (g_X3_readAll F (h_X3_readOne F m)) 71 1 5 k s.1 s.2.1 s.2.2) F' (nI d, nI i, μ1)).bind kc) (LM F G1 ν1) Q := by
    intro j
    induction j with
    | zero =>
      intro i F' hi hF' E2 E1 a k o1 p1 G1 μ1 ν1 hio ha h10 su
      have := su.2.2.1
      omega
    | succ j ih =>
      intro i F' hi hF' E2 E1 a k o1 p1 G1 μ1 ν1 hio ha h10 su
      have hlen := Suc_len su
      obtain ⟨hp, ho, ho20, hE1, hok, hht, hhto, hlc, hsl, sx, ms, hG⟩ := id su
      rw [lp_F (by omega)]
      show RT ((f_X3_readCond_15 F (g_X3_readAll F (h_X3_readOne F m)) 71 1 5 (aw_loop (fun k s => f_X3_readCond_15 F (g_X3_readAll F (h_X3_readOne F m)) 71 1 5 k s.1 s.2.1 s.2.2) (F' - 1)) (nI d) (nI i) μ1).bind kc) (LM F G1 ν1) Q
      unfold f_X3_readCond_15
      rw [if_neg (show ¬ (20 : Int32) ≤ nI i from (show ¬ nI 20 ≤ nI i from nI_ge (by omega) (by decide))), show f_X6_atKey F 1 9 μ1 = some (isKw B n 200 p1 9, μ1) from atKey_x (i := 9) sx.2.1 (by decide), Option.bind_some]
      dsimp only
      cases hkw : isKw B n 200 p1 9 with
      | false =>
        rw [if_neg Bool.false_ne_true, Option.bind_some]
        exact hk E2 E1 a k o1 p1 G1 μ1 ν1 ha h10 hkw su
      | true =>
        have hK : tK B n 200 p1 = 1 := (of_decide_eq_true hkw).1
        rw [if_pos rfl, Option.bind_assoc]
        refine RT_l (SX_step hF sx (by rw [hK]; decide)) ?_
        rintro μ2 ⟨hp2, sx2⟩
        have hn2 := sx2.2.1.1
        refine behind_j (c := 12) hF (by omega) (.inr rfl) hkw (fun x hx => (ha x hx).imp id fun h => ⟨h, rfl⟩) ⟨hst.1, hst.2.1, hst.2.2.1, fun _ => hst.2.2.2⟩ (by omega) (by omega) (by omega) ms ?_
        intro ν2 ms2
        rw [← hE1] at ms2
        rw [Option.bind_assoc]
        refine h1 d E1 o1 (c + 1) _ (st ++ [12]) (G1 - 1) μ2 ν2 _ Q hm (by rw [topS_s]; decide) ⟨hd9, by omega, hhto, ho20, by rw [lenS]; omega, hok, sx2, ms2, by omega⟩ ?_ ?_
        · rintro E4 E3 a3 k3 o3 p3 G3 μ3 ν3 ha3 h103 su3
          have hlen3 := Suc_len su3
          obtain ⟨jp, jo, jo20, jE, jok, jht, jhto, jlc, jsl, jsx, jms, jG⟩ := su3
          dsimp only
          rw [if_pos rfl, Option.bind_assoc]
          rw [lenS] at jsl
          refine RT_l (add_t (a := 9) (b := 0) (cc := 0) (c := 0) rfl (by omega) jsx) ?_
          rintro ⟨r, μ4⟩ ⟨-, sx4⟩
          dsimp only at sx4 ⊢
          rw [nI_1]
          refine ih (i + 1) (F' - 1) (by omega) (by omega) E4 (E3 ++ [(9, 0, 0)]) (12 :: a3) k3 o3 p3 G3 μ4 ν3 (by omega) (fun x hx => (List.mem_cons.1 hx).elim .inr fun h => .inl (ha3 x h)) h103 ⟨by omega, by omega, jo20, ?_, okE_s jok ⟨by decide, (show (9 : Nat) ≤ 19 by decide), fun h => absurd h (show ¬ (9 : Nat) = 11 by decide), fun _ => by omega, ?_, fun h => absurd h (show ¬ (9 : Nat) = 13 by decide), fun h => absurd h (show ¬ (14 : Nat) ≤ 9 by decide)⟩, ?_, ?_, ?_, ?_, sx4, ?_, jG⟩
          · rw [jE]
            show _ = tell E4 (12 :: (a3 ++ List.replicate k3 10))
            rw [tell_c]
            rfl
          · show htE E3 - 1 ≤ 20
            omega
          · rw [htE_s]
            show htE E3 - 1 = _
            omega
          · rw [htE_s]
            show htE E3 - 1 ≤ _
            omega
          · rw [lenE_s]
            omega
          · rw [List.length_cons]
            omega
          · have : st ++ (12 :: a3) = (st ++ [12]) ++ a3 := by simp
            rw [this]
            exact jms
        · intro μ' ν' v x h2 h3 h4 h5 h6
          dsimp only
          rw [if_neg Bool.false_ne_true, Option.bind_some]
          exact hf μ' ν' v x h2 h3 h4 h5 h6
  unfold g_X3_readCond
  rw [Option.bind_assoc]
  refine h1 d E o c p st G μ ν _ Q hm ⟨hst.1, hst.2.1, hst.2.2.1⟩ pre ?_ ?_
  · intro E2 E1 a k o1 p1 G1 μ1 ν1 ha h10 su
    dsimp only
    rw [if_pos rfl]
    have := su.2.1
    exact loop 20 0 F rfl (by omega) E2 E1 a k o1 p1 G1 μ1 ν1 (by omega) (fun x hx => .inl (ha x hx)) h10 su
  · intro μ' ν' v x h2 h3 h4 h5 h6
    dsimp only
    rw [if_neg Bool.false_ne_true, Option.bind_some]
    exact hf μ' ν' v x h2 h3 h4 h5 h6
