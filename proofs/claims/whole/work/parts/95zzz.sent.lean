/-! sentences: the reference's stack -/
theorem MS_w {n p o d w k : Nat} {v : Int32} {B : Nat → Nat} {E : List (Nat × Nat × Nat)} {st : List Nat} {ν0 ν : aw_M} (h : MS B n ν0 E o d st w p ν) (hk : 44 ≤ k ∧ k ≤ 47) : AgK kSM ν0 (aw_wI ν 203 k v) ∧ PMk B n 200 p (aw_wI ν 203 k v) ∧ ME E (aw_wI ν 203 k v) ∧ (∀ i, i < st.length → (aw_wI ν 203 k v).1 225 i = nI (st.getD i 0)) ∧ (aw_wI ν 203 k v).1 203 15 = 0 := by
  obtain ⟨h1, h2, h3, h4, h5, h6, h7, h8, h9⟩ := h
  refine ⟨h1.wI (decide_eq_false (by omega)), PMk_ag (K := fun a j => decide (¬ (a = 203 ∧ j = k))) ((AgK.rf ν).wI (decide_eq_false (by omega))) (fun a k h => decide_eq_true (by omega)) h2, ?_, fun i hi => ?_, ?_⟩
  · unfold ME at h3 ⊢
    rw [rI_k (by omega), rI_a (by decide)]
    exact h3
  · rw [rI_a (by decide)]; exact h6 i hi
  · rw [rI_k (by omega)]; exact h9
theorem MS_45 {n p o d w c : Nat} {B : Nat → Nat} {E : List (Nat × Nat × Nat)} {st : List Nat} {ν0 ν : aw_M} (h : MS B n ν0 E o d (st ++ [c]) w p ν) : MS B n ν0 E o d st w p (aw_wI ν 203 45 (nI st.length)) := by
  obtain ⟨g1, g2, g3, g4, g5⟩ := MS_w (k := 45) (v := nI st.length) h (by decide)
  obtain ⟨h1, h2, h3, h4, h5, h6, h7, h8, h9⟩ := h
  refine ⟨g1, g2, g3, ?_, rI_s, fun i hi => ?_, ?_, ?_, g5⟩
  · rw [rI_k (by decide)]; exact h4
  · rw [g4 i (by rw [lenS]; omega), gS1 hi]
  · rw [rI_k (by decide)]; exact h7
  · rw [rI_k (by decide)]; exact h8
theorem MS_46 {n p o d d' w : Nat} {B : Nat → Nat} {E : List (Nat × Nat × Nat)} {st : List Nat} {ν0 ν : aw_M} (h : MS B n ν0 E o d st w p ν) : MS B n ν0 E o d' st w p (aw_wI ν 203 46 (nI d')) := by
  obtain ⟨g1, g2, g3, g4, g5⟩ := MS_w (k := 46) (v := nI d') h (by decide)
  obtain ⟨h1, h2, h3, h4, h5, h6, h7, h8, h9⟩ := h
  refine ⟨g1, g2, g3, ?_, ?_, g4, rI_s, ?_, g5⟩
  · rw [rI_k (by decide)]; exact h4
  · rw [rI_k (by decide)]; exact h5
  · rw [rI_k (by decide)]; exact h8
theorem MS_47 {n p o d w w' : Nat} {B : Nat → Nat} {E : List (Nat × Nat × Nat)} {st : List Nat} {ν0 ν : aw_M} (h : MS B n ν0 E o d st w p ν) : MS B n ν0 E o d st w' p (aw_wI ν 203 47 (nI w')) := by
  obtain ⟨g1, g2, g3, g4, g5⟩ := MS_w (k := 47) (v := nI w') h (by decide)
  obtain ⟨h1, h2, h3, h4, h5, h6, h7, h8, h9⟩ := h
  refine ⟨g1, g2, g3, ?_, ?_, g4, ?_, rI_s, g5⟩
  · rw [rI_k (by decide)]; exact h4
  · rw [rI_k (by decide)]; exact h5
  · rw [rI_k (by decide)]; exact h7
theorem MS_44 {n p o o' d w : Nat} {B : Nat → Nat} {E : List (Nat × Nat × Nat)} {st : List Nat} {ν0 ν : aw_M} (h : MS B n ν0 E o d st w p ν) : MS B n ν0 E o' d st w p (aw_wI ν 203 44 (nI o')) := by
  obtain ⟨g1, g2, g3, g4, g5⟩ := MS_w (k := 44) (v := nI o') h (by decide)
  obtain ⟨h1, h2, h3, h4, h5, h6, h7, h8, h9⟩ := h
  refine ⟨g1, g2, g3, rI_s, ?_, g4, ?_, ?_, g5⟩
  · rw [rI_k (by decide)]; exact h5
  · rw [rI_k (by decide)]; exact h7
  · rw [rI_k (by decide)]; exact h8
theorem MS_225 {n p o d w c : Nat} {B : Nat → Nat} {E : List (Nat × Nat × Nat)} {st : List Nat} {ν0 ν : aw_M} (h : MS B n ν0 E o d st w p ν) : MS B n ν0 E o d (st ++ [c]) w p (aw_wI (aw_wI ν 225 st.length (nI c)) 203 45 (nI (st.length + 1))) := by
  obtain ⟨h1, h2, h3, h4, h5, h6, h7, h8, h9⟩ := h
  have ag : AgK (fun a k => decide (a ≠ 225 ∧ ¬ (a = 203 ∧ k = 45))) ν (aw_wI (aw_wI ν 225 st.length (nI c)) 203 45 (nI (st.length + 1))) := ((AgK.rf ν).wI (decide_eq_false (by omega))).wI (decide_eq_false (by omega))
  refine ⟨h1.tr (ag.sub fun a k h => decide_eq_true (by have := of_decide_eq_true h; omega)), PMk_ag ag (fun a k h => decide_eq_true (by omega)) h2, ?_, ?_, ?_, fun i hi => ?_, ?_, ?_, ?_⟩
  · unfold ME at h3 ⊢
    rw [rI_k (by decide), rI_a (by decide), rI_a (by decide), rI_a (by decide)]
    exact h3
  · rw [(ag 203 44 (decide_eq_true (by omega))).1]; exact h4
  · rw [rI_s, lenS]
  · rw [lenS] at hi
    rw [rI_a (by decide)]
    by_cases e : i = st.length
    · rw [e, rI_s, gS2]
    · rw [rI_k e, gS1 (by omega)]
      exact h6 i (by omega)
  · rw [(ag 203 46 (decide_eq_true (by omega))).1]; exact h7
  · rw [(ag 203 47 (decide_eq_true (by omega))).1]; exact h8
  · rw [(ag 203 15 (decide_eq_true (by omega))).1]; exact h9
theorem MS_code {F n p o d w a b c : Nat} {B : Nat → Nat} {E : List (Nat × Nat × Nat)} {st : List Nat} {ν0 ν : aw_M} {a' b' c' : Int32} (ea : a' = nI (ycode a)) (eb : b' = nI b) (ec : c' = nI c) (hE : E.length < 44) (h : MS B n ν0 E o d st w p ν) : T (f_X11_code F 203 a' b' c' ν) fun ν' => MS B n ν0 (E ++ [(a, b, c)]) o d st w p ν' := by
  obtain ⟨h1, h2, h3, h4, h5, h6, h7, h8, h9⟩ := h
  refine T_mono (code_m ea eb ec hE h3) ?_
  rintro ν' ⟨ag, me⟩
  refine ⟨h1.tr (ag.sub fun a k h => decide_eq_true (by have := of_decide_eq_true h; omega)), PMk_ag ag (fun a k h => decide_eq_true (by omega)) h2, me, ?_, ?_, fun i hi => ?_, ?_, ?_, ?_⟩
  · rw [(ag 203 44 (decide_eq_true (by omega))).1]; exact h4
  · rw [(ag 203 45 (decide_eq_true (by omega))).1]; exact h5
  · rw [(ag 225 i (decide_eq_true (by omega))).1]; exact h6 i hi
  · rw [(ag 203 46 (decide_eq_true (by omega))).1]; exact h7
  · rw [(ag 203 47 (decide_eq_true (by omega))).1]; exact h8
  · rw [(ag 203 15 (decide_eq_true (by omega))).1]; exact h9
theorem rep_s (k : Nat) : List.replicate (k + 1) 10 = List.replicate k 10 ++ [10] := List.replicate_succ'
theorem sub1 {n : Nat} (h : 1 ≤ n) : nI n - 1 = nI (n - 1) := by
  rw [show (1 : Int32) = nI 1 from rfl, nI_sub h]
theorem nots_m {F n p o d w k : Nat} {B : Nat → Nat} {E : List (Nat × Nat × Nat)} {S : List Nat} {ν0 ν : aw_M} (hF : 1000 ≤ F) (hS : topS S ≠ 10 ∧ topS S ≤ 13) (hl : S.length + k ≤ 45) (hE : E.length + k ≤ 44) (hd : d + k < 1000) (h : MS B n ν0 E o (d + k) (S ++ List.replicate k 10) w p ν) : T (f_X11_nots F 203 ν) fun ν' => MS B n ν0 (tell E (List.replicate k 10)) o d S w p ν' := by
  have r42 : aw_rf 203 42 = 225 := by simp only [rf203, rf203b]
  unfold f_X11_nots
  refine T_lp (fun i ν' => MS B n ν0 (tell E (List.replicate i 10)) o (d + (k - i)) (S ++ List.replicate (k - i) 10) w p ν') k (by omega) ?_ ?_ ?_
  · show MS B n ν0 (tell E []) o (d + (k - 0)) (S ++ List.replicate (k - 0) 10) w p ν
    rw [tell_0, Nat.sub_zero]
    exact h
  · intro i hi ν' g kk hk
    rw [show k - i = (k - (i + 1)) + 1 by omega, rep_s, ← List.append_assoc] at g
    generalize hS' : S ++ List.replicate (k - (i + 1)) 10 = S' at g
    have hl' : S'.length = S.length + (k - (i + 1)) := by rw [← hS', List.length_append, List.length_replicate]
    have e45 := g.2.2.2.2.1
    have etop := g.2.2.2.2.2.1 S'.length (by rw [lenS]; omega)
    rw [gS2] at etop
    rw [lenS] at e45
    have e46 := g.2.2.2.2.2.2.1
    show T (f_X11_nots_0 F 203 kk ν') _
    unfold f_X11_nots_0
    rw [e45, if_neg (show ¬ nI (S'.length + 1) ≤ 0 from (show ¬ nI (S'.length + 1) ≤ nI 0 from nI_ge (by omega) (by omega))), sub1 (by omega), show S'.length + 1 - 1 = S'.length by omega, pI_in_t (by omega) (by decide), pg_t, r42, nI_clamp (by omega), etop, if_pos (show nI 10 = 10 from rfl), plet, rI_k (by decide), e46, sub1 (by omega), plet, show d + (k - (i + 1) + 1) - 1 = d + (k - (i + 1)) by omega]
    refine T_call (MS_code (a := 11) (b := 0) (c := 0) rfl rfl rfl (by rw [tell_len, List.length_replicate]; omega) (MS_46 (d' := d + (k - (i + 1))) (MS_45 g))) ?_
    intro ν2 g2
    refine hk _ ?_
    rw [hS']
    have : tell E (List.replicate (i + 1) 10) = tell E (List.replicate i 10) ++ [(11, 0, 0)] := by
      show tell E (10 :: List.replicate i 10) = _
      rw [tell_c]
      rfl
    rw [this]
    exact g2
  · intro ν' g kk
    rw [Nat.sub_self, Nat.add_zero, show List.replicate 0 10 = ([] : List Nat) from rfl, List.append_nil] at g
    have e45 := g.2.2.2.2.1
    show T (f_X11_nots_0 F 203 kk ν') _
    unfold f_X11_nots_0
    rw [e45]
    by_cases c : S = []
    · rw [c] at g ⊢
      rw [if_pos (show nI ([] : List Nat).length ≤ 0 by decide), T_some]
      exact g
    · have hn : 0 < S.length := List.length_pos_iff.2 c
      rw [if_neg (show ¬ nI S.length ≤ 0 from (show ¬ nI S.length ≤ nI 0 from nI_ge (by omega) (by omega))), sub1 (by omega), pI_in_t (by omega) (by decide), pg_t, r42, nI_clamp (by omega), MS_top g c, if_neg (show ¬ nI (topS S) = 10 from fun h => hS.1 ((nI_eq (b := 10) (by omega) (by decide)).1 h)), T_some]
      exact g
theorem joins_m {F n p o d w till : Nat} {t' : Int32} {B : Nat → Nat} {E : List (Nat × Nat × Nat)} {S P : List Nat} {ν0 ν : aw_M} (hF : 1000 ≤ F) (et : t' = nI till) (ht : till = 11 ∨ till = 12) (hP : ∀ x, x ∈ P → x = 11 ∨ (x = 12 ∧ till = 12)) (hS : topS S ≤ 13 ∧ topS S ≠ 11 ∧ (till = 12 → topS S ≠ 12)) (hl : S.length + P.length ≤ 45) (hE : E.length + P.length ≤ 44) (h : MS B n ν0 E o d (S ++ P) w p ν) : T (f_X11_joins F 203 t' ν) fun ν' => MS B n ν0 (tell E P) o d S w p ν' := by
  subst et
  have r42 : aw_rf 203 42 = 225 := by simp only [rf203, rf203b]
  unfold f_X11_joins
  refine T_lp (fun i s => ∃ P1 P2 ν', s = (nI till, ν') ∧ P = P1 ++ P2 ∧ P2.length = i ∧ MS B n ν0 (tell E P2) o d (S ++ P1) w p ν') P.length (by omega) ⟨P, [], ν, rfl, (List.append_nil P).symm, rfl, by rw [tell_0]; exact h⟩ ?_ ?_
  · rintro i hi _ ⟨P1, P2, ν', rfl, hPP, hi2, g⟩ kk hk
    have hlen : P.length = P1.length + P2.length := by rw [hPP, List.length_append]
    obtain ⟨P1', x, rfl⟩ : ∃ s c, P1 = s ++ [c] := by
      have h0 : P1 ≠ [] := fun e => by rw [e] at hlen; have : ([] : List Nat).length = 0 := rfl; omega
      exact ⟨P1.dropLast, P1.getLast h0, (List.dropLast_concat_getLast h0).symm⟩
    have hx := hP x (by rw [hPP]; exact List.mem_append_left _ (List.mem_append_right _ List.mem_cons_self))
    rw [← List.append_assoc] at g
    rw [lenS] at hlen
    generalize hS' : S ++ P1' = S' at g
    have hl' : S'.length = S.length + P1'.length := by rw [← hS', List.length_append]
    have e45 := g.2.2.2.2.1
    have etop := g.2.2.2.2.2.1 S'.length (by rw [lenS]; omega)
    rw [gS2] at etop
    rw [lenS] at e45
    have f45 : T (f_X11_joins_45 F 203 kk (nI till) ν') fun ν' => MS B n ν0 (tell E P) o d S w p ν' := by
      unfold f_X11_joins_45
      rw [plet, e45, sub1 (by omega), show S'.length + 1 - 1 = S'.length by omega, rI_s, pI_in_t (by omega) (by decide), pg_t, r42, nI_clamp (by omega), rI_a (by decide), etop]
      refine T_call (MS_code (a := 21 - x) (b := 0) (c := 0) (by rw [yc_is x (by omega) (by omega)]) rfl rfl (by rw [tell_len]; omega) (MS_45 g)) ?_
      intro ν2 g2
      refine hk _ ⟨P1', x :: P2, ν2, rfl, by rw [hPP]; simp, by rw [List.length_cons, hi2], ?_⟩
      rw [hS', tell_c]
      exact g2
    show T (f_X11_joins_0 F 203 kk (nI till) ν') _
    unfold f_X11_joins_0
    rw [e45, if_neg (show ¬ nI (S'.length + 1) ≤ 0 from (show ¬ nI (S'.length + 1) ≤ nI 0 from nI_ge (by omega) (by omega))), sub1 (by omega), show S'.length + 1 - 1 = S'.length by omega, pI_in_t (by omega) (by decide), pg_t, r42, nI_clamp (by omega), etop]
    rcases hx with rfl | ⟨rfl, rfl⟩
    · rw [if_pos (show nI 11 = 11 from rfl)]
      exact f45
    · rw [if_neg (show ¬ nI 12 = 11 by decide), pg_t, if_pos (show nI 12 = 12 from rfl), if_pos (show nI 12 = 12 from rfl)]
      exact f45
  · rintro _ ⟨P1, P2, ν', rfl, hPP, hi2, g⟩ kk
    have hlen : P.length = P1.length + P2.length := by rw [hPP, List.length_append]
    have h1 : P1 = [] := List.eq_nil_of_length_eq_zero (by omega)
    subst h1
    have h2 : P2 = P := hPP.symm
    subst h2
    rw [List.append_nil] at g
    have e45 := g.2.2.2.2.1
    show T (f_X11_joins_0 F 203 kk (nI till) ν') _
    unfold f_X11_joins_0
    rw [e45]
    by_cases c : S = []
    · rw [c] at g ⊢
      rw [if_pos (show nI ([] : List Nat).length ≤ 0 by decide), T_some]
      exact g
    · have hn : 0 < S.length := List.length_pos_iff.2 c
      rw [if_neg (show ¬ nI S.length ≤ 0 from (show ¬ nI S.length ≤ nI 0 from nI_ge (by omega) (by omega))), sub1 (by omega), pI_in_t (by omega) (by decide), pg_t, r42, nI_clamp (by omega), MS_top g c, if_neg (show ¬ nI (topS S) = 11 from fun h => hS.2.1 ((nI_eq (b := 11) (by omega) (by decide)).1 h)), pg_t]
      by_cases c2 : topS S = 12
      · have ht2 : till ≠ 12 := fun e => hS.2.2 e c2
        rw [if_pos (show nI (topS S) = 12 by rw [c2]; rfl), if_neg (show ¬ nI till = 12 from fun h => ht2 ((nI_eq (b := 12) (by omega) (by decide)).1 h)), T_some]
        exact g
      · rw [if_neg (show ¬ nI (topS S) = 12 from fun h => c2 ((nI_eq (b := 12) (by omega) (by decide)).1 h)), T_some]
        exact g
