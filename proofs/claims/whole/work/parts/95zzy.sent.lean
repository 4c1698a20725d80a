/-! sentences: steps -/
def nxh (h : Nat) (s : Nat × Nat × Nat) : Nat := if s.1 = 11 then h else if s.1 ≤ 10 then h - 1 else h + 1
def htE (E : List (Nat × Nat × Nat)) : Nat := E.foldl nxh 0
def condE (nq h : Nat) (s : Nat × Nat × Nat) : Prop := 9 ≤ s.1 ∧ s.1 ≤ 19 ∧ (s.1 = 11 → 1 ≤ h) ∧ (s.1 ≤ 10 → 2 ≤ h) ∧ nxh h s ≤ 20 ∧ (s.1 = 13 → s.2.2 < nq) ∧ (14 ≤ s.1 → 60 ≤ s.2.1 ∧ s.2.1 ≤ 62 ∧ s.2.2 ≤ 999)
def okE (nq : Nat) (E : List (Nat × Nat × Nat)) : Prop := ∀ i, i < E.length → condE nq (htE (E.take i)) (E.getD i (0, 0, 0))
theorem gE1 {E : List (Nat × Nat × Nat)} {s : Nat × Nat × Nat} {i : Nat} (h : i < E.length) : (E ++ [s]).getD i (0, 0, 0) = E.getD i (0, 0, 0) := by
  rw [List.getD_eq_getElem?_getD, List.getElem?_append_left h, ← List.getD_eq_getElem?_getD]
theorem gE2 {E : List (Nat × Nat × Nat)} {s : Nat × Nat × Nat} : (E ++ [s]).getD E.length (0, 0, 0) = s := by
  rw [List.getD_eq_getElem?_getD, List.getElem?_append_right (Nat.le_refl _), Nat.sub_self]
  rfl
theorem htE_s (E : List (Nat × Nat × Nat)) (s : Nat × Nat × Nat) : htE (E ++ [s]) = nxh (htE E) s := by
  unfold htE
  rw [List.foldl_append]
  rfl
theorem lenE_s (E : List (Nat × Nat × Nat)) (s : Nat × Nat × Nat) : (E ++ [s]).length = E.length + 1 := by
  rw [List.length_append]
  rfl
theorem okE_s {nq : Nat} {E : List (Nat × Nat × Nat)} {s : Nat × Nat × Nat} (h : okE nq E) (hs : condE nq (htE E) s) : okE nq (E ++ [s]) := fun i hi => by
  rw [lenE_s] at hi
  by_cases e : i = E.length
  · rw [e, gE2, List.take_append_of_le_length (Nat.le_refl _), List.take_length]
    exact hs
  · rw [gE1 (by omega), List.take_append_of_le_length (by omega)]
    exact h i (by omega)
def XE (E : List (Nat × Nat × Nat)) (μ : aw_M) : Prop := μ.1 71 1 = nI E.length ∧ ∀ i, i < E.length → μ.1 72 i = nI (E.getD i (0, 0, 0)).1 ∧ μ.1 73 i = nI (E.getD i (0, 0, 0)).2.1 ∧ μ.1 74 i = nI (E.getD i (0, 0, 0)).2.2
def ME (E : List (Nat × Nat × Nat)) (μ : aw_M) : Prop := μ.1 203 43 = nI E.length ∧ ∀ i, i < E.length → μ.1 207 (3 * i) = nI (ycode (E.getD i (0, 0, 0)).1) ∧ μ.1 207 (3 * i + 1) = nI (E.getD i (0, 0, 0)).2.1 ∧ μ.1 207 (3 * i + 2) = nI (E.getD i (0, 0, 0)).2.2
def kAS (a k : Nat) : Bool := decide (¬ (a = 71 ∧ k = 1) ∧ ¬ (72 ≤ a ∧ a ≤ 74))
theorem addStep_x {F a b c : Nat} {E : List (Nat × Nat × Nat)} {μ : aw_M} {a' b' c' : Int32} (ea : a' = nI a) (eb : b' = nI b) (ec : c' = nI c) (hE : E.length < 40) (xe : XE E μ) : T (f_X3_addStep F 71 a' b' c' μ) fun r => r.1 = true ∧ AgK kAS μ r.2 ∧ XE (E ++ [(a, b, c)]) r.2 := by
  subst ea eb ec
  have r : aw_rf 71 2 = 72 ∧ aw_rf 71 3 = 73 ∧ aw_rf 71 4 = 74 := by simp only [rf0, rf1, rf4, rf5, rf19, rf23, rf28, rf39, rf53, rf67, rf71, rf76, rf88, rf97, rf101, rf109, rf110, rf124, rf128, rf133, rf144, rf156, rf157, rf171, rf175, rf180, rf191, rf51, and_self]
  unfold f_X3_addStep
  rw [xe.1, if_neg (show ¬ (40 : Int32) ≤ nI E.length from (show ¬ nI 40 ≤ nI E.length from nI_ge hE (by decide))), pI_in_t (by omega) (by decide), pg_t, plet, r.1, nI_clamp (by omega), rI_a (by decide), xe.1, pI_in_t (by omega) (by decide), pg_t, plet, r.2.1, nI_clamp (by omega), rI_a (by decide), rI_a (by decide), xe.1, pI_in_t (by omega) (by decide), pg_t, plet, r.2.2, nI_clamp (by omega), plet, T_some, rI_a (by decide), rI_a (by decide), rI_a (by decide), xe.1, nI_1]
  refine ⟨rfl, ((((AgK.rf μ).wI (decide_eq_false (by omega))).wI (decide_eq_false (by omega))).wI (decide_eq_false (by omega))).wI (decide_eq_false (by omega)), ?_, fun i hi => ?_⟩
  · rw [lenE_s, rI_s]
  · rw [lenE_s] at hi
    dsimp only
    by_cases e : i = E.length
    · rw [e, gE2]
      refine ⟨?_, ?_, ?_⟩
      · rw [rI_a (by decide), rI_a (by decide), rI_a (by decide), rI_s]
      · rw [rI_a (by decide), rI_a (by decide), rI_s]
      · rw [rI_a (by decide), rI_s]
    · rw [gE1 (by omega)]
      obtain ⟨j1, j2, j3⟩ := xe.2 i (by omega)
      refine ⟨?_, ?_, ?_⟩
      · rw [rI_a (by decide), rI_a (by decide), rI_a (by decide), rI_k e]; exact j1
      · rw [rI_a (by decide), rI_a (by decide), rI_k e, rI_a (by decide)]; exact j2
      · rw [rI_a (by decide), rI_k e, rI_a (by decide), rI_a (by decide)]; exact j3
theorem mul3 {n : Nat} (h : n < 1000) : 3 * nI n = nI (3 * n) := pk_mul 3 n
def kCd (a k : Nat) : Bool := decide (¬ (a = 203 ∧ k = 43) ∧ a ≠ 207)
theorem code_m {F a b c : Nat} {E : List (Nat × Nat × Nat)} {μ : aw_M} {a' b' c' : Int32} (ea : a' = nI (ycode a)) (eb : b' = nI b) (ec : c' = nI c) (hE : E.length < 44) (me : ME E μ) : T (f_X11_code F 203 a' b' c' μ) fun μ' => AgK kCd μ μ' ∧ ME (E ++ [(a, b, c)]) μ' := by
  subst ea eb ec
  have r8 : aw_rf 203 8 = 207 := by simp only [rf203, rf203b]
  unfold f_X11_code
  rw [me.1, mul3 (by omega), pI_in_t (by omega) (by decide), pg_t, plet, r8, nI_clamp (by omega), rI_a (by decide), me.1, mul3 (by omega), nI_1, pI_in_t (by omega) (by decide), pg_t, plet, nI_clamp (by omega), rI_a (by decide), rI_a (by decide), me.1, mul3 (by omega), show nI (3 * E.length) + 2 = nI (3 * E.length + 2) from nI_add _ 2, pI_in_t (by omega) (by decide), pg_t, plet, nI_clamp (by omega), plet, T_some, rI_a (by decide), rI_a (by decide), rI_a (by decide), me.1, nI_1]
  refine ⟨((((AgK.rf μ).wI (decide_eq_false (by omega))).wI (decide_eq_false (by omega))).wI (decide_eq_false (by omega))).wI (decide_eq_false (by omega)), ?_, fun i hi => ?_⟩
  · rw [lenE_s, rI_s]
  · rw [lenE_s] at hi
    by_cases e : i = E.length
    · rw [e, gE2]
      refine ⟨?_, ?_, ?_⟩
      · rw [rI_a (by decide), rI_k (by omega), rI_k (by omega), rI_s]
      · rw [rI_a (by decide), rI_k (by omega), rI_s]
      · rw [rI_a (by decide), rI_s]
    · rw [gE1 (by omega)]
      obtain ⟨j1, j2, j3⟩ := me.2 i (by omega)
      refine ⟨?_, ?_, ?_⟩
      · rw [rI_a (by decide), rI_k (by omega), rI_k (by omega), rI_k (by omega)]; exact j1
      · rw [rI_a (by decide), rI_k (by omega), rI_k (by omega), rI_k (by omega)]; exact j2
      · rw [rI_a (by decide), rI_k (by omega), rI_k (by omega), rI_k (by omega)]; exact j3
/-- the states of both sides while a sentence is read -/
def kSX (a k : Nat) : Bool := decide (¬ (a = 1 ∧ 4 ≤ k ∧ k ≤ 12) ∧ ¬ (71 ≤ a ∧ a ≤ 74))
def kSM (a k : Nat) : Bool := decide (¬ (a = 203 ∧ (k = 4 ∨ (11 ≤ k ∧ k ≤ 18) ∨ (43 ≤ k ∧ k ≤ 47))) ∧ a ≠ 207 ∧ a ≠ 225)
def SX (B : Nat → Nat) (n : Nat) (μ0 : aw_M) (E : List (Nat × Nat × Nat)) (o p : Nat) (μ : aw_M) : Prop := AgK kSX μ0 μ ∧ PXk B n 200 p μ ∧ XE E μ ∧ μ.1 71 0 = nI o
def MS (B : Nat → Nat) (n : Nat) (ν0 : aw_M) (E : List (Nat × Nat × Nat)) (o d : Nat) (st : List Nat) (w p : Nat) (ν : aw_M) : Prop := AgK kSM ν0 ν ∧ PMk B n 200 p ν ∧ ME E ν ∧ ν.1 203 44 = nI o ∧ ν.1 203 45 = nI st.length ∧ (∀ i, i < st.length → ν.1 225 i = nI (st.getD i 0)) ∧ ν.1 203 46 = nI d ∧ ν.1 203 47 = nI w ∧ ν.1 203 15 = 0
theorem SX_step {F n p o : Nat} {B : Nat → Nat} {E : List (Nat × Nat × Nat)} {μ0 μ : aw_M} (hF : 2000 ≤ F) (h : SX B n μ0 E o p μ) (hK : tK B n 200 p ≠ 4 ∧ tK B n 200 p ≠ 5) : T (f_X6_step F 1 μ) fun μ' => p < tN B n 200 p ∧ SX B n μ0 E o (tN B n 200 p) μ' := by
  obtain ⟨h1, h2, h3, h4⟩ := h
  refine T_mono (pstep_x hF h2 hK) ?_
  rintro μ' ⟨ag, px⟩
  have fa : ∀ a, a ≠ 1 → μ'.1 a = μ.1 a := fun a h => ag.a fun k => decide_eq_true (by omega)
  refine ⟨(tN_p h2.1 hK).1, h1.tr (ag.sub fun a k h => decide_eq_true (by have := of_decide_eq_true h; omega)), px, ?_, ?_⟩
  · unfold XE at h3 ⊢
    rw [fa 71 (by decide), fa 72 (by decide), fa 73 (by decide), fa 74 (by decide)]
    exact h3
  · rw [fa 71 (by decide)]; exact h4
/-- a change of the reference that leaves its sentence and its token -/
theorem MS_ag {n p p' o d w : Nat} {B : Nat → Nat} {E : List (Nat × Nat × Nat)} {st : List Nat} {ν0 ν ν' : aw_M} (h : MS B n ν0 E o d st w p ν) (ag : AgK kXm ν ν') (pm : PMk B n 200 p' ν') : MS B n ν0 E o d st w p' ν' := by
  obtain ⟨h1, h2, h3, h4, h5, h6, h7, h8, h9⟩ := h
  have f : ∀ k, 15 ≤ k → k ≠ 17 → ν'.1 203 k = ν.1 203 k := fun k hk hk2 => (ag 203 k (decide_eq_true (by omega))).1
  have fa : ∀ a, a ≠ 203 → ν'.1 a = ν.1 a := fun a h => ag.a fun k => decide_eq_true (by omega)
  refine ⟨h1.tr (ag.sub fun a k h => decide_eq_true (by have := of_decide_eq_true h; omega)), pm, ?_, ?_, ?_, ?_, ?_, ?_, ?_⟩
  · unfold ME at h3 ⊢
    rw [f 43 (by decide) (by decide), fa 207 (by decide)]
    exact h3
  · rw [f 44 (by decide) (by decide)]; exact h4
  · rw [f 45 (by decide) (by decide)]; exact h5
  · rw [fa 225 (by decide)]; exact h6
  · rw [f 46 (by decide) (by decide)]; exact h7
  · rw [f 47 (by decide) (by decide)]; exact h8
  · rw [f 15 (by decide) (by decide)]; exact h9
theorem MS_step {F n p o d w : Nat} {B : Nat → Nat} {E : List (Nat × Nat × Nat)} {st : List Nat} {ν0 ν : aw_M} (hF : 2000 ≤ F) (h : MS B n ν0 E o d st w p ν) (hK : tK B n 200 p ≠ 4 ∧ tK B n 200 p ≠ 5) : T (f_X11_next F 203 ν) fun ν' => MS B n ν0 E o d st w (tN B n 200 p) ν' := by
  refine T_mono (pstep_m hF h.2.1 hK) ?_
  rintro ν' ⟨ag, pm⟩
  exact MS_ag h ag pm
def stc (c : Nat) : Nat × Nat × Nat := (21 - c, 0, 0)
theorem yc_is : ∀ c, c < 13 → 10 ≤ c → ycode (21 - c) = c := by decide
theorem gS1 {st : List Nat} {c i : Nat} (h : i < st.length) : (st ++ [c]).getD i 0 = st.getD i 0 := gdL h
theorem gS2 {st : List Nat} {c : Nat} : (st ++ [c]).getD st.length 0 = c := by
  rw [gdR (Nat.le_refl _), Nat.sub_self]
  rfl
theorem lenS (st : List Nat) (c : Nat) : (st ++ [c]).length = st.length + 1 := by
  rw [List.length_append]
  rfl
/-- the topmost is taken off and told -/
theorem pop_m {F n p o d w c : Nat} {B : Nat → Nat} {E : List (Nat × Nat × Nat)} {st : List Nat} {ν0 ν : aw_M} (h : MS B n ν0 E o d (st ++ [c]) w p ν) (hc : 10 ≤ c) (hc2 : c < 13) (hE : E.length < 44) {f : aw_M → Option aw_M} {Q : aw_M → Prop} (hf : ∀ ν', MS B n ν0 (E ++ [stc c]) o d st w p ν' → T (f ν') Q) {c' : Int32} (ec : c' = nI c) : T ((f_X11_code F 203 c' 0 0 (aw_wI ν 203 45 (nI st.length))).bind f) Q := by
  obtain ⟨h1, h2, h3, h4, h5, h6, h7, h8, h9⟩ := h
  have me1 : ME E (aw_wI ν 203 45 (nI st.length)) := by
    unfold ME at h3 ⊢
    rw [rI_k (by decide), rI_a (by decide)]
    exact h3
  refine T_call (code_m (a := 21 - c) (b := 0) (c := 0) (by rw [ec, yc_is c hc2 hc]) rfl rfl hE me1) ?_
  rintro ν' ⟨ag, me⟩
  refine hf ν' ⟨(h1.wI (decide_eq_false (by omega))).tr (ag.sub fun a k h => decide_eq_true (by have := of_decide_eq_true h; omega)), PMk_ag ag (fun a k h => decide_eq_true (by omega)) (PMk_ag (K := fun a k => decide (¬ (a = 203 ∧ k = 45))) ((AgK.rf ν).wI (decide_eq_false (by omega))) (fun a k h => decide_eq_true (by omega)) h2), me, ?_, ?_, fun i hi => ?_, ?_, ?_, ?_⟩
  · rw [(ag 203 44 (decide_eq_true (by omega))).1, rI_k (by decide)]; exact h4
  · rw [(ag 203 45 (decide_eq_true (by omega))).1, rI_s]
  · rw [(ag 225 i (decide_eq_true (by omega))).1, rI_a (by decide), h6 i (by rw [lenS]; omega), gS1 hi]
  · rw [(ag 203 46 (decide_eq_true (by omega))).1, rI_k (by decide)]; exact h7
  · rw [(ag 203 47 (decide_eq_true (by omega))).1, rI_k (by decide)]; exact h8
  · rw [(ag 203 15 (decide_eq_true (by omega))).1, rI_k (by decide)]; exact h9
/-- what is told when a stack's end is taken off -/
def tell (E : List (Nat × Nat × Nat)) (P : List Nat) : List (Nat × Nat × Nat) := E ++ P.reverse.map stc
theorem tell_0 (E : List (Nat × Nat × Nat)) : tell E [] = E := List.append_nil E
theorem tell_s (E : List (Nat × Nat × Nat)) (P : List Nat) (c : Nat) : tell E (P ++ [c]) = tell (E ++ [stc c]) P := by
  unfold tell
  simp
theorem tell_a (E : List (Nat × Nat × Nat)) (P P' : List Nat) : tell E (P ++ P') = tell (tell E P') P := by
  unfold tell
  simp
theorem tell_c (E : List (Nat × Nat × Nat)) (P : List Nat) (c : Nat) : tell E (c :: P) = tell E P ++ [stc c] := by
  unfold tell
  simp
theorem tell_len (E : List (Nat × Nat × Nat)) (P : List Nat) : (tell E P).length = E.length + P.length := by
  unfold tell
  simp
/-- the topmost of a stack (0 for none) -/
def topS (st : List Nat) : Nat := st.reverse.headD 0
theorem topS_s (st : List Nat) (c : Nat) : topS (st ++ [c]) = c := by
  unfold topS
  simp
theorem MS_top {n p o d w : Nat} {B : Nat → Nat} {E : List (Nat × Nat × Nat)} {st : List Nat} {ν0 ν : aw_M} (h : MS B n ν0 E o d st w p ν) (h0 : st ≠ []) : ν.1 225 (st.length - 1) = nI (topS st) := by
  obtain ⟨s, c, rfl⟩ : ∃ s c, st = s ++ [c] := ⟨st.dropLast, st.getLast h0, (List.dropLast_concat_getLast h0).symm⟩
  rw [h.2.2.2.2.2.1 _ (by rw [lenS]; omega), lenS, topS_s, show s.length + 1 - 1 = s.length by omega, gS2]
