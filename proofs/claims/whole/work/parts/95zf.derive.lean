theorem am_p {d : Nat → Nat} {p : Nat → Bool} : ∀ n b, am d p n = some b → b < n ∧ p b = true
  | 0, b, h => by cases h
  | n + 1, b, h => by
    have ih := am_p (d := d) (p := p) n
    have h : (match am d p n with
      | none => if p n = true then some n else none
      | some b => if p n = true ∧ d n < d b then some n else some b) = some b := h
    cases e : am d p n with
    | none =>
      rw [e] at h
      dsimp only at h
      by_cases e2 : p n = true
      · rw [if_pos e2] at h
        cases h
        exact ⟨Nat.lt_succ_self _, e2⟩
      · rw [if_neg e2] at h
        cases h
    | some b' =>
      rw [e] at h
      dsimp only at h
      by_cases e2 : p n = true ∧ d n < d b'
      · rw [if_pos e2] at h
        cases h
        exact ⟨Nat.lt_succ_self _, e2.1⟩
      · rw [if_neg e2] at h
        cases h
        exact ⟨by have := (ih b e).1; omega, (ih b e).2⟩
def amV (d : Nat → Nat) (o : Option Nat) : Nat := match o with
  | none => 7
  | some b => d b
theorem prey_x {F t g c : Nat} {C : Nat → Nat → Nat} {μ : aw_M} (hF : 200 ≤ F) (hwf : qTWF C) (rg : gRf g) (tx : qTX C μ t) (hc : c < 20) (hd : ∀ q, q < C 0 2 → μ.1 (g + 1) (20 * q + c) = nI (dst (C 1 q) (C 6 c))) (hb : ∀ q, q < C 0 2 → dst (C 1 q) (C 6 c) ≤ 18) : f_X1_preyOf F g t (nI c) μ = some (oI (prey C c), μ) := by
  have n9 : C 0 2 ≤ 9 := hwf.1.2.2.1
  have e3 : μ.1 t 3 = nI (C 0 2) := tx.1.2.2.1
  unfold f_X1_preyOf prey
  generalize hD : (fun q => dst (C 1 q) (C 6 c)) = D
  have hD' : ∀ q, dst (C 1 q) (C 6 c) = D q := fun q => congrFun hD q
  have hp : (fun q => decide (dst (C 1 q) (C 6 c) ≤ 6)) = fun q => decide (D q ≤ 6) := funext fun q => by rw [hD' q]
  rw [hp]
  have hd : ∀ q, q < C 0 2 → μ.1 (g + 1) (20 * q + c) = nI (D q) := fun q hq => by rw [hd q hq, hD']
  have hb : ∀ q, q < C 0 2 → D q ≤ 18 := fun q hq => by rw [← hD' q]; exact hb q hq
  refine lp_up (fun j => (nI c, oI (am D (fun q => decide (D q ≤ 6)) j), nI (amV D (am D (fun q => decide (D q ≤ 6)) j)), nI j, μ)) (C 0 2) _ (fun j hj k => ?_) (fun k => ?_) (by omega)
  · show f_X1_preyOf_9 F g t k (nI c) (oI (am D (fun q => decide (D q ≤ 6)) j)) (nI (amV D (am D (fun q => decide (D q ≤ 6)) j))) (nI j) μ = k (nI c, oI (match am D (fun q => decide (D q ≤ 6)) j with
      | none => if decide (D j ≤ 6) = true then some j else none
      | some b => if decide (D j ≤ 6) = true ∧ D j < D b then some j else some b), nI (amV D (match am D (fun q => decide (D q ≤ 6)) j with
      | none => if decide (D j ≤ 6) = true then some j else none
      | some b => if decide (D j ≤ 6) = true ∧ D j < D b then some j else some b)), nI (j + 1), μ)
    have eix : nI j * 20 + nI c = nI (20 * j + c) := by
      have : nI j * 20 = 20 * nI j := by grind
      rw [this]
      simp (disch := omega) only [pI_lit, nI_add, nI_clamp, nI_leI, nI_ltI, nI_eq, pk_mul]
    have hbj := hb j hj
    unfold f_X1_preyOf_9 f_X1_preyOf_52
    rw [e3, if_neg (nI_ge hj (by omega)), eix, pI_in_t (by omega) (by decide), pg_t, rg.1, nI_clamp (by omega), hd j hj, pg_t, plet, nI_1]
    have hpb := am_p (d := D) (p := fun q => decide (D q ≤ 6)) j
    generalize am D (fun q => decide (D q ≤ 6)) j = o at hpb ⊢
    cases o with
    | none =>
      dsimp only
      by_cases h : D j ≤ 6
      · rw [if_neg (show ¬ nI (amV D none) ≤ nI (D j) from nI_ge (show D j < 7 by omega) (show 7 < 2 ^ 31 by decide)), if_pos (decide_eq_true h)]
        rfl
      · rw [if_pos (show nI (amV D none) ≤ nI (D j) from nI_le (show 7 ≤ D j by omega) (by omega)), if_neg (by rw [decide_eq_true_eq]; exact h)]
    | some b =>
      obtain ⟨g1, g2⟩ := hpb b rfl
      have g2 := of_decide_eq_true g2
      dsimp only
      by_cases h : D j < D b
      · rw [if_neg (show ¬ nI (amV D (some b)) ≤ nI (D j) from nI_ge h (show D b < 2 ^ 31 by omega)), if_pos ⟨decide_eq_true (by omega), h⟩]
        rfl
      · rw [if_pos (show nI (amV D (some b)) ≤ nI (D j) from nI_le (show D b ≤ D j by omega) (by omega)), if_neg (fun q => h q.2)]
  · show f_X1_preyOf_9 F g t k (nI c) _ _ (nI (C 0 2)) μ = _
    unfold f_X1_preyOf_9
    rw [e3, if_pos (nI_le (Nat.le_refl _) (by omega))]
def kD (g a k : Nat) : Bool := decide (a ≠ g + 5 ∧ a ≠ g + 6 ∧ (a ≠ g ∨ k ≠ 4))
theorem kD_qTX {C : Nat → Nat → Nat} {μ μ' : aw_M} {t g : Nat} (h : AgK (kD g) μ μ') (hl : t + 13 < g) (tx : qTX C μ t) : qTX C μ' t := qTX_ag (fun a _ h2 => h.a fun k => decide_eq_true (by omega)) tx
def drlN (C : Nat → Nat → Nat) (n : Nat) : List Nat := (List.range n).filter (fun a => decide (0 < drn C a))
theorem drlN_s (C : Nat → Nat → Nat) (n : Nat) : drlN C (n + 1) = if 0 < drn C n then drlN C n ++ [n] else drlN C n := by
  unfold drlN
  rw [List.range_succ, List.filter_append]
  by_cases h : 0 < drn C n
  · simp [h]
  · simp [h]
theorem drlN_le {C : Nat → Nat → Nat} (hw : qT0 C) : ∀ n, n ≤ 100 → (drlN C n).length ≤ 60 := fun n hn => by
  have h1 : ∀ d, (drlN C n).length ≤ (drlN C (n + d)).length := fun d => by
    induction d with
    | zero => exact Nat.le_refl _
    | succ d ih =>
      rw [← Nat.add_assoc, drlN_s]
      split
      · rw [List.length_append]; omega
      · exact ih
  have := h1 (100 - n)
  rw [show n + (100 - n) = 100 by omega] at this
  exact Nat.le_trans this (drl_len hw)
theorem nbr_le {C : Nat → Nat → Nat} {f a : Nat} (hf : ∀ b, C f b ≤ 1) : ∀ n, cnt (fun k => match side C a k with | none => 0 | some b => C f b) n ≤ n
  | 0 => Nat.le_refl _
  | n + 1 => by
    have h := nbr_le (a := a) hf n
    show cnt (fun k => match side C a k with | none => 0 | some b => C f b) n + (match side C a n with | none => 0 | some b => C f b) ≤ _
    cases side C a n with
    | none => dsimp only; omega
    | some b => dsimp only; have := hf b; omega
theorem drains_x {F t g : Nat} {C : Nat → Nat → Nat} {μ : aw_M} (hF : 200 ≤ F) (hwf : qTWF C) (rt : tRf t) (rg : gRf g) (hg : g = t + 23) (tx : qTX C μ t) : T (f_X1_deriveDrains F g t μ) fun μ' => AgK (kD g) μ μ' ∧ (μ'.1 g 4 = nI (drl C).length ∧ (∀ i, i < (drl C).length → μ'.1 (g + 5) i = nI ((drl C).getD i 0)) ∧ ∀ a, a < 100 → μ'.1 (g + 6) a = nI (drn C a)) := by
  have hw := hwf.t0
  have w10 : ∀ b, C 10 b ≤ 1 := fun b => ((hwf.2.2.2.2.1 10 (by decide) (by decide)).1 b).1
  unfold f_X1_deriveDrains
  rw [plet]
  refine T_lp (fun a s => ∃ μ', s = (nI a, μ') ∧ AgK (kD g) μ μ' ∧ μ'.1 g 4 = nI (drlN C a).length ∧ (∀ i, i < (drlN C a).length → μ'.1 (g + 5) i = nI ((drlN C a).getD i 0)) ∧ ∀ b, b < a → μ'.1 (g + 6) b = nI (drn C b)) 100 (by omega) ⟨_, rfl, (AgK.rf μ).wI (decide_eq_false (by omega)), rI_s, fun i hi => absurd hi (Nat.not_lt_zero _), fun b hb => absurd hb (Nat.not_lt_zero _)⟩ ?_ ?_
  · rintro a ha _ ⟨μ1, rfl, ag1, d1, d2, d3⟩ k hk
    show T (f_X1_deriveDrains_7 F g t k (nI a) μ1) _
    unfold f_X1_deriveDrains_7
    rw [if_neg (show ¬ (100 : Int32) ≤ nI a from (show ¬ nI 100 ≤ nI a from nI_ge ha (by decide))), pI_in_t ha (by decide), pg_t, rg.2.2.2.2.2.1, nI_clamp (by omega), plet]
    refine T_lp (fun j s => ∃ μ', s = (nI a, nI j, μ') ∧ AgK (kD g) μ μ' ∧ μ'.1 g 4 = μ1.1 g 4 ∧ μ'.1 (g + 5) = μ1.1 (g + 5) ∧ (∀ b, b ≠ a → μ'.1 (g + 6) b = μ1.1 (g + 6) b) ∧ μ'.1 (g + 6) a = nI (if cellok C a then cnt (fun k => match side C a k with | none => 0 | some b => C 10 b) j else 0)) 5 (by omega) ⟨_, rfl, ag1.wI (decide_eq_false (by omega)), by rw [rI_a (by omega)], by rw [rI_a (by omega)], fun b hb => by rw [rI_k hb], ?_⟩ ?_ ?_
    · rw [rI_s]
      split
      · rfl
      · rfl
    · rintro j hj _ ⟨μ', rfl, ag, g1, g2, g3, g4⟩ k2 hk2
      have tx' := kD_qTX ag (by omega) tx
      have hk2 : ∀ μ2, AgK (kD g) μ μ2 → μ2.1 g 4 = μ1.1 g 4 → μ2.1 (g + 5) = μ1.1 (g + 5) → (∀ b, b ≠ a → μ2.1 (g + 6) b = μ1.1 (g + 6) b) → μ2.1 (g + 6) a = nI (if cellok C a then cnt (fun k => match side C a k with | none => 0 | some b => C 10 b) j + (match side C a j with | none => 0 | some b => C 10 b) else 0) → T (k2 (nI a, nI (j + 1), μ2)) _ := fun μ2 a1 a2 a3 a4 a5 => hk2 _ ⟨μ2, rfl, a1, a2, a3, a4, a5⟩
      show T (f_X1_deriveDrains_22 F g t k2 k (nI a) (nI j) μ') _
      unfold f_X1_deriveDrains_22 f_X1_deriveDrains_59
      rw [if_neg (show ¬ (5 : Int32) ≤ nI j from (show ¬ nI 5 ≤ nI j from nI_ge hj (by decide))), hasCell_eq tx'.1.1 tx'.1.2.1 hwf.1.1 hwf.1.2.1, Option.bind_some]
      dsimp only
      rw [isC_nI (by omega), decide_eq_true ha, Bool.true_and, nI_1]
      by_cases hc : cellok C a
      · rw [if_pos hc] at g4
        rw [if_pos (decide_eq_true hc), sideT hwf tx' ha hj, Option.bind_some]
        dsimp only
        rw [if_pos hc] at hk2
        cases e : side C a j with
        | none =>
          rw [e] at hk2
          rw [show oI none = -1 from rfl, onT_neg, Option.bind_some]
          dsimp only
          rw [if_neg (by decide)]
          exact hk2 μ' ag g1 g2 g3 g4
        | some b =>
          rw [e] at hk2
          have hb := side_lt hwf ha e
          rw [show oI (some b) = nI b from rfl, show (1 : Int32) = nI 1 from rfl, onT hwf rt tx' hb (by decide), Option.bind_some]
          dsimp only
          have lb : cnt (fun k => match side C a k with | none => 0 | some b => C 10 b) j ≤ j := nbr_le w10 j
          by_cases h : C (9 + 1) b = 1
          · rw [if_pos (decide_eq_true h), pI_in_t ha (by decide), pg_t, pg_t, rg.2.2.2.2.2.1, nI_clamp (by omega), g4, plet, nI_add]
            refine hk2 _ (ag.wI (decide_eq_false (by omega))) (by rw [rI_a (by omega)]; exact g1) (by rw [rI_a (by omega)]; exact g2) (fun b' hb' => by rw [rI_k hb']; exact g3 b' hb') ?_
            rw [rI_s]
            exact congrArg (fun x => nI (cnt (fun k => match side C a k with | none => 0 | some b => C 10 b) j + x)) (show 1 = C 10 b from h.symm)
          · rw [if_neg (by rw [decide_eq_true_eq]; exact h)]
            have h0 : C 10 b = 0 := by have := w10 b; have h : ¬ C 10 b = 1 := h; omega
            refine hk2 μ' ag g1 g2 g3 ?_
            dsimp only
            rw [h0, Nat.add_zero]
            exact g4
      · rw [if_neg hc] at g4 hk2
        rw [if_neg (by rw [decide_eq_true_eq]; exact hc)]
        exact hk2 μ' ag g1 g2 g3 g4
    · rintro _ ⟨μ', rfl, ag, g1, g2, g3, g4⟩ k2
      have g4 : μ'.1 (g + 6) a = nI (drn C a) := g4
      have dl : drn C a ≤ 5 := by
        unfold drn
        split
        · exact nbr_le w10 5
        · omega
      have hl := drlN_le hw (a + 1) (by omega)
      show T (f_X1_deriveDrains_22 F g t k2 k (nI a) (nI 5) μ') _
      unfold f_X1_deriveDrains_22 f_X1_deriveDrains_65 f_X1_deriveDrains_106
      rw [if_pos (show (5 : Int32) ≤ nI 5 by decide), pI_in_t ha (by decide), pg_t, rg.2.2.2.2.2.1, nI_clamp (by omega), g4, g1, d1, nI_1]
      have hall : ∀ b, b < a + 1 → μ'.1 (g + 6) b = nI (drn C b) := fun b hb => by
        by_cases e : b = a
        · rw [e]; exact g4
        · rw [g3 b e]; exact d3 b (by omega)
      by_cases h0 : 0 < drn C a
      · have es := drlN_s C a
        rw [if_pos h0] at es
        have hl2 : (drlN C a).length + 1 ≤ 60 := by rw [es, List.length_append] at hl; exact hl
        rw [if_neg (show ¬ nI (drn C a) ≤ 0 from (show ¬ nI (drn C a) ≤ nI 0 from nI_ge h0 (by omega))), if_neg (show ¬ (60 : Int32) ≤ nI (drlN C a).length from (show ¬ nI 60 ≤ nI (drlN C a).length from nI_ge hl2 (by decide))), pI_in_t hl2 (by decide), pg_t, rg.2.2.2.2.1, nI_clamp (by omega), plet, plet, rI_a (by omega), g1, d1, nI_1]
        refine hk _ ⟨_, rfl, (ag.wI (decide_eq_false (by omega))).wI (decide_eq_false (by omega)), ?_, ?_, ?_⟩
        · rw [rI_s, es, List.length_append]
          rfl
        · intro i hi
          rw [rI_a (by omega)]
          by_cases e : i = (drlN C a).length
          · rw [e, rI_s, es, List.getD_eq_getElem?_getD, List.getElem?_append_right (Nat.le_refl _), Nat.sub_self]
            rfl
          · rw [es, List.length_append] at hi
            have hi : i < (drlN C a).length := by have hi : i < (drlN C a).length + 1 := hi; omega
            rw [rI_k e, g2, d2 i hi, es, List.getD_eq_getElem?_getD, List.getD_eq_getElem?_getD, List.getElem?_append_left hi]
        · intro b hb
          rw [rI_a (by omega), rI_a (by omega)]
          exact hall b hb
      · have es := drlN_s C a
        rw [if_neg h0] at es
        rw [if_pos (show nI (drn C a) ≤ 0 from (show nI (drn C a) ≤ nI 0 from nI_le (by omega) (by decide)))]
        refine hk _ ⟨_, rfl, ag, ?_, ?_, hall⟩
        · rw [es, g1, d1]
        · rw [es, g2]
          exact d2
  · rintro _ ⟨μ', rfl, ag, d1, d2, d3⟩ k
    show T (f_X1_deriveDrains_7 F g t k (nI 100) μ') _
    unfold f_X1_deriveDrains_7
    rw [if_pos (show (100 : Int32) ≤ nI 100 by decide), T_some]
    exact ⟨ag, d1, d2, d3⟩
