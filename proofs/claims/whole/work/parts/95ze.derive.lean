theorem qTX_ag {C : Nat → Nat → Nat} {μ μ' : aw_M} {t : Nat} (h1 : ∀ a, t ≤ a → a ≤ t + 13 → μ'.1 a = μ.1 a) (h : qTX C μ t) : qTX C μ' t := by
  unfold qTX at h ⊢
  simp (disch := omega) only [h1]
  exact h
/-- where a ground's arrays lie -/
def gRf (g : Nat) : Prop := aw_rf g 0 = g + 1 ∧ aw_rf g 1 = g + 2 ∧ aw_rf g 2 = g + 3 ∧ aw_rf g 3 = g + 4 ∧ aw_rf g 5 = g + 5 ∧ aw_rf g 6 = g + 6 ∧ aw_rf g 8 = g + 7 ∧ aw_rf g 9 = g + 8 ∧ aw_rf g 10 = g + 9 ∧ aw_rf g 11 = g + 10
theorem gRf_28 : gRf 28 ∧ gRf 133 ∧ gRf 180 := by
  unfold gRf
  simp only [rf0, rf1, rf4, rf5, rf19, rf23, rf28, rf39, rf53, rf67, rf71, rf76, rf88, rf97, rf101, rf109, rf110, rf124, rf128, rf133, rf144, rf156, rf157, rf171, rf175, rf180, rf191, rf51, and_self, Nat.reduceAdd]
def kO (lo hi a _k : Nat) : Bool := decide (a < lo ∨ hi < a)
theorem kO_i {lo hi a k : Nat} (h : lo ≤ a ∧ a ≤ hi) : kO lo hi a k = false := decide_eq_false (by omega)
theorem kO_o {lo hi a : Nat} (h : a < lo ∨ hi < a) : ∀ k, kO lo hi a k = true := fun _ => decide_eq_true h
theorem kO_sub {lo hi lo' hi' : Nat} (h1 : lo' ≤ lo) (h2 : hi ≤ hi') : ∀ a k, kO lo' hi' a k = true → kO lo hi a k = true := fun a k h => decide_eq_true (by have := of_decide_eq_true h; omega)
theorem kO_qTX {C : Nat → Nat → Nat} {μ μ' : aw_M} {t lo hi : Nat} (h : AgK (kO lo hi) μ μ') (hl : t + 13 < lo) (tx : qTX C μ t) : qTX C μ' t := qTX_ag (fun a _ h2 => h.a (kO_o (by omega))) tx
theorem measure_x {F t g p a : Nat} {C : Nat → Nat → Nat} {μ : aw_M} (hF : 200 ≤ F) (hwf : qTWF C) (rt : tRf t) (rg : gRf g) (hg : g = t + 23) (tx : qTX C μ t) (hp : p < 18) (ha : a < 100) : T (f_X1_measureFrom F g t (nI p) (nI a) μ) fun μ' => AgK (kO (g + 1) (g + 2)) μ μ' ∧ (∀ c, c < C 0 3 → μ'.1 (g + 1) (20 * p + c) = nI (dst a (C 6 c))) ∧ (∀ i, (i < 20 * p ∨ 20 * p + 20 ≤ i) → μ'.1 (g + 1) i = μ.1 (g + 1) i) ∧ μ'.1 (g + 2) p = nI (jsee C a) ∧ (∀ i, i ≠ p → μ'.1 (g + 2) i = μ.1 (g + 2) i) := by
  have n20 : C 0 3 ≤ 20 := hwf.1.2.2.2
  unfold f_X1_measureFrom
  refine T_lp (fun j s => ∃ μ', s = (nI p, nI a, nI j, μ') ∧ AgK (kO (g + 1) (g + 2)) μ μ' ∧ (∀ c, c < j → μ'.1 (g + 1) (20 * p + c) = nI (dst a (C 6 c))) ∧ (∀ i, (i < 20 * p ∨ 20 * p + 20 ≤ i) → μ'.1 (g + 1) i = μ.1 (g + 1) i) ∧ (∀ i, μ'.1 (g + 2) i = μ.1 (g + 2) i)) (C 0 3) (by omega) ⟨μ, rfl, AgK.rf μ, fun c hc => absurd hc (Nat.not_lt_zero _), fun _ _ => rfl, fun _ => rfl⟩ ?_ ?_
  · rintro j hj _ ⟨μ', rfl, ag, d1, d2, d3⟩ k hk
    have tx' := kO_qTX ag (by omega) tx
    have e4 : μ'.1 t 4 = nI (C 0 3) := tx'.1.2.2.2
    have e7 : μ'.1 (t + 7) j = nI (C 6 j) := (tx'.2.2.2.1 j hj).2.1
    have c6 : C 6 j < 100 := by have := (hwf.2.2.2.1 j hj).2.1; have := hwf.1; unfold cellok at *; omega
    have eix : nI p * 20 + nI j = nI (20 * p + j) := by
      have : nI p * 20 = 20 * nI p := by grind
      rw [this]
      simp (disch := omega) only [pI_lit, nI_add, nI_clamp, nI_leI, nI_ltI, nI_eq, pk_mul]
    show T (f_X1_measureFrom_3 F g t k (nI p) (nI a) (nI j) μ') _
    unfold f_X1_measureFrom_3
    rw [e4, if_neg (nI_ge hj (by omega)), pI_in_t (by omega) (by decide), pg_t, rt.2.2.2.2.2.2.1, nI_clamp (by omega), e7, distT ha c6, Option.bind_some]
    dsimp only
    rw [eix, pI_in_t (by omega) (by decide), pg_t, rg.1, nI_clamp (by omega), plet, nI_1]
    refine hk _ ⟨_, rfl, ag.wI (kO_i (by omega)), fun c hc => ?_, fun i hi => ?_, fun i => ?_⟩
    · by_cases e : c = j
      · subst e
        rw [rI_s]
      · rw [rI_k (by omega)]
        exact d1 c (by omega)
    · rw [rI_k (by omega)]
      exact d2 i hi
    · rw [rI_a (by omega)]
      exact d3 i
  · rintro _ ⟨μ1, rfl, ag1, d1, d2, d3⟩ k
    have tx1 := kO_qTX ag1 (by omega) tx
    have e4 : μ1.1 t 4 = nI (C 0 3) := tx1.1.2.2.2
    show T (f_X1_measureFrom_3 F g t k (nI p) (nI a) (nI (C 0 3)) μ1) _
    unfold f_X1_measureFrom_3 f_X1_measureFrom_41
    rw [e4, if_pos (nI_le (Nat.le_refl _) (by omega)), pI_in_t hp (by decide), pg_t, rg.2.1, nI_clamp (by omega), plet]
    refine T_lp (fun j s => ∃ μ', s = (nI p, nI a, nI j, μ') ∧ AgK (kO (g + 1) (g + 2)) μ μ' ∧ (μ'.1 (g + 1) = μ1.1 (g + 1)) ∧ μ'.1 (g + 2) p = nI (cnt (fun c => if C 11 c = 1 ∧ dst a c ≤ 4 then 1 else 0) j) ∧ (∀ i, i ≠ p → μ'.1 (g + 2) i = μ.1 (g + 2) i)) 100 (by omega) ⟨_, rfl, ag1.wI (kO_i (by omega)), rI_a (by omega), rI_s, fun i hi => by rw [rI_k hi]; exact d3 i⟩ ?_ ?_
    · rintro j hj _ ⟨μ', rfl, ag, g1, g2, g3⟩ k hk
      have tx' := kO_qTX ag (by omega) tx
      have hk : ∀ μ2, AgK (kO (g + 1) (g + 2)) μ μ2 → μ2.1 (g + 1) = μ1.1 (g + 1) → μ2.1 (g + 2) p = nI (cnt (fun c => if C 11 c = 1 ∧ dst a c ≤ 4 then 1 else 0) j + if C 11 j = 1 ∧ dst a j ≤ 4 then 1 else 0) → (∀ i, i ≠ p → μ2.1 (g + 2) i = μ.1 (g + 2) i) → T (k (nI p, nI a, nI (j + 1), μ2)) _ := fun μ2 a1 a2 a3 a4 => hk _ ⟨μ2, rfl, a1, a2, a3, a4⟩
      show T (f_X1_measureFrom_51 F g t k (nI p) (nI a) (nI j) μ') _
      unfold f_X1_measureFrom_51 f_X1_measureFrom_88
      rw [if_neg (show ¬ (100 : Int32) ≤ nI j from (show ¬ nI 100 ≤ nI j from nI_ge hj (by decide))), show (2 : Int32) = nI 2 from rfl, onT hwf rt tx' hj (by decide), Option.bind_some]
      dsimp only
      by_cases h11 : C 11 j = 1
      · rw [if_pos (decide_eq_true h11), distT ha hj, Option.bind_some]
        dsimp only
        have dl := dst_le ha hj
        by_cases h4 : dst a j ≤ 4
        · rw [if_neg (show ¬ (4 : Int32) < nI (dst a j) from (show ¬ nI 4 < nI (dst a j) from nI_nlt h4 (by omega))), pI_in_t hp (by decide), pg_t, pg_t, rg.2.1, nI_clamp (by omega), g2, plet, nI_1, nI_1]
          refine hk _ (ag.wI (kO_i (by omega))) (by rw [rI_a (by omega)]; exact g1) (by rw [rI_s, if_pos ⟨h11, h4⟩]) (fun i hi => by rw [rI_k hi]; exact g3 i hi)
        · rw [if_pos (show (4 : Int32) < nI (dst a j) from (show nI 4 < nI (dst a j) from nI_lt (by omega) (by omega))), nI_1]
          exact hk _ ag g1 (by rw [if_neg (fun h => h4 h.2)]; exact g2) g3
      · rw [if_neg (by rw [decide_eq_true_eq]; exact h11), nI_1]
        exact hk _ ag g1 (by rw [if_neg (fun h => h11 h.1)]; exact g2) g3
    · rintro _ ⟨μ', rfl, ag, g1, g2, g3⟩ k
      show T (f_X1_measureFrom_51 F g t k (nI p) (nI a) (nI 100) μ') _
      unfold f_X1_measureFrom_51
      rw [if_pos (show (100 : Int32) ≤ nI 100 by decide), T_some, g1]
      exact ⟨ag, d1, d2, g2, g3⟩
/-- is a carter's cap near -/
theorem nearCap_x {F t a : Nat} {C : Nat → Nat → Nat} {μ : aw_M} (hF : 200 ≤ F) (hwf : qTWF C) (rt : tRf t) (tx : qTX C μ t) (ha : a < 100) : f_X1_nearCap F t (nI a) μ = some (decide (0 < nbr C 9 a), μ) := by
  have key : ∀ k, k < 5 → (∃ b, side C a k = some b ∧ b < 100) ∨ side C a k = none := fun k hk => by
    cases h : side C a k with
    | none => exact .inr rfl
    | some b => exact .inl ⟨b, rfl, side_lt hwf ha h⟩
  have hs := hwf.2.2.2.2.1
  have w9 : ∀ b, C 9 b ≤ 1 := fun b => ((hs 9 (by decide) (by decide)).1 b).1
  unfold f_X1_nearCap
  refine lp_dn (fun j => (nI a, nI j, μ)) (fun j => some (decide (cnt (fun k => match side C a k with | none => 0 | some b => C 9 b) j < nbr C 9 a), μ)) 5 (fun k => ?_) (fun j hj k hk => ?_) 0 F (by omega) (by omega)
  · show f_X1_nearCap_2 F t k (nI a) (nI 5) μ = _
    unfold f_X1_nearCap_2
    rw [if_pos (show (5 : Int32) ≤ nI 5 by decide), decide_eq_false (show ¬ cnt (fun k => match side C a k with | none => 0 | some b => C 9 b) 5 < nbr C 9 a from Nat.lt_irrefl _)]
  · have hk : k (nI a, nI (j + 1), μ) = some (decide (cnt (fun k => match side C a k with | none => 0 | some b => C 9 b) j + (match side C a j with | none => 0 | some b => C 9 b) < nbr C 9 a), μ) := hk
    show f_X1_nearCap_2 F t k (nI a) (nI j) μ = _
    unfold f_X1_nearCap_2
    rw [if_neg (show ¬ (5 : Int32) ≤ nI j from (show ¬ nI 5 ≤ nI j from nI_ge hj (by decide))), sideT hwf tx ha hj, Option.bind_some]
    dsimp only
    rcases key j hj with ⟨b, e, hb⟩ | e
    · rw [e] at hk ⊢
      rw [show oI (some b) = nI b from rfl, show (0 : Int32) = nI 0 from rfl, onT hwf rt tx hb (by decide), Option.bind_some]
      dsimp only at hk ⊢
      by_cases h : C (9 + 0) b = 1
      · rw [if_pos (decide_eq_true h)]
        have hm : ∀ n, j + 1 ≤ n → cnt (fun k => match side C a k with | none => 0 | some b => C 9 b) j + 1 ≤ cnt (fun k => match side C a k with | none => 0 | some b => C 9 b) n := fun n hn => by
          induction n with
          | zero => omega
          | succ n ih =>
            by_cases e2 : j = n
            · subst e2
              show _ ≤ cnt (fun k => match side C a k with | none => 0 | some b => C 9 b) j + (match side C a j with | none => 0 | some b => C 9 b)
              rw [e]
              dsimp only
              have : C 9 b = 1 := h
              omega
            · have := ih (by omega)
              show _ ≤ cnt (fun k => match side C a k with | none => 0 | some b => C 9 b) n + (match side C a n with | none => 0 | some b => C 9 b)
              omega
        have := hm 5 (by omega)
        rw [decide_eq_true (show cnt (fun k => match side C a k with | none => 0 | some b => C 9 b) j < nbr C 9 a from this)]
      · rw [if_neg (by rw [decide_eq_true_eq]; exact h), nI_1, hk]
        have : C 9 b = 0 := by have := w9 b; have h : ¬ C 9 b = 1 := h; omega
        refine congrArg (fun x => some (x, μ)) (decide_eq_decide.2 ?_)
        rw [this, Nat.add_zero]
    · rw [e] at hk ⊢
      rw [show oI none = -1 from rfl, onT_neg, Option.bind_some]
      dsimp only at hk ⊢
      rw [if_neg (by decide), nI_1]
      exact hk
