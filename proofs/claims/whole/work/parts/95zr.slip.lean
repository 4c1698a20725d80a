/-! sand: the class's wet quarters -/
def slX (C G : Nat → Nat → Nat) (μ : aw_M) : Prop := qTWF C ∧ qTX C μ 5 ∧ (∀ a, a < 100 → μ.1 48 a = nI (G 3 a) ∧ μ.1 49 a = nI (G 4 a)) ∧ (∀ a, a < 100 → G 4 a ≤ bN (decide (cellok C a))) ∧ (∀ a, G 3 a ≤ 14400)
def kSl (a k : Nat) : Bool := decide (¬ (106 ≤ a ∧ a ≤ 108) ∧ (a ≠ 101 ∨ (k ≠ 8 ∧ k ≠ 9)))
theorem kSl_f {a k : Nat} (h : 106 ≤ a ∧ a ≤ 108) : kSl a k = false := decide_eq_false (by omega)
theorem slX_ag {C G : Nat → Nat → Nat} {μ μ' : aw_M} (h : AgK kSl μ μ') (x : slX C G μ) : slX C G μ' := by
  obtain ⟨hwf, tx, x1, x2, x3⟩ := x
  refine ⟨hwf, qTX_ag (fun a _ h2 => h.a fun k => decide_eq_true (by omega)) tx, ?_, x2, x3⟩
  rw [h.a (a := 48) fun k => decide_eq_true (by omega), h.a (a := 49) fun k => decide_eq_true (by omega)]
  exact x1
/-- is there sand near -/
def snc (C G : Nat → Nat → Nat) (a n : Nat) : Nat := cnt (fun k => match side C a k with | none => 0 | some b => G 4 b) n
theorem snc_s (C G : Nat → Nat → Nat) (a n : Nat) : snc C G a (n + 1) = snc C G a n + (match side C a n with | none => 0 | some b => G 4 b) := rfl
theorem snc_mono (C G : Nat → Nat → Nat) (a n : Nat) : ∀ d, snc C G a n ≤ snc C G a (n + d)
  | 0 => Nat.le_refl _
  | d + 1 => by
    have := snc_mono C G a n d
    rw [← Nat.add_assoc, snc_s]
    omega
theorem sandNear_x {F a : Nat} {C G : Nat → Nat → Nat} {μ : aw_M} (hF : 200 ≤ F) (x : slX C G μ) (ha : a < 100) : f_X9_hasSandNear F 5 39 (nI a) μ = some (decide (0 < snc C G a 5), μ) := by
  obtain ⟨hwf, tx, x1, x2, x3⟩ := x
  have r17 : aw_rf 39 17 = 49 := by simp only [rf0, rf1, rf4, rf5, rf19, rf23, rf28, rf39, rf53, rf67, rf71, rf76, rf88, rf97, rf101, rf109, rf110, rf124, rf128, rf133, rf144, rf156, rf157, rf171, rf175, rf180, rf191, rf51]
  unfold f_X9_hasSandNear
  refine lp_dn (fun j => (nI a, nI j, μ)) (fun j => some (decide (snc C G a j < snc C G a 5), μ)) 5 (fun k => ?_) (fun j hj k hk => ?_) 0 F (by omega) (by omega)
  · show f_X9_hasSandNear_2 F 5 39 k (nI a) (nI 5) μ = _
    unfold f_X9_hasSandNear_2
    rw [if_pos (show (5 : Int32) ≤ nI 5 by decide), decide_eq_false (Nat.lt_irrefl _)]
  · have hk : k (nI a, nI (j + 1), μ) = some (decide (snc C G a (j + 1) < snc C G a 5), μ) := hk
    show f_X9_hasSandNear_2 F 5 39 k (nI a) (nI j) μ = _
    have es := snc_s C G a j
    unfold f_X9_hasSandNear_2 f_X9_hasSandNear_33
    rw [if_neg (show ¬ (5 : Int32) ≤ nI j from (show ¬ nI 5 ≤ nI j from nI_ge hj (by decide))), sideT hwf tx ha hj, Option.bind_some]
    dsimp only
    cases e : side C a j with
    | none =>
      rw [e] at es
      dsimp only at es
      rw [if_pos (show oI none = -1 from rfl), nI_1, hk, es]
      rfl
    | some b =>
      have hb := side_lt hwf ha e
      rw [e] at es
      dsimp only at es
      have hg := x2 b hb
      have hg1 := bN_le (decide (cellok C b))
      rw [show oI (some b) = nI b from rfl, if_neg (fun h => by have := nI_pos' (n := b) (by omega); rw [h] at this; exact absurd this (by decide)), pI_in_t hb (by decide), pg_t, r17, nI_clamp (by omega), (x1 b hb).2]
      by_cases h : G 4 b = 0
      · rw [if_pos (by rw [h]; rfl), nI_1, hk, es, h]
        rfl
      · rw [if_neg (show ¬ nI (G 4 b) = 0 from fun q => h ((nI_eq (b := 0) (by omega) (by decide)).1 q))]
        have := snc_mono C G a (j + 1) (5 - (j + 1))
        rw [show j + 1 + (5 - (j + 1)) = 5 by omega] at this
        rw [decide_eq_true (show snc C G a j < snc C G a 5 by omega)]
def wetS (C G : Nat → Nat → Nat) (q : Nat) : Bool := decide (10 ≤ G 3 (C 1 q)) && !(decide (0 < snc C G (C 1 q) 5))
def nearK (C : Nat → Nat → Nat) (q a : Nat) : Nat → Bool
  | 0 => false
  | j + 1 => nearK C q a j || decide (side C (C 1 q) j = some a)
def nmS (C G : Nat → Nat → Nat) (a n : Nat) : Nat := mk (fun q => wetS C G q && nearK C q a 5) n
theorem or_p (x q : Nat) (b : Bool) : x ||| (if b = true then 2 ^ q else 0) ||| 2 ^ q = x ||| 2 ^ q := by
  rw [Nat.or_assoc]
  cases b with
  | true => rw [if_pos rfl, Nat.or_self]
  | false => rw [if_neg Bool.false_ne_true, Nat.zero_or]
theorem findWet_x {F : Nat} {C G : Nat → Nat → Nat} {μ : aw_M} (hF : 2000 ≤ F) (x : slX C G μ) : T (f_X9_findWet F 101 5 39 μ) fun r => r.1 = nI (mk (wetS C G) (C 0 2)) ∧ AgK kSl μ r.2 ∧ ∀ a, a < 100 → r.2.1 106 a = nI (nmS C G a (C 0 2)) := by
  have hwf := x.1
  have n9 := hwf.1.2.2.1
  have rr : aw_rf 101 10 = 106 ∧ aw_rf 5 6 = 7 ∧ aw_rf 39 16 = 48 := by simp only [rf0, rf1, rf4, rf5, rf19, rf23, rf28, rf39, rf53, rf67, rf71, rf76, rf88, rf97, rf101, rf109, rf110, rf124, rf128, rf133, rf144, rf156, rf157, rf171, rf175, rf180, rf191, rf51, and_self]
  unfold f_X9_findWet
  rw [rr.1, fil_wr (n := 100) hF (by decide) (by decide), Option.bind_some]
  refine T_lp (fun q s => ∃ μ', s = (nI (mk (wetS C G) q), nI q, μ') ∧ AgK kSl μ μ' ∧ ∀ a, a < 100 → μ'.1 106 a = nI (nmS C G a q)) (C 0 2) (by omega) ⟨_, rfl, (AgK.rf μ).wA (fun k hk => by rw [kSl_f (by omega)] at hk; cases hk), fun a ha => by rw [rA_s, wr0 ha]; rfl⟩ ?_ ?_
  · rintro q hq _ ⟨μ1, rfl, ag1, d1⟩ k hk
    have x1 := slX_ag ag1 x
    have c1 : C 1 q < 100 := by have := (hwf.2.1 q hq).1; have := hwf.1; unfold cellok at *; omega
    have e7 : μ1.1 7 q = nI (C 1 q) := (x1.2.1.2.1 q hq).1
    have e3 : μ1.1 5 3 = nI (C 0 2) := x1.2.1.1.2.2.1
    have g3 := x.2.2.2.2 (C 1 q)
    have m512 : mk (wetS C G) q < 512 := mk_512 _ (by omega)
    have skip : wetS C G q = false → T (k (nI (mk (wetS C G) q), nI q + 1, μ1)) fun r => r.1 = nI (mk (wetS C G) (C 0 2)) ∧ AgK kSl μ r.2 ∧ ∀ a, a < 100 → r.2.1 106 a = nI (nmS C G a (C 0 2)) := fun hw => by
      have e1 : mk (wetS C G) (q + 1) = mk (wetS C G) q := by
        show mk (wetS C G) q ||| (if wetS C G q = true then 2 ^ q else 0) = _
        rw [hw, if_neg Bool.false_ne_true, Nat.or_zero]
      rw [nI_1]
      refine hk _ ⟨μ1, by rw [e1], ag1, fun a ha => ?_⟩
      rw [d1 a ha]
      show _ = nI (nmS C G a q ||| (if (wetS C G q && nearK C q a 5) = true then 2 ^ q else 0))
      rw [hw, Bool.false_and, if_neg Bool.false_ne_true, Nat.or_zero]
    show T (f_X9_findWet_13 F 101 5 39 k (nI (mk (wetS C G) q)) (nI q) μ1) _
    unfold f_X9_findWet_13 f_X9_findWet_111
    rw [e3, if_neg (nI_ge hq (by omega)), pI_in_t (by omega) (by decide), pg_t, rr.2.1, rr.2.2, nI_clamp (by omega), e7, pI_in_t c1 (by decide), pg_t, nI_clamp (by omega), (x1.2.2.1 _ c1).1]
    by_cases h10 : G 3 (C 1 q) < 10
    · rw [if_pos (show nI (G 3 (C 1 q)) < 10 from (show nI (G 3 (C 1 q)) < nI 10 from nI_lt h10 (by decide)))]
      exact skip (by unfold wetS; rw [decide_eq_false (by omega), Bool.false_and])
    · rw [if_neg (show ¬ nI (G 3 (C 1 q)) < 10 from (show ¬ nI (G 3 (C 1 q)) < nI 10 from nI_nlt (by omega) (by omega))), pg_t, sandNear_x (by omega) x1 c1, Option.bind_some]
      dsimp only
      by_cases hs : 0 < snc C G (C 1 q) 5
      · rw [if_pos (decide_eq_true hs)]
        exact skip (by unfold wetS; rw [decide_eq_true hs, Bool.not_true, Bool.and_false])
      · rw [if_neg (by rw [decide_eq_true_eq]; exact hs), plet, shl_I q (by omega), orN_I]
        have hw : wetS C G q = true := by unfold wetS; rw [decide_eq_true (show 10 ≤ G 3 (C 1 q) by omega), decide_eq_false hs]; rfl
        have e1 : mk (wetS C G) (q + 1) = mk (wetS C G) q ||| 2 ^ q := by
          show mk (wetS C G) q ||| (if wetS C G q = true then 2 ^ q else 0) = _
          rw [if_pos hw]
        rw [← e1]
        refine T_lp (fun j s => ∃ μ', s = (nI (mk (wetS C G) (q + 1)), nI q, nI j, μ') ∧ AgK kSl μ μ' ∧ ∀ a, a < 100 → μ'.1 106 a = nI (nmS C G a q ||| (if nearK C q a j = true then 2 ^ q else 0))) 5 (by omega) ⟨μ1, rfl, ag1, fun a ha => by rw [d1 a ha, show nearK C q a 0 = false from rfl, if_neg Bool.false_ne_true, Nat.or_zero]⟩ ?_ ?_
        · rintro j hj _ ⟨μ', rfl, ag', d2⟩ k2 hk2
          have x' := slX_ag ag' x
          have e7 : μ'.1 7 q = nI (C 1 q) := (x'.2.1.2.1 q hq).1
          show T (f_X9_findWet_64 F 101 5 39 k2 k (nI (mk (wetS C G) (q + 1))) (nI q) (nI j) μ') _
          unfold f_X9_findWet_64 f_X9_findWet_105
          rw [if_neg (show ¬ (5 : Int32) ≤ nI j from (show ¬ nI 5 ≤ nI j from nI_ge hj (by decide))), pI_in_t (by omega) (by decide), pg_t, rr.2.1, nI_clamp (by omega), e7, sideT hwf x'.2.1 c1 hj, Option.bind_some]
          dsimp only
          rw [nI_1]
          cases e : side C (C 1 q) j with
          | none =>
            rw [if_pos (show oI none = -1 from rfl)]
            refine hk2 _ ⟨μ', rfl, ag', fun a ha => ?_⟩
            rw [d2 a ha, show nearK C q a (j + 1) = (nearK C q a j || decide (side C (C 1 q) j = some a)) from rfl, e, decide_eq_false (fun h => by cases h), Bool.or_false]
          | some b =>
            have hb := side_lt hwf c1 e
            rw [show oI (some b) = nI b from rfl, if_neg (fun h => by have := nI_pos' (n := b) (by omega); rw [h] at this; exact absurd this (by decide)), pI_in_t hb (by decide), pg_t, pg_t, rr.1, nI_clamp (by omega), d2 b hb, shl_I q (by omega), orN_I, or_p, plet]
            refine hk2 _ ⟨_, rfl, ag'.wI (kSl_f (by omega)), fun a ha => ?_⟩
            rw [show nearK C q a (j + 1) = (nearK C q a j || decide (side C (C 1 q) j = some a)) from rfl, e]
            by_cases ea : a = b
            · subst ea
              rw [rI_s, decide_eq_true rfl, Bool.or_true, if_pos rfl]
            · rw [rI_k ea, d2 a ha, decide_eq_false (fun h => ea (Option.some.inj h).symm), Bool.or_false]
        · rintro _ ⟨μ', rfl, ag', d2⟩ k2
          show T (f_X9_findWet_64 F 101 5 39 k2 k (nI (mk (wetS C G) (q + 1))) (nI q) (nI 5) μ') _
          unfold f_X9_findWet_64 f_X9_findWet_111
          rw [if_pos (show (5 : Int32) ≤ nI 5 by decide), nI_1]
          refine hk _ ⟨μ', rfl, ag', fun a ha => ?_⟩
          rw [d2 a ha]
          show _ = nI (nmS C G a q ||| (if (wetS C G q && nearK C q a 5) = true then 2 ^ q else 0))
          rw [hw, Bool.true_and]
  · rintro _ ⟨μ', rfl, ag', d1⟩ k
    have e3 : μ'.1 5 3 = nI (C 0 2) := (slX_ag ag' x).2.1.1.2.2.1
    show T (f_X9_findWet_13 F 101 5 39 k (nI (mk (wetS C G) (C 0 2))) (nI (C 0 2)) μ') _
    unfold f_X9_findWet_13
    rw [e3, if_pos (nI_le (Nat.le_refl _) (by omega)), T_some]
    exact ⟨rfl, ag', d1⟩
