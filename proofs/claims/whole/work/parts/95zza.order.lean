/-! orders: the reference -/
def kOm (a k : Nat) : Bool := decide (¬ (218 ≤ a ∧ a ≤ 220) ∧ ¬ (a = 203 ∧ (k = 0 ∨ k = 35)))
def kTu (a k : Nat) : Bool := decide (a ≠ 218)
theorem take_s (p : List Nat) (j : Nat) (h : j < p.length) : p.take (j + 1) = p.take j ++ [p.getD j 0] := by
  rw [List.take_succ, List.getD_eq_getElem?_getD, List.getElem?_eq_getElem h]
  rfl
theorem turns_m {F n m j : Nat} {a : Nat → Nat} {μ : aw_M} (hF : 100 ≤ F) (hn : n ≤ 8) (hm : m < j) (hj : j < n) (hw : ∀ i, i < n → μ.1 218 i = nI (a i)) (ha : ∀ i, i < n → a i < 8) (h1 : ∀ i, m < i → i + 1 < n → a (i + 1) < a i) (h4 : a m ≤ a (m + 1)) (h2 : a m < a j) (h3 : ∀ i, j < i → i < n → a i < a m) : T (f_X11_turns F 203 (nI n) μ) fun r => r.1 = true ∧ AgK kTu μ r.2 ∧ (∀ i, i < m → r.2.1 218 i = nI (a i)) ∧ r.2.1 218 m = nI (a j) ∧ ∀ i, m < i → i < n → r.2.1 218 i = nI (if n + m - i = j then a m else a (n + m - i)) := by
  have r32 : aw_rf 203 32 = 218 := by simp only [rf203, rf203b]
  unfold f_X11_turns
  rw [show nI n - 2 = nI (n - 1) - 1 by
    rw [show (2 : Int32) = nI 2 from rfl, show (1 : Int32) = nI 1 from rfl, nI_sub (by omega), nI_sub (by omega)]
    exact congrArg nI (by omega), plet]
  refine T_lp (fun i s => s = (nI n, nI (n - 1 - i) - 1, μ)) (n - 2 - m) (by omega) rfl ?_ ?_
  · rintro i hi _ rfl k hk
    have e1 : nI (n - 1 - i) - 1 = nI (n - 2 - i) := by
      rw [show (1 : Int32) = nI 1 from rfl, nI_sub (by omega)]
      exact congrArg nI (by omega)
    show T (f_X11_turns_4 F 203 k (nI n) (nI (n - 1 - i) - 1) μ) _
    unfold f_X11_turns_4
    have e2 : nI (n - 2 - i) + (-1) = nI (n - 1 - (i + 1)) - 1 := by
      rw [show n - 1 - (i + 1) = n - 2 - i by omega]
      generalize nI (n - 2 - i) = x
      grind
    have h5 := h1 (n - 2 - i) (by omega) (by omega)
    have h6 := ha (n - 2 - i) (by omega)
    rw [e1, if_neg (nI_pos (by omega)), nI_1, pI_in_t (by omega) (by decide), pg_t, pI_in_t (by omega) (by decide), pg_t, r32, nI_clamp (by omega), nI_clamp (by omega), hw _ (by omega), hw _ (by omega), if_neg (nI_ge h5 (by omega)), e2]
    exact hk _ rfl
  rintro _ rfl k
  show T (f_X11_turns_4 F 203 k (nI n) (nI (n - 1 - (n - 2 - m)) - 1) μ) _
  have e1 : nI (n - 1 - (n - 2 - m)) - 1 = nI m := by
    rw [show n - 1 - (n - 2 - m) = m + 1 by omega, ← nI_1]
    generalize nI m = x
    grind
  have am := ha m (by omega)
  have aj := ha j (by omega)
  unfold f_X11_turns_4 f_X11_turns_31
  rw [e1, if_neg (nI_pos (by omega)), nI_1, pI_in_t (by omega) (by decide), pg_t, pI_in_t (by omega) (by decide), pg_t, r32, nI_clamp (by omega), nI_clamp (by omega), hw _ (by omega), hw _ (by omega), if_pos (nI_le h4 (by have := ha (m + 1) (by omega); omega)), if_pos (nI_pos' (by omega)), show nI n - 1 = nI (n - 1) by
    rw [show (1 : Int32) = nI 1 from rfl, nI_sub (by omega)], plet]
  refine T_lp (fun i s => s = (nI n, nI m, nI (n - 1 - i), μ)) (n - 1 - j) (by omega) rfl ?_ ?_
  · rintro i hi _ rfl k hk
    show T (f_X11_turns_41 F 203 k (nI n) (nI m) (nI (n - 1 - i)) μ) _
    unfold f_X11_turns_41
    have h5 := h3 (n - 1 - i) (by omega) (by omega)
    rw [pI_in_t (by omega) (by decide), pg_t, pI_in_t (by omega) (by decide), pg_t, r32, nI_clamp (by omega), nI_clamp (by omega), hw _ (by omega), hw _ (by omega), if_neg (nI_ge h5 (by omega)), show nI (n - 1 - i) + (-1) = nI (n - 1 - (i + 1)) by
      rw [show nI (n - 1 - i) + (-1) = nI (n - 1 - i) - nI 1 by
        rw [show nI 1 = 1 from rfl]
        generalize nI (n - 1 - i) = x
        grind, nI_sub (by omega)]
      exact congrArg nI (by omega)]
    exact hk _ rfl
  rintro _ rfl k
  show T (f_X11_turns_41 F 203 k (nI n) (nI m) (nI (n - 1 - (n - 1 - j))) μ) _
  unfold f_X11_turns_41 f_X11_turns_62
  rw [show n - 1 - (n - 1 - j) = j by omega, pI_in_t (by omega) (by decide), pg_t, pI_in_t (by omega) (by decide), pg_t, r32, nI_clamp (by omega), nI_clamp (by omega), hw _ (by omega), hw _ (by omega), if_pos (nI_le (by omega) (by omega)), pg_t, plet, pg_t, pg_t, plet, pg_t, plet, nI_1, plet, show nI n - 1 = nI (n - 1) by
    rw [show (1 : Int32) = nI 1 from rfl, nI_sub (by omega)], plet]
  have ag0 : AgK kTu μ (aw_wI (aw_wI μ 218 m (nI (a j))) 218 j (nI (a m))) := ((AgK.rf μ).wI (decide_eq_false (by omega))).wI (decide_eq_false (by omega))
  have w0 : ∀ i, i < n → (aw_wI (aw_wI μ 218 m (nI (a j))) 218 j (nI (a m))).1 218 i = nI (if i = j then a m else if i = m then a j else a i) := fun i hi => by
    by_cases c1 : i = j
    · rw [c1, rI_s, if_pos rfl]
    · rw [rI_k c1, if_neg c1]
      by_cases c2 : i = m
      · rw [c2, rI_s, if_pos rfl]
      · rw [rI_k c2, if_neg c2]
        exact hw i hi
  generalize aw_wI (aw_wI μ 218 m (nI (a j))) 218 j (nI (a m)) = μ1 at ag0 w0 ⊢
  refine T_lp (fun s st => ∃ μ', st = (nI (m + 1 + s), nI (n - 1 - s), μ') ∧ AgK kTu μ μ' ∧ ∀ i, i < n → μ'.1 218 i = if m < i ∧ (i < m + 1 + s ∨ n - 1 - s < i) then μ1.1 218 (n + m - i) else μ1.1 218 i) ((n - m - 1) / 2) (by omega) ⟨μ1, rfl, ag0, fun i hi => by rw [if_neg (by omega)]⟩ ?_ ?_
  · rintro s hs _ ⟨μ', rfl, ag, w⟩ k hk
    show T (f_X11_turns_100 F 203 k (nI (m + 1 + s)) (nI (n - 1 - s)) μ') _
    unfold f_X11_turns_100
    rw [if_neg (nI_ge (by omega) (by omega)), pI_in_t (by omega) (by decide), pg_t, plet, pI_in_t (by omega) (by decide), pg_t, pg_t, plet, pg_t, plet, r32, nI_clamp (by omega), nI_clamp (by omega), nI_1, show nI (n - 1 - s) + (-1) = nI (n - 1 - (s + 1)) by
      rw [show nI (n - 1 - s) + (-1) = nI (n - 1 - s) - nI 1 by
        rw [show nI 1 = 1 from rfl]
        generalize nI (n - 1 - s) = x
        grind, nI_sub (by omega)]
      exact congrArg nI (by omega)]
    refine hk _ ⟨_, rfl, (ag.wI (decide_eq_false (by omega))).wI (decide_eq_false (by omega)), fun i hi => ?_⟩
    by_cases c1 : i = n - 1 - s
    · rw [c1, rI_s, if_pos (by omega), w _ (by omega), if_neg (by omega)]
      exact congrArg (μ1.1 218) (by omega)
    · rw [rI_k c1]
      by_cases c2 : i = m + 1 + s
      · rw [c2, rI_s, if_pos (by omega), w _ (by omega), if_neg (by omega)]
        exact congrArg (μ1.1 218) (by omega)
      · rw [rI_k c2, w i hi]
        by_cases c3 : m < i ∧ (i < m + 1 + s ∨ n - 1 - s < i)
        · rw [if_pos c3, if_pos (by omega)]
        · rw [if_neg c3, if_neg (by omega)]
  · rintro _ ⟨μ', rfl, ag, w⟩ k
    show T (f_X11_turns_100 F 203 k (nI (m + 1 + (n - m - 1) / 2)) (nI (n - 1 - (n - m - 1) / 2)) μ') _
    unfold f_X11_turns_100
    rw [if_pos (nI_le (by omega) (by omega)), T_some]
    refine ⟨rfl, ag, fun i hi => ?_, ?_, fun i hi1 hi2 => ?_⟩
    · show μ'.1 218 i = _
      rw [w i (by omega), if_neg (by omega), w0 i (by omega), if_neg (by omega), if_neg (by omega)]
    · show μ'.1 218 m = _
      rw [w m (by omega), if_neg (by omega), w0 m (by omega), if_neg (by omega), if_pos rfl]
    · show μ'.1 218 i = _
      rw [w i hi2]
      have hk : (if m < i ∧ (i < m + 1 + (n - m - 1) / 2 ∨ n - 1 - (n - m - 1) / 2 < i) then μ1.1 218 (n + m - i) else μ1.1 218 i) = μ1.1 218 (n + m - i) := by
        by_cases c3 : i < m + 1 + (n - m - 1) / 2 ∨ n - 1 - (n - m - 1) / 2 < i
        · rw [if_pos ⟨hi1, c3⟩]
        · rw [if_neg (by omega)]
          exact congrArg (μ1.1 218) (by omega)
      rw [hk, w0 _ (by omega)]
      by_cases c4 : n + m - i = j
      · rw [if_pos c4, if_pos c4]
      · rw [if_neg c4, if_neg c4, if_neg (by omega)]
theorem turnsE_m {F n : Nat} {a : Nat → Nat} {μ : aw_M} (hF : 100 ≤ F) (hn : n ≤ 8) (hn1 : 1 ≤ n) (hw : ∀ i, i < n → μ.1 218 i = nI (a i)) (ha : ∀ i, i < n → a i < 8) (h1 : ∀ i, i + 1 < n → a (i + 1) < a i) : T (f_X11_turns F 203 (nI n) μ) fun r => r = (false, μ) := by
  have r32 : aw_rf 203 32 = 218 := by simp only [rf203, rf203b]
  unfold f_X11_turns
  rw [show nI n - 2 = nI (n - 1) - 1 by
    rw [← nI_sub hn1, show nI 1 = 1 from rfl]
    generalize nI n = x
    grind, plet]
  refine T_lp (fun i s => s = (nI n, nI (n - 1 - i) - 1, μ)) (n - 1) (by omega) rfl ?_ ?_
  · rintro i hi _ rfl k hk
    have e1 : nI (n - 1 - i) - 1 = nI (n - 2 - i) := by
      rw [show (1 : Int32) = nI 1 from rfl, nI_sub (by omega)]
      exact congrArg nI (by omega)
    show T (f_X11_turns_4 F 203 k (nI n) (nI (n - 1 - i) - 1) μ) _
    unfold f_X11_turns_4
    have e2 : nI (n - 2 - i) + (-1) = nI (n - 1 - (i + 1)) - 1 := by
      rw [show n - 1 - (i + 1) = n - 2 - i by omega]
      generalize nI (n - 2 - i) = x
      grind
    have h5 := h1 (n - 2 - i) (by omega)
    have h6 := ha (n - 2 - i) (by omega)
    rw [e1, if_neg (nI_pos (by omega)), nI_1, pI_in_t (by omega) (by decide), pg_t, pI_in_t (by omega) (by decide), pg_t, r32, nI_clamp (by omega), nI_clamp (by omega), hw _ (by omega), hw _ (by omega), if_neg (nI_ge h5 (by omega)), e2]
    exact hk _ rfl
  rintro _ rfl k
  show T (f_X11_turns_4 F 203 k (nI n) (nI (n - 1 - (n - 1)) - 1) μ) _
  unfold f_X11_turns_4 f_X11_turns_31
  rw [show n - 1 - (n - 1) = 0 by omega, if_pos (show nI 0 - 1 < 0 by decide), if_neg (show ¬ 0 ≤ nI 0 - 1 by decide), T_some]
/-- the longest wait of the order that stands -/
def LG (rc : Nat → Nat → Bool) (ms : Nat → Bool) (n : Nat) (p : List Nat) (q : Nat) : Nat := mxn (fun q => if ms q = true then mxn (fun k => rn rc q (p.take k)) (n + 1) else 0) q
theorem LG_Wt {rc : Nat → Nat → Bool} {ms : Nat → Bool} {n nq : Nat} {p : List Nat} (hl : p.length = n) (hq : nq ≤ 9) (hm : ∀ q, nq ≤ q → ms q = false) : LG rc ms n p nq = Wt rc ms p := by
  refine Nat.le_antisymm ((mxn_le nq).2 fun q hq2 => ?_) (Wt_le.2 fun k q hk h9 hq2 => ?_)
  · show (if ms q = true then _ else 0) ≤ _
    by_cases h : ms q = true
    · rw [if_pos h]
      refine (mxn_le _).2 fun k hk => ?_
      exact Wt_le.1 (Nat.le_refl _) k q (by omega) (by omega) h
    · rw [if_neg h]
      exact Nat.zero_le _
  · have hqn : q < nq := by
      by_cases h : q < nq
      · exact h
      · rw [hm q (by omega)] at hq2
        cases hq2
    have h1 := (mxn_le nq).1 (Nat.le_refl (LG rc ms n p nq)) q hqn
    rw [if_pos hq2] at h1
    exact Nat.le_trans ((mxn_le (f := fun k => rn rc q (p.take k)) (n + 1)).1 (Nat.le_refl _) k (by omega)) h1
theorem mk_zero {p : Nat → Bool} {n : Nat} : mk p n = 0 ↔ ∀ i, i < n → p i = false := by
  constructor
  · intro h i hi
    have := mk_tb p i n
    rw [h, Nat.zero_testBit, decide_eq_true hi, Bool.true_and] at this
    exact this.symm
  · intro h
    exact Nat.eq_of_testBit_eq fun i => by
      rw [mk_tb, Nat.zero_testBit]
      by_cases e : i < n
      · rw [h i e, Bool.and_false]
      · rw [decide_eq_false e, Bool.false_and]
theorem longest_m {F n nq : Nat} {rc : Nat → Nat → Bool} {p : List Nat} {μ : aw_M} (hF : 100 ≤ F) (hn : n ≤ 8) (hl : p.length = n) (hp : ∀ x, x ∈ p → x < n) (hq : nq ≤ 9) (h2 : μ.1 205 2 = nI nq) (hw : ∀ i, i < n → μ.1 218 i = nI (p.getD i 0)) (hs : ∀ q, q < nq → μ.1 220 q = nI (mk (fun c => rc c q) n)) {ms : Nat → Bool} (hms : ∀ q, q < nq → (ms q = true ↔ ∃ c, c < n ∧ rc c q = true)) : f_X11_longest F 203 (nI n) μ = some (nI (LG rc ms n p nq), μ) := by
  have r6 : aw_rf 203 6 = 205 := rf203.2.1
  have r32 : aw_rf 203 32 = 218 ∧ aw_rf 203 34 = 220 := by simp only [rf203, rf203b, and_self]
  have hr : ∀ q k, rn rc q (p.take k) ≤ 8 := fun q k => by
    have := rn_le rc q (p.take k)
    rw [List.length_take] at this
    omega
  have hm : ∀ q k, mxn (fun k => rn rc q (p.take k)) k ≤ 8 := fun q k => (mxn_le k).2 fun j _ => hr q j
  have hL : ∀ q, LG rc ms n p q ≤ 8 := fun q => (mxn_le q).2 fun j _ => by
    show (if ms j = true then _ else 0) ≤ 8
    have := hm j (n + 1)
    split <;> omega
  unfold f_X11_longest
  refine lp_u (fun q => (nI n, nI (LG rc ms n p q), nI q, μ)) nq rfl ?_ ?_ (by omega)
  · intro q hqq k
    show f_X11_longest_4 F 203 k (nI n) (nI (LG rc ms n p q)) (nI q) μ = k (nI n, nI (max (LG rc ms n p q) (if ms q = true then mxn (fun k => rn rc q (p.take k)) (n + 1) else 0)), nI (q + 1), μ)
    have hL2 := hL q
    generalize LG rc ms n p q = B at hL2 ⊢
    unfold f_X11_longest_4
    have mlt : mk (fun c => rc c q) n < 2 ^ 31 := Nat.lt_of_lt_of_le (mk_lt _ n) (Nat.pow_le_pow_right (by decide) (by omega))
    rw [show aw_in 2 1155 = true by decide, pg_t, r6, show (2 : Int32).toNatClampNeg = 2 by decide, h2, if_neg (nI_ge hqq (by omega)), pI_in_t (by omega) (by decide), pg_t, r32.2, nI_clamp (by omega), hs q hqq]
    cases hmq : ms q with
    | false =>
      have e0 : mk (fun c => rc c q) n = 0 := mk_zero.2 fun i hi => by
        cases e : rc i q with
        | false => rfl
        | true => rw [(hms q hqq).2 ⟨i, hi, e⟩] at hmq; cases hmq
      unfold f_X11_longest_86
      rw [e0, if_pos (show nI 0 = 0 from rfl), if_neg Bool.false_ne_true, Nat.max_eq_left (Nat.zero_le _), nI_1]
    | true =>
      have e0 : mk (fun c => rc c q) n ≠ 0 := fun e => by
        obtain ⟨c, c1, c2⟩ := (hms q hqq).1 hmq
        rw [mk_zero.1 e c c1] at c2
        cases c2
      rw [if_neg (show ¬ nI (mk (fun c => rc c q) n) = 0 from fun h => e0 ((nI_eq (b := 0) (by omega) (by decide)).1 h)), if_pos rfl]
      refine lp_u (fun j => (nI n, nI (max B (mxn (fun k => rn rc q (p.take k)) (j + 1))), nI q, nI (rn rc q (p.take j)), nI j, μ)) n ?_ ?_ ?_ (by omega)
      · rw [show mxn (fun k => rn rc q (p.take k)) (0 + 1) = 0 from rfl, Nat.max_eq_left (Nat.zero_le _)]
        rfl
      · intro j hj k2
        show f_X11_longest_32 F 203 k2 k (nI n) (nI (max B (mxn (fun k => rn rc q (p.take k)) (j + 1)))) (nI q) (nI (rn rc q (p.take j))) (nI j) μ = k2 (nI n, nI (max B (max (mxn (fun k => rn rc q (p.take k)) (j + 1)) (rn rc q (p.take (j + 1))))), nI q, nI (rn rc q (p.take (j + 1))), nI (j + 1), μ)
        have hm2 := hm q (j + 1)
        have hr1 := hr q (j + 1)
        have hr2 := hr q j
        have hx : p.getD j 0 < n := by
          rw [List.getD_eq_getElem?_getD, List.getElem?_eq_getElem (by omega)]
          exact hp _ (List.getElem_mem _)
        have es : rn rc q (p.take (j + 1)) = if rc (p.getD j 0) q = true then 0 else rn rc q (p.take j) + 1 := by
          rw [take_s p j (by omega), rn_s]
        generalize mxn (fun k => rn rc q (p.take k)) (j + 1) = M at hm2 ⊢
        have fin : ∀ z, z = rn rc q (p.take (j + 1)) → f_X11_longest_65 F 203 k k2 (nI n) (nI (max B M)) (nI q) (nI j) (nI z) μ = k2 (nI n, nI (max B (max M (rn rc q (p.take (j + 1))))), nI q, nI (rn rc q (p.take (j + 1))), nI (j + 1), μ) := fun z hz => by
          unfold f_X11_longest_65 f_X11_longest_79
          rw [hz, nI_1]
          by_cases c : rn rc q (p.take (j + 1)) ≤ max B M
          · rw [if_pos (nI_le c (by omega)), show max B (max M (rn rc q (p.take (j + 1)))) = max B M by omega]
          · rw [if_neg (nI_ge (by omega) (by omega)), show max B (max M (rn rc q (p.take (j + 1)))) = rn rc q (p.take (j + 1)) by omega]
        unfold f_X11_longest_32 f_X11_bitOf
        rw [if_neg (nI_ge hj (by omega)), pI_in_t (by omega) (by decide), pg_t, pI_in_t (by omega) (by decide), pg_t, r32.1, r32.2, nI_clamp (by omega), nI_clamp (by omega), hs q hqq, hw j hj, bit_I (by omega) (by omega)]
        have hb := bit_tb (mk (fun c => rc c q) n) (p.getD j 0)
        rw [mk_tb, decide_eq_true hx, Bool.true_and] at hb
        have hbl := bitN_lt (mk (fun c => rc c q) n) (p.getD j 0)
        by_cases c : rc (p.getD j 0) q = true
        · rw [if_pos (show nI (bitN (mk (fun c => rc c q) n) (p.getD j 0)) = 1 by rw [hb.1 c]; rfl), Option.bind_some]
          dsimp only
          rw [if_pos rfl]
          exact fin 0 (by rw [es, if_pos c])
        · rw [if_neg (show ¬ nI (bitN (mk (fun c => rc c q) n) (p.getD j 0)) = 1 from fun h => c (hb.2 ((nI_eq (b := 1) (by omega) (by decide)).1 h))), Option.bind_some]
          dsimp only
          rw [if_neg Bool.false_ne_true, nI_1]
          exact fin _ (by rw [es, if_neg c])
      · intro k2
        show f_X11_longest_32 F 203 k2 k (nI n) (nI (max B (mxn (fun k => rn rc q (p.take k)) (n + 1)))) (nI q) (nI (rn rc q (p.take n))) (nI n) μ = _
        unfold f_X11_longest_32 f_X11_longest_86
        rw [if_pos (nI_le (Nat.le_refl _) (by omega)), nI_1]
  · intro k
    show f_X11_longest_4 F 203 k (nI n) _ (nI nq) μ = _
    unfold f_X11_longest_4
    rw [show aw_in 2 1155 = true by decide, pg_t, r6, show (2 : Int32).toNatClampNeg = 2 by decide, h2, if_pos (nI_le (Nat.le_refl _) (by omega))]
