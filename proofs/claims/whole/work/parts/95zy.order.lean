/-! orders: the class -/
def kOr (a k : Nat) : Bool := decide (¬ (102 ≤ a ∧ a ≤ 105) ∧ ¬ (a = 101 ∧ (k = 0 ∨ k = 2 ∨ k = 3 ∨ k = 4)))
theorem bit0_I {s q : Nat} (hs : s < 2 ^ 31) (hq : q < 32) : (nI s >>> (nI q &&& 31)) &&& 1 = 0 ↔ s.testBit q = false := by
  rw [bit_I hs hq]
  have h1 := bitN_lt s q
  have h2 := bit_tb s q
  constructor
  · intro h
    have : bitN s q = 0 := (nI_eq (b := 0) (by omega) (by decide)).1 h
    cases e : s.testBit q with
    | false => rfl
    | true => have := h2.1 e; omega
  · intro h
    have : bitN s q = 0 := by
      by_cases e : bitN s q = 1
      · rw [h2.2 e] at h; cases h
      · omega
    rw [this]
    rfl
/-- what the class knows while it places carts -/
def CO (rc : Nat → Nat → Bool) (ms : Nat → Bool) (n : Nat) (μ0 : aw_M) (pre : List Nat) (b : Nat × List Nat) (μ : aw_M) : Prop :=
  AgK kOr μ0 μ ∧ μ.1 101 2 = nI n ∧ μ.1 101 3 = nI (mk ms 9) ∧ (μ.1 101 4 = nI b.1 ∧ b.1 ≤ 8) ∧ (∀ c, c < n → μ.1 104 c = nI (mk (rc c) 9)) ∧
  (∀ d, d ≤ pre.length → ∀ q, q < 9 → μ.1 105 (9 * d + q) = nI d - 1 - nI (rn rc q (pre.take d))) ∧ (∀ i, i < pre.length → μ.1 103 i = nI (pre.getD i 0)) ∧
  (b.1 < 8 → μ.1 101 0 = nI n ∧ ∀ i, i < n → μ.1 102 i = nI (b.2.getD i 0))
theorem serve_x {F d m : Nat} {μ : aw_M} (hF : 100 ≤ F) (hd : d < 8) (hm : m < 512) : T (f_X9_serve F 101 (nI d) (nI m) μ) fun μ' => (∀ a, a ≠ 105 → μ'.1 a = μ.1 a) ∧ μ'.2 = μ.2 ∧ (∀ i, (i < 9 * d + 9 ∨ 9 * d + 18 ≤ i) → μ'.1 105 i = μ.1 105 i) ∧ ∀ q, q < 9 → μ'.1 105 (9 * (d + 1) + q) = if m.testBit q = true then nI d else μ.1 105 (9 * d + q) := by
  have r7 : aw_rf 101 7 = 105 := by simp only [rf0, rf1, rf4, rf5, rf19, rf23, rf28, rf39, rf53, rf67, rf71, rf76, rf88, rf97, rf101, rf109, rf110, rf124, rf128, rf133, rf144, rf156, rf157, rf171, rf175, rf180, rf191, rf51]
  have e9 : nI d * 9 = nI (9 * d) := by
    have : nI d * 9 = 9 * nI d := by grind
    rw [this]
    simp (disch := omega) only [pI_lit, nI_add, nI_clamp, nI_leI, nI_ltI, nI_eq, pk_mul]
  unfold f_X9_serve
  rw [plet, e9]
  refine T_lp (fun q s => ∃ μ', s = (nI d, nI m, nI (9 * d), nI q, μ') ∧ (∀ a, a ≠ 105 → μ'.1 a = μ.1 a) ∧ μ'.2 = μ.2 ∧ (∀ i, (i < 9 * d + 9 ∨ 9 * d + 18 ≤ i) → μ'.1 105 i = μ.1 105 i) ∧ ∀ q', q' < q → μ'.1 105 (9 * (d + 1) + q') = if m.testBit q' = true then nI d else μ.1 105 (9 * d + q')) 9 (by omega) ⟨μ, rfl, fun _ _ => rfl, rfl, fun _ _ => rfl, fun q h => absurd h (Nat.not_lt_zero _)⟩ ?_ ?_
  · rintro q hq _ ⟨μ', rfl, g1, g2, g3, g4⟩ k hk
    have fin : ∀ v, v = (if m.testBit q = true then nI d else μ.1 105 (9 * d + q)) → T (f_X9_serve_48 F 101 k (nI d) (nI m) (nI (9 * d)) (nI q) v (nI (9 * d) + 9 + nI q) μ') fun μ' => (∀ a, a ≠ 105 → μ'.1 a = μ.1 a) ∧ μ'.2 = μ.2 ∧ (∀ i, (i < 9 * d + 9 ∨ 9 * d + 18 ≤ i) → μ'.1 105 i = μ.1 105 i) ∧ ∀ q, q < 9 → μ'.1 105 (9 * (d + 1) + q) = if m.testBit q = true then nI d else μ.1 105 (9 * d + q) := fun v hv => by
      unfold f_X9_serve_48
      have ei : nI (9 * d) + 9 + nI q = nI (9 * (d + 1) + q) := by
        rw [show (9 : Int32) = nI 9 from rfl, nI_add, nI_add]
        exact congrArg nI (by omega)
      rw [ei, pI_in_t (by omega) (by decide), pg_t, plet, r7, nI_clamp (by omega), nI_1]
      refine hk _ ⟨_, rfl, fun a ha => by rw [rI_a ha]; exact g1 a ha, g2, fun i hi => by rw [rI_k (by omega)]; exact g3 i hi, fun q' hq' => ?_⟩
      by_cases e : q' = q
      · rw [e, rI_s, hv]
      · rw [rI_k (by omega)]
        exact g4 q' (by omega)
    show T (f_X9_serve_8 F 101 k (nI d) (nI m) (nI (9 * d)) (nI q) μ') _
    unfold f_X9_serve_8
    rw [if_neg (show ¬ (9 : Int32) ≤ nI q from (show ¬ nI 9 ≤ nI q from nI_ge hq (by decide)))]
    cases hb : m.testBit q with
    | false =>
      rw [if_pos ((bit0_I (by omega) (by omega)).2 hb), nI_add, pI_in_t (by omega) (by decide), pg_t, r7, nI_clamp (by omega)]
      exact fin _ (by rw [hb, if_neg Bool.false_ne_true]; exact g3 _ (by omega))
    | true =>
      rw [if_neg (fun h => by rw [(bit0_I (by omega) (by omega)).1 h] at hb; cases hb)]
      exact fin _ (by rw [hb, if_pos rfl])
  · rintro _ ⟨μ', rfl, g1, g2, g3, g4⟩ k
    show T (f_X9_serve_8 F 101 k (nI d) (nI m) (nI (9 * d)) (nI 9) μ') _
    unfold f_X9_serve_8
    rw [if_pos (show (9 : Int32) ≤ nI 9 by decide), T_some]
    exact ⟨g1, g2, g3, g4⟩
theorem waitAt_x {F n : Nat} {rc : Nat → Nat → Bool} {ms : Nat → Bool} {pre : List Nat} {b : Nat × List Nat} {μ0 μ : aw_M} (hF : 100 ≤ F) (hn : pre.length ≤ 8) (co : CO rc ms n μ0 pre b μ) : f_X9_waitAt F 101 (nI pre.length) μ = some (nI (wq rc ms pre), μ) := by
  obtain ⟨-, -, e3, -, -, e105, -, -⟩ := co
  have r7 : aw_rf 101 7 = 105 := by simp only [rf0, rf1, rf4, rf5, rf19, rf23, rf28, rf39, rf53, rf67, rf71, rf76, rf88, rf97, rf101, rf109, rf110, rf124, rf128, rf133, rf144, rf156, rf157, rf171, rf175, rf180, rf191, rf51]
  have hr : ∀ q, rn rc q pre ≤ 8 := fun q => Nat.le_trans (rn_le rc q pre) hn
  have m5 : mk ms 9 < 512 := mk_512 _ (by omega)
  unfold f_X9_waitAt wq
  refine lp_u (fun q => (nI pre.length, nI (mxn (fun q => if ms q = true then rn rc q pre else 0) q), nI q, μ)) 9 rfl ?_ ?_ (by omega)
  · intro q hq k
    have hb : mxn (fun q => if ms q = true then rn rc q pre else 0) q ≤ 8 := (mxn_le q).2 fun k _ => by
      show (if ms k = true then rn rc k pre else 0) ≤ 8
      split
      · exact hr k
      · omega
    show f_X9_waitAt_4 F 101 k (nI pre.length) (nI (mxn (fun q => if ms q = true then rn rc q pre else 0) q)) (nI q) μ = k (nI pre.length, nI (max (mxn (fun q => if ms q = true then rn rc q pre else 0) q) (if ms q = true then rn rc q pre else 0)), nI (q + 1), μ)
    unfold f_X9_waitAt_4 f_X9_waitAt_41
    rw [if_neg (show ¬ (9 : Int32) ≤ nI q from (show ¬ nI 9 ≤ nI q from nI_ge hq (by decide))), e3, nI_1]
    cases hm : ms q with
    | false =>
      rw [if_pos ((bit0_I (by omega) (by omega)).2 (by rw [mk_tb, hm, Bool.and_false])), if_neg Bool.false_ne_true, Nat.max_zero]
    | true =>
      have e9 : nI pre.length * 9 + nI q = nI (9 * pre.length + q) := by
        have : nI pre.length * 9 = 9 * nI pre.length := by grind
        rw [this, show (9 : Int32) = nI 9 from rfl, pk_mul, nI_add]
      have h5 := e105 pre.length (Nat.le_refl _) q hq
      rw [List.take_length] at h5
      have ev : nI pre.length - 1 - (nI pre.length - 1 - nI (rn rc q pre)) = nI (rn rc q pre) := by
        generalize nI pre.length = x
        generalize nI (rn rc q pre) = y
        grind
      rw [if_neg (fun h => by have := (bit0_I (by omega) (by omega)).1 h; rw [mk_tb, hm, decide_eq_true hq] at this; cases this), e9, pI_in_t (by omega) (by decide), pg_t, r7, nI_clamp (by omega), h5, ev, plet, if_pos rfl]
      have h8 := hr q
      by_cases c : mxn (fun q => if ms q = true then rn rc q pre else 0) q < rn rc q pre
      · rw [if_pos (nI_lt c (by omega)), show max (mxn (fun q => if ms q = true then rn rc q pre else 0) q) (rn rc q pre) = rn rc q pre by omega]
      · rw [if_neg (nI_nlt (by omega) (by omega)), show max (mxn (fun q => if ms q = true then rn rc q pre else 0) q) (rn rc q pre) = mxn (fun q => if ms q = true then rn rc q pre else 0) q by omega]
  · intro k
    show f_X9_waitAt_4 F 101 k (nI pre.length) _ (nI 9) μ = _
    unfold f_X9_waitAt_4
    rw [if_pos (show (9 : Int32) ≤ nI 9 by decide)]
theorem stO_le {w : List Nat → Nat} : ∀ (L : List (List Nat)) (b : Nat × List Nat), (L.foldl (stO w) b).1 ≤ b.1
  | [], _ => Nat.le_refl _
  | p :: L, b => by
    have h := stO_le (w := w) L (stO w b p)
    show (L.foldl (stO w) (stO w b p)).1 ≤ b.1
    have : (stO w b p).1 ≤ b.1 := by
      unfold stO
      split
      · rename_i h2; exact Nat.le_of_lt h2
      · exact Nat.le_refl _
    omega
theorem place_x {F n : Nat} {rc : Nat → Nat → Bool} {ms : Nat → Bool} {μ0 : aw_M} (hF : 200 ≤ F) (hn : n ≤ 8) : ∀ (k e : Nat) (pre A : List Nat) (u w : Nat) (b : Nat × List Nat) (μ : aw_M), pre.length + k = n → A.length = k → A.Pairwise (· < ·) → (∀ i, i ∈ A → i < n) → (∀ i, i < n → (u.testBit i = false ↔ i ∈ A)) → u < 512 → w ≤ 8 → max w (wq rc ms pre) = Wt rc ms pre → CO rc ms n μ0 pre b μ → T (h_X9_placeNext F (k + 1 + e) 101 (nI pre.length) (nI u) (nI w) μ) fun μ' => CO rc ms n μ0 pre (((PL k A).map (fun s => pre ++ s)).foldl (stO (Wt rc ms)) b) μ' := by
  have r1 : aw_rf 101 1 = 102 ∧ aw_rf 101 5 = 103 ∧ aw_rf 101 6 = 104 ∧ aw_rf 101 7 = 105 := by simp only [rf0, rf1, rf4, rf5, rf19, rf23, rf28, rf39, rf53, rf67, rf71, rf76, rf88, rf97, rf101, rf109, rf110, rf124, rf128, rf133, rf144, rf156, rf157, rf171, rf175, rf180, rf191, rf51, and_self]
  intro k
  induction k with
  | zero =>
    intro e pre A u w b μ hp hA hs hlt hu hu5 hw hW co
    have hA0 : A = [] := List.eq_nil_of_length_eq_zero hA
    subst hA0
    have hq8 : wq rc ms pre ≤ 8 := (mxn_le 9).2 fun q _ => by
      show (if ms q = true then rn rc q pre else 0) ≤ 8
      have := rn_le rc q pre
      split <;> omega
    show T (h_X9_placeNext F (0 + 1 + e) 101 (nI pre.length) (nI u) (nI w) μ) fun μ' => CO rc ms n μ0 pre (stO (Wt rc ms) b (pre ++ [])) μ'
    rw [show 0 + 1 + e = e + 1 by omega, List.append_nil]
    show T (g_X9_placeNext F (h_X9_placeNext F e) 101 (nI pre.length) (nI u) (nI w) μ) _
    unfold g_X9_placeNext
    rw [waitAt_x (by omega) (by omega) co, Option.bind_some]
    dsimp only
    have ev : (if nI w < nI (wq rc ms pre) then nI (wq rc ms pre) else nI w) = nI (Wt rc ms pre) := by
      rw [← hW]
      by_cases c : w < wq rc ms pre
      · rw [if_pos (nI_lt c (by omega))]; exact congrArg nI (by omega)
      · rw [if_neg (nI_nlt (by omega) (by omega))]; exact congrArg nI (by omega)
    rw [ev, plet]
    obtain ⟨ag, e2, e3, ⟨e4, b8⟩, e5, e6, e7, e8⟩ := co
    have hW8 : Wt rc ms pre ≤ 8 := by rw [← hW]; omega
    rw [e4, e2]
    by_cases c : b.1 ≤ Wt rc ms pre
    · rw [if_pos (nI_le c (by omega)), T_some]
      have : stO (Wt rc ms) b pre = b := by unfold stO; rw [if_neg (by omega)]
      rw [this]
      exact ⟨ag, e2, e3, ⟨e4, b8⟩, e5, e6, e7, e8⟩
    · have es : stO (Wt rc ms) b pre = (Wt rc ms pre, pre) := by unfold stO; rw [if_pos (by omega)]
      rw [es, if_neg (nI_ge (by omega) (by omega)), if_pos (show nI pre.length ≤ 8 from (show nI pre.length ≤ nI 8 from nI_le (by omega) (by decide))), if_neg (nI_nlt (by omega) (by omega)), plet, plet, r1.1, r1.2.1, copyRow_eq (n := 8) (by decide) (by decide) (by decide), Option.bind_some, T_some]
      refine ⟨((ag.wI (decide_eq_false (by omega))).wI (decide_eq_false (by omega))).wA (fun k hk => by rw [show kOr 102 k = false from decide_eq_false (by omega)] at hk; cases hk), ?_, ?_, ⟨?_, hW8⟩, fun c hc => ?_, fun d hd q hq => ?_, fun i hi => ?_, fun _ => ⟨?_, fun i hi => ?_⟩⟩
      · rw [rA_a (by decide), rI_k (by decide), rI_k (by decide)]; exact e2
      · rw [rA_a (by decide), rI_k (by decide), rI_k (by decide)]; exact e3
      · rw [rA_a (by decide), rI_k (by decide), rI_s]
      · rw [rA_a (by decide), rI_a (by decide), rI_a (by decide)]; exact e5 c hc
      · rw [rA_a (by decide), rI_a (by decide), rI_a (by decide)]; exact e6 d hd q hq
      · rw [rA_a (by decide), rI_a (by decide), rI_a (by decide)]; exact e7 i hi
      · rw [rA_a (by decide), rI_s, rI_k (by decide)]; exact e2
      · rw [rA_s, wr0 (by omega), rI_a (by decide), rI_a (by decide)]; exact e7 i (by omega)
  | succ k ih =>
    intro e pre A u w b μ hp hA hs hlt hu hu5 hw hW co
    have hq8 : wq rc ms pre ≤ 8 := (mxn_le 9).2 fun q _ => by
      show (if ms q = true then rn rc q pre else 0) ≤ 8
      have := rn_le rc q pre
      split <;> omega
    rw [show k + 1 + 1 + e = (k + 1 + e) + 1 by omega]
    show T (g_X9_placeNext F (h_X9_placeNext F (k + 1 + e)) 101 (nI pre.length) (nI u) (nI w) μ) _
    unfold g_X9_placeNext
    rw [waitAt_x (by omega) (by omega) co, Option.bind_some]
    dsimp only
    have ev : (if nI w < nI (wq rc ms pre) then nI (wq rc ms pre) else nI w) = nI (Wt rc ms pre) := by
      rw [← hW]
      by_cases c : w < wq rc ms pre
      · rw [if_pos (nI_lt c (by omega))]; exact congrArg nI (by omega)
      · rw [if_neg (nI_nlt (by omega) (by omega))]; exact congrArg nI (by omega)
    rw [ev, plet]
    have hW8 : Wt rc ms pre ≤ 8 := by rw [← hW]; omega
    obtain ⟨e4, b8⟩ := co.2.2.2.1
    rw [e4, co.2.1]
    by_cases c : b.1 ≤ Wt rc ms pre
    · rw [if_pos (nI_le c (by omega)), T_some]
      rw [stO_keep _ fun p hp => by
        obtain ⟨s, -, rfl⟩ := List.mem_map.1 hp
        have := Wt_mono rc ms pre s
        omega]
      exact co
    · rw [if_neg (nI_ge (by omega) (by omega)), if_pos (show nI pre.length ≤ 8 from (show nI pre.length ≤ nI 8 from nI_le (by omega) (by decide))), if_pos (nI_lt (by omega) (by omega))]
      refine T_lp (fun c s => ∃ l r b' μ', s = (nI pre.length, nI u, nI (Wt rc ms pre), nI c, μ') ∧ A = l ++ r ∧ (∀ x, x ∈ l → x < c) ∧ (∀ x, x ∈ r → c ≤ x) ∧ CO rc ms n μ0 pre b' μ' ∧ ((blk (PL k) l r).map (fun s => pre ++ s)).foldl (stO (Wt rc ms)) b' = ((PL (k + 1) A).map (fun s => pre ++ s)).foldl (stO (Wt rc ms)) b) n (by omega) ⟨[], A, b, μ, rfl, rfl, fun x h => absurd h List.not_mem_nil, fun x _ => Nat.zero_le _, co, rfl⟩ ?_ ?_
      · rintro c hc _ ⟨l, r, b', μ', rfl, hlr, hl, hr, co', hf⟩ k2 hk2
        have hk2 : ∀ l r b' μ', A = l ++ r → (∀ x, x ∈ l → x < c + 1) → (∀ x, x ∈ r → c + 1 ≤ x) → CO rc ms n μ0 pre b' μ' → ((blk (PL k) l r).map (fun s => pre ++ s)).foldl (stO (Wt rc ms)) b' = ((PL (k + 1) A).map (fun s => pre ++ s)).foldl (stO (Wt rc ms)) b → T (k2 (nI pre.length, nI u, nI (Wt rc ms pre), nI c + 1, μ')) fun μ' => CO rc ms n μ0 pre (((PL (k + 1) A).map (fun s => pre ++ s)).foldl (stO (Wt rc ms)) b) μ' := fun l r b' μ' h1 h2 h3 h4 h5 => by
          rw [nI_1]
          exact hk2 _ ⟨l, r, b', μ', rfl, h1, h2, h3, h4, h5⟩
        show T (f_X9_placeNext_64 F (h_X9_placeNext F (k + 1 + e)) 101 k2 (nI pre.length) (nI u) (nI (Wt rc ms pre)) (nI c) μ') _
        unfold f_X9_placeNext_64 f_X9_placeNext_117
        rw [co'.2.1, if_neg (nI_ge hc (by omega))]
        cases hb : u.testBit c with
        | true =>
          have hnc : c ∉ A := fun h => by rw [(hu c hc).2 h] at hb; cases hb
          rw [if_neg (fun h => by rw [(bit0_I (by omega) (by omega)).1 h] at hb; cases hb)]
          exact hk2 l r b' μ' hlr (fun x hx => by have := hl x hx; omega) (fun x hx => by
            have h1 := hr x hx
            have : x ≠ c := fun e => hnc (by rw [hlr, ← e]; exact List.mem_append_right _ hx)
            omega) co' hf
        | false =>
          have hcA : c ∈ A := (hu c hc).1 hb
          obtain ⟨r', rfl⟩ : ∃ r', r = c :: r' := by
            rw [hlr] at hcA hs
            rcases List.mem_append.1 hcA with h | h
            · have := hl c h; omega
            · cases r with
              | nil => exact absurd h List.not_mem_nil
              | cons x t =>
                have h1 := hr x List.mem_cons_self
                rcases List.mem_cons.1 h with h2 | h2
                · exact ⟨t, by rw [h2]⟩
                · have := (List.pairwise_cons.1 (List.pairwise_append.1 hs).2.1).1 c h2
                  omega
          rw [hlr] at hs hA
          obtain ⟨s1, s2, s3⟩ := List.pairwise_append.1 hs
          obtain ⟨s4, s5⟩ := List.pairwise_cons.1 s2
          rw [if_pos ((bit0_I (by omega) (by omega)).2 hb), pI_in_t (by omega) (by decide), pg_t, plet, r1.2.1, r1.2.2.1, nI_clamp (by omega), pI_in_t (by omega) (by decide), pg_t, nI_clamp (by omega), rI_a (by decide), co'.2.2.2.2.1 c hc]
          refine T_call (serve_x (by omega) (by omega) (mk_512 _ (by omega))) ?_
          rintro μ3 ⟨g1, g2, g3, g4⟩
          have len1 : (pre ++ [c]).length = pre.length + 1 := by rw [List.length_append]; rfl
          have co3 : CO rc ms n μ0 (pre ++ [c]) b' μ3 := by
            obtain ⟨ag, e2, e3, ⟨e4, b8'⟩, e5, e6, e7, e8⟩ := co'
            refine ⟨fun a j h => ?_, ?_, ?_, ⟨?_, b8'⟩, fun x hx => ?_, fun d hd q hq => ?_, fun i hi => ?_, fun h => ⟨?_, fun i hi => ?_⟩⟩
            · have hh := of_decide_eq_true h
              rw [g1 a (by omega), g2]
              rw [rI_a (by omega), rI_2]
              exact ag a j h
            · rw [g1 _ (by decide), rI_a (by decide)]; exact e2
            · rw [g1 _ (by decide), rI_a (by decide)]; exact e3
            · rw [g1 _ (by decide), rI_a (by decide)]; exact e4
            · rw [g1 _ (by decide), rI_a (by decide)]; exact e5 x hx
            · rw [len1] at hd
              by_cases ed : d = pre.length + 1
              · subst ed
                have h5 := e6 pre.length (Nat.le_refl _) q hq
                rw [List.take_length] at h5
                rw [g4 q hq, mk_tb, decide_eq_true hq, Bool.true_and, rI_a (by decide), h5, List.take_of_length_le (by rw [len1]; exact Nat.le_refl _), rn_s, show nI (pre.length + 1) = nI pre.length + 1 from (nI_add _ 1).symm]
                cases rc c q with
                | true =>
                  rw [if_pos rfl, if_pos rfl]
                  generalize nI pre.length = x
                  have : nI 0 = 0 := rfl
                  rw [this]
                  grind
                | false =>
                  rw [if_neg Bool.false_ne_true, if_neg Bool.false_ne_true, show nI (rn rc q pre + 1) = nI (rn rc q pre) + 1 from (nI_add _ 1).symm]
                  generalize nI pre.length = x
                  generalize nI (rn rc q pre) = y
                  grind
              · rw [g3 _ (by omega), rI_a (by decide), List.take_append_of_le_length (by omega)]
                exact e6 d (by omega) q hq
            · rw [g1 _ (by decide)]
              rw [len1] at hi
              by_cases ei : i = pre.length
              · rw [ei, rI_s, List.getD_eq_getElem?_getD, List.getElem?_append_right (Nat.le_refl _), Nat.sub_self]
                rfl
              · rw [rI_k ei, List.getD_eq_getElem?_getD, List.getElem?_append_left (by omega), ← List.getD_eq_getElem?_getD]
                exact e7 i (by omega)
            · rw [g1 _ (by decide), rI_a (by decide)]; exact (e8 h).1
            · rw [g1 _ (by decide), rI_a (by decide)]; exact (e8 h).2 i hi
          have hA2 : (l ++ r').length = k := by
            simp only [List.length_append, List.length_cons] at hA ⊢
            omega
          have key := ih e (pre ++ [c]) (l ++ r') (u ||| 2 ^ c) (Wt rc ms pre) b' μ3 (by rw [len1]; omega) hA2 (List.pairwise_append.2 ⟨s1, s5, fun a ha b hb => s3 a ha b (List.mem_cons_of_mem _ hb)⟩) (fun i hi => hlt i (by
            rw [hlr]
            rcases List.mem_append.1 hi with h | h
            · exact List.mem_append_left _ h
            · exact List.mem_append_right _ (List.mem_cons_of_mem _ h))) (fun i hi => by
              rw [Nat.testBit_or, Nat.testBit_two_pow, Bool.or_eq_false_iff, hu i hi, hlr, decide_eq_false_iff_not]
              constructor
              · rintro ⟨h1, h2⟩
                rcases List.mem_append.1 h1 with h | h
                · exact List.mem_append_left _ h
                · rcases List.mem_cons.1 h with h | h
                  · exact absurd h.symm h2
                  · exact List.mem_append_right _ h
              · intro h
                rcases List.mem_append.1 h with h | h
                · exact ⟨List.mem_append_left _ h, fun e => by have := hl i h; omega⟩
                · exact ⟨List.mem_append_right _ (List.mem_cons_of_mem _ h), fun e => by have := s4 i h; omega⟩) (Nat.or_lt_two_pow (n := 9) hu5 (Nat.pow_lt_pow_right (by decide) (by omega))) hW8 (Wt_s rc ms pre c).symm co3
          rw [shl_I c (by omega), orN_I, show nI pre.length + 1 = nI (pre ++ [c]).length from by rw [len1]; exact nI_1 _]
          refine T_call key ?_
          intro μ4 co4
          refine hk2 (l ++ [c]) r' (((PL k (l ++ r')).map (fun s => (pre ++ [c]) ++ s)).foldl (stO (Wt rc ms)) b') μ4 (by rw [hlr]; simp) (fun x hx => ?_) (fun x hx => s4 x hx) ?_ ?_
          · rcases List.mem_append.1 hx with h | h
            · have := hl x h; omega
            · have := List.mem_singleton.1 h; omega
          · obtain ⟨ag, e2, e3, e4, e5, e6, e7, e8⟩ := co4
            refine ⟨ag, e2, e3, e4, e5, fun d hd q hq => ?_, fun i hi => ?_, e8⟩
            · have := e6 d (by rw [len1]; omega) q hq
              rw [List.take_append_of_le_length hd] at this
              exact this
            · have := e7 i (by rw [len1]; omega)
              rw [List.getD_eq_getElem?_getD, List.getElem?_append_left hi, ← List.getD_eq_getElem?_getD] at this
              exact this
          · rw [← hf]
            show _ = (((PL k (l ++ r')).map (fun s => c :: s) ++ blk (PL k) (l ++ [c]) r').map (fun s => pre ++ s)).foldl (stO (Wt rc ms)) b'
            rw [List.map_append, List.foldl_append, List.map_map]
            have : ((fun s => pre ++ s) ∘ fun s => c :: s) = fun s => (pre ++ [c]) ++ s := by
              funext s
              simp
            rw [this]
      · rintro _ ⟨l, r, b', μ', rfl, hlr, hl, hr, co', hf⟩ k2
        have hr0 : r = [] := by
          cases r with
          | nil => rfl
          | cons x t =>
            have h1 := hr x List.mem_cons_self
            have h2 := hlt x (by rw [hlr]; exact List.mem_append_right _ List.mem_cons_self)
            omega
        subst hr0
        show T (f_X9_placeNext_64 F (h_X9_placeNext F (k + 1 + e)) 101 k2 (nI pre.length) (nI u) (nI (Wt rc ms pre)) (nI n) μ') _
        unfold f_X9_placeNext_64
        rw [co'.2.1, if_pos (nI_le (Nat.le_refl _) (by omega)), T_some, ← hf]
        exact co'
