/-! orders: the class's start -/
def rcO (C : Nat → Nat → Nat) (c q : Nat) : Bool := decide (q < C 0 2) && decide (dst (C 1 q) (C 6 c) ≤ 3)
def msO (C : Nat → Nat → Nat) (k q : Nat) : Bool := (List.range k).any fun c => rcO C c q
theorem msO_s {C : Nat → Nat → Nat} (k q : Nat) : msO C (k + 1) q = (msO C k q || rcO C k q) := by
  unfold msO
  rw [List.range_succ, List.any_append]
  simp
theorem msO_t {C : Nat → Nat → Nat} {k q : Nat} : msO C k q = true ↔ ∃ c, c < k ∧ rcO C c q = true := by
  unfold msO
  rw [List.any_eq_true]
  constructor
  · rintro ⟨c, h1, h2⟩
    exact ⟨c, List.mem_range.1 h1, h2⟩
  · rintro ⟨c, h1, h2⟩
    exact ⟨c, List.mem_range.2 h1, h2⟩
theorem mk_stop {p : Nat → Bool} {n m : Nat} (h : n ≤ m) (hp : ∀ i, n ≤ i → p i = false) : mk p n = mk p m := Nat.eq_of_testBit_eq fun i => by
  rw [mk_tb, mk_tb]
  by_cases e : i < n
  · rw [decide_eq_true e, decide_eq_true (show i < m by omega)]
  · rw [hp i (by omega), Bool.and_false, Bool.and_false]
def FO (C : Nat → Nat → Nat) (c : Nat) (μ0 μ : aw_M) : Prop :=
  AgK kOr μ0 μ ∧ μ.1 101 2 = nI (C 0 3) ∧ μ.1 101 3 = nI (mk (msO C c) 9) ∧ μ.1 101 4 = nI 8 ∧ (∀ k, k < c → μ.1 104 k = nI (mk (rcO C k) 9)) ∧ ∀ q, q < 9 → μ.1 105 q = -1
theorem FO_104 {C : Nat → Nat → Nat} {c : Nat} {μ0 μ : aw_M} {v : Int32} (h : FO C c μ0 μ) : FO C c μ0 (aw_wI μ 104 c v) := by
  obtain ⟨ag, e2, e3, e4, e5, e6⟩ := h
  refine ⟨ag.wI (decide_eq_false (by omega)), ?_, ?_, ?_, fun k hk => ?_, fun q hq => ?_⟩
  · rw [rI_a (by decide)]; exact e2
  · rw [rI_a (by decide)]; exact e3
  · rw [rI_a (by decide)]; exact e4
  · rw [rI_k (by omega)]; exact e5 k hk
  · rw [rI_a (by decide)]; exact e6 q hq
theorem findOrder_x {F : Nat} {C : Nat → Nat → Nat} {μ0 : aw_M} (hF : 2000 ≤ F) (hwf : qTWF C) (tx : qTX C μ0 5) (gx : ∀ q c, q < C 0 2 → c < C 0 3 → μ0.1 29 (20 * q + c) = nI (dst (C 1 q) (C 6 c))) (h1 : 1 ≤ C 0 3) (h8 : C 0 3 ≤ 8) : T (f_X9_findOrder F 101 5 28 μ0) fun r => AgK kOr μ0 r.2 ∧ r.1 = nI ((PL (C 0 3) (List.range (C 0 3))).foldl (stO (Wt (rcO C) (msO C (C 0 3)))) (8, [])).1 ∧ (((PL (C 0 3) (List.range (C 0 3))).foldl (stO (Wt (rcO C) (msO C (C 0 3)))) (8, [])).1 < 8 → r.2.1 101 0 = nI (C 0 3) ∧ ∀ i, i < C 0 3 → r.2.1 102 i = nI (((PL (C 0 3) (List.range (C 0 3))).foldl (stO (Wt (rcO C) (msO C (C 0 3)))) (8, [])).2.getD i 0)) := by
  have r1 : aw_rf 101 6 = 104 ∧ aw_rf 101 7 = 105 ∧ aw_rf 28 0 = 29 := by simp only [rf0, rf1, rf4, rf5, rf19, rf23, rf28, rf39, rf53, rf67, rf71, rf76, rf88, rf97, rf101, rf109, rf110, rf124, rf128, rf133, rf144, rf156, rf157, rf171, rf175, rf180, rf191, rf51, and_self]
  have n9 := hwf.1.2.2.1
  have eq3 : ∀ {μ}, AgK kOr μ0 μ → μ.1 5 3 = nI (C 0 2) := fun ag => by
    rw [(ag 5 3 (decide_eq_true (by omega))).1]; exact tx.1.2.2.1
  unfold f_X9_findOrder
  rw [tx.1.2.2.2, if_neg (show ¬ nI (C 0 3) < 1 from (show ¬ nI (C 0 3) < nI 1 from nI_nlt h1 (by omega))), if_pos (show nI (C 0 3) ≤ 8 from (show nI (C 0 3) ≤ nI 8 from nI_le h8 (by decide))), plet, plet, plet, r1.2.1, fil_eq (n := 81) (by omega) (by decide) (by decide), Option.bind_some]
  refine T_lp (fun c s => ∃ μ, s = (nI c, μ) ∧ FO C c μ0 μ) (C 0 3) (by omega) ⟨_, rfl, ?_⟩ ?_ ?_
  · refine ⟨((((AgK.rf μ0).wI (decide_eq_false (by omega))).wI (decide_eq_false (by omega))).wI (decide_eq_false (by omega))).wA (fun k hk => by rw [show kOr 105 k = false from decide_eq_false (by omega)] at hk; cases hk), ?_, ?_, ?_, fun k hk => absurd hk (Nat.not_lt_zero _), fun q hq => ?_⟩
    · rw [rA_a (by decide), rI_k (by decide), rI_k (by decide), rI_s]
    · rw [rA_a (by decide), rI_k (by decide), rI_s, show mk (msO C 0) 9 = mk (fun _ => false) 9 from mk_ext fun i _ => rfl]
      decide
    · rw [rA_a (by decide), rI_s]; rfl
    · rw [rA_s]
      unfold fil
      rw [if_pos (by omega)]
  · rintro c hc _ ⟨μ, rfl, fo⟩ k hk
    show T (f_X9_findOrder_48 F 101 5 28 k (nI c) μ) _
    unfold f_X9_findOrder_48
    rw [fo.2.1, if_neg (nI_ge hc (by omega)), pI_in_t (by omega) (by decide), pg_t, plet, r1.1, nI_clamp (by omega)]
    refine T_lp (fun q s => ∃ μ, s = (nI c, nI q, μ) ∧ FO C c μ0 μ ∧ μ.1 104 c = nI (mk (rcO C c) q)) (C 0 2) (by omega) ⟨_, rfl, FO_104 fo, rI_s⟩ ?_ ?_
    · rintro q hq _ ⟨μ1, rfl, fo1, e4⟩ k2 hk2
      show T (f_X9_findOrder_66 F 101 5 28 k2 k (nI c) (nI q) μ1) _
      unfold f_X9_findOrder_66
      have ei : nI q * 20 + nI c = nI (20 * q + c) := by
        have : nI q * 20 = 20 * nI q := by grind
        rw [this]
        simp (disch := omega) only [pI_lit, nI_add, nI_clamp, nI_leI, nI_ltI, nI_eq, pk_mul]
      have hr : rcO C c q = decide (dst (C 1 q) (C 6 c) ≤ 3) := by
        unfold rcO
        rw [decide_eq_true hq, Bool.true_and]
      have hm : mk (rcO C c) (q + 1) = mk (rcO C c) q ||| (if rcO C c q = true then 2 ^ q else 0) := rfl
      have hd := dst_le (a := C 1 q) (b := C 6 c) (by have := (hwf.2.1 q hq).1; have := hwf.1; unfold cellok at *; omega) (by have := (hwf.2.2.2.1 c hc).2.1; have := hwf.1; unfold cellok at *; omega)
      rw [eq3 fo1.1, if_neg (nI_ge hq (by omega)), ei, pI_in_t (by omega) (by decide), pg_t, r1.2.2, r1.1, nI_clamp (by omega), nI_clamp (by omega), (fo1.1 29 _ (decide_eq_true (by omega))).1, gx q c hq hc, pI_in_t (by omega) (by decide), pg_t, pg_t, plet]
      unfold f_X9_findOrder_104
      by_cases hh : dst (C 1 q) (C 6 c) ≤ 3
      · rw [if_neg (show ¬ (3 : Int32) < nI (dst (C 1 q) (C 6 c)) from (show ¬ nI 3 < nI (dst (C 1 q) (C 6 c)) from nI_nlt hh (by omega))), e4, shl_I q (by omega), orN_I, nI_1]
        refine hk2 _ ⟨_, rfl, FO_104 fo1, ?_⟩
        rw [rI_s, hm, if_pos (by rw [hr]; exact decide_eq_true hh)]
      · rw [if_pos (show (3 : Int32) < nI (dst (C 1 q) (C 6 c)) from (show nI 3 < nI (dst (C 1 q) (C 6 c)) from nI_lt (by omega) (by omega))), nI_1]
        refine hk2 _ ⟨_, rfl, fo1, ?_⟩
        rw [e4, hm, if_neg (by rw [hr, decide_eq_true_eq]; exact hh), Nat.or_zero]
    · rintro _ ⟨μ1, rfl, fo1, e4⟩ k2
      show T (f_X9_findOrder_66 F 101 5 28 k2 k (nI c) (nI (C 0 2)) μ1) _
      unfold f_X9_findOrder_66 f_X9_findOrder_110
      rw [eq3 fo1.1, if_pos (nI_le (Nat.le_refl _) (by omega)), pI_in_t (by omega) (by decide), pg_t, plet, r1.1, nI_clamp (by omega), nI_1]
      have em : mk (rcO C c) (C 0 2) = mk (rcO C c) 9 := mk_stop n9 fun i hi => by
        unfold rcO
        rw [decide_eq_false (by omega), Bool.false_and]
      obtain ⟨ag, e2, e3, e4', e5, e6⟩ := fo1
      refine hk _ ⟨_, rfl, ag.wI (decide_eq_false (by omega)), ?_, ?_, ?_, fun k hk => ?_, fun q hq => ?_⟩
      · rw [rI_k (by decide)]; exact e2
      · rw [rI_s, e3, e4, em, orN_I]
        refine congrArg nI (Nat.eq_of_testBit_eq fun i => ?_)
        rw [Nat.testBit_or, mk_tb, mk_tb, mk_tb, msO_s]
        cases decide (i < 9) <;> rfl
      · rw [rI_k (by decide)]; exact e4'
      · rw [rI_a (by decide)]
        by_cases e : k = c
        · rw [e, e4, em]
        · exact e5 k (by omega)
      · rw [rI_a (by decide)]; exact e6 q hq
  · rintro _ ⟨μ, rfl, ag, e2, e3, e4, e5, e6⟩ k
    show T (f_X9_findOrder_48 F 101 5 28 k (nI (C 0 3)) μ) _
    unfold f_X9_findOrder_48 f_X9_findOrder_131 f_X9_placeNext
    rw [e2, if_pos (nI_le (Nat.le_refl _) (by omega))]
    have key := place_x (F := F) (n := C 0 3) (rc := rcO C) (ms := msO C (C 0 3)) (μ0 := μ0) (by omega) h8 (C 0 3) (11 - C 0 3) [] (List.range (C 0 3)) 0 0 (8, []) μ (by show 0 + _ = _; omega) List.length_range List.pairwise_lt_range (fun i hi => List.mem_range.1 hi) (fun i hi => by rw [Nat.zero_testBit]; exact ⟨fun _ => List.mem_range.2 hi, fun _ => rfl⟩) (by decide) (by decide) (by rw [wq_0, Wt_0, wq_0]; rfl) ⟨ag, e2, e3, ⟨e4, Nat.le_refl 8⟩, e5, fun d hd q hq => by
        have : d = 0 := Nat.le_zero.1 hd
        subst this
        rw [show 9 * 0 + q = q by omega, e6 q hq]
        show (-1 : Int32) = nI 0 - 1 - nI 0
        decide, fun i hi => absurd hi (Nat.not_lt_zero _), fun h => absurd h (by decide)⟩
    rw [show C 0 3 + 1 + (11 - C 0 3) = 12 by omega, show (fun s : List Nat => [] ++ s) = id from rfl, List.map_id] at key
    refine T_call key ?_
    rintro μ2 ⟨ag2, -, -, ⟨f4, -⟩, -, -, -, f8⟩
    rw [T_some]
    exact ⟨ag2, f4, f8⟩
theorem Gon_hd {a z : List Nat} : ∀ {L : List (List Nat)}, Gon a z L → ∃ L', L = a :: L'
  | [], h => h.elim
  | x :: L, h => ⟨L, by rw [h.1]⟩
def fct : Nat → Nat
  | 0 => 1
  | n + 1 => (n + 1) * fct n
theorem fct_8 : ∀ n, n ≤ 8 → fct n ≤ 40320 := by decide
theorem blk_p {f : List Nat → List (List Nat)} {n K : Nat} {P : List Nat → List Nat → Prop} (hf : ∀ B : List Nat, B.length = n → (f B).length = K ∧ ∀ p, p ∈ f B → ∀ x, x ∈ p → x ∈ B) : ∀ (r l : List Nat), (l ++ r).length = n + 1 → (blk f l r).length = r.length * K ∧ ∀ p, p ∈ blk f l r → ∀ x, x ∈ p → x ∈ l ++ r
  | [], l, _ => ⟨by show 0 = 0 * K; omega, fun p h => absurd h List.not_mem_nil⟩
  | c :: r, l, h => by
    obtain ⟨a1, a2⟩ := hf (l ++ r) (by simp only [List.length_append, List.length_cons] at h ⊢; omega)
    obtain ⟨b1, b2⟩ := blk_p (P := P) hf r (l ++ [c]) (by simp only [List.length_append, List.length_cons, List.length_nil] at h ⊢; omega)
    refine ⟨?_, fun p hp x hx => ?_⟩
    · show ((f (l ++ r)).map (fun s => c :: s) ++ blk f (l ++ [c]) r).length = (r.length + 1) * K
      rw [List.length_append, List.length_map, a1, b1, Nat.add_mul]
      omega
    · have hp : p ∈ (f (l ++ r)).map (fun s => c :: s) ++ blk f (l ++ [c]) r := hp
      rcases List.mem_append.1 hp with h1 | h1
      · obtain ⟨s, hs, rfl⟩ := List.mem_map.1 h1
        rcases List.mem_cons.1 hx with h2 | h2
        · rw [h2]
          exact List.mem_append_right _ List.mem_cons_self
        · rcases List.mem_append.1 (a2 s hs x h2) with h3 | h3
          · exact List.mem_append_left _ h3
          · exact List.mem_append_right _ (List.mem_cons_of_mem _ h3)
      · have := b2 p h1 x hx
        rw [List.append_assoc] at this
        exact this
theorem PL_p : ∀ (n : Nat) (A : List Nat), A.length = n → (PL n A).length = fct n ∧ ∀ p, p ∈ PL n A → ∀ x, x ∈ p → x ∈ A
  | 0, A, h => ⟨rfl, fun p hp x hx => by
    have : p = [] := List.mem_singleton.1 hp
    rw [this] at hx
    exact absurd hx List.not_mem_nil⟩
  | n + 1, A, h => by
    obtain ⟨b1, b2⟩ := blk_p (P := fun _ _ => True) (PL_p n) A [] h
    refine ⟨?_, b2⟩
    show (blk (PL n) [] A).length = (n + 1) * fct n
    rw [b1, h]
/-- the first order tells: from 8 as from more -/
theorem fold_first {w : List Nat → Nat} {a z : List Nat} {L : List (List Nat)} (hg : Gon a z L) (b b' : Nat × List Nat) (h : w a < b.1) (h' : w a < b'.1) : L.foldl (stO w) b = L.foldl (stO w) b' := by
  obtain ⟨L', rfl⟩ := Gon_hd hg
  have e : ∀ b : Nat × List Nat, w a < b.1 → stO w b a = (w a, a) := fun b h => by unfold stO; rw [if_pos h]
  show L'.foldl (stO w) (stO w b a) = L'.foldl (stO w) (stO w b' a)
  rw [e b h, e b' h']
theorem WtO_lt {C : Nat → Nat → Nat} {n : Nat} (h1 : 1 ≤ n) : Wt (rcO C) (msO C n) (List.range n) < n := by
  have : Wt (rcO C) (msO C n) (List.range n) ≤ n - 1 := Wt_le.2 fun k q hk _ hm => by
    rw [List.length_range] at hk
    have hl := rn_le (rcO C) q ((List.range n).take k)
    rw [List.length_take, List.length_range] at hl
    by_cases e : k = n
    · obtain ⟨c, c1, c2⟩ := msO_t.1 hm
      have := foldl_rn_lt (rcO C) q c c2 (List.range n) 0 (List.mem_range.2 c1)
      rw [List.length_range] at this
      rw [e, List.take_of_length_le (by rw [List.length_range]; exact Nat.le_refl _)]
      show rn (rcO C) q (List.range n) ≤ n - 1
      unfold rn
      omega
    · omega
  omega
