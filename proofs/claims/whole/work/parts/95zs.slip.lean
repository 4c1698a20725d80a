/-! sand: cells packed into a long; the class's table -/
def pkN : List Nat → Nat
  | [] => 0
  | c :: l => pkN l ||| c * 2 ^ (7 * l.length)
theorem pkN_lt : ∀ l : List Nat, (∀ x, x ∈ l → x < 128) → pkN l < 2 ^ (7 * l.length)
  | [], _ => by decide
  | c :: l, h => by
    have h1 := pkN_lt l fun x hx => h x (List.mem_cons_of_mem _ hx)
    have hc := h c List.mem_cons_self
    show pkN l ||| c * 2 ^ (7 * l.length) < 2 ^ (7 * (l.length + 1))
    have e : 7 * (l.length + 1) = 7 + 7 * l.length := by omega
    refine Nat.or_lt_two_pow (Nat.lt_of_lt_of_le h1 (Nat.pow_le_pow_right (by decide) (by omega))) ?_
    rw [e, Nat.pow_add]
    exact Nat.mul_lt_mul_of_pos_right hc (Nat.two_pow_pos _)
theorem pkN_tb : ∀ (l : List Nat) (i j : Nat), (∀ x, x ∈ l → x < 128) → i < l.length → j < 7 → (pkN l).testBit (7 * (l.length - 1 - i) + j) = (l.getD i 0).testBit j
  | [], i, _, _, h, _ => absurd h (Nat.not_lt_zero i)
  | c :: l, 0, j, h, _, hj => by
    have h1 := pkN_lt l fun x hx => h x (List.mem_cons_of_mem _ hx)
    show (pkN l ||| c * 2 ^ (7 * l.length)).testBit (7 * (l.length + 1 - 1 - 0) + j) = c.testBit j
    rw [Nat.testBit_or, Nat.testBit_mul_two_pow, show 7 * (l.length + 1 - 1 - 0) + j = 7 * l.length + j by omega, Nat.testBit_lt_two_pow (Nat.lt_of_lt_of_le h1 (Nat.pow_le_pow_right (n := 2) (by decide) (show 7 * l.length ≤ 7 * l.length + j by omega))), Bool.false_or, Nat.add_sub_cancel_left]
    simp
  | c :: l, i + 1, j, h, hi, hj => by
    have hi : i < l.length := Nat.lt_of_succ_lt_succ hi
    have ih := pkN_tb l i j (fun x hx => h x (List.mem_cons_of_mem _ hx)) hi hj
    show (pkN l ||| c * 2 ^ (7 * l.length)).testBit (7 * (l.length + 1 - 1 - (i + 1)) + j) = (l.getD i 0).testBit j
    rw [show 7 * (l.length + 1 - 1 - (i + 1)) + j = 7 * (l.length - 1 - i) + j by omega, Nat.testBit_or, ih, Nat.testBit_mul_two_pow]
    have : ¬ 7 * l.length ≤ 7 * (l.length - 1 - i) + j := by omega
    simp [this]
theorem pkN_get {l : List Nat} {i : Nat} (h : ∀ x, x ∈ l → x < 128) (hi : i < l.length) (hl : l.length ≤ 9) : (Int64.ofNat (pkN l) >>> Int64.ofNat (7 * (l.length - 1 - i))).toInt32 &&& 127 = nI (l.getD i 0) := by
  have hs : 7 * (l.length - 1 - i) ≤ 56 := by omega
  have key := fun j (hj : j < 7) => pkN_tb l i j h hi hj
  have hx : l.getD i 0 < 128 := by
    rw [List.getD_eq_getElem?_getD, List.getElem?_eq_getElem hi]
    exact h _ (List.getElem_mem hi)
  generalize 7 * (l.length - 1 - i) = s at hs key
  have h2 : ((Int64.ofNat s).toBitVec.smod 64).toNat = s := by
    have : ∀ s, s < 57 → ((Int64.ofNat s).toBitVec.smod 64).toNat = s := by decide
    exact this s (by omega)
  apply Int32.toBitVec_inj.1
  rw [Int32.toBitVec_and]
  show ((BitVec.ofNat 64 (pkN l)).sshiftRight ((Int64.ofNat s).toBitVec.smod 64).toNat).signExtend 32 &&& 127#32 = BitVec.ofNat 32 (l.getD i 0)
  rw [h2]
  refine BitVec.eq_of_getLsbD_eq fun j hj => ?_
  rw [BitVec.getLsbD_and, BitVec.getLsbD_signExtend, BitVec.getLsbD_sshiftRight]
  by_cases h7 : j < 7
  · have e127 : (127#32).getLsbD j = true := by
      have : ∀ j, j < 7 → (127#32).getLsbD j = true := by decide
      exact this j h7
    rw [e127, BitVec.getLsbD_ofNat, BitVec.getLsbD_ofNat, key j h7]
    have : j < 64 := by omega
    have : s + j < 64 := by omega
    have : ¬ 64 ≤ j := by omega
    simp [*]
  · have e127 : (127#32).getLsbD j = false := by
      have : ∀ j, j < 32 → 7 ≤ j → (127#32).getLsbD j = false := by decide
      exact this j hj (by omega)
    rw [e127, BitVec.getLsbD_ofNat, BitVec.getLsbD_ofNat, Bool.and_false, Nat.testBit_lt_two_pow (Nat.lt_of_lt_of_le hx (Nat.pow_le_pow_right (n := 2) (by decide) (show 7 ≤ j by omega))), Bool.and_false]
theorem shl_7 : ∀ n, n < 9 → ∀ c, c < 100 → (nI c).toInt64 <<< (((7 * nI n) : Int32).toInt64 &&& 63) = Int64.ofNat (c * 2 ^ (7 * n)) := by decide +kernel
theorem orL_I (x y : Nat) : Int64.ofNat x ||| Int64.ofNat y = Int64.ofNat (x ||| y) := by
  have h : (Int64.ofNat x ||| Int64.ofNat y).toBitVec = (Int64.ofNat (x ||| y)).toBitVec := by
    refine BitVec.eq_of_getLsbD_eq fun i hi => ?_
    rw [Int64.toBitVec_or, BitVec.getLsbD_or]
    show ((BitVec.ofNat 64 x).getLsbD i || (BitVec.ofNat 64 y).getLsbD i) = (BitVec.ofNat 64 (x ||| y)).getLsbD i
    rw [BitVec.getLsbD_ofNat, BitVec.getLsbD_ofNat, BitVec.getLsbD_ofNat, Nat.testBit_or, decide_eq_true hi, Bool.true_and, Bool.true_and, Bool.true_and]
  exact Int64.toBitVec_inj.1 h
theorem lS_s (D : Nat → Nat) (d m : Nat) : lS D (d + 1) m = if tkS D d m = true then (99 - d) :: lS D d (dif m (D (99 - d))) else lS D d m := rfl
def cl10 (f : Nat) : Nat := if f = 100 then 10 else f
def DPs (D : Nat → Nat) (d m : Nat) (μ : aw_M) : Prop := μ.1 107 m = nI (cl10 (fS D d m)) ∧ (fS D d m < 100 → μ.2 108 m = Int64.ofNat (pkN (lS D d m)))
def kLy (a _k : Nat) : Bool := decide (a ≠ 107 ∧ a ≠ 108)
theorem layOn_x {F d M : Nat} {D : Nat → Nat} {μ : aw_M} (hF : 1000 ≤ F) (hM : M < 512) (hd : d < 100) (e106 : μ.1 106 (99 - d) = nI (D (99 - d))) (h0 : D (99 - d) ≠ 0) (lv : ∀ m, m ≤ M → DPs D d m μ) : T (f_X9_layOn F 101 (nI (99 - d)) (nI M) μ) fun μ' => AgK kLy μ μ' ∧ ∀ m, m ≤ M → DPs D (d + 1) m μ' := by
  have rr : aw_rf 101 10 = 106 ∧ aw_rf 101 11 = 107 ∧ aw_rf 101 12 = 108 := by simp only [rf0, rf1, rf4, rf5, rf19, rf23, rf28, rf39, rf53, rf67, rf71, rf76, rf88, rf97, rf101, rf109, rf110, rf124, rf128, rf133, rf144, rf156, rf157, rf171, rf175, rf180, rf191, rf51, and_self]
  unfold f_X9_layOn
  refine T_lp (fun i s => ∃ μ', s = (nI (99 - d), nI (M - i), μ') ∧ AgK kLy μ μ' ∧ (∀ m, M - i < m → m ≤ M → DPs D (d + 1) m μ') ∧ (∀ m, m ≤ M - i → DPs D d m μ')) M (by omega) ⟨μ, rfl, AgK.rf μ, fun m h1 h2 => by omega, fun m hm => lv m (by omega)⟩ ?_ ?_
  · rintro i hi _ ⟨μ', rfl, ag, n1, n2⟩ k hk
    obtain ⟨m, em⟩ : ∃ m, M - i = m + 1 := ⟨M - i - 1, by omega⟩
    rw [em] at n1 n2 ⊢
    have em2 : M - (i + 1) = m := by omega
    have e106' : μ'.1 106 (99 - d) = nI (D (99 - d)) := by rw [ag.a (a := 106) fun k => decide_eq_true (by omega)]; exact e106
    have step : ∀ μ2, AgK kLy μ μ2 → DPs D (d + 1) (m + 1) μ2 → (∀ j, j ≠ m + 1 → μ2.1 107 j = μ'.1 107 j ∧ μ2.2 108 j = μ'.2 108 j) → T (k (nI (99 - d), nI (m + 1) + -1, μ2)) fun μ' => AgK kLy μ μ' ∧ ∀ m, m ≤ M → DPs D (d + 1) m μ' := fun μ2 a1 a2 a3 => by
      have : nI (m + 1) + -1 = nI (M - (i + 1)) := by
        rw [em2, ← nI_1]
        grind
      rw [this]
      refine hk _ ⟨μ2, rfl, a1, fun j h1 h2 => ?_, fun j hj => ?_⟩
      · rw [em2] at h1
        by_cases e : j = m + 1
        · rw [e]; exact a2
        · have := n1 j (by omega) h2
          unfold DPs at this ⊢
          rw [(a3 j e).1, (a3 j e).2]
          exact this
      · rw [em2] at hj
        have := n2 j (by omega)
        unfold DPs at this ⊢
        rw [(a3 j (by omega)).1, (a3 j (by omega)).2]
        exact this
    have hv := dif_le (m + 1) (D (99 - d))
    obtain ⟨c1, c2⟩ := n2 (m + 1) (Nat.le_refl _)
    obtain ⟨v1, v2⟩ := n2 (dif (m + 1) (D (99 - d))) hv
    have hm512 : m + 1 < 512 := by omega
    have pf := fS_pc D d (m + 1) hm512
    have pg := fS_pc D d (dif (m + 1) (D (99 - d))) (by omega)
    have p9 := pc_le (m + 1)
    show T (f_X9_layOn_2 F 101 k (nI (99 - d)) (nI (m + 1)) μ') _
    unfold f_X9_layOn_2 f_X9_layOn_84
    rw [if_neg (show ¬ nI (m + 1) ≤ 0 from (show ¬ nI (m + 1) ≤ nI 0 from nI_ge (by omega) (by omega))), pI_in_t (by omega) (by decide), pg_t, rr.1, nI_clamp (by omega), e106', dif_I (by omega), plet]
    by_cases ev : dif (m + 1) (D (99 - d)) = m + 1
    · rw [if_pos (by rw [ev])]
      refine step μ' ag ?_ (fun j _ => ⟨rfl, rfl⟩)
      have et : tkS D d (m + 1) = false := decide_eq_false fun h => by have := h.2; rw [ev] at this; omega
      unfold DPs lS
      rw [fS_s, et, if_neg Bool.false_ne_true, if_neg Bool.false_ne_true]
      exact ⟨c1, c2⟩
    · have pl := pc_dif hm512 ev
      rw [if_neg (fun h => ev ((nI_eq (by omega) (by omega)).1 h)), pI_in_t (by omega) (by decide), pg_t, pI_in_t (by omega) (by decide), pg_t, rr.2.1, rr.2.2, nI_clamp (by omega), nI_clamp (by omega), c1, v1]
      have hadd : nI (cl10 (fS D d (dif (m + 1) (D (99 - d))))) + 1 = nI (cl10 (fS D d (dif (m + 1) (D (99 - d)))) + 1) := nI_add _ 1
      rw [hadd]
      have clf : cl10 (fS D d (m + 1)) ≤ 10 := by unfold cl10; split <;> omega
      have clg : cl10 (fS D d (dif (m + 1) (D (99 - d)))) ≤ 10 := by unfold cl10; split <;> omega
      by_cases ct : tkS D d (m + 1) = true
      · have ht := (of_decide_eq_true ct).2
        have hg : fS D d (dif (m + 1) (D (99 - d))) ≤ 8 := by
          rcases pg with h | h
          · omega
          · have := fS_100 D d (m + 1); omega
        have ecg : cl10 (fS D d (dif (m + 1) (D (99 - d)))) = fS D d (dif (m + 1) (D (99 - d))) := if_neg (by omega)
        have hge : fS D d (dif (m + 1) (D (99 - d))) + 1 ≤ cl10 (fS D d (m + 1)) := by unfold cl10; split <;> omega
        rw [ecg] at v1 ⊢
        rw [if_neg (nI_nlt hge (by omega)), pg_t, pg_t, plet, pg_t, pg_t, pg_t, plet]
        refine step _ ((ag.wI (decide_eq_false (by omega))).wL (decide_eq_false (by omega))) ?_ (fun j hj => ⟨?_, ?_⟩)
        · have hlen := lS_len D d (dif (m + 1) (D (99 - d))) (by omega) (by omega)
          refine ⟨?_, fun _ => ?_⟩
          · show (aw_wI μ' 107 (m + 1) _).1 107 (m + 1) = _
            rw [rI_s, fS_s, if_pos ct, Nat.add_comm]
            exact congrArg nI (if_neg (by omega)).symm
          · rw [rL_s, rI_2, v2 (by omega), rI_k (by omega), v1, shl_7 _ (by omega) _ (by omega), orL_I]
            rw [lS_s, if_pos ct]
            show _ = Int64.ofNat (pkN (lS D d (dif (m + 1) (D (99 - d)))) ||| (99 - d) * 2 ^ (7 * (lS D d (dif (m + 1) (D (99 - d)))).length))
            rw [hlen]
        · show (aw_wI μ' 107 (m + 1) _).1 107 j = _
          rw [rI_k hj]
        · rw [rL_k hj, rI_2]
      · have ht : ¬ 1 + fS D d (dif (m + 1) (D (99 - d))) ≤ fS D d (m + 1) := fun h => ct (decide_eq_true ⟨h0, h⟩)
        have hlt : cl10 (fS D d (m + 1)) < cl10 (fS D d (dif (m + 1) (D (99 - d)))) + 1 := by
          unfold cl10
          have := fS_100 D d (m + 1)
          have := fS_100 D d (dif (m + 1) (D (99 - d)))
          split <;> split <;> omega
        rw [if_pos (nI_lt hlt (by omega))]
        refine step μ' ag ?_ (fun j _ => ⟨rfl, rfl⟩)
        unfold DPs lS
        rw [fS_s, if_neg ct, if_neg ct]
        exact ⟨c1, c2⟩
  · rintro _ ⟨μ', rfl, ag, n1, n2⟩ k
    rw [Nat.sub_self] at n1 n2 ⊢
    show T (f_X9_layOn_2 F 101 k (nI (99 - d)) (nI 0) μ') _
    unfold f_X9_layOn_2
    rw [if_pos (show nI 0 ≤ 0 by decide), T_some]
    refine ⟨ag, fun m hm => ?_⟩
    by_cases e : m = 0
    · subst e
      have := n2 0 (Nat.le_refl _)
      unfold DPs at this ⊢
      rw [(lS_0 D d).1, (lS_0 D d).2] at this
      rw [(lS_0 D (d + 1)).1, (lS_0 D (d + 1)).2]
      exact this
    · exact n1 m (by omega) hm
