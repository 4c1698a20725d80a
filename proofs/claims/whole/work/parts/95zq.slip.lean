/-! sand: sets of quarters as masks -/
def mk (p : Nat → Bool) : Nat → Nat
  | 0 => 0
  | n + 1 => mk p n ||| (if p n = true then 2 ^ n else 0)
theorem mk_tb (p : Nat → Bool) (i : Nat) : ∀ n, (mk p n).testBit i = (decide (i < n) && p i)
  | 0 => by
    show (0 : Nat).testBit i = _
    rw [Nat.zero_testBit, decide_eq_false (Nat.not_lt_zero i), Bool.false_and]
  | n + 1 => by
    show (mk p n ||| (if p n = true then 2 ^ n else 0)).testBit i = _
    rw [Nat.testBit_or, mk_tb p i n]
    by_cases e : i = n
    · subst e
      rw [decide_eq_false (Nat.lt_irrefl i), Bool.false_and, Bool.false_or, decide_eq_true (Nat.lt_succ_self i), Bool.true_and]
      cases h : p i with
      | true => rw [if_pos rfl, Nat.testBit_two_pow]; exact decide_eq_true rfl
      | false => rw [if_neg Bool.false_ne_true, Nat.zero_testBit]
    · have h0 : (if p n = true then 2 ^ n else 0).testBit i = false := by
        split
        · rw [Nat.testBit_two_pow]; exact decide_eq_false (fun h => e h.symm)
        · rw [Nat.zero_testBit]
      rw [h0, Bool.or_false]
      by_cases h : i < n
      · rw [decide_eq_true h, decide_eq_true (show i < n + 1 by omega)]
      · rw [decide_eq_false h, decide_eq_false (show ¬ i < n + 1 by omega)]
theorem mk_lt (p : Nat → Bool) (n : Nat) : mk p n < 2 ^ n := Nat.lt_pow_two_of_testBit _ fun i hi => by rw [mk_tb, decide_eq_false (by omega), Bool.false_and]
theorem mk_512 (p : Nat → Bool) {n : Nat} (h : n ≤ 9) : mk p n < 512 := Nat.lt_of_lt_of_le (mk_lt p n) (Nat.pow_le_pow_right (n := 2) (by decide) h)
theorem mk_ext {p p' : Nat → Bool} {n : Nat} (h : ∀ i, i < n → p i = p' i) : mk p n = mk p' n := Nat.eq_of_testBit_eq fun i => by
  rw [mk_tb, mk_tb]
  by_cases e : i < n
  · rw [h i e]
  · rw [decide_eq_false e, Bool.false_and, Bool.false_and]
def dif (x y : Nat) : Nat := x ^^^ (x &&& y)
theorem dif_tb (x y i : Nat) : (dif x y).testBit i = (x.testBit i && !(y.testBit i)) := by
  unfold dif
  rw [Nat.testBit_xor, Nat.testBit_and]
  cases x.testBit i <;> cases y.testBit i <;> rfl
theorem dif_le (x y : Nat) : dif x y ≤ x := by
  have h : dif x y &&& x = dif x y := Nat.eq_of_testBit_eq fun i => by
    rw [Nat.testBit_and, dif_tb]
    cases x.testBit i <;> cases y.testBit i <;> rfl
  rw [← h]
  exact Nat.and_le_right
theorem dif_0 (x : Nat) : dif x 0 = x := Nat.eq_of_testBit_eq fun i => by rw [dif_tb, Nat.zero_testBit]; cases x.testBit i <;> rfl
theorem dif_mk (p r : Nat → Bool) (n : Nat) : dif (mk p n) (mk r n) = mk (fun i => p i && !(r i)) n := Nat.eq_of_testBit_eq fun i => by
  rw [dif_tb, mk_tb, mk_tb, mk_tb]
  cases decide (i < n) <;> cases p i <;> cases r i <;> rfl
theorem dif_I {x y : Nat} (hx : x < 2 ^ 31) : nI x &&& (nI y ^^^ -1) = nI (dif x y) := by
  apply Int32.toBitVec_inj.1
  rw [Int32.toBitVec_and, Int32.toBitVec_xor]
  refine BitVec.eq_of_getLsbD_eq fun i hi => ?_
  have e1 : ((-1 : Int32).toBitVec).getLsbD i = true := by
    have : ∀ i, i < 32 → ((-1 : Int32).toBitVec).getLsbD i = true := by decide
    exact this i hi
  rw [BitVec.getLsbD_and, BitVec.getLsbD_xor, e1]
  show ((BitVec.ofNat 32 x).getLsbD i && ((BitVec.ofNat 32 y).getLsbD i ^^ true)) = (BitVec.ofNat 32 (dif x y)).getLsbD i
  rw [BitVec.getLsbD_ofNat, BitVec.getLsbD_ofNat, BitVec.getLsbD_ofNat, dif_tb, decide_eq_true hi, Bool.true_and, Bool.true_and, Bool.true_and, Bool.xor_true]
theorem orN_I (x y : Nat) : nI x ||| nI y = nI (x ||| y) := by
  have h : (nI x ||| nI y).toBitVec = (nI (x ||| y)).toBitVec := by
    refine BitVec.eq_of_getLsbD_eq fun i hi => ?_
    rw [Int32.toBitVec_or, BitVec.getLsbD_or]
    show ((BitVec.ofNat 32 x).getLsbD i || (BitVec.ofNat 32 y).getLsbD i) = (BitVec.ofNat 32 (x ||| y)).getLsbD i
    rw [BitVec.getLsbD_ofNat, BitVec.getLsbD_ofNat, BitVec.getLsbD_ofNat, Nat.testBit_or, decide_eq_true hi, Bool.true_and, Bool.true_and, Bool.true_and]
  exact Int32.toBitVec_inj.1 h
theorem shl_I : ∀ q, q < 9 → (1 : Int32) <<< (nI q &&& 31) = nI (2 ^ q) := by decide +kernel
/-- how many are in a mask -/
def pc (m : Nat) : Nat := cnt (fun i => bN (m.testBit i)) 9
theorem cnt_lt2 {f g : Nat → Nat} {i : Nat} : ∀ n, (∀ k, k < n → f k ≤ g k) → i < n → f i < g i → cnt f n < cnt g n
  | 0, _, h, _ => absurd h (Nat.not_lt_zero _)
  | n + 1, h, hi, hl => by
    have hn := h n (by omega)
    show cnt f n + f n < cnt g n + g n
    by_cases e : i = n
    · subst e
      have := cnt_mono (f := f) (g := g) i (fun k hk => h k (by omega))
      omega
    · have := cnt_lt2 n (fun k hk => h k (by omega)) (show i < n by omega) hl
      omega
theorem pc_le (m : Nat) : pc m ≤ 9 := by
  have := cnt_mono (f := fun i => bN (m.testBit i)) (g := fun _ => 1) 9 (fun k _ => bN_le _)
  have e : cnt (fun _ => 1) 9 = 9 := rfl
  unfold pc
  omega
theorem pc_dif {x y : Nat} (hx : x < 512) (h : dif x y ≠ x) : pc (dif x y) < pc x := by
  have hle : ∀ k, bN ((dif x y).testBit k) ≤ bN (x.testBit k) := fun k => by
    rw [dif_tb]
    cases x.testBit k <;> cases y.testBit k <;> decide
  by_cases he : ∃ i, i < 9 ∧ (dif x y).testBit i ≠ x.testBit i
  · obtain ⟨i, hi, hd⟩ := he
    refine cnt_lt2 9 (fun k _ => hle k) hi ?_
    revert hd
    show _ → bN ((dif x y).testBit i) < bN (x.testBit i)
    rw [dif_tb]
    cases x.testBit i <;> cases y.testBit i <;> decide
  · refine absurd (Nat.eq_of_testBit_eq fun i => ?_) h
    by_cases hi : i < 9
    · exact Classical.byContradiction fun hd => he ⟨i, hi, hd⟩
    · rw [dif_tb, Nat.testBit_lt_two_pow (Nat.lt_of_lt_of_le hx (Nat.pow_le_pow_right (n := 2) (by decide) (show 9 ≤ i by omega))), Bool.false_and]
/-- the fewest of the last d cells for a mask, 100 where there are none -/
def fS (D : Nat → Nat) : Nat → Nat → Nat
  | 0, m => if m = 0 then 0 else 100
  | d + 1, m => min (fS D d m) (if D (99 - d) = 0 then 100 else 1 + fS D d (dif m (D (99 - d))))
/-- is the next one taken -/
def tkS (D : Nat → Nat) (d m : Nat) : Bool := decide (D (99 - d) ≠ 0 ∧ 1 + fS D d (dif m (D (99 - d))) ≤ fS D d m)
def lS (D : Nat → Nat) : Nat → Nat → List Nat
  | 0, _ => []
  | d + 1, m => if tkS D d m = true then (99 - d) :: lS D d (dif m (D (99 - d))) else lS D d m
theorem fS_100 (D : Nat → Nat) : ∀ d m, fS D d m ≤ 100
  | 0, m => by unfold fS; split <;> omega
  | d + 1, m => Nat.le_trans (Nat.min_le_left _ _) (fS_100 D d m)
theorem fS_s (D : Nat → Nat) (d m : Nat) : fS D (d + 1) m = if tkS D d m = true then 1 + fS D d (dif m (D (99 - d))) else fS D d m := by
  have h := fS_100 D d m
  show min (fS D d m) (if D (99 - d) = 0 then 100 else 1 + fS D d (dif m (D (99 - d)))) = _
  unfold tkS
  by_cases c : D (99 - d) ≠ 0 ∧ 1 + fS D d (dif m (D (99 - d))) ≤ fS D d m
  · rw [decide_eq_true c, if_neg c.1, if_pos rfl]
    omega
  · rw [decide_eq_false c, if_neg Bool.false_ne_true]
    by_cases c2 : D (99 - d) = 0
    · rw [if_pos c2]; omega
    · rw [if_neg c2]
      have : ¬ 1 + fS D d (dif m (D (99 - d))) ≤ fS D d m := fun q => c ⟨c2, q⟩
      omega
theorem tkS_ne {D : Nat → Nat} {d m : Nat} (h : tkS D d m = true) : dif m (D (99 - d)) ≠ m := fun e => by
  have := (of_decide_eq_true h).2
  rw [e] at this
  omega
theorem fS_pc (D : Nat → Nat) : ∀ d m, m < 512 → fS D d m ≤ pc m ∨ fS D d m = 100
  | 0, m, _ => by
    unfold fS
    split
    · exact .inl (Nat.zero_le _)
    · exact .inr rfl
  | d + 1, m, hm => by
    rw [fS_s]
    by_cases c : tkS D d m = true
    · rw [if_pos c]
      have h1 := pc_dif hm (tkS_ne c)
      have h2 := (of_decide_eq_true c).2
      have h3 := fS_100 D d m
      rcases fS_pc D d (dif m (D (99 - d))) (Nat.lt_of_le_of_lt (dif_le _ _) hm) with h | h
      · exact .inl (by omega)
      · omega
    · rw [if_neg c]
      exact fS_pc D d m hm
theorem lS_len (D : Nat → Nat) : ∀ d m, m < 512 → fS D d m < 100 → (lS D d m).length = fS D d m
  | 0, m, _, h => by
    unfold fS at h ⊢
    by_cases e : m = 0
    · rw [if_pos e]; rfl
    · rw [if_neg e] at h; omega
  | d + 1, m, hm, h => by
    rw [fS_s] at h ⊢
    unfold lS
    by_cases c : tkS D d m = true
    · rw [if_pos c] at h
      rw [if_pos c, if_pos c, List.length_cons, lS_len D d _ (Nat.lt_of_le_of_lt (dif_le _ _) hm) (by omega), Nat.add_comm]
    · rw [if_neg c] at h
      rw [if_neg c, if_neg c]
      exact lS_len D d m hm h
theorem lS_lt (D : Nat → Nat) : ∀ d m x, x ∈ lS D d m → x < 100
  | 0, m, x, h => absurd h List.not_mem_nil
  | d + 1, m, x, h => by
    unfold lS at h
    by_cases c : tkS D d m = true
    · rw [if_pos c] at h
      rcases List.mem_cons.1 h with e | e
      · omega
      · exact lS_lt D d _ x e
    · rw [if_neg c] at h
      exact lS_lt D d m x h
/-- enough cells: each bit lies in one of them -/
theorem fS_cov (D : Nat → Nat) : ∀ d m, m < 512 → (∀ i, m.testBit i = true → ∃ e, e < d ∧ (D (99 - e)).testBit i = true) → fS D d m ≤ pc m
  | 0, m, hm, h => by
    have : m = 0 := Nat.eq_of_testBit_eq fun i => by
      rw [Nat.zero_testBit]
      cases c : m.testBit i with
      | false => rfl
      | true =>
        obtain ⟨e, he, -⟩ := h i c
        exact absurd he (Nat.not_lt_zero _)
    unfold fS
    rw [if_pos this]
    exact Nat.zero_le _
  | d + 1, m, hm, h => by
    show min (fS D d m) (if D (99 - d) = 0 then 100 else 1 + fS D d (dif m (D (99 - d)))) ≤ pc m
    by_cases e : dif m (D (99 - d)) = m
    · refine Nat.le_trans (Nat.min_le_left _ _) (fS_cov D d m hm fun i hi => ?_)
      obtain ⟨x, hx, hb⟩ := h i hi
      by_cases e2 : x = d
      · subst e2
        have : (dif m (D (99 - x))).testBit i = m.testBit i := by rw [e]
        rw [dif_tb, hi, hb] at this
        cases this
      · exact ⟨x, by omega, hb⟩
    · have h0 : D (99 - d) ≠ 0 := fun e0 => e (by rw [e0, dif_0])
      rw [if_neg h0]
      have h1 := pc_dif hm e
      have h2 := fS_cov D d (dif m (D (99 - d))) (Nat.lt_of_le_of_lt (dif_le _ _) hm) fun i hi => by
        rw [dif_tb, Bool.and_eq_true, Bool.not_eq_true'] at hi
        obtain ⟨x, hx, hb⟩ := h i hi.1
        by_cases e2 : x = d
        · subst e2
          rw [hb] at hi
          cases hi.2
        · exact ⟨x, by omega, hb⟩
      omega
/-- only the bits of M count -/
theorem fS_M {D D' : Nat → Nat} {M : Nat} (hD : ∀ a, a < 100 → D' a = D a &&& M) : ∀ d m, m &&& M = m → fS D d m = fS D' d m ∧ lS D d m = lS D' d m
  | 0, m, _ => ⟨rfl, rfl⟩
  | d + 1, m, hm => by
    have ed : dif m (D (99 - d)) = dif m (D' (99 - d)) := Nat.eq_of_testBit_eq fun i => by
      have : (m &&& M).testBit i = m.testBit i := by rw [hm]
      rw [Nat.testBit_and] at this
      rw [dif_tb, dif_tb, hD _ (by omega), Nat.testBit_and]
      revert this
      cases m.testBit i <;> cases M.testBit i <;> cases (D (99 - d)).testBit i <;> decide
    have hs : dif m (D (99 - d)) &&& M = dif m (D (99 - d)) := Nat.eq_of_testBit_eq fun i => by
      have : (m &&& M).testBit i = m.testBit i := by rw [hm]
      rw [Nat.testBit_and] at this
      rw [Nat.testBit_and, dif_tb]
      revert this
      cases m.testBit i <;> cases M.testBit i <;> cases (D (99 - d)).testBit i <;> decide
    obtain ⟨i1, i2⟩ := fS_M hD d m hm
    obtain ⟨j1, j2⟩ := fS_M hD d (dif m (D (99 - d))) hs
    have et : tkS D d m = tkS D' d m := by
      unfold tkS
      rw [i1, j1, ← ed]
      refine decide_eq_decide.2 ⟨fun h => ⟨fun e0 => ?_, h.2⟩, fun h => ⟨fun e0 => ?_, h.2⟩⟩
      · have h2 := h.2
        rw [ed, e0, dif_0] at h2
        omega
      · exact h.1 (by rw [hD _ (by omega), e0, Nat.zero_and])
    rw [fS_s, fS_s]
    unfold lS
    rw [et, i1, i2, j1, j2, ed]
    exact ⟨rfl, rfl⟩
theorem lS_0 (D : Nat → Nat) : ∀ d, fS D d 0 = 0 ∧ lS D d 0 = []
  | 0 => ⟨rfl, rfl⟩
  | d + 1 => by
    obtain ⟨i1, i2⟩ := lS_0 D d
    have et : tkS D d 0 = false := decide_eq_false fun h => by have := h.2; rw [i1] at this; omega
    rw [fS_s]
    unfold lS
    rw [et, if_neg Bool.false_ne_true, if_neg Bool.false_ne_true]
    exact ⟨i1, i2⟩
