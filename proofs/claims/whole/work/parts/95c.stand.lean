/-! where to stand -/
def bitN (s q : Nat) : Nat := s / 2 ^ q % 2
theorem bitN_lt (s q : Nat) : bitN s q < 2 := Nat.mod_lt _ (by decide)
theorem sh31 : ∀ q, q < 32 → ((nI q &&& 31).toBitVec.smod 32).toNat = q := by decide
theorem bit_I {s q : Nat} (hs : s < 2 ^ 31) (hq : q < 32) : (nI s >>> (nI q &&& 31)) &&& 1 = nI (bitN s q) := by
  have h : s / 2 ^ q < 2 ^ 32 := Nat.lt_of_le_of_lt (Nat.div_le_self _ _) (by omega)
  rw [pk_shrN hs _ q (sh31 q hq), pk_andN h 1 (by decide)]
  rfl
theorem bit_tb (s q : Nat) : s.testBit q = true ↔ bitN s q = 1 := by
  unfold bitN
  rw [Nat.testBit_eq_decide_div_mod_eq]
  exact decide_eq_true_iff
/-- who has a spot, as bits -/
def spM (T : Nat → Nat → Nat) : Nat → Nat
  | 0 => 0
  | q + 1 => if T 4 q = 0 then spM T q else spM T q ||| 2 ^ q
theorem spM_tb (T : Nat → Nat → Nat) (i : Nat) : ∀ n, (spM T n).testBit i = decide (i < n ∧ T 4 i ≠ 0)
  | 0 => by
    show Nat.testBit 0 i = _
    rw [Nat.zero_testBit, decide_eq_false (fun h => Nat.not_lt_zero _ h.1)]
  | n + 1 => by
    show (if T 4 n = 0 then spM T n else spM T n ||| 2 ^ n).testBit i = _
    by_cases k : T 4 n = 0
    · rw [if_pos k, spM_tb T i n]
      by_cases e : i = n
      · subst e
        rw [decide_eq_false (fun h => Nat.lt_irrefl _ h.1), decide_eq_false (fun h => h.2 k)]
      · by_cases h : i < n ∧ T 4 i ≠ 0
        · rw [decide_eq_true h, decide_eq_true ⟨by omega, h.2⟩]
        · rw [decide_eq_false h, decide_eq_false (fun h2 => h ⟨by omega, h2.2⟩)]
    · rw [if_neg k, Nat.testBit_or, spM_tb T i n, Nat.testBit_two_pow]
      by_cases e : i = n
      · subst e
        rw [decide_eq_true (rfl : i = i), Bool.or_true, decide_eq_true ⟨Nat.lt_succ_self _, k⟩]
      · rw [decide_eq_false (show ¬ n = i from fun h => e h.symm), Bool.or_false]
        by_cases h : i < n ∧ T 4 i ≠ 0
        · rw [decide_eq_true h, decide_eq_true ⟨by omega, h.2⟩]
        · rw [decide_eq_false h, decide_eq_false (fun h2 => h ⟨by omega, h2.2⟩)]
theorem spM_lt (T : Nat → Nat → Nat) : ∀ n, spM T n < 2 ^ n
  | 0 => by show 0 < 1; decide
  | n + 1 => by
    have h := spM_lt T n
    have h2 : 2 ^ n < 2 ^ (n + 1) := Nat.pow_lt_pow_right (by decide) (Nat.lt_succ_self _)
    show (if T 4 n = 0 then spM T n else spM T n ||| 2 ^ n) < 2 ^ (n + 1)
    split
    · omega
    · exact Nat.or_lt_two_pow (by omega) h2
theorem or_I : ∀ q, q < 9 → ∀ a, a < 512 → nI a ||| (1 <<< (nI q &&& 31)) = nI (a ||| 2 ^ q) := by decide +kernel
theorem or_0 (x : Int32) : x ||| 0 = x := by
  apply Int32.toBitVec_inj.1
  show x.toBitVec ||| 0#32 = x.toBitVec
  exact BitVec.or_zero
theorem spotters_m {F : Nat} {C P : Nat → Nat → Nat} {μ : aw_M} (hF : 100 ≤ F) (hc : ctx C P μ) : f_X11_spotters F 203 μ = some (nI (spM C (C 0 2)), μ) := by
  have hnq := hc.1.1.2.2.1
  have tm := hc.2.1.2.2.1
  have i2 : aw_in 2 1155 = true := by decide
  have c2 : (2 : Int32).toNatClampNeg = 2 := by decide
  unfold f_X11_spotters
  refine lp_u (fun q => (nI (spM C q), nI q, μ)) (C 0 2) rfl ?_ ?_ (by omega)
  · intro q hq k
    have t4 := tm.2.2.2.2.1 q (by omega)
    have hm := spM_lt C q
    have h512 : spM C q < 512 := Nat.lt_of_lt_of_le hm (Nat.pow_le_pow_right (n := 2) (by decide) (show q ≤ 9 by omega))
    have h4 : C 4 q ≤ 100 := by
      rcases (hc.1.2.1 q hq).2.2.2.2 with h | h
      · omega
      · have := hc.2.1.cell h
        omega
    show f_X11_spotters_4 F 203 k (nI (spM C q)) (nI q) μ = k (nI (if C 4 q = 0 then spM C q else spM C q ||| 2 ^ q), nI (q + 1), μ)
    unfold f_X11_spotters_4 f_X11_spotters_34
    rw [i2, pg_t, c2, rf203.2.1, tm.1.2.2.1, if_neg (nI_ge hq (by omega)), show (38 : Int32) + nI q = nI (38 + q) from nI_add 38 q, pI_in_t (by omega) (by decide), pg_t, nI_clamp (by omega), t4, nI_1, plet, plet]
    by_cases k0 : C 4 q = 0
    · rw [if_pos (by rw [k0]; decide), if_pos k0, or_0]
    · rw [if_neg (nI_nle (by omega) (by omega)), if_neg k0, or_I q (by omega) _ h512]
  · intro k
    show f_X11_spotters_4 F 203 k (nI (spM C (C 0 2))) (nI (C 0 2)) μ = _
    unfold f_X11_spotters_4
    rw [i2, pg_t, c2, rf203.2.1, tm.1.2.2.1, if_pos (nI_le (Nat.le_refl _) (by omega))]
theorem sub_I {s m : Nat} (hs : s < 2 ^ 31) : ((nI s &&& (nI m ^^^ (-1))) = 0) ↔ ∀ i, i < 32 → s.testBit i = true → m.testBit i = true := by
  have hb : ∀ i, i < 32 → (nI s &&& (nI m ^^^ (-1))).toBitVec.getLsbD i = (s.testBit i && !m.testBit i) := fun i hi => by
    have h1 : (nI s &&& (nI m ^^^ (-1))).toBitVec = BitVec.ofNat 32 s &&& (BitVec.ofNat 32 m ^^^ BitVec.allOnes 32) := rfl
    rw [h1, BitVec.getLsbD_and, BitVec.getLsbD_xor, BitVec.getLsbD_ofNat, BitVec.getLsbD_ofNat, BitVec.getLsbD_allOnes, decide_eq_true hi]
    simp
  constructor
  · intro h i hi hsi
    have := hb i hi
    rw [h, hsi] at this
    have h0 : (0 : Int32).toBitVec.getLsbD i = false := BitVec.getLsbD_zero
    rw [h0] at this
    cases hm : m.testBit i with
    | true => rfl
    | false => rw [hm] at this; cases this
  · intro h
    apply Int32.toBitVec_inj.1
    apply BitVec.eq_of_getLsbD_eq
    intro i hi
    rw [hb i hi]
    have h0 : (0 : Int32).toBitVec.getLsbD i = false := BitVec.getLsbD_zero
    rw [h0]
    cases hsi : s.testBit i with
    | false => rfl
    | true => rw [h i hi hsi]; rfl
/-- all that stand at a spot have one -/
def spOK (C : Nat → Nat → Nat) (s : Nat) : Prop := ∀ i, bitN s i = 1 → i < C 0 2 ∧ C 4 i ≠ 0
theorem spOK_m {C : Nat → Nat → Nat} {s : Nat} (hs : s < 2 ^ 31) : ((nI s &&& (nI (spM C (C 0 2)) ^^^ (-1))) = 0) ↔ spOK C s := by
  rw [sub_I hs]
  constructor
  · intro h i hi
    have h1 := (bit_tb s i).2 hi
    by_cases h32 : i < 32
    · have h2 := h i h32 h1
      rw [spM_tb] at h2
      exact of_decide_eq_true h2
    · have : s < 2 ^ i := Nat.lt_of_lt_of_le hs (Nat.pow_le_pow_right (n := 2) (by decide) (by omega))
      rw [Nat.testBit_lt_two_pow this] at h1
      cases h1
  · intro h i _ hi
    rw [spM_tb]
    exact decide_eq_true (h i ((bit_tb s i).1 hi))
theorem spOK_lt {C : Nat → Nat → Nat} {s : Nat} (h : spOK C s) : s < 2 ^ C 0 2 := by
  refine Nat.lt_pow_two_of_testBit s fun i hi => ?_
  cases hb : s.testBit i with
  | false => rfl
  | true =>
    have := (h i ((bit_tb s i).1 hb)).1
    omega
def pfS (s : Nat) (q : Nat) : Nat := 9 * bitN s q + q
/-- the town with some at their spots -/
def spT (C : Nat → Nat → Nat) (s : Nat) : Nat → Nat → Nat := fun f i => if f = 1 then (if bitN s i = 1 then C 4 i - 1 else C 1 i) else C f i
theorem spT_ne {C : Nat → Nat → Nat} {s f : Nat} (h : f ≠ 1) : spT C s f = C f := by
  funext i
  exact if_neg h
theorem spT_1 {C : Nat → Nat → Nat} {s q : Nat} (h : spOK C s) (hn : C 0 2 ≤ 9) (hq : q < C 0 2) : spT C s 1 q = pl C (pfS s q) := by
  show (if bitN s q = 1 then C 4 q - 1 else C 1 q) = pl C (9 * bitN s q + q)
  have hb := bitN_lt s q
  by_cases k : bitN s q = 1
  · have e : 9 * bitN s q + q - 9 = q := by omega
    rw [if_pos k]
    unfold pl
    rw [if_neg (by omega), e, if_neg (h q k).2]
  · have e : 9 * bitN s q + q = q := by omega
    rw [if_neg k, e]
    unfold pl
    rw [if_pos (by omega)]
theorem spT_0 {C : Nat → Nat → Nat} {s : Nat} (hw : qT0 C) (h : spOK C s) : qT0 (spT C s) := by
  obtain ⟨h1, h2, h3, h4, h5, -, h7⟩ := hw
  have e0 : spT C s 0 = C 0 := spT_ne (by decide)
  have hce : ∀ a, cellok (spT C s) a ↔ cellok C a := fun a => by
    unfold cellok
    rw [e0]
  refine ⟨by rw [e0]; exact h1, fun q hq => ?_, fun q hq => ?_, fun c hc => ?_, fun f hf hf2 => ?_, trivial, fun i => ?_⟩
  · rw [e0] at hq
    rw [hce, hce, spT_ne (f := 2) (by decide), spT_ne (f := 3) (by decide), spT_ne (f := 4) (by decide)]
    refine ⟨?_, (h2 q hq).2⟩
    show cellok C (if bitN s q = 1 then C 4 q - 1 else C 1 q)
    by_cases k : bitN s q = 1
    · rw [if_pos k]
      exact (h2 q hq).2.2.2.2.resolve_left (h q k).2
    · rw [if_neg k]
      exact (h2 q hq).1
  · rw [e0] at hq
    rw [spT_ne (f := 4) (by decide)]
    exact h3 q hq
  · rw [e0] at hc
    rw [hce, spT_ne (f := 5) (by decide), spT_ne (f := 6) (by decide), spT_ne (f := 7) (by decide), spT_ne (f := 8) (by decide)]
    exact h4 c hc
  · rw [spT_ne (f := f) (by omega), spT_ne (f := 13) (by decide)]
    obtain ⟨g1, g2⟩ := h5 f hf hf2
    exact ⟨fun a => ⟨(g1 a).1, fun e => (hce a).2 ((g1 a).2 e)⟩, g2⟩
  · rw [spT_ne (f := 12) (by decide)]
    exact h7 i
def spS (s : Nat) (S : Nat → Int32) (n : Nat) : Nat → Int32 := fun k => if 11 ≤ k ∧ k < 11 + n ∧ bitN s (k - 11) = 1 then S (38 + (k - 11)) - 1 else S k
theorem spS_o {s n k : Nat} {S : Nat → Int32} (h : k < 11 ∨ 11 + n ≤ k) : spS s S n k = S k := if_neg (by omega)
theorem spS_at {s n q : Nat} {S : Nat → Int32} (h : q < n) : spS s S n (11 + q) = if bitN s q = 1 then S (38 + q) - 1 else S (11 + q) := by
  unfold spS
  rw [Nat.add_sub_cancel_left]
  by_cases k : bitN s q = 1
  · rw [if_pos k, if_pos ⟨by omega, by omega, k⟩]
  · rw [if_neg k, if_neg (fun h => k h.2.2)]
theorem stands_m {F s : Nat} {C P : Nat → Nat → Nat} {μ : aw_M} (hF : 2000 ≤ F) (hc : ctx C P μ) (hs : s < 2 ^ 31) (hp : spOK C s) : T (f_X11_stands F 203 (nI s) μ) fun μ' => AgK kScr μ μ' ∧ (∀ q, q < C 0 2 → μ'.1 211 q = tv C (μ.1 205) (pfS s) (rW C P) q) ∧ ∀ a, a ≠ 210 → a ≠ 211 → a ≠ 214 → μ'.1 a = μ.1 a := by
  have hwf := hc.1
  have hnq := hwf.1.2.2.1
  have tm := hc.2.1.2.2.1
  have r27 : aw_rf 203 27 = 214 := by simp only [rf203, rf203b]
  generalize hS : μ.1 205 = S at tm
  unfold f_X11_stands
  have h1 : aw_loop (fun k s => f_X11_stands_2 F 203 k s.1 s.2.1 s.2.2) F (nI s, 0, μ) = f_X11_stands_57 F 203 (aset (aset μ 214 (wr (μ.1 214) 0 9 (fun k => S (11 + k)))) 205 (spS s S 9)) := by
    refine lp_u (fun i => (nI s, nI i, aset (aset μ 214 (wr (μ.1 214) 0 i (fun k => S (11 + k)))) 205 (spS s S i))) 9 ?_ ?_ ?_ (by omega)
    · have e1 : spS s S 0 = μ.1 205 := by
        rw [hS]
        funext k
        exact if_neg (by omega)
      have e2 : aset (aset μ 214 (wr (μ.1 214) 0 0 (fun k => S (11 + k)))) 205 (spS s S 0) = μ := by
        rw [wr_0, aset_self, e1, aset_self]
      rw [e2]
      rfl
    · intro i hi k
      show f_X11_stands_2 F 203 k (nI s) (nI i) (aset (aset μ 214 (wr (μ.1 214) 0 i (fun k => S (11 + k)))) 205 (spS s S i)) = k (nI s, nI (i + 1), aset (aset μ 214 (wr (μ.1 214) 0 (i + 1) (fun k => S (11 + k)))) 205 (spS s S (i + 1)))
      have hwr := wr_s (S := μ.1 214) (b := 0) (i := i) (g := fun k => S (11 + k))
      rw [Nat.zero_add] at hwr
      have ecom : ∀ g h, aset (aset (aset μ 214 g) 205 h) 214 (upd g i (S (11 + i))) = aset (aset μ 214 (upd g i (S (11 + i)))) 205 h := fun g h => by
        rw [aset_comm (a := 205) (b := 214) (by decide), aset_aset]
      unfold f_X11_stands_2 f_X11_bitOf f_X11_stands_51
      rw [if_neg (show ¬ (9 : Int32) ≤ nI i from nI_ge (b := 9) hi (by decide)), show (11 : Int32) + nI i = nI (11 + i) from nI_add 11 i, pI_in_t (by omega) (by decide), pg_t, pI_in_t hi (by decide), pg_t, plet, r27, rf203.2.1, nI_clamp (by omega), nI_clamp (by omega), rA_s, spS_o (by omega), wI_aset, rA_a (by decide), rA_s, ecom, show upd (wr (μ.1 214) 0 i fun k => S (11 + k)) i (S (11 + i)) = wr (μ.1 214) 0 (i + 1) (fun k => S (11 + k)) from hwr, bit_I hs (by omega), nI_1]
      by_cases k1 : bitN s i = 1
      · rw [if_pos (show nI (bitN s i) = 1 by rw [k1]; rfl), Option.bind_some, if_pos rfl, show (38 : Int32) + nI i = nI (38 + i) from nI_add 38 i, pI_in_t (by omega) (by decide), pg_t, pg_t, plet, nI_clamp (by omega)]
        show k (nI s, nI (i + 1), aw_wI (aset _ 205 (spS s S i)) 205 (11 + i) ((aset _ 205 (spS s S i)).1 205 (38 + i) - 1)) = _
        rw [wI_wA, rA_s, spS_o (by omega)]
        have : upd (spS s S i) (11 + i) (S (38 + i) - 1) = spS s S (i + 1) := by
          funext j
          by_cases e : j = 11 + i
          · subst e
            rw [pk_us, spS_at (Nat.lt_succ_self _), if_pos k1]
          · rw [pk_un e]
            unfold spS
            by_cases e2 : 11 ≤ j ∧ j < 11 + i ∧ bitN s (j - 11) = 1
            · rw [if_pos e2, if_pos ⟨by omega, by omega, e2.2.2⟩]
            · rw [if_neg e2, if_neg (fun h => e2 ⟨by omega, by omega, h.2.2⟩)]
        rw [this]
      · have hb := bitN_lt s i
        have b0 : bitN s i = 0 := by omega
        rw [if_neg (show ¬ nI (bitN s i) = 1 by rw [b0]; decide), Option.bind_some, if_neg Bool.false_ne_true]
        have : spS s S (i + 1) = spS s S i := by
          funext j
          unfold spS
          by_cases e2 : 11 ≤ j ∧ j < 11 + i ∧ bitN s (j - 11) = 1
          · rw [if_pos e2, if_pos ⟨by omega, by omega, e2.2.2⟩]
          · rw [if_neg e2, if_neg (fun h => e2 ⟨by omega, by
              have h2 := h.2.2
              by_cases e : j = 11 + i
              · subst e
                rw [Nat.add_sub_cancel_left] at h2
                exact absurd h2 k1
              · omega, h.2.2⟩)]
        rw [this]
    · intro k
      show f_X11_stands_2 F 203 k (nI s) (nI 9) _ = _
      unfold f_X11_stands_2
      rw [if_pos (show (9 : Int32) ≤ nI 9 by decide)]
  rw [h1]
  generalize hg : wr (μ.1 214) 0 9 (fun k => S (11 + k)) = g
  have hg2 : ∀ k, k < 9 → g k = S (11 + k) := fun k hk => by rw [← hg]; exact wr0 hk
  have hsp1 : ∀ q, q < C 0 2 → spS s S 9 (11 + q) = nI (spT C s 1 q) := fun q hq => by
    rw [spS_at (by omega)]
    show _ = nI (if bitN s q = 1 then C 4 q - 1 else C 1 q)
    by_cases k : bitN s q = 1
    · have h4 := (hp q k).2
      rw [if_pos k, if_pos k, tm.2.2.2.2.1 q (by omega)]
      exact nI_sub (b := 1) (by omega)
    · rw [if_neg k, if_neg k]
      exact (tm.2.2.2.1 q hq).1
  have e0 : spT C s 0 = C 0 := spT_ne (by decide)
  have tm' : qTM (spT C s) (spS s S 9) := by
    obtain ⟨t1, t2, t3, t4, t5, t6, t7⟩ := tm
    refine ⟨?_, fun i hi => ?_, fun i hi => ?_, fun q hq => ⟨?_, ?_, ?_⟩, fun q hq => ?_, fun c hc => ?_, fun a ha => ?_⟩
    · rw [e0, spS_o (by omega), spS_o (by omega), spS_o (by omega), spS_o (by omega)]; exact t1
    · rw [spT_ne (f := 13) (by decide), spS_o (by omega)]; exact t2 i hi
    · rw [spT_ne (f := 12) (by decide), spS_o (by omega)]; exact t3 i hi
    · rw [e0] at hq; exact hsp1 q hq
    · rw [e0] at hq; rw [spT_ne (f := 2) (by decide), spS_o (by omega)]; exact (t4 q hq).2.1
    · rw [e0] at hq; rw [spT_ne (f := 3) (by decide), spS_o (by omega)]; exact (t4 q hq).2.2
    · rw [spT_ne (f := 4) (by decide), spS_o (by omega)]; exact t5 q hq
    · rw [e0] at hc
      rw [spT_ne (f := 5) (by decide), spT_ne (f := 6) (by decide), spT_ne (f := 7) (by decide), spT_ne (f := 8) (by decide), spS_o (by omega), spS_o (by omega), spS_o (by omega), spS_o (by omega)]; exact t6 c hc
    · rw [spT_ne (f := 9) (by decide), spT_ne (f := 10) (by decide), spT_ne (f := 11) (by decide), spS_o (by omega), spS_o (by omega), spS_o (by omega)]; exact t7 a ha
  have pm' : qPM P (spS s S 9) := qPM_ext (S := μ.1 205) (fun k h1 h2 => by rw [spS_o (by omega), hS]) hc.2.1.2.2.2
  have ok' : sOK (spT C s) P (spS s S 9) := ⟨spT_0 hc.2.1.1 hp, by rw [e0]; exact hc.2.1.2.1, tm', pm'⟩
  unfold f_X11_stands_57
  refine T_call (sureDay_c (C := C) (S := S) (pf := pfS s) (wf := rW C P) hF (by rw [rA_s]; exact ok') (fun a ha => by rw [rA_s, spS_o (by omega), ← hS]; exact hc.2.2.2.1 a ha) (fun f hf => spT_ne hf) (fun q hq => spT_1 hp hnq hq) (fun q hq => ?_) (fun i hi => by rw [rA_s, spS_o (by omega)])) ?_
  · funext k
    rfl
  · rintro μ3 ⟨d1, d2, d3⟩
    have d205 : μ3.1 205 = spS s S 9 := by rw [d1 205 (by decide) (by decide), rA_s]
    have d214 : μ3.1 214 = g := by rw [d1 214 (by decide) (by decide), rA_a (by decide), rA_s]
    have h2 : aw_loop (fun k s => f_X11_stands_63 F 203 k s.1 s.2) F (0, μ3) = some (aset μ3 205 (wr (spS s S 9) 11 9 (fun k => S (11 + k)))) := by
      refine lp_u (fun i => (nI i, aset μ3 205 (wr (spS s S 9) 11 i (fun k => S (11 + k))))) 9 ?_ ?_ ?_ (by omega)
      · rw [wr_0, ← d205, aset_self]
        rfl
      · intro i hi k
        show f_X11_stands_63 F 203 k (nI i) (aset μ3 205 _) = k (nI (i + 1), aset μ3 205 _)
        unfold f_X11_stands_63
        rw [if_neg (show ¬ (9 : Int32) ≤ nI i from nI_ge (b := 9) hi (by decide)), show (11 : Int32) + nI i = nI (11 + i) from nI_add 11 i, pI_in_t hi (by decide), pg_t, pI_in_t (by omega) (by decide), pg_t, plet, r27, rf203.2.1, nI_clamp (by omega), nI_clamp (by omega), rA_a (by decide), d214, hg2 i hi, wI_wA, nI_1]
        rw [show S (11 + i) = (fun k => S (11 + k)) i from rfl, wr_s]
      · intro k
        show f_X11_stands_63 F 203 k (nI 9) _ = _
        unfold f_X11_stands_63
        rw [if_pos (show (9 : Int32) ≤ nI 9 by decide)]
    rw [h2, T_some]
    have hz : wr (spS s S 9) 11 9 (fun k => S (11 + k)) = S := by
      funext k
      by_cases hk : 11 ≤ k ∧ k < 20
      · rw [wr_in hk.1 (by omega)]
        have : 11 + (k - 11) = k := by omega
        show S (11 + (k - 11)) = S k
        rw [this]
      · rw [wr_out (by omega), spS_o (by omega)]
    rw [hz]
    refine ⟨ag_scr (fun a ha => ?_) d2, fun q hq => ?_, fun a h1 h2 h3 => ?_⟩
    · by_cases e5 : a = 205
      · subst e5
        rw [rA_s, hS]
      · rw [rA_a e5, d1 a (fun e => by subst e; cases ha) (fun e => by subst e; cases ha), rA_a e5, rA_a (fun e => by subst e; cases ha)]
    · rw [rA_a (by decide), d3 q hq]
    · by_cases e5 : a = 205
      · subst e5
        rw [rA_s, hS]
      · rw [rA_a e5, d1 a h1 h2, rA_a e5, rA_a h3]
