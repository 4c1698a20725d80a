theorem nI_div {a b : Nat} (ha : a < 2 ^ 31) (hb : b < 2 ^ 31) : nI a / nI b = nI (a / b) := by
  apply Int32.toInt_inj.1
  have hq : a / b < 2 ^ 31 := Nat.lt_of_le_of_lt (Nat.div_le_self a b) ha
  rw [Int32.toInt_div, nI_toInt ha, nI_toInt hb, nI_toInt hq]
  have : ((a : Int).tdiv (b : Int)) = ((a / b : Nat) : Int) := rfl
  rw [this]
  apply Int.bmod_eq_of_le
  · have : (0 : Int) ≤ ((a / b : Nat) : Int) := Int.natCast_nonneg _
    omega
  · omega
theorem nI_sub {a b : Nat} (h : b ≤ a) : nI a - nI b = nI (a - b) := by
  have h1 : nI a = nI (a - b) + nI b := by rw [nI_add]; congr 1; omega
  grind
theorem nI_mod {a b : Nat} (ha : a < 2 ^ 31) (hb : b < 2 ^ 31) : nI a - nI a / nI b * nI b = nI (a % b) := by
  rw [nI_div ha hb, pk_mul, nI_sub (Nat.div_mul_le_self a b)]
  congr 1
  have := Nat.div_add_mod a b
  rw [Nat.mul_comm] at this
  omega
/-- a number that is a cell of the town -/
def isC (T : Nat → Nat → Nat) (a : Int32) : Bool := decide (0 ≤ a.toInt) && decide (a.toInt.toNat < 100) && decide (cellok T a.toInt.toNat)
theorem isC_nI {T : Nat → Nat → Nat} {c : Nat} (h : c < 2 ^ 31) : isC T (nI c) = (decide (c < 100) && decide (cellok T c)) := by
  unfold isC
  rw [nI_toInt h]
  have : ((c : Int)).toNat = c := rfl
  rw [this]
  have : decide (0 ≤ (c : Int)) = true := decide_eq_true (by omega)
  rw [this, Bool.true_and]
theorem isC_neg {T : Nat → Nat → Nat} {a : Int32} (h : a < 0) : isC T a = false := by
  unfold isC
  have := Int32.lt_iff_toInt_lt.1 h
  have h0 : (0 : Int32).toInt = 0 := by decide
  have : decide (0 ≤ a.toInt) = false := decide_eq_false (by omega)
  rw [this, Bool.false_and, Bool.false_and]
theorem isC_ex {T : Nat → Nat → Nat} {a : Int32} (h : isC T a = true) : ∃ c, c < 100 ∧ a = nI c ∧ cellok T c := by
  by_cases hn : a < 0
  · rw [isC_neg hn] at h
    cases h
  · obtain ⟨c, hc, rfl⟩ := nI_of hn
    rw [isC_nI hc, Bool.and_eq_true, decide_eq_true_eq, decide_eq_true_eq] at h
    exact ⟨c, h.1, rfl, h.2⟩
theorem hasCell_eq {F t : Nat} {T : Nat → Nat → Nat} {a : Int32} {μ : aw_M} (h1 : μ.1 t 1 = nI (T 0 0)) (h2 : μ.1 t 2 = nI (T 0 1)) (h3 : T 0 0 ≤ 10) (h4 : T 0 1 ≤ 10) : f_X8_hasCell F t a μ = some (isC T a, μ) := by
  unfold f_X8_hasCell
  by_cases hn : a < 0
  · rw [if_pos hn, isC_neg hn]
  · obtain ⟨c, hc, rfl⟩ := nI_of hn
    rw [if_neg hn, isC_nI hc, h1, h2]
    have e10 : (10 : Int32) = nI 10 := rfl
    have e100 : (100 : Int32) = nI 100 := rfl
    rw [e10, nI_mod hc (by decide), nI_div hc (by decide), e100]
    have := Nat.mod_le c 10
    have := Nat.div_le_self c 10
    simp (disch := omega) only [nI_leI]
    unfold cellok
    by_cases k1 : 100 ≤ c
    · have : ¬ c < 100 := by omega
      simp [k1, this]
    · have k1' : c < 100 := by omega
      by_cases k2 : T 0 0 ≤ c % 10
      · have : ¬ c % 10 < T 0 0 := by omega
        simp [k1, k2, this]
      · have k2' : c % 10 < T 0 0 := by omega
        by_cases k3 : T 0 1 ≤ c / 10
        · have : ¬ c / 10 < T 0 1 := by omega
          simp [k1, k2, k3, this]
        · have : c / 10 < T 0 1 := by omega
          simp [k1, k2, k3, k1', k2', this]
theorem isCell_eq {F : Nat} {T : Nat → Nat → Nat} {a : Int32} {μ : aw_M} (h1 : μ.1 205 0 = nI (T 0 0)) (h2 : μ.1 205 1 = nI (T 0 1)) (h3 : T 0 0 ≤ 10) (h4 : T 0 1 ≤ 10) : f_X11_isCell F 203 a μ = some (isC T a, μ) := by
  unfold f_X11_isCell
  have hi0 : aw_in 0 1155 = true := by decide
  have hi1 : aw_in 1 1155 = true := by decide
  have c0 : (0 : Int32).toNatClampNeg = 0 := by decide
  have c1 : (1 : Int32).toNatClampNeg = 1 := by decide
  rw [hi0, pg_t, hi1, pg_t, c0, c1, rf203.2.1, h1, h2]
  by_cases hn : a < 0
  · rw [if_pos hn, isC_neg hn]
  · obtain ⟨c, hc, rfl⟩ := nI_of hn
    rw [if_neg hn, isC_nI hc]
    have e10 : (10 : Int32) = nI 10 := rfl
    rw [e10, nI_mod hc (by decide), nI_div hc (by decide)]
    have := Nat.mod_le c 10
    have := Nat.div_le_self c 10
    simp (disch := omega) only [nI_leI]
    unfold cellok
    by_cases k2 : T 0 0 ≤ c % 10
    · have : ¬ c % 10 < T 0 0 := by omega
      simp [k2, this]
    · have k2' : c % 10 < T 0 0 := by omega
      by_cases k3 : T 0 1 ≤ c / 10
      · have : ¬ c / 10 < T 0 1 := by omega
        simp [k2, k3, this]
      · have k3' : c / 10 < T 0 1 := by omega
        have : c < 100 := by omega
        simp [k2, k3, k2', k3', this]
/-- a scene whose fight alone has changed -/
theorem qSC_f {T : Nat → Nat → Nat} {W : Nat → List Nat} {P Y G G' : Nat → Nat → Nat} {μ μ' : aw_M} {b : Nat} {S S' : Nat → Int32} {N : Nat → Int64} (h : qSC T W P Y G μ b S N) (h1 : ∀ a, b + 1 ≤ a → a ≤ b + 22 → μ'.1 a = μ.1 a) (h2 : μ'.2 (b + 2) = μ.2 (b + 2)) (h3 : ∀ k, k < 455 ∨ 974 ≤ k → S' k = S k) (hf : qFWF T G' ∧ qFX T G' μ' (b + 35) ∧ qFM T G' S' ∧ qFS T G' μ' (b + 35) S') : qSC T W P Y G' μ' b S' N := by
  obtain ⟨⟨a1, a2, a3⟩, ⟨b1, b2, b3⟩, ⟨c1, c2, c3⟩, ⟨d1, d2, d3⟩, -⟩ := h
  refine ⟨⟨a1, ?_, ?_⟩, ⟨?_, b2, b3⟩, ⟨c1, ?_, ?_⟩, ⟨d1, ?_, ?_⟩, hf⟩
  · unfold qTX at a2 ⊢
    simp (disch := omega) only [h1]
    exact a2
  · have hw := a1.1
    obtain ⟨g1, g2, g3, g4, g5, g6, g7⟩ := a3
    refine ⟨?_, fun i hi => ?_, fun i hi => ?_, fun q hq => ?_, fun q hq => ?_, fun c hc => ?_, fun a ha => ?_⟩
    · rw [h3 _ (by omega), h3 _ (by omega), h3 _ (by omega), h3 _ (by omega)]; exact g1
    · rw [h3 _ (by omega)]; exact g2 i hi
    · rw [h3 _ (by omega)]; exact g3 i hi
    · rw [h3 _ (by omega), h3 _ (by omega), h3 _ (by omega)]; exact g4 q hq
    · rw [h3 _ (by omega)]; exact g5 q hq
    · rw [h3 _ (by omega), h3 _ (by omega), h3 _ (by omega), h3 _ (by omega)]; exact g6 c hc
    · rw [h3 _ (by omega), h3 _ (by omega), h3 _ (by omega)]; exact g7 a ha
  · rw [h2]; exact b1
  · unfold qPX at c2 ⊢
    simp (disch := omega) only [h1]
    exact c2
  · refine ⟨?_, fun q hq => ?_⟩
    · rw [h3 _ (by omega)]; exact c3.1
    · rw [h3 _ (by omega), h3 _ (by omega), h3 _ (by omega)]; exact c3.2 q hq
  · unfold qYX at d2 ⊢
    simp (disch := omega) only [h1]
    exact d2
  · refine ⟨?_, fun i hi => ?_⟩
    · rw [h3 _ (by omega)]; exact d3.1
    · rw [h3 _ (by omega), h3 _ (by omega), h3 _ (by omega)]; exact d3.2 i hi
