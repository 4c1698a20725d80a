/-! the town's text: the square, the law, spots -/
theorem lp_F {σ α : Type} {f : (σ → Option α) → σ → Option α} {F : Nat} {s : σ} (h : 0 < F) : aw_loop f F s = f (aw_loop f (F - 1)) s := by
  obtain ⟨G, rfl⟩ : ∃ g, F = g + 1 := ⟨F - 1, by omega⟩
  rfl
/-- one number of the town changes on both sides -/
theorem DT_1 {T : Nat → Nat → Nat} {W : Nat → List Nat} {μ μ' ν ν' : aw_M} {K K' : Nat → Nat → Bool} {f i x a y v : Nat} (hT : (f = 0 ∧ i = 0 ∧ x = 53 ∧ a = 1 ∧ y = 0) ∨ (f = 0 ∧ i = 1 ∧ x = 53 ∧ a = 2 ∧ y = 1) ∨ (f = 12 ∧ i < 4 ∧ x = 66 ∧ a = i ∧ y = 7 + i)) (hv : v ≤ 10) (h12 : f = 12 → v ≤ 9) (h00 : f = 0 → i = 0 → T 0 0 ≤ v ∧ 0 < v) (h01 : f = 0 → i = 1 → T 0 1 ≤ v) (ag : AgK K μ μ') (hK : ∀ b k, ((b = 53 ∧ k ≠ 0 ∧ k ≠ 19) ∨ (54 ≤ b ∧ b ≤ 66)) → ¬ (b = x ∧ k = a) → K b k = true) (ag' : AgK K' ν ν') (hK' : ∀ b k, (b = 206 ∨ (b = 208 ∧ 9 ≤ k) ∨ (b = 203 ∧ (k = 20 ∨ k = 21))) → ¬ (b = 206 ∧ k = y) → ¬ (f = 0 ∧ b = 203 ∧ k = 20) → K' b k = true) (e : μ'.1 x a = nI v) (e' : ν'.1 206 y = nI v) (e20 : f = 0 → i = 0 → ν'.1 203 20 = nI 1) (e21 : f = 0 → i = 1 → ν'.1 203 20 = ν.1 203 20) (h : DT T W μ ν) : DT (tu T f i v) W μ' ν' := by
  obtain ⟨hwf, tx, tm, ⟨w1, w2, w3⟩, s20, lw, l1, l2, l3⟩ := h
  have n9 := hwf.1.2.2.1
  have n20 := hwf.1.2.2.2
  have gx : ∀ b k, ((b = 53 ∧ k ≠ 0 ∧ k ≠ 19) ∨ (54 ≤ b ∧ b ≤ 66)) → ¬ (b = x ∧ k = a) → μ'.1 b k = μ.1 b k := fun b k h1 h2 => (ag b k (hK b k h1 h2)).1
  have gm : ∀ k, k ≠ y → ν'.1 206 k = ν.1 206 k := fun k h1 => (ag' 206 k (hK' 206 k (by omega) (by omega) (by omega))).1
  have tf : ∀ g j, g ≠ f → tu T f i v g j = T g j := fun g j h => tu_f h
  have ti : ∀ g j, j ≠ i → tu T f i v g j = T g j := fun g j h => tu_i h
  have hf : f = 0 ∨ f = 12 := by omega
  have t02 : tu T f i v 0 2 = T 0 2 := by
    rcases hf with h | h
    · exact ti _ _ (by omega)
    · exact tf _ _ (by omega)
  have t03 : tu T f i v 0 3 = T 0 3 := by
    rcases hf with h | h
    · exact ti _ _ (by omega)
    · exact tf _ _ (by omega)
  have t00 : T 0 0 ≤ tu T f i v 0 0 ∧ tu T f i v 0 0 ≤ 10 := by
    by_cases c : f = 0 ∧ i = 0
    · obtain ⟨rfl, rfl⟩ := c
      rw [tu_s]
      exact ⟨(h00 rfl rfl).1, hv⟩
    · have : tu T f i v 0 0 = T 0 0 := by
        unfold tu
        rw [if_neg (by omega)]
      rw [this]
      exact ⟨Nat.le_refl _, hwf.1.1⟩
  have t01 : T 0 1 ≤ tu T f i v 0 1 ∧ tu T f i v 0 1 ≤ 10 := by
    by_cases c : f = 0 ∧ i = 1
    · obtain ⟨rfl, rfl⟩ := c
      rw [tu_s]
      exact ⟨h01 rfl rfl, hv⟩
    · have : tu T f i v 0 1 = T 0 1 := by
        unfold tu
        rw [if_neg (by omega)]
      rw [this]
      exact ⟨Nat.le_refl _, hwf.1.2.1⟩
  have ec : ∀ q, cellok T q → cellok (tu T f i v) q := fun q hq => by
    unfold cellok at hq ⊢
    omega
  have to : ∀ g j, g ≠ 0 → g ≠ 12 → tu T f i v g j = T g j := fun g j h1 h2 => tf g j (by omega)
  obtain ⟨g1, g2, g3, g4, g5, g6, g7⟩ := hwf
  obtain ⟨x1, x2, x3, x4, x5, x6, x7⟩ := tx
  obtain ⟨y1, y2, y3, y4, y5, y6, y7⟩ := tm
  have hown : ∀ q m, own (tu T f i v) q m = own T q m := fun q m => own_ext m fun r _ => to 1 r (by decide) (by decide)
  refine ⟨⟨⟨t00.2, t01.2, by omega, by omega⟩, fun q hq => ?_, fun q hq => ?_, fun c hc => ?_, fun g h1 h2 => ?_, fun q r h1 h2 => ?_, fun j => ?_⟩, ⟨?_, fun q hq => ?_, fun q hq => ?_, fun q hq => ?_, fun j hj => ?_, fun q hq => ?_, fun j hj => ?_⟩, ⟨?_, fun j hj => ?_, fun j hj => ?_, fun q hq => ?_, fun q hq => ?_, fun q hq => ?_, fun q hq => ?_⟩, ⟨fun q hq => ?_, ?_, ?_⟩, ?_, lw, l1, ?_, ?_⟩
  · rw [t02] at hq
    obtain ⟨j1, j2, j3, j4, j5⟩ := g2 q hq
    rw [to 1 q (by decide) (by decide), to 2 q (by decide) (by decide), to 3 q (by decide) (by decide), to 4 q (by decide) (by decide)]
    exact ⟨ec _ j1, j2, j3, j4, j5.imp id (ec _)⟩
  · rw [t02] at hq
    rw [to 4 q (by decide) (by decide)]; exact g3 q hq
  · rw [t03] at hc
    obtain ⟨j1, j2, j3, j4⟩ := g4 c hc
    rw [to 5 c (by decide) (by decide), to 6 c (by decide) (by decide), to 7 c (by decide) (by decide), to 8 c (by decide) (by decide)]
    exact ⟨j1, ec _ j2, j3, j4⟩
  · have : tu T f i v g = T g := funext fun j => to g j (by omega) (by omega)
    rw [this, to 13 _ (by decide) (by decide)]
    obtain ⟨j1, j2, j3⟩ := g5 g h1 h2
    exact ⟨fun q => ⟨(j1 q).1, fun h => ec _ ((j1 q).2 h)⟩, j2, j3⟩
  · rw [t02] at h1 h2
    rw [to 1 q (by decide) (by decide), to 1 r (by decide) (by decide)]; exact g6 q r h1 h2
  · by_cases c : f = 12 ∧ i = j
    · obtain ⟨rfl, rfl⟩ := c
      rw [tu_s]; exact h12 rfl
    · have : tu T f i v 12 j = T 12 j := by
        unfold tu
        rw [if_neg (by omega)]
      rw [this]; exact g7 j
  · rw [t02, t03, gx 53 3 (by omega) (by omega), gx 53 4 (by omega) (by omega)]
    refine ⟨?_, ?_, x1.2.2⟩
    · by_cases c : f = 0 ∧ i = 0
      · obtain ⟨rfl, rfl⟩ := c
        rw [tu_s]
        have : x = 53 ∧ a = 1 := by omega
        rw [this.1, this.2] at e
        exact e
      · have : tu T f i v 0 0 = T 0 0 := by
          unfold tu
          rw [if_neg (by omega)]
        rw [this, gx 53 1 (by omega) (by omega)]; exact x1.1
    · by_cases c : f = 0 ∧ i = 1
      · obtain ⟨rfl, rfl⟩ := c
        rw [tu_s]
        have : x = 53 ∧ a = 2 := by omega
        rw [this.1, this.2] at e
        exact e
      · have : tu T f i v 0 1 = T 0 1 := by
          unfold tu
          rw [if_neg (by omega)]
        rw [this, gx 53 2 (by omega) (by omega)]; exact x1.2.1
  · rw [t02] at hq
    rw [to 1 q (by decide) (by decide), to 2 q (by decide) (by decide), to 3 q (by decide) (by decide), gx _ _ (by omega) (by omega), gx _ _ (by omega) (by omega), gx _ _ (by omega) (by omega)]; exact x2 q hq
  · rw [to 4 q (by decide) (by decide), gx _ _ (by omega) (by omega)]; exact x3 q hq
  · rw [t03] at hq
    rw [to 5 q (by decide) (by decide), to 6 q (by decide) (by decide), to 7 q (by decide) (by decide), to 8 q (by decide) (by decide), gx _ _ (by omega) (by omega), gx _ _ (by omega) (by omega), gx _ _ (by omega) (by omega), gx _ _ (by omega) (by omega)]; exact x4 q hq
  · rw [to 13 j (by decide) (by decide), gx _ _ (by omega) (by omega)]; exact x5 j hj
  · unfold things
    rw [hown, t02, to 9 q (by decide) (by decide), to 10 q (by decide) (by decide), to 11 q (by decide) (by decide), gx _ _ (by omega) (by omega), gx _ _ (by omega) (by omega)]; exact x6 q hq
  · by_cases c : f = 12 ∧ i = j
    · obtain ⟨rfl, rfl⟩ := c
      rw [tu_s]
      have : x = 66 ∧ a = i := by omega
      rw [this.1, this.2] at e
      exact e
    · have : tu T f i v 12 j = T 12 j := by
        unfold tu
        rw [if_neg (by omega)]
      rw [this, gx _ _ (by omega) (by omega)]; exact x7 j hj
  · rw [t02, t03, gm 2 (by omega), gm 3 (by omega)]
    refine ⟨?_, ?_, y1.2.2⟩
    · by_cases c : f = 0 ∧ i = 0
      · obtain ⟨rfl, rfl⟩ := c
        rw [tu_s]
        have : y = 0 := by omega
        rw [this] at e'
        exact e'
      · have : tu T f i v 0 0 = T 0 0 := by
          unfold tu
          rw [if_neg (by omega)]
        rw [this, gm 0 (by omega)]; exact y1.1
    · by_cases c : f = 0 ∧ i = 1
      · obtain ⟨rfl, rfl⟩ := c
        rw [tu_s]
        have : y = 1 := by omega
        rw [this] at e'
        exact e'
      · have : tu T f i v 0 1 = T 0 1 := by
          unfold tu
          rw [if_neg (by omega)]
        rw [this, gm 1 (by omega)]; exact y1.2.1
  · rw [to 13 j (by decide) (by decide), gm _ (by omega)]; exact y2 j hj
  · by_cases c : f = 12 ∧ i = j
    · obtain ⟨rfl, rfl⟩ := c
      rw [tu_s]
      have : y = 7 + i := by omega
      rw [this] at e'
      exact e'
    · have : tu T f i v 12 j = T 12 j := by
        unfold tu
        rw [if_neg (by omega)]
      rw [this, gm _ (by omega)]; exact y3 j hj
  · rw [t02] at hq
    rw [to 1 q (by decide) (by decide), to 2 q (by decide) (by decide), to 3 q (by decide) (by decide), gm _ (by omega), gm _ (by omega), gm _ (by omega)]; exact y4 q hq
  · rw [to 4 q (by decide) (by decide), gm _ (by omega)]; exact y5 q hq
  · rw [t03] at hq
    rw [to 5 q (by decide) (by decide), to 6 q (by decide) (by decide), to 7 q (by decide) (by decide), to 8 q (by decide) (by decide), gm _ (by omega), gm _ (by omega), gm _ (by omega), gm _ (by omega)]; exact y6 q hq
  · rw [to 9 q (by decide) (by decide), to 10 q (by decide) (by decide), to 11 q (by decide) (by decide), gm _ (by omega), gm _ (by omega), gm _ (by omega)]; exact y7 q hq
  · rw [t02] at hq
    obtain ⟨j1, j2, j3⟩ := w1 q hq
    refine ⟨j1, ?_, ?_⟩
    · rw [(ag 54 q (hK 54 q (by omega) (by omega))).2]; exact j2
    · rw [(ag' 208 (9 + q) (hK' 208 _ (by omega) (by omega) (by omega))).2]; exact j3
  · rw [t02]; exact w2
  · rw [t02]; exact w3
  · by_cases c : f = 0 ∧ i = 0
    · obtain ⟨rfl, rfl⟩ := c
      rw [tu_s, e20 rfl rfl, decide_eq_true (h00 rfl rfl).2]
      rfl
    · have : tu T f i v 0 0 = T 0 0 := by
        unfold tu
        rw [if_neg (by omega)]
      rw [this, ← s20]
      rcases hf with h | h
      · exact e21 h (by omega)
      · exact (ag' 203 20 (hK' 203 20 (by omega) (by omega) (by omega))).1
  · rw [gx 53 18 (by omega) (by omega)]; exact l2
  · rw [(ag' 203 21 (hK' 203 21 (by omega) (by omega) (by omega))).1]; exact l3
