theorem R_parts2 {μ μ' : aw_M} (h : AgK (fun a k => kB a k && !decide (a = 99)) μ μ') (h9 : μ'.1 99 0 = 0) (ht : Rtp μ') (hp : qPz μ') (hR : R μ) : R μ' := by
  obtain ⟨h1, h2, h3, h4, h5, h6⟩ := R_iff.1 hR
  have hs : ∀ a k, kB a k = true → a ≠ 99 → (kB a k && !decide (a = 99)) = true := fun a k h1 h2 => by
    rw [h1, decide_eq_false h2]
    rfl
  refine R_iff.2 ⟨Rsc_ag (h.sub fun a k hk => hs a k ?_ ?_) h1, ht, Rfa_ag (h.sub fun a k hk => hs a k ?_ ?_) h3, Rkp_ag (h.sub fun a k hk => hs a k ?_ ?_) h4, hp, ⟨fun i hi => ?_, h9⟩⟩
  · unfold kB; rw [hk]; rfl
  · rintro rfl; cases hk
  · unfold kB; rw [hk]; cases kSc a k <;> rfl
  · rintro rfl; cases hk
  · unfold kB; rw [hk]; cases kSc a k <;> cases kFa a k <;> rfl
  · rintro rfl; cases hk
  · obtain ⟨u1, u2⟩ := h6.1 i hi
    exact ⟨((h 3 i rfl).2).trans u1, ((h 209 i rfl).2).trans u2⟩
theorem qPz_day {μ μ' : aw_M} (h : qPz μ) (hA : AgK (fun a k => kPz a k && !decide (a = 98 ∨ a = 212 ∨ (a = 203 ∧ k = 26))) μ μ') (ht : μ'.1 203 26 = 1 ∧ ∀ d, d < 3 → μ'.1 98 d = μ'.1 212 d) : qPz μ' := by
  obtain ⟨-, ⟨n2, b1, b2, b3, b4⟩, ⟨n3, c1, c2, c3, c4⟩, ⟨n4, d1, d2, d3, d4⟩, ⟨n5, f1, f2, f3, f4⟩⟩ := h
  have g : ∀ a k, (a = 96 ∨ a = 223 ∨ a = 100 ∨ a = 217 ∨ a = 102 ∨ a = 219 ∨ a = 222) → μ'.1 a k = μ.1 a k := fun a k h => (hA a k (by
    rcases h with rfl | rfl | rfl | rfl | rfl | rfl | rfl <;> rfl)).1
  refine ⟨⟨1, by omega, ht.1, fun d hd => ?_⟩, ⟨n2, b1, (hA 97 2 rfl).1.trans b2, (hA 203 31 rfl).1.trans b3, fun i hi => ?_⟩, ⟨n3, c1, (hA 101 0 rfl).1.trans c2, (hA 203 35 rfl).1.trans c3, fun i hi => ?_⟩, ⟨n4, d1, (hA 101 8 rfl).1.trans d2, (hA 203 38 rfl).1.trans d3, fun i hi => ?_⟩, ⟨n5, f1, (hA 88 10 rfl).1.trans f2, (hA 203 41 rfl).1.trans f3, fun i j w hi hj hw => ?_⟩⟩
  · rw [if_pos rfl]; exact ht.2 d hd
  · rw [g 100 i (by omega), g 217 i (by omega)]; exact b4 i hi
  · rw [g 102 i (by omega), g 219 i (by omega)]; exact c4 i hi
  · rw [g 222 i (by omega), (hA 101 9 rfl).2]; exact d4 i hi
  · rw [g 96 _ (by omega), g 223 _ (by omega)]; exact f4 i j w hi hj hw
theorem p_days : op_days R := by
  intro F hF a0 μ hR
  obtain ⟨h1, ⟨n, B, hn, t1, t2, t3⟩, h3, h4, h5, h6⟩ := R_iff.1 hR
  have r9 : aw_rf 0 9 = 97 := by simp only [rf0, rf1, rf4, rf5, rf19, rf23, rf28, rf39, rf53, rf67, rf71, rf76, rf88, rf97, rf101, rf109, rf110, rf124, rf128, rf133, rf144, rf156, rf157, rf171, rf175, rf180, rf191, rf51]
  have r0 : aw_rf 0 0 = 1 := by simp only [rf0, rf1, rf4, rf5, rf19, rf23, rf28, rf39, rf53, rf67, rf71, rf76, rf88, rf97, rf101, rf109, rf110, rf124, rf128, rf133, rf144, rf156, rf157, rf171, rf175, rf180, rf191, rf51]
  have hB : ∀ i, i < n → B i < 256 ∧ μ.1 2 i = nI (B i) := fun i hi => ⟨(t3 i hi).1, (t3 i hi).2.1⟩
  unfold f_X10_days
  rw [r9, r0]
  by_cases hok : dOK n a0
  · have hok' := hok
    obtain ⟨k1, k2⟩ := hok'
    obtain ⟨A, hA, rfl⟩ := nI_of2 (x := a0) (M := 9999) (n := 9999) (by decide) (by grind) k1.2
    obtain ⟨m, rfl⟩ : ∃ m, n = m + 3 := ⟨n - 3, by omega⟩
    obtain ⟨⟨v1, μ1⟩, e1, a1, a2, a3⟩ := spread_x (F := F) (n := m) (A := A) (by omega) (by omega) t1 hB h6.2 (by omega)
    have a1 : v1 = _ := a1
    have a2 : AgK kDx μ μ1 := a2
    have a3 : dI 98 B μ1 _ := a3
    refine ⟨(v1, aw_wI μ1 1 1 0), by rw [e1]; rfl, ?_⟩
    have hr : ∀ a, a ≠ 98 → a ≠ 99 → a ≠ 1 → (aw_wI μ1 1 1 0).1 a = μ.1 a := fun a h2 h3 h4 => by
      rw [rI_a h4]
      exact a2.a fun k => decide_eq_true ⟨h2, .inl h3⟩
    refine T_mono (days_m (F := F) (n := m + 3) (a0 := nI A) (B := B) (by omega) hn (by rw [hr 203 (by decide) (by decide) (by decide)]; exact t2) (fun i hi => ⟨(t3 i hi).1, by rw [hr 204 (by decide) (by decide) (by decide)]; exact (t3 i hi).2.2⟩)) ?_
    rintro ⟨v2, μ2⟩ ⟨b1, b2, -⟩
    obtain ⟨b2, b3, b4, b5⟩ := b2 hok
    rw [nI_clamp (by omega), Nat.add_sub_cancel] at b2 b5
    have b2 : v2 = _ := b2
    have hag : ∀ a k, kDm a k = true → a ≠ 98 → (a ≠ 99 ∨ k = 0) → (a ≠ 1 ∨ k ≠ 1) → μ2.1 a k = μ.1 a k ∧ μ2.2 a k = μ.2 a k := fun a k h h2 h3 h5 => by
      obtain ⟨u1, u2⟩ := a2 a k (decide_eq_true ⟨h2, h3⟩)
      refine ⟨((b4 a k h).1.trans ?_), ((b4 a k h).2.trans u2)⟩
      refine Eq.trans ?_ u1
      by_cases e : a = 1
      · subst e; exact rI_k (by omega)
      · exact congrFun (rI_a e) k
    have hx := x_1 (B := B) (A := A) (n := m) (s := (0, 0, 0, 0)) rfl m
    obtain ⟨w1, w2, w3⟩ := a3 hx
    obtain ⟨w4, w5, w6⟩ := b5 hx
    have h98 : ∀ d, μ2.1 98 d = μ1.1 98 d := fun d => (b4 98 d rfl).1.trans (congrFun (rI_a (by decide)) d)
    refine ⟨a1.trans b2.symm, R_parts2 (μ := μ) (fun a k hk => ?_) ((hag 99 0 rfl (by decide) (.inr rfl) (by decide)).1.trans h6.2) (Rtp_0 ((b4 1 1 rfl).1.trans rI_s) b1) (qPz_day h5 (fun a k hk => ?_) ⟨b3, fun d hd => ?_⟩) hR⟩
    · unfold kB kSc kFa kKp kK at hk
      simp only [Bool.or_eq_true, Bool.and_eq_true, Bool.not_eq_true', decide_eq_true_eq, decide_eq_false_iff_not] at hk
      exact hag a k (decide_eq_true (by omega)) (by omega) (by omega) (by omega)
    · unfold kPz at hk
      simp only [Bool.and_eq_true, Bool.not_eq_true', decide_eq_true_eq, decide_eq_false_iff_not] at hk
      exact hag a k (decide_eq_true (by omega)) (by omega) (by omega) (by omega)
    · have hd3 : d = 0 ∨ d = 1 ∨ d = 2 := by omega
      rcases hd3 with rfl | rfl | rfl
      · exact (h98 0).trans (w1.trans w4.symm)
      · exact (h98 1).trans (w2.trans w5.symm)
      · exact (h98 2).trans (w3.trans w6.symm)
  · have e1 : f_X7_spreadBoxes F 97 1 a0 μ = some (-1, μ) := by
      unfold f_X7_spreadBoxes
      rw [plet, t1]
      by_cases c1 : a0 < 0
      · rw [if_pos c1]
      rw [if_neg c1]
      by_cases c2 : 9999 < a0
      · rw [if_pos c2]
      rw [if_neg c2]
      have c3 : (0 ≤ a0 ∧ a0 ≤ 9999) := by constructor <;> grind
      by_cases c4 : n < 4
      · have : nI n - 3 < 1 := by
          have h4 : n = 0 ∨ n = 1 ∨ n = 2 ∨ n = 3 := by omega
          rcases h4 with rfl | rfl | rfl | rfl <;> decide
        rw [if_pos this]
      · have c5 : ¬ n ≤ 12 := fun h => hok ⟨c3, by omega, h⟩
        have e3 : nI n - 3 = nI (n - 3) := by rw [show (3 : Int32) = nI 3 from rfl, nI_sub (by omega)]
        rw [e3, if_neg (show ¬ (nI (n - 3) < (1 : Int32)) from (show ¬ (nI (n - 3) < nI 1) from nI_nlt (by omega) (by omega))), if_neg (show ¬ (nI (n - 3) ≤ (9 : Int32)) from (show ¬ (nI (n - 3) ≤ nI 9) from nI_ge (by omega) (by omega)))]
    refine ⟨(-1, aw_wI μ 1 1 0), by rw [e1]; rfl, ?_⟩
    refine T_mono (days_m (F := F) (n := n) (a0 := a0) (B := B) (by omega) hn (by rw [rI_a (by decide)]; exact t2) (fun i hi => ⟨(t3 i hi).1, by rw [rI_a (by decide)]; exact (t3 i hi).2.2⟩)) ?_
    rintro ⟨v2, μ2⟩ ⟨b1, -, b2⟩
    obtain ⟨b2, b3⟩ := b2 hok
    have hag : ∀ a k, kTn a k = true → (a ≠ 1 ∨ k ≠ 1) → μ2.1 a k = μ.1 a k ∧ μ2.2 a k = μ.2 a k := fun a k h h5 => by
      refine ⟨((b3 a k h).1.trans ?_), ((b3 a k h).2)⟩
      by_cases e : a = 1
      · subst e; exact rI_k (by omega)
      · exact congrFun (rI_a e) k
    refine ⟨b2.symm, R_parts (μ := μ) (fun a k hk => ?_) (Rtp_0 ((b3 1 1 rfl).1.trans rI_s) b1) ?_ hR⟩
    · unfold kB kSc kFa kKp kK at hk
      simp only [Bool.or_eq_true, decide_eq_true_eq] at hk
      exact hag a k (decide_eq_true (by omega)) (by omega)
    · refine qPz_ag (fun a k hk => ?_) h5
      unfold kPz at hk
      simp only [decide_eq_true_eq] at hk
      exact hag a k (decide_eq_true (by omega)) (by omega)
