theorem qPz_look {μ μ' : aw_M} (h : qPz μ) (hA : AgK (fun a k => kPz a k && !decide (a = 100 ∨ a = 217 ∨ (a = 203 ∧ k = 31) ∨ (a = 97 ∧ k = 2))) μ μ') (ht : ∃ n : Nat, n ≤ 10000 ∧ μ'.1 97 2 = nI n ∧ μ'.1 203 31 = nI (min n 100) ∧ ∀ i, i < min n 100 → μ'.1 100 i = μ'.1 217 i) : qPz μ' := by
  obtain ⟨⟨n2, b1, b2, b3⟩, -, ⟨n3, c1, c2, c3, c4⟩, ⟨n4, d1, d2, d3, d4⟩, ⟨n5, f1, f2, f3, f4⟩⟩ := h
  have g : ∀ a k, (a = 96 ∨ a = 223 ∨ a = 98 ∨ a = 212 ∨ a = 102 ∨ a = 219 ∨ a = 222) → μ'.1 a k = μ.1 a k := fun a k h => (hA a k (by
    rcases h with rfl | rfl | rfl | rfl | rfl | rfl | rfl <;> rfl)).1
  refine ⟨⟨n2, b1, (hA 203 26 rfl).1.trans b2, fun d hd => ?_⟩, ht, ⟨n3, c1, (hA 101 0 rfl).1.trans c2, (hA 203 35 rfl).1.trans c3, fun i hi => ?_⟩, ⟨n4, d1, (hA 101 8 rfl).1.trans d2, (hA 203 38 rfl).1.trans d3, fun i hi => ?_⟩, ⟨n5, f1, (hA 88 10 rfl).1.trans f2, (hA 203 41 rfl).1.trans f3, fun i j w hi hj hw => ?_⟩⟩
  · rw [g 98 d (by omega), g 212 d (by omega)]; exact b3 d hd
  · rw [g 102 i (by omega), g 219 i (by omega)]; exact c4 i hi
  · rw [g 222 i (by omega), (hA 101 9 rfl).2]; exact d4 i hi
  · rw [g 96 _ (by omega), g 223 _ (by omega)]; exact f4 i j w hi hj hw
theorem p_look : op_look R := by
  intro F hF μ hR
  obtain ⟨h1, ⟨n, B, hn, t1, t2, t3⟩, h3, h4, h5, h6⟩ := R_iff.1 hR
  have r9 : aw_rf 0 9 = 97 := by simp only [rf0, rf1, rf4, rf5, rf19, rf23, rf28, rf39, rf53, rf67, rf71, rf76, rf88, rf97, rf101, rf109, rf110, rf124, rf128, rf133, rf144, rf156, rf157, rf171, rf175, rf180, rf191, rf51]
  have r0 : aw_rf 0 0 = 1 := by simp only [rf0, rf1, rf4, rf5, rf19, rf23, rf28, rf39, rf53, rf67, rf71, rf76, rf88, rf97, rf101, rf109, rf110, rf124, rf128, rf133, rf144, rf156, rf157, rf171, rf175, rf180, rf191, rf51]
  have hB : tpX B n μ := fun i hi => ⟨(t3 i hi).1, (t3 i hi).2.1⟩
  unfold f_X10_look
  rw [r9, r0]
  by_cases hok : rwOK B n
  · obtain ⟨⟨v1, μ1⟩, e1, a1, a4, a2, a3⟩ := findLaws_x (F := F) (by omega) hn t1 hB hok
    have a1 : v1 = _ := a1
    have a2 : AgK kLx μ μ1 := a2
    have a3 : lkA 100 B (n / 5) μ1 10000 := a3
    have a4 : μ1.1 97 2 = nI (lkN B (n / 5) 10000) := a4
    refine ⟨(v1, aw_wI μ1 1 1 0), by rw [e1]; rfl, ?_⟩
    have hr : ∀ a, a ≠ 100 → a ≠ 97 → a ≠ 1 → (aw_wI μ1 1 1 0).1 a = μ.1 a := fun a h2 h3 h4 => by
      rw [rI_a h4]
      exact a2.a fun k => decide_eq_true ⟨h2, .inl h3⟩
    refine T_mono (look_m (F := F) (n := n) (B := B) (by omega) hn (by rw [hr 203 (by decide) (by decide) (by decide)]; exact t2) (fun i hi => ⟨(t3 i hi).1, by rw [hr 204 (by decide) (by decide) (by decide)]; exact (t3 i hi).2.2⟩)) ?_
    rintro ⟨v2, μ2⟩ ⟨b1, b2, -⟩
    obtain ⟨b2, b3, b4, b5⟩ := b2 hok
    have b2 : v2 = _ := b2
    have hag : ∀ a k, kLm a k = true → kLx a k = true → (a ≠ 1 ∨ k ≠ 1) → μ2.1 a k = μ.1 a k ∧ μ2.2 a k = μ.2 a k := fun a k h h2 h5 => by
      obtain ⟨u1, u2⟩ := a2 a k h2
      refine ⟨((b4 a k h).1.trans ?_), ((b4 a k h).2.trans u2)⟩
      refine Eq.trans ?_ u1
      by_cases e : a = 1
      · subst e; exact rI_k (by omega)
      · exact congrFun (rI_a e) k
    refine ⟨a1.trans b2.symm, R_parts (μ := μ) (fun a k hk => ?_) (Rtp_0 ((b4 1 1 rfl).1.trans rI_s) b1) (qPz_look h5 (fun a k hk => ?_) ⟨lkN B (n / 5) 10000, lkN_le _, ?_, b3, fun i hi => ?_⟩) hR⟩
    · unfold kB kSc kFa kKp kK at hk
      simp only [Bool.or_eq_true, decide_eq_true_eq] at hk
      exact hag a k (decide_eq_true (by omega)) (decide_eq_true (by omega)) (by omega)
    · unfold kPz at hk
      simp only [Bool.and_eq_true, Bool.not_eq_true', decide_eq_true_eq, decide_eq_false_iff_not] at hk
      exact hag a k (decide_eq_true (by omega)) (decide_eq_true (by omega)) (by omega)
    · exact (b4 97 2 rfl).1.trans ((congrFun (rI_a (by decide)) _).trans a4)
    · obtain ⟨y, y1, y2, y3⟩ := lkN_at (B := B) (n := n / 5) (i := i) 10000 (by omega)
      subst y3
      have u1 := a3 y y1 y2 (by omega)
      have u2 := b5 y y1 y2 (by omega)
      exact ((b4 100 _ rfl).1.trans ((congrFun (rI_a (by decide)) _).trans u1)).trans u2.symm
  · obtain ⟨⟨b, μ'⟩, e1, e2, e3⟩ := areRows_x (F := F) (by omega) hn t1 hB
    have e2 : μ' = μ := e2
    subst e2
    have e3 : b = true ↔ rwOK B n := e3
    have hb : b = false := by
      cases b with
      | false => rfl
      | true => exact absurd (e3.1 rfl) hok
    subst hb
    refine ⟨(-1, aw_wI μ' 1 1 0), ?_, ?_⟩
    · unfold f_X7_findLaws
      rw [e1]
      rfl
    refine T_mono (look_m (F := F) (n := n) (B := B) (by omega) hn (by rw [rI_a (by decide)]; exact t2) (fun i hi => ⟨(t3 i hi).1, by rw [rI_a (by decide)]; exact (t3 i hi).2.2⟩)) ?_
    rintro ⟨v2, μ2⟩ ⟨b1, -, b2⟩
    obtain ⟨b2, b3⟩ := b2 hok
    have hag : ∀ a k, kTn a k = true → (a ≠ 1 ∨ k ≠ 1) → μ2.1 a k = μ'.1 a k ∧ μ2.2 a k = μ'.2 a k := fun a k h h5 => by
      refine ⟨((b3 a k h).1.trans ?_), ((b3 a k h).2)⟩
      by_cases e : a = 1
      · subst e; exact rI_k (by omega)
      · exact congrFun (rI_a e) k
    refine ⟨b2.symm, R_parts (μ := μ') (fun a k hk => ?_) (Rtp_0 ((b3 1 1 rfl).1.trans rI_s) b1) ?_ hR⟩
    · unfold kB kSc kFa kKp kK at hk
      simp only [Bool.or_eq_true, decide_eq_true_eq] at hk
      exact hag a k (decide_eq_true (by omega)) (by omega)
    · refine qPz_ag (fun a k hk => ?_) h5
      unfold kPz at hk
      simp only [decide_eq_true_eq] at hk
      exact hag a k (decide_eq_true (by omega)) (by omega)
