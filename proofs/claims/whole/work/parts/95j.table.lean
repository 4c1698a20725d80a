theorem p_table : op_table R := by
  intro F hF μ hR
  obtain ⟨C, P, hc⟩ := ctx_of hR
  obtain ⟨h1, ⟨n, B, hn, t1, t2, t3⟩, h3, h4, h5, h6⟩ := R_iff.1 hR
  have r8 : aw_rf 0 8 = 88 := by simp only [rf0, rf1, rf4, rf5, rf19, rf23, rf28, rf39, rf53, rf67, rf71, rf76, rf88, rf97, rf101, rf109, rf110, rf124, rf128, rf133, rf144, rf156, rf157, rf171, rf175, rf180, rf191, rf51]
  have r0 : aw_rf 0 0 = 1 := by simp only [rf0, rf1, rf4, rf5, rf19, rf23, rf28, rf39, rf53, rf67, rf71, rf76, rf88, rf97, rf101, rf109, rf110, rf124, rf128, rf133, rf144, rf156, rf157, rf171, rf175, rf180, rf191, rf51]
  have hB : ∀ i, i < n → B i < 256 ∧ μ.1 2 i = nI (B i) := fun i hi => ⟨(t3 i hi).1, (t3 i hi).2.1⟩
  unfold f_X10_table
  rw [r8, r0]
  by_cases hok : tOK C B n
  · obtain ⟨⟨v1, μ1⟩, e1, a1, a2, a3⟩ := tryAll_x (F := F) (by omega) hc hn t1 hB hok
    have a1 : v1 = nI (n / 2) := a1
    have a2 : AgK kTb (aw_wI μ 88 10 (nI (n / 2))) μ1 := a2
    have a3 : mDone C P (μ.1 205) B (n / 2) (n / 2) 0 (μ1.1 96) := a3
    refine ⟨(v1, aw_wI μ1 1 1 0), by rw [e1]; rfl, ?_⟩
    have ha : ∀ a k, a ≠ 88 → (a < 89 ∨ 93 < a) → a ≠ 96 → μ1.1 a k = μ.1 a k := fun a k h h2 h3 => ((a2 a k (decide_eq_true ⟨h2, h3⟩)).1).trans (congrFun (rI_a h) k)
    have hr : ∀ a, a ≠ 88 → (a < 89 ∨ 93 < a) → a ≠ 96 → a ≠ 1 → (aw_wI μ1 1 1 0).1 a = μ.1 a := fun a h h2 h3 h4 => by
      rw [rI_a h4]
      funext k
      exact ha a k h h2 h3
    have hc2 : ctx C P (aw_wI μ1 1 1 0) := hc.ag fun a h => hr a (by omega) (by omega) (by omega) (by omega)
    have m205 : (aw_wI μ1 1 1 0).1 205 = μ.1 205 := hr 205 (by decide) (by decide) (by decide) (by decide)
    refine T_mono (table_m (F := F) (n := n) (B := B) (by omega) hc2 hn (by rw [hr 203 (by decide) (by decide) (by decide) (by decide)]; exact t2) (fun i hi => ⟨(t3 i hi).1, by rw [hr 204 (by decide) (by decide) (by decide) (by decide)]; exact (t3 i hi).2.2⟩)) ?_
    rintro ⟨v2, μ2⟩ ⟨b1, b2, -⟩
    obtain ⟨b2, b3, b4, b7, b5, b6⟩ := b2 hok
    rw [m205] at b5 b6
    have hag : ∀ a k, kTm a k = true → (a < 89 ∨ 93 < a) → a ≠ 96 → (a ≠ 88 ∨ k ≠ 10) → (a ≠ 1 ∨ k ≠ 1) → μ2.1 a k = μ.1 a k ∧ μ2.2 a k = μ.2 a k := fun a k h h2 h3 h4 h5 => by
      refine ⟨((b4 a k h).1.trans ?_), ((b4 a k h).2.trans ?_)⟩
      · have x : (aw_wI μ1 1 1 0).1 a k = μ1.1 a k := by
          by_cases e : a = 1
          · subst e; exact rI_k (by omega)
          · rw [rI_a e]
        refine x.trans (((a2 a k (decide_eq_true ⟨h2, h3⟩)).1).trans ?_)
        by_cases e : a = 88
        · subst e; exact rI_k (by omega)
        · rw [rI_a e]
      · exact (a2 a k (decide_eq_true ⟨h2, h3⟩)).2
    have tape0 : μ2.1 1 1 = 0 := (b4 1 1 rfl).1.trans rI_s
    refine ⟨a1.trans b2.symm, R_parts (μ := μ) (fun a k hk => ?_) (Rtp_0 tape0 b1) ?_ hR⟩
    · by_cases e5 : a = 205
      · subst e5
        refine ⟨congrFun b5 k, ?_⟩
        rw [b7]
        exact (a2 205 k rfl).2
      · unfold kB kSc kFa kKp kK at hk
        simp only [Bool.or_eq_true, decide_eq_true_eq] at hk
        refine hag a k ?_ (by omega) (by omega) (by omega) (by omega)
        exact decide_eq_true (by omega)
    · refine qPz_tab h5 (fun a k hk => ?_) ⟨n / 2, by have := hok.2.2.1; omega, ?_, b3, fun i j w hi hj hw => ?_⟩
      · unfold kPz at hk
        simp only [Bool.and_eq_true, Bool.not_eq_true', decide_eq_true_eq, decide_eq_false_iff_not] at hk
        refine hag a k ?_ (by omega) (by omega) (by omega) (by omega)
        exact decide_eq_true (by omega)
      · refine (b4 88 10 rfl).1.trans ?_
        rw [rI_a (by decide)]
        exact ((a2 88 10 rfl).1).trans rI_s
      · have x1 := b6 i j w (.inl hi) hj hw
        have x2 := a3 i j w (.inl hi) hj hw
        rw [x1, (b4 96 _ rfl).1, rI_a (by decide), x2]
  · obtain ⟨⟨b, μ'⟩, e1, e2, e3⟩ := isTable_x (F := F) (by omega) hc hn t1 hB
    have e2 : μ' = μ := e2
    subst e2
    have e3 : b = true ↔ tOK C B n := e3
    have hb : b = false := by
      cases b with
      | false => rfl
      | true => exact absurd (e3.1 rfl) hok
    subst hb
    refine ⟨(-1, aw_wI μ' 1 1 0), ?_, ?_⟩
    · unfold f_X5_tryAll
      rw [e1]
      rfl
    have hc2 : ctx C P (aw_wI μ' 1 1 0) := hc.ag fun a h => rI_a (by omega)
    refine T_mono (table_m (F := F) (n := n) (B := B) (by omega) hc2 hn (by rw [rI_a (by decide)]; exact t2) (fun i hi => ⟨(t3 i hi).1, by rw [rI_a (by decide)]; exact (t3 i hi).2.2⟩)) ?_
    rintro ⟨v2, μ2⟩ ⟨b1, -, b2⟩
    obtain ⟨b2, b3⟩ := b2 hok
    have hag : ∀ a k, kTn a k = true → (a ≠ 1 ∨ k ≠ 1) → μ2.1 a k = μ'.1 a k ∧ μ2.2 a k = μ'.2 a k := fun a k h h5 => by
      refine ⟨((b3 a k h).1.trans ?_), ((b3 a k h).2)⟩
      by_cases e : a = 1
      · subst e; exact rI_k (by omega)
      · exact congrFun (rI_a e) k
    refine ⟨b2.symm, R_parts (μ := μ') (fun a k hk => ?_) (Rtp_0 ((b3 1 1 rfl).1.trans rI_s) b1) ?_ hR⟩
    · unfold kB kSc kFa kKp kK at hk
      simp only [Bool.or_eq_true, decide_eq_true_eq] at hk
      exact hag a k (decide_eq_true (by omega)) (by omega)
    · refine qPz_ag (fun a k hk => ?_) h5
      unfold kPz at hk
      simp only [decide_eq_true_eq] at hk
      exact hag a k (decide_eq_true (by omega)) (by omega)
