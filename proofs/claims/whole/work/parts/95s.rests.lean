def bC (C : Nat → Nat → Nat) (i : Nat) : Bool := decide (C 4 i ≠ 0)
theorem bC_t {C : Nat → Nat → Nat} {i : Nat} : bC C i = true ↔ C 4 i ≠ 0 := ⟨fun h => of_decide_eq_true h, fun h => decide_eq_true h⟩
theorem nN_at {b : Nat → Bool} {j : Nat} : ∀ q, j < nN b q → ∃ i, i < q ∧ b i = true ∧ nN b i = j
  | 0, h => absurd h (Nat.not_lt_zero _)
  | q + 1, h => by
    have h : j < if b q = true then nN b q + 1 else nN b q := h
    by_cases e : b q = true
    · rw [if_pos e] at h
      by_cases e2 : j < nN b q
      · obtain ⟨i, h1, h2⟩ := nN_at q e2
        exact ⟨i, by omega, h2⟩
      · exact ⟨q, by omega, e, by omega⟩
    · rw [if_neg e] at h
      obtain ⟨i, h1, h2⟩ := nN_at q h
      exact ⟨i, by omega, h2⟩
theorem nN_q {b : Nat → Bool} : ∀ q, nN b q ≤ q
  | 0 => Nat.le_refl _
  | q + 1 => by
    have := nN_q (b := b) q
    show (if b q = true then nN b q + 1 else nN b q) ≤ q + 1
    split <;> omega
/-- the list of those spotted -/
def slI (C : Nat → Nat → Nat) (n : Nat) (g : Nat → Int32) : Prop := ∀ i, i < n → C 4 i ≠ 0 → nN (bC C) i < 6 → g (nN (bC C) i) = nI i
theorem listSpotted_x {F : Nat} {C P : Nat → Nat → Nat} {μ : aw_M} (hF : 100 ≤ F) (hc : ctx C P μ) : T (f_X5_listSpotted F 88 μ) fun r => r.1 = nI (nN (bC C) (C 0 2)) ∧ AgK (fun a _ => decide (a ≠ 94)) μ r.2 ∧ slI C (C 0 2) (r.2.1 94) := by
  have hwf := hc.1
  have hnq := hwf.1.2.2.1
  have r0 : aw_rf 88 0 = 5 := by simp only [rf0, rf1, rf4, rf5, rf19, rf23, rf28, rf39, rf53, rf67, rf71, rf76, rf88, rf97, rf101, rf109, rf110, rf124, rf128, rf133, rf144, rf156, rf157, rf171, rf175, rf180, rf191, rf51]
  have r8 : aw_rf 88 8 = 94 := by simp only [rf0, rf1, rf4, rf5, rf19, rf23, rf28, rf39, rf53, rf67, rf71, rf76, rf88, rf97, rf101, rf109, rf110, rf124, rf128, rf133, rf144, rf156, rf157, rf171, rf175, rf180, rf191, rf51]
  have t9 : aw_rf 5 9 = 10 := by simp only [rf0, rf1, rf4, rf5, rf19, rf23, rf28, rf39, rf53, rf67, rf71, rf76, rf88, rf97, rf101, rf109, rf110, rf124, rf128, rf133, rf144, rf156, rf157, rf171, rf175, rf180, rf191, rf51]
  have x3 : μ.1 5 3 = nI (C 0 2) := hc.2.2.1.1.1.2.2.1
  unfold f_X5_listSpotted
  refine T_lp (fun i s => ∃ μ1, s = (nI (nN (bC C) i), nI i, μ1) ∧ AgK (fun a _ => decide (a ≠ 94)) μ μ1 ∧ slI C i (μ1.1 94)) (C 0 2) (by omega) ⟨μ, rfl, AgK.rf μ, fun i h => absurd h (Nat.not_lt_zero _)⟩ ?_ ?_
  · rintro i hi _ ⟨μ1, rfl, ag, h⟩ k hk
    have hm := nN_q (b := bC C) i
    have y3 : μ1.1 5 3 = nI (C 0 2) := (ag 5 3 rfl).1.trans x3
    have t4 : μ1.1 10 i = nI (C 4 i) - 1 := (ag 10 i rfl).1.trans (hc.2.2.1.1.2.2.1 i (by omega))
    have h4b : C 4 i ≤ 100 := by
      rcases (hwf.2.1 i hi).2.2.2.2 with h | h
      · omega
      · have := hc.2.1.cell h
        omega
    have es : nN (bC C) (i + 1) = if bC C i = true then nN (bC C) i + 1 else nN (bC C) i := rfl
    show T (f_X5_listSpotted_4 F 88 k (nI (nN (bC C) i)) (nI i) μ1) _
    unfold f_X5_listSpotted_4 f_X5_listSpotted_41 f_X5_listSpotted_44
    rw [r0, y3, if_neg (nI_ge hi (by omega)), pI_in_t (by omega) (by decide), pg_t, t9, nI_clamp (by omega), t4]
    by_cases k2 : C 4 i = 0
    · rw [if_pos (show nI (C 4 i) - 1 = -1 by rw [k2]; decide), nI_1]
      rw [if_neg (fun h => (bC_t.1 h) k2)] at es
      refine hk _ ⟨μ1, by rw [es], ag, fun i' hi' h1 h2 => ?_⟩
      by_cases e : i' = i
      · subst e; exact absurd k2 h1
      · exact h i' (by omega) h1 h2
    · have hne : ¬ nI (C 4 i) - 1 = -1 := by
        have h1 := nI_ne0 (n := C 4 i) (by omega) (by omega)
        grind
      rw [if_pos (bC_t.2 k2)] at es
      rw [if_neg hne]
      by_cases c : 6 ≤ nN (bC C) i
      · rw [if_pos (show (6 : Int32) ≤ nI (nN (bC C) i) from (show nI 6 ≤ nI (nN (bC C) i) from nI_le c (by omega))), nI_1, nI_1]
        refine hk _ ⟨μ1, by rw [es], ag, fun i' hi' h1 h2 => ?_⟩
        by_cases e : i' = i
        · subst e; omega
        · exact h i' (by omega) h1 h2
      · rw [if_neg (show ¬ ((6 : Int32) ≤ nI (nN (bC C) i)) from (show ¬ (nI 6 ≤ nI (nN (bC C) i)) from nI_ge (by omega) (by omega))), pI_in_t (by omega) (by decide), pg_t, plet, r8, nI_clamp (by omega), nI_1, nI_1]
        refine hk _ ⟨_, by rw [es], ag.wI rfl, fun i' hi' h1 h2 => ?_⟩
        by_cases e : i' = i
        · subst e; exact rI_s
        · have := nN_le (b := bC C) (i := i') (q := i) (by omega) (bC_t.2 h1)
          rw [rI_k (by omega)]
          exact h i' (by omega) h1 h2
  · rintro _ ⟨μ1, rfl, ag, h⟩ k
    have y3 : μ1.1 5 3 = nI (C 0 2) := (ag 5 3 rfl).1.trans x3
    show T (f_X5_listSpotted_4 F 88 k (nI (nN (bC C) (C 0 2))) (nI (C 0 2)) μ1) _
    unfold f_X5_listSpotted_4
    rw [r0, y3, if_pos (nI_le (Nat.le_refl _) (by omega)), T_some]
    exact ⟨rfl, ag, h⟩
theorem shl6 : ∀ m, m < 7 → (1 : Int32) <<< (nI m &&& 31) = nI (2 ^ m) := by decide
/-- marks of the j-th spotted in choice c -/
def hasV (C P : Nat → Nat → Nat) (S : Nat → Int32) (c i : Nat) : Int32 := tv C S (pfS (pd (bC C) (C 0 2) c)) (rW C P) i
def hasI (C P : Nat → Nat → Nat) (S : Nat → Int32) (c j : Nat) (g : Nat → Int32) : Prop := ∀ c' i, i < C 0 2 → C 4 i ≠ 0 → (c' < c ∨ (c' = c ∧ nN (bC C) i < j)) → g (6 * c' + nN (bC C) i) = hasV C P S c' i
def SDs (C P : Nat → Nat → Nat) (c j : Nat) (μ : aw_M) : Prop := ∃ pf wf, SDC C (C 0 2) pf wf μ ∧ ∀ k, k < C 0 2 → wf k = rW C P k ∧ (C 4 k = 0 → pf k = k) ∧ (C 4 k ≠ 0 → nN (bC C) k < j → pf k = pfS (pd (bC C) (C 0 2) c) k)
theorem pd_unsp {C : Nat → Nat → Nat} {q c k : Nat} (hc : c < 2 ^ nN (bC C) q) (hk : C 4 k = 0) : bitN (pd (bC C) q c) k = 0 := by
  have h := (sb_bit q _).1 (pd_sb q c hc) k
  have h2 := bitN_lt (pd (bC C) q c) k
  by_cases e : bitN (pd (bC C) q c) k = 1
  · exact absurd hk (bC_t.1 (h e).2)
  · omega
theorem fillHas_x {F m : Nat} {C P : Nat → Nat → Nat} {μ : aw_M} (hF : 2000 ≤ F) (hc : ctx C P μ) (hm : m = nN (bC C) (C 0 2)) (h6 : m ≤ 6) (hl : slI C (C 0 2) (μ.1 94)) : T (f_X5_fillHas F 88 (nI m) μ) fun μ' => AgK (fun a _ => decide ((a < 89 ∨ 93 < a) ∧ a ≠ 95)) μ μ' ∧ hasI C P (μ.1 205) (2 ^ m) 0 (μ'.1 95) := by
  have hwf := hc.1
  have hnq := hwf.1.2.2.1
  have r8 : aw_rf 88 8 = 94 := by simp only [rf0, rf1, rf4, rf5, rf19, rf23, rf28, rf39, rf53, rf67, rf71, rf76, rf88, rf97, rf101, rf109, rf110, rf124, rf128, rf133, rf144, rf156, rf157, rf171, rf175, rf180, rf191, rf51]
  have r9 : aw_rf 88 9 = 95 := by simp only [rf0, rf1, rf4, rf5, rf19, rf23, rf28, rf39, rf53, rf67, rf71, rf76, rf88, rf97, rf101, rf109, rf110, rf124, rf128, rf133, rf144, rf156, rf157, rf171, rf175, rf180, rf191, rf51]
  have h64 : 2 ^ m ≤ 64 := Nat.pow_le_pow_right (n := 2) (by decide) h6
  have sub : ∀ {μ1 μ2}, AgK kSD μ1 μ2 → AgK (fun a _ => decide ((a < 89 ∨ 93 < a) ∧ a ≠ 95)) μ1 μ2 := fun h => h.sub fun a k h => decide_eq_true (of_decide_eq_true h).1
  unfold f_X5_fillHas
  refine T_call (playAll_x hF hwf hc.2.1.2.1 hc.2.2.1) ?_
  rintro μ1 ⟨g1, ag1⟩
  refine T_lp (fun c s => ∃ μ', s = (nI m, nI c, μ') ∧ AgK (fun a _ => decide ((a < 89 ∨ 93 < a) ∧ a ≠ 95)) μ μ' ∧ SDs C P c 0 μ' ∧ hasI C P (μ.1 205) c 0 (μ'.1 95)) (2 ^ m) (by omega) ⟨μ1, rfl, sub ag1, ⟨_, _, g1, fun k hk => ⟨rfl, fun _ => rfl, fun _ h => absurd h (Nat.not_lt_zero _)⟩⟩, fun c' i _ _ h => by omega⟩ ?_ ?_
  · rintro c hcm _ ⟨μ2, rfl, ag2, sd2, hs2⟩ k hk
    show T (f_X5_fillHas_6 F 88 k (nI m) (nI c) μ2) _
    unfold f_X5_fillHas_6
    rw [shl6 m (by omega), if_neg (nI_ge hcm (by omega))]
    have hcm' : c < 2 ^ nN (bC C) (C 0 2) := by rw [← hm]; exact hcm
    refine T_lp (fun j s => ∃ μ', s = (nI m, nI c, nI j, μ') ∧ AgK (fun a _ => decide ((a < 89 ∨ 93 < a) ∧ a ≠ 95)) μ μ' ∧ SDs C P c j μ' ∧ hasI C P (μ.1 205) c 0 (μ'.1 95)) m (by omega) ⟨μ2, rfl, ag2, sd2, hs2⟩ ?_ ?_
    · rintro j hj _ ⟨μ3, rfl, ag3, ⟨pf, wf, sd3, q3⟩, hs3⟩ k' hk'
      obtain ⟨i, i1, i2, i3⟩ := nN_at (b := bC C) (j := j) (C 0 2) (by omega)
      have i4 : C 4 i ≠ 0 := bC_t.1 i2
      have l3 : μ3.1 94 j = nI i := by
        rw [(ag3 94 j rfl).1, ← i3]
        exact hl i i1 i4 (by omega)
      have hc3 : ctx C P μ3 := hc.ag fun a ha => ag3.a fun k => decide_eq_true (by omega)
      show T (f_X5_fillHas_15 F 88 k' k (nI m) (nI c) (nI j) μ3) _
      unfold f_X5_fillHas_15
      rw [if_neg (nI_ge hj (by omega)), pI_in_t (by omega) (by decide), pg_t, bit_I (by omega) (by omega), r8, nI_clamp (by omega), l3, nI_1]
      refine T_call (standAt_x (b := bitN c j) hF hwf hc.2.1.2.1 hc3.2.2.1 sd3 i1 (bitN_lt c j) (.inl ⟨i1, rfl⟩)) ?_
      rintro μ4 ⟨g4, ag4⟩
      have e95 : μ4.1 95 = μ3.1 95 := ag4.a fun k => rfl
      refine hk' _ ⟨μ4, rfl, ag3.tr (sub ag4), ⟨_, _, g4, fun k hk => ⟨?_, fun h0 => ?_, fun h0 h1 => ?_⟩⟩, by rw [e95]; exact hs3⟩
      · show (if k = i then rW C P i else wf k) = _
        by_cases e : k = i
        · rw [if_pos e, e]
        · rw [if_neg e, (q3 k hk).1]
      · show (if k = i then 9 * bitN c j + i else pf k) = k
        rw [if_neg (fun e => i4 (by rw [← e]; exact h0))]
        exact (q3 k hk).2.1 h0
      · show (if k = i then 9 * bitN c j + i else pf k) = _
        by_cases e : k = i
        · rw [if_pos e, e]
          unfold pfS
          rw [pd_bit i2 _ c i1 hcm', i3]
        · rw [if_neg e]
          refine (q3 k hk).2.2 h0 ?_
          by_cases e2 : nN (bC C) k = j
          · exfalso
            have hk2 := bC_t.2 h0
            rcases Nat.lt_or_gt_of_ne e with h | h
            · have := nN_le (b := bC C) h hk2; omega
            · have := nN_le (b := bC C) h i2; omega
          · omega
    · rintro _ ⟨μ3, rfl, ag3, ⟨pf, wf, sd3, q3⟩, hs3⟩ k'
      show T (f_X5_fillHas_15 F 88 k' k (nI m) (nI c) (nI m) μ3) _
      unfold f_X5_fillHas_15
      rw [if_pos (nI_le (Nat.le_refl _) (by omega))]
      unfold f_X5_fillHas_41
      have sdE : ∀ μ4, AgK (fun a _ => decide (a ≠ 95)) μ3 μ4 → ∀ i, i < C 0 2 → f_X5_marksOf F 88 (nI i) μ4 = some (hasV C P (μ.1 205) c i, μ4) := fun μ4 g i hi => by
        have hc4 : ctx C P μ4 := hc.ag fun a ha => (g.a fun k => decide_eq_true (by omega)).trans (ag3.a fun k => decide_eq_true (by omega))
        have s4 : SDC C (C 0 2) pf wf μ4 := sd3.ag fun a ha => g.a fun k => decide_eq_true (by omega)
        have e205 : μ4.1 205 = μ.1 205 := (g.a fun k => rfl).trans (ag3.a fun k => rfl)
        rw [marksOf_c hF hc4 s4 hi, e205]
        refine congrArg (fun v => some (v, μ4)) (tv_ext (fun k hk => ⟨?_, (q3 k hk).1⟩) (fun _ _ => rfl) hi)
        by_cases e : C 4 k = 0
        · rw [(q3 k hk).2.1 e]
          unfold pfS
          rw [pd_unsp hcm' e]
          omega
        · exact (q3 k hk).2.2 e (by rw [hm]; exact nN_le hk (bC_t.2 e))
      refine T_lp (fun j s => ∃ μ', s = (nI m, nI c, nI j, μ') ∧ AgK (fun a _ => decide (a ≠ 95)) μ3 μ' ∧ hasI C P (μ.1 205) c j (μ'.1 95)) m (by omega) ⟨μ3, rfl, AgK.rf μ3, hs3⟩ ?_ ?_
      · rintro j hj _ ⟨μ4, rfl, ag4, hs4⟩ k'' hk''
        obtain ⟨i, i1, i2, i3⟩ := nN_at (b := bC C) (j := j) (C 0 2) (by omega)
        have i4 : C 4 i ≠ 0 := bC_t.1 i2
        have l4 : μ4.1 94 j = nI i := by
          rw [(ag4 94 j rfl).1, (ag3 94 j rfl).1, ← i3]
          exact hl i i1 i4 (by omega)
        have e6 : nI c * 6 + nI j = nI (6 * c + j) := by
          have : nI c * 6 + nI j = 6 * nI c + nI j := by grind
          rw [this]
          simp (disch := omega) only [pI_lit, nI_add, nI_clamp, nI_leI, nI_ltI, nI_eq, pk_mul]
        show T (f_X5_fillHas_43 F 88 k'' k (nI m) (nI c) (nI j) μ4) _
        unfold f_X5_fillHas_43
        rw [if_neg (nI_ge hj (by omega)), pI_in_t (by omega) (by decide), pg_t, r8, nI_clamp (by omega), l4, sdE μ4 ag4 i i1, Option.bind_some, e6, pI_in_t (by omega) (by decide), pg_t, plet, r9, nI_clamp (by omega), nI_1]
        refine hk'' _ ⟨_, rfl, ag4.wI rfl, fun c' i' h1 h2 h3 => ?_⟩
        have hi6 : nN (bC C) i' < 6 := by
          have := nN_le h1 (bC_t.2 h2)
          omega
        by_cases e : c' = c ∧ nN (bC C) i' = j
        · obtain ⟨rfl, e2⟩ := e
          have ei : i' = i := by
            by_cases ne : i' = i
            · exact ne
            · rcases Nat.lt_or_gt_of_ne ne with h | h
              · have := nN_le (b := bC C) h (bC_t.2 h2); omega
              · have := nN_le (b := bC C) h i2; omega
          subst ei
          rw [e2]
          exact rI_s
        · rw [rI_k (by omega)]
          exact hs4 c' i' h1 h2 (by omega)
      · rintro _ ⟨μ4, rfl, ag4, hs4⟩ k''
        show T (f_X5_fillHas_43 F 88 k'' k (nI m) (nI c) (nI m) μ4) _
        unfold f_X5_fillHas_43 f_X5_fillHas_75
        rw [if_pos (nI_le (Nat.le_refl _) (by omega)), nI_1]
        refine hk _ ⟨μ4, rfl, ag3.tr (ag4.sub fun a k h => ?_), ⟨pf, wf, sd3.ag fun a ha => ag4.a fun k => decide_eq_true (by omega), fun k hk => ⟨(q3 k hk).1, (q3 k hk).2.1, fun _ h => absurd h (Nat.not_lt_zero _)⟩⟩, fun c' i' h1 h2 h3 => hs4 c' i' h1 h2 ?_⟩
        · have h := of_decide_eq_true h
          exact decide_eq_true h.2
        · have := nN_le h1 (bC_t.2 h2)
          omega
  · rintro _ ⟨μ2, rfl, ag2, sd2, hs2⟩ k
    show T (f_X5_fillHas_6 F 88 k (nI m) (nI (2 ^ m)) μ2) _
    unfold f_X5_fillHas_6
    rw [shl6 m (by omega), if_pos (nI_le (Nat.le_refl _) (by omega)), T_some]
    exact ⟨ag2, hs2⟩
