theorem SDC.ag {T : Nat → Nat → Nat} {n : Nat} {pf : Nat → Nat} {wf : Nat → Nat → Nat} {μ μ' : aw_M} (h : SDC T n pf wf μ) (ha : ∀ a, a = 18 ∨ (89 ≤ a ∧ a ≤ 92) → μ'.1 a = μ.1 a) : SDC T n pf wf μ' := by
  obtain ⟨⟨h1, h2, h3⟩, h4⟩ := h
  refine ⟨⟨fun q i hq hi => ?_, fun v hv => ?_, h3⟩, fun q hq => ?_⟩
  · rw [ha 89 (by omega)]; exact h1 q i hq hi
  · rw [ha 90 (by omega)]; exact h2 v hv
  · rw [ha 91 (by omega), ha 92 (by omega), ha 18 (by omega)]; exact h4 q hq
def kTb (a k : Nat) : Bool := decide ((a < 89 ∨ 93 < a) ∧ a ≠ 96)
theorem kTb_sd {μ μ' : aw_M} (h : AgK kSD μ μ') : AgK kTb μ μ' := h.sub fun a k hk => decide_eq_true (of_decide_eq_true hk).1
theorem ctx.tb {C P : Nat → Nat → Nat} {μ μ' : aw_M} (h : ctx C P μ) (ag : AgK kTb μ μ') : ctx C P μ' := h.ag fun a ha => ag.a fun k => decide_eq_true (by omega)
/-- the rows of all but the first two as told -/
def SD2 (C P : Nat → Nat → Nat) (w0 : Option (Nat → Nat)) (μ : aw_M) : Prop := ∃ pf wf, SDC C (C 0 2) pf wf μ ∧ (∀ k, k < C 0 2 → pf k = k) ∧ (∀ k, k < C 0 2 → 2 ≤ k → wf k = rW C P k) ∧ ∀ w, w0 = some w → wf 0 = w
def mDone (C P : Nat → Nat → Nat) (S : Nat → Int32) (B : Nat → Nat) (t i j : Nat) (g : Nat → Int32) : Prop := ∀ i' j' w, (i' < i ∨ (i' = i ∧ j' < j)) → j' < t → w < 2 → g (12 * i' + 2 * j' + w) = tV C P S B i' j' w
theorem mDone_s {C P : Nat → Nat → Nat} {S : Nat → Int32} {B : Nat → Nat} {t i j : Nat} {g g' : Nat → Int32} (h : mDone C P S B t i j g) (ht : t ≤ 6) (h0 : g' (12 * i + 2 * j) = tV C P S B i j 0) (h1 : g' (12 * i + 2 * j + 1) = tV C P S B i j 1) (ho : ∀ k, k ≠ 12 * i + 2 * j → k ≠ 12 * i + 2 * j + 1 → g' k = g k) (hj : j < t) : mDone C P S B t i (j + 1) g' := by
  intro i' j' w h2 h3 h4
  by_cases e : i' = i ∧ j' = j
  · obtain ⟨rfl, rfl⟩ := e
    have hw : w = 0 ∨ w = 1 := by omega
    rcases hw with rfl | rfl
    · exact h0
    · exact h1
  · rw [ho _ (by omega) (by omega)]
    exact h i' j' w (by omega) h3 h4
theorem tryAll_x {F n : Nat} {B : Nat → Nat} {C P : Nat → Nat → Nat} {μ : aw_M} (hF : 2000 ≤ F) (hc : ctx C P μ) (hn : n ≤ 940) (e1 : μ.1 1 1 = nI n) (hB : ∀ i, i < n → B i < 256 ∧ μ.1 2 i = nI (B i)) (hok : 2 ≤ C 0 2 ∧ 2 ≤ n ∧ n ≤ 12 ∧ n % 2 = 0 ∧ ∀ i, i < n / 2 → plOK B i) : T (f_X5_tryAll F 88 1 μ) fun r => r.1 = nI (n / 2) ∧ AgK kTb (aw_wI μ 88 10 (nI (n / 2))) r.2 ∧ mDone C P (μ.1 205) B (n / 2) (n / 2) 0 (r.2.1 96) := by
  have hwf := hc.1
  have hnq := hwf.1.2.2.1
  have r10 : aw_rf 1 0 = 2 := by simp only [rf0, rf1, rf4, rf5, rf19, rf23, rf28, rf39, rf53, rf67, rf71, rf76, rf88, rf97, rf101, rf109, rf110, rf124, rf128, rf133, rf144, rf156, rf157, rf171, rf175, rf180, rf191, rf51]
  have r11 : aw_rf 88 11 = 96 := by simp only [rf0, rf1, rf4, rf5, rf19, rf23, rf28, rf39, rf53, rf67, rf71, rf76, rf88, rf97, rf101, rf109, rf110, rf124, rf128, rf133, rf144, rf156, rf157, rf171, rf175, rf180, rf191, rf51]
  have e2 : nI n / 2 = nI (n / 2) := nI_div (b := 2) (by omega) (by decide)
  obtain ⟨k1, k2, k3, k4, k5⟩ := hok
  unfold f_X5_tryAll
  refine T_call (isTable_x (by omega) hc hn e1 hB) ?_
  rintro ⟨r1, μ'⟩ ⟨e3, e4⟩
  have e3 : μ' = μ := e3
  subst e3
  have e4 : r1 = true := e4.2 ⟨k1, k2, k3, k4, k5⟩
  subst e4
  rw [if_pos rfl, plet, e1, e2]
  generalize ht : n / 2 = t at *
  have ht6 : t ≤ 6 := by omega
  have hcS : μ'.1 205 = μ'.1 205 := rfl
  generalize hS : μ'.1 205 = S at hcS
  have hc0 : ctx C P (aw_wI μ' 88 10 (nI t)) := hc.ag fun a ha => by rw [rI_a (by omega)]
  have t2 : (aw_wI μ' 88 10 (nI t)).1 2 = μ'.1 2 := rI_a (by decide)
  have t8 : (aw_wI μ' 88 10 (nI t)).1 88 10 = nI t := rI_s
  have t5 : (aw_wI μ' 88 10 (nI t)).1 205 = S := by rw [rI_a (by decide), hS]
  generalize aw_wI μ' 88 10 (nI t) = μ0 at hc0 t2 t8 t5
  refine T_call (playAll_x hF hwf hc0.2.1.2.1 hc0.2.2.1) ?_
  rintro μ1 ⟨g1, ag1⟩
  have tape : ∀ μ2, AgK kTb μ0 μ2 → (∀ i, i < n → μ2.1 2 i = nI (B i)) ∧ μ2.1 88 10 = nI t ∧ μ2.1 205 = S := fun μ2 ag => ⟨fun i hi => by
    rw [(ag 2 i rfl).1, t2]
    exact (hB i hi).2, (ag 88 10 rfl).1.trans t8, (ag.a fun k => rfl).trans t5⟩
  have z0 : (0 : Int32) = nI 0 := rfl
  have z1 : (1 : Int32) = nI 1 := rfl
  have hin : ∀ j, j < 940 → aw_in (nI j) 940 = true := fun j hj => pI_in_t hj (by decide)
  have hcl : ∀ j, j < 940 → (nI j).toNatClampNeg = j := fun j hj => nI_clamp (by omega)
  have e2x : ∀ j, (2 : Int32) * nI j = nI (2 * j) := fun j => by simp (disch := omega) only [pI_lit, nI_add, nI_clamp, nI_leI, nI_ltI, nI_eq, pk_mul]
  have play : ∀ (q i j : Nat) (w0 : Option (Nat → Nat)) (μ2 : aw_M), q < 2 → i < t → j < t → ctx C P μ2 → SD2 C P w0 μ2 → (q = 1 → w0 = some (rW C (tP P B i j) 0)) → T (f_X5_play F 88 (nI q) (nI q) (nI (B (2 * (if q = 0 then i else j)))) (nI (B (2 * (if q = 0 then i else j) + 1))) 0 μ2) fun μ3 => AgK kSD μ2 μ3 ∧ SD2 C P (some (rW C (tP P B i j) 0)) μ3 ∧ (q = 1 → ∀ w, w < 2 → f_X5_marksOf F 88 (nI w) μ3 = some (tV C P (μ2.1 205) B i j w, μ3)) := fun q i j w0 μ2 hq hi hj hc2 h2 hw0 => by
    obtain ⟨pf, wf, s1, s2, s3, s4⟩ := h2
    have hq2 : q = 0 ∨ q = 1 := by omega
    obtain ⟨p1, p2⟩ := k5 (if q = 0 then i else j) (by split <;> omega)
    have hwq : rW C (tP P B i j) q 1 = B (2 * (if q = 0 then i else j)) + 1 ∧ rW C (tP P B i j) q 2 = B (2 * (if q = 0 then i else j) + 1) ∧ rW C (tP P B i j) q 3 = 0 := by
      rcases hq2 with rfl | rfl <;> exact ⟨rfl, rfl, rfl⟩
    refine T_mono (playC (w := rW C (tP P B i j) q) hF hwf hc2.2.2.1 s1 (show q < C 0 2 by omega) (by omega) (by rw [Nat.mod_eq_of_lt (by omega)]; omega) (by rw [hwq.1, nI_1]) (by rw [hwq.1]; omega) (by rw [hwq.2.1]; omega) (.inl (by rw [hwq.2.1])) (by rw [hwq.2.2]; exact ⟨fun h => absurd h (by decide), fun h => absurd h (by decide)⟩) rfl rfl (.inl ⟨by omega, rfl⟩)) ?_
    rintro μ3 ⟨a1, a2⟩
    have hp' : ∀ k, k < C 0 2 → (if k = q then q else pf k) = k := fun k hk => by
      by_cases e : k = q
      · rw [if_pos e, e]
      · rw [if_neg e, s2 k hk]
    refine ⟨a2, ⟨_, _, a1, hp', fun k hk hk2 => ?_, fun w hw => ?_⟩, fun hq1 w hw => ?_⟩
    · show (if k = q then _ else wf k) = _
      rw [if_neg (by omega), s3 k hk hk2]
    · cases hw
      show (if (0 : Nat) = q then rW C (tP P B i j) q else wf 0) = _
      rcases hq2 with rfl | rfl
      · rw [if_pos rfl]
      · rw [if_neg (by decide)]
        exact s4 _ (hw0 rfl)
    · have hc3 := hc2.sc (sd_scr a2)
      have e205 : μ3.1 205 = μ2.1 205 := a2.a fun k => decide_eq_true (by omega)
      rw [marksOf_c hF hc3 a1 (by omega), e205]
      refine congrArg (fun v => some (v, μ3)) (tv_ext (fun k hk => ⟨hp' k hk, ?_⟩) (fun _ _ => rfl) (by omega))
      show (if k = q then rW C (tP P B i j) q else wf k) = rW C (tP P B i j) k
      by_cases e : k = q
      · rw [if_pos e, e]
      · rw [if_neg e]
        have hk2 : k = 0 ∨ 2 ≤ k := by omega
        rcases hk2 with rfl | hk2
        · exact s4 _ (hw0 hq1)
        · rw [s3 k hk hk2, rW_tP hk2]
  refine T_lp (fun i s => ∃ μ', s = (nI i, μ') ∧ SD2 C P none μ' ∧ AgK kTb μ0 μ' ∧ mDone C P S B t i 0 (μ'.1 96)) t (by omega) ⟨μ1, rfl, ⟨_, _, g1, fun _ _ => rfl, fun _ _ _ => rfl, fun w h => by cases h⟩, kTb_sd ag1, fun i' j' w h => by omega⟩ ?_ ?_
  · rintro i hi _ ⟨μ2, rfl, h2, ag2, dn⟩ k hk
    obtain ⟨tp1, tp2, tp3⟩ := tape μ2 ag2
    show T (f_X5_tryAll_26 F 88 1 k (nI i) μ2) _
    unfold f_X5_tryAll_26
    rw [tp2, if_neg (nI_ge hi (by omega)), e2x, hin _ (by omega), pg_t, nI_1, hin _ (by omega), pg_t, r10, hcl _ (by omega), hcl _ (by omega), tp1 _ (by omega), tp1 _ (by omega)]
    refine T_call (play 0 i 0 none μ2 (by decide) hi (by omega) (hc0.tb ag2) h2 (fun h => by cases h)) ?_
    rintro μ3 ⟨a1, a2, -⟩
    have d3 : μ3.1 96 = μ2.1 96 := a1.a fun k => rfl
    refine T_lp (fun j s => ∃ μ', s = (nI i, nI j, μ') ∧ SD2 C P (some (rW C (tP P B i 0) 0)) μ' ∧ AgK kTb μ0 μ' ∧ mDone C P S B t i j (μ'.1 96)) t (by omega) ⟨μ3, rfl, a2, ag2.tr (kTb_sd a1), by rw [d3]; exact dn⟩ ?_ ?_
    · rintro j hj _ ⟨μ4, rfl, h4, ag4, dn4⟩ k' hk'
      obtain ⟨tq1, tq2, tq3⟩ := tape μ4 ag4
      show T (f_X5_tryAll_61 F 88 1 k' k (nI i) (nI j) μ4) _
      unfold f_X5_tryAll_61
      have e12 : (2 : Int32) * (nI i * 6 + nI j) = nI (12 * i + 2 * j) := by
        have : (2 : Int32) * (nI i * 6 + nI j) = 12 * nI i + 2 * nI j := by grind
        rw [this]
        simp (disch := omega) only [pI_lit, nI_add, nI_clamp, nI_leI, nI_ltI, nI_eq, pk_mul]
      rw [tq2, if_neg (nI_ge hj (by omega)), e2x, hin _ (by omega), pg_t, nI_1, hin _ (by omega), pg_t, r10, hcl _ (by omega), hcl _ (by omega), tq1 _ (by omega), tq1 _ (by omega)]
      refine T_call (play 1 i j _ μ4 (by decide) hi hj (hc0.tb ag4) h4 (fun _ => rfl)) ?_
      rintro μ5 ⟨b1, b2, b3⟩
      have b3 := b3 rfl
      have m0 := b3 0 (by decide)
      have d5 : μ5.1 96 = μ4.1 96 := b1.a fun k => rfl
      have m1 : f_X5_marksOf F 88 (nI 1) (aw_wI μ5 96 (12 * i + 2 * j) (tV C P (μ4.1 205) B i j 0)) = some (tV C P (μ4.1 205) B i j 1, aw_wI μ5 96 (12 * i + 2 * j) (tV C P (μ4.1 205) B i j 0)) := by
        obtain ⟨pf, wf, s1, s2, s3, s4⟩ := b2
        have hc5 := (hc0.tb ag4).sc (sd_scr b1)
        have e5 : μ5.1 205 = μ4.1 205 := b1.a fun k => decide_eq_true (by omega)
        have hc6 : ctx C P (aw_wI μ5 96 (12 * i + 2 * j) (tV C P (μ4.1 205) B i j 0)) := hc5.ag fun a ha => by rw [rI_a (by omega)]
        have x1 := marksOf_c (q := 1) hF hc5 s1 (by omega)
        rw [b3 1 (by decide)] at x1
        have x2 := marksOf_c (q := 1) hF hc6 (s1.ag fun a ha => by rw [rI_a (by omega)]) (by omega)
        have e6 : (aw_wI μ5 96 (12 * i + 2 * j) (tV C P (μ4.1 205) B i j 0)).1 205 = μ5.1 205 := rI_a (by decide)
        rw [x2, e6]
        have x3 := congrArg Prod.fst (Option.some.inj x1)
        exact congrArg (fun v => some (v, _)) x3.symm
      have m0' : f_X5_marksOf F 88 0 μ5 = some (tV C P (μ4.1 205) B i j 0, μ5) := m0
      have m1' : f_X5_marksOf F 88 1 (aw_wI μ5 96 (12 * i + 2 * j) (tV C P (μ4.1 205) B i j 0)) = some (tV C P (μ4.1 205) B i j 1, aw_wI μ5 96 (12 * i + 2 * j) (tV C P (μ4.1 205) B i j 0)) := m1
      rw [m0', Option.bind_some, e12, pI_in_t (by omega) (by decide), pg_t, plet, r11, nI_clamp (by omega)]
      show T ((f_X5_marksOf F 88 1 (aw_wI μ5 96 (12 * i + 2 * j) (tV C P (μ4.1 205) B i j 0))).bind _) _
      rw [m1', Option.bind_some, nI_1, pI_in_t (by omega) (by decide), pg_t, plet, nI_clamp (by omega), nI_1]
      refine hk' _ ⟨_, rfl, ?_, ?_, ?_⟩
      · obtain ⟨pf, wf, s1, s2, s3, s4⟩ := b2
        exact ⟨pf, wf, s1.ag fun a ha => by rw [rI_a (by omega), rI_a (by omega)], s2, s3, s4⟩
      · exact ((ag4.tr (kTb_sd b1)).wI (decide_eq_false (by omega))).wI (decide_eq_false (by omega))
      · rw [tq3]
        refine mDone_s dn4 ht6 ?_ ?_ (fun k h1 h2 => ?_) hj
        · rw [rI_k (by omega), rI_s]
        · rw [rI_s]
        · rw [rI_k h2, rI_k h1, d5]
    · rintro _ ⟨μ4, rfl, h4, ag4, dn4⟩ k'
      obtain ⟨tq1, tq2, tq3⟩ := tape μ4 ag4
      show T (f_X5_tryAll_61 F 88 1 k' k (nI i) (nI t) μ4) _
      unfold f_X5_tryAll_61 f_X5_tryAll_138
      rw [tq2, if_pos (nI_le (Nat.le_refl _) (by omega)), nI_1]
      obtain ⟨pf, wf, s1, s2, s3, s4⟩ := h4
      exact hk _ ⟨μ4, rfl, ⟨pf, wf, s1, s2, s3, fun w h => by cases h⟩, ag4, fun i' j' w h1 h2 h3 => dn4 i' j' w (by omega) h2 h3⟩
  · rintro _ ⟨μ2, rfl, h2, ag2, dn⟩ k
    obtain ⟨tp1, tp2, tp3⟩ := tape μ2 ag2
    show T (f_X5_tryAll_26 F 88 1 k (nI t) μ2) _
    unfold f_X5_tryAll_26
    rw [tp2, if_pos (nI_le (Nat.le_refl _) (by omega)), T_some]
    exact ⟨rfl, ag2, dn⟩
