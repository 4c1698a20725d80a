/-! another plan for one quarter -/
def gP (P : Nat → Nat → Nat) (q n e : Nat) : Nat → Nat → Nat := fun f k => if k = q ∧ f = 0 then n + 1 else if k = q ∧ f = 1 then e else P f k
theorem rW_gP {C P : Nat → Nat → Nat} {q n e k : Nat} (h : k ≠ q) : rW C (gP P q n e) k = rW C P k := by
  funext j
  unfold rW gP
  rw [if_neg (show ¬ (k = q ∧ 0 = 0) from fun h2 => h h2.1), if_neg (show ¬ (k = q ∧ 0 = 1) from fun h2 => h h2.1), if_neg (show ¬ (k = q ∧ 1 = 0) from fun h2 => h h2.1), if_neg (show ¬ (k = q ∧ 1 = 1) from fun h2 => h h2.1), if_neg (show ¬ (k = q ∧ 2 = 0) from fun h2 => h h2.1), if_neg (show ¬ (k = q ∧ 2 = 1) from fun h2 => h h2.1)]
theorem gP_at {P : Nat → Nat → Nat} {q n e : Nat} : gP P q n e 0 q = n + 1 ∧ gP P q n e 1 q = e ∧ gP P q n e 2 q = P 2 q := ⟨if_pos ⟨rfl, rfl⟩, (if_neg (fun h => by cases h.2)).trans (if_pos ⟨rfl, rfl⟩), (if_neg (fun h => by cases h.2)).trans (if_neg (fun h => by cases h.2))⟩
theorem gP_ne {P : Nat → Nat → Nat} {q n e f k : Nat} (h : k ≠ q ∨ (f ≠ 0 ∧ f ≠ 1)) : gP P q n e f k = P f k := by
  unfold gP
  rw [if_neg (by omega), if_neg (by omega)]
theorem gP_wf {P : Nat → Nat → Nat} {q n e nq : Nat} (pw : qPWF P nq) (hq : q < nq) (hn : n ≤ 18) (he : e ≤ 99) : qPWF (gP P q n e) nq := by
  intro k
  have h := pw k
  by_cases hk : k = q
  · subst hk
    obtain ⟨g1, g2, g3⟩ := gP_at (P := P) (q := k) (n := n) (e := e)
    rw [g1, g2, g3]
    omega
  · rw [gP_ne (.inl hk), gP_ne (.inl hk), gP_ne (.inl hk)]
    exact h
theorem gP_pm {P : Nat → Nat → Nat} {S : Nat → Int32} {q n e : Nat} (pm : qPM P S) (hq : q < 9) : qPM (gP P q n e) (upd (upd S (427 + q) (nI (n + 1))) (436 + q) (nI e)) := by
  obtain ⟨g1, g2, g3⟩ := gP_at (P := P) (q := q) (n := n) (e := e)
  refine ⟨?_, fun k hk => ⟨?_, ?_, ?_⟩⟩
  · rw [pk_un (by omega), pk_un (by omega), gP_ne (.inr (by omega))]
    exact pm.1
  · by_cases h : k = q
    · subst h
      rw [pk_un (by omega), pk_us, g1]
    · rw [pk_un (by omega), pk_un (by omega), gP_ne (.inl h)]
      exact (pm.2 k hk).1
  · by_cases h : k = q
    · subst h
      rw [pk_us, g2]
    · rw [pk_un (by omega), pk_un (by omega), gP_ne (.inl h)]
      exact (pm.2 k hk).2.1
  · rw [pk_un (by omega), pk_un (by omega), gP_ne (.inr (by omega))]
    exact (pm.2 k hk).2.2
/-- marks by another plan -/
def gV (C P : Nat → Nat → Nat) (S : Nat → Int32) (q n e : Nat) : Int32 := tv C S (fun q => q) (rW C (gP P q n e)) q
theorem gridOf_m {F q n e : Nat} {C P : Nat → Nat → Nat} {μ : aw_M} (hF : 2000 ≤ F) (hc : ctx C P μ) (hq : q < C 0 2) (hn : n ≤ 18) (he : e ≤ 99) : T (f_X11_gridOf F 203 (nI q) (nI n) (nI e) μ) fun r => r.1 = gV C P (μ.1 205) q n e ∧ AgK kScr μ r.2 := by
  have hwf := hc.1
  have hnq := hwf.1.2.2.1
  have r23 : aw_rf 203 23 = 211 := by simp only [rf203, rf203b]
  have e427 : (427 : Int32) + nI q = nI (427 + q) := nI_add 427 q
  have e436 : (436 : Int32) + nI q = nI (436 + q) := nI_add 436 q
  have i427 : aw_in (nI (427 + q)) 1155 = true := pI_in_t (by omega) (by decide)
  have i436 : aw_in (nI (436 + q)) 1155 = true := pI_in_t (by omega) (by decide)
  have c427 : (nI (427 + q)).toNatClampNeg = 427 + q := nI_clamp (by omega)
  have c436 : (nI (436 + q)).toNatClampNeg = 436 + q := nI_clamp (by omega)
  unfold f_X11_gridOf
  simp only [e427, e436, i427, i436, c427, c436, pg_t, plet, rf203.2.1, nI_1]
  have h5 : (aw_wI (aw_wI μ 205 (427 + q) (nI (n + 1))) 205 (436 + q) (nI e)).1 205 = upd (upd (μ.1 205) (427 + q) (nI (n + 1))) (436 + q) (nI e) := by
    rw [wI_aset, wI_aset, rA_s, rA_s]
  have ok' : sOK C (gP P q n e) (upd (upd (μ.1 205) (427 + q) (nI (n + 1))) (436 + q) (nI e)) := ⟨hc.2.1.1, gP_wf hc.2.1.2.1 hq hn he, qTM_ext hc.2.1.1 (fun k hk => by rw [pk_un (by omega), pk_un (by omega)]) hc.2.1.2.2.1, gP_pm hc.2.1.2.2.2 (by omega)⟩
  refine T_call (sureDay_c (C := C) (S := μ.1 205) (pf := fun q => q) (wf := rW C (gP P q n e)) hF (by rw [h5]; exact ok') (fun a ha => by rw [h5, pk_un (by omega), pk_un (by omega)]; exact hc.2.2.2.1 a ha) (fun _ _ => rfl) (fun q hq => told_wf hnq hq) (fun _ _ => rfl) (fun i hi => by rw [h5, pk_un (by omega), pk_un (by omega)])) ?_
  rintro μ3 ⟨d1, d2, d3⟩
  rw [pI_in_t (by omega) (by decide), pg_t, T_some, r23, nI_clamp (by omega), rI_a (by decide), rI_a (by decide), d3 q hq]
  refine ⟨rfl, ag_scr (fun a ha => ?_) (show μ3.2 = μ.2 from d2)⟩
  by_cases e5 : a = 205
  · subst e5
    show (aw_wI (aw_wI μ3 205 (427 + q) (μ.1 205 (427 + q))) 205 (436 + q) (μ.1 205 (436 + q))).1 205 = μ.1 205
    rw [wI_aset, wI_aset, rA_s, rA_s, d1 205 (by decide) (by decide), h5]
    funext k
    by_cases k1 : k = 436 + q
    · subst k1; rw [pk_us]
    · rw [pk_un k1]
      by_cases k2 : k = 427 + q
      · subst k2; rw [pk_us]
      · rw [pk_un k2, pk_un k1, pk_un k2]
  · show (aw_wI (aw_wI μ3 205 (427 + q) _) 205 (436 + q) _).1 a = μ.1 a
    rw [rI_a e5, rI_a e5, d1 a (fun e => by subst e; cases ha) (fun e => by subst e; cases ha), rI_a e5, rI_a e5]
theorem isPlan_x {F : Nat} {a b : Int32} {μ : aw_M} : f_X10_isPlan F a b μ = some (decide ((0 ≤ a ∧ a ≤ 18) ∧ 0 ≤ b ∧ b ≤ 99), μ) := by
  unfold f_X10_isPlan
  by_cases h1 : a < 0
  · rw [if_pos h1, decide_eq_false (fun h => by have := h.1.1; grind)]
  by_cases h2 : 18 < a
  · rw [if_neg h1, if_pos h2, decide_eq_false (fun h => by have := h.1.2; grind)]
  by_cases h3 : b < 0
  · rw [if_neg h1, if_neg h2, if_pos h3, decide_eq_false (fun h => by have := h.2.1; grind)]
  by_cases h4 : 99 < b
  · rw [if_neg h1, if_neg h2, if_neg h3, if_pos h4, decide_eq_false (fun h => by have := h.2.2; grind)]
  · rw [if_neg h1, if_neg h2, if_neg h3, if_neg h4, decide_eq_true (by grind)]
/-- the rows as told but that of q -/
def SDq (C P : Nat → Nat → Nat) (q : Nat) (μ : aw_M) : Prop := ∃ pf wf, SDC C (C 0 2) pf wf μ ∧ (∀ k, k < C 0 2 → pf k = k) ∧ ∀ k, k < C 0 2 → k ≠ q → wf k = rW C P k
theorem playG {F q n e : Nat} {C P : Nat → Nat → Nat} {μ : aw_M} (hF : 2000 ≤ F) (hc : ctx C P μ) (h : SDq C P q μ) (hq : q < C 0 2) (hn : n ≤ 18) (he : e ≤ 99) : T (f_X5_play F 88 (nI q) (nI q) (nI n) (nI e) (μ.1 22 q) μ) fun μ' => AgK kSD μ μ' ∧ SDq C P q μ' ∧ f_X5_marksOf F 88 (nI q) μ' = some (gV C P (μ.1 205) q n e, μ') := by
  have hwf := hc.1
  have hnq := hwf.1.2.2.1
  obtain ⟨pf, wf, h1, h2, h3⟩ := h
  obtain ⟨q0, q1, q2⟩ := hc.2.2.1.2.1.2 q (by omega)
  have q2 : μ.1 22 q = if P 0 q = 0 then -1 else nI (P 2 q) := q2
  obtain ⟨g1, g2, g3⟩ := gP_at (P := P) (q := q) (n := n) (e := e)
  have hp := hc.2.1.2.1 q
  refine T_mono (playC (w := rW C (gP P q n e) q) hF hwf hc.2.2.1 h1 hq (by omega) (by rw [Nat.mod_eq_of_lt (by omega)]; exact hq) ?_ ?_ ?_ ?_ ?_ rfl rfl (.inl ⟨hq, rfl⟩)) ?_
  · show nI n + 1 = nI (gP P q n e 0 q)
    rw [g1, nI_1]
  · show gP P q n e 0 q ≤ 100
    omega
  · show gP P q n e 1 q ≤ 1000
    omega
  · left
    show nI e = nI (gP P q n e 1 q)
    rw [g2]
  · show μ.1 22 q = 1 ↔ gP P q n e 2 q = 1
    have e1 : (1 : Int32) = nI 1 := rfl
    rw [q2, g3]
    by_cases k : P 0 q = 0
    · rw [if_pos k]
      have := (hp.2.2.2.1 k).2
      exact ⟨fun h => absurd h (by decide), fun h => by omega⟩
    · rw [if_neg k, e1, nI_eq (by omega) (by decide)]
  · rintro μ' ⟨a1, a2⟩
    have hc' := hc.sc (sd_scr a2)
    refine ⟨a2, ⟨_, _, a1, fun k hk => ?_, fun k hk hkq => ?_⟩, ?_⟩
    · show (if k = q then q else pf k) = k
      by_cases e : k = q
      · rw [if_pos e, e]
      · rw [if_neg e, h2 k hk]
    · show (if k = q then rW C (gP P q n e) q else wf k) = rW C P k
      rw [if_neg hkq, h3 k hk hkq]
    · have e205 : μ'.1 205 = μ.1 205 := a2.a fun k => decide_eq_true (by omega)
      rw [marksOf_c hF hc' a1 hq, e205]
      refine congrArg (fun v => some (v, μ')) (tv_ext (fun k hk => ⟨?_, ?_⟩) (fun _ _ => rfl) hq)
      · show (if k = q then q else pf k) = k
        by_cases e : k = q
        · rw [if_pos e, e]
        · rw [if_neg e, h2 k hk]
      · show (if k = q then rW C (gP P q n e) q else wf k) = rW C (gP P q n e) k
        by_cases e : k = q
        · rw [if_pos e, e]
        · rw [if_neg e, h3 k hk e, rW_gP e]
theorem p_grid : op_grid R := by
  intro F hF a0 a1 a2 μ hR
  obtain ⟨C, P, hc⟩ := ctx_of hR
  have hwf := hc.1
  have hnq := hwf.1.2.2.1
  have r8 : aw_rf 0 8 = 88 := by simp only [rf0, rf1, rf4, rf5, rf19, rf23, rf28, rf39, rf53, rf67, rf71, rf76, rf88, rf97, rf101, rf109, rf110, rf124, rf128, rf133, rf144, rf156, rf157, rf171, rf175, rf180, rf191, rf51]
  have r81 : aw_rf 88 1 = 19 := by simp only [rf0, rf1, rf4, rf5, rf19, rf23, rf28, rf39, rf53, rf67, rf71, rf76, rf88, rf97, rf101, rf109, rf110, rf124, rf128, rf133, rf144, rf156, rf157, rf171, rf175, rf180, rf191, rf51]
  have s3 : aw_rf 19 3 = 22 := by simp only [rf0, rf1, rf4, rf5, rf19, rf23, rf28, rf39, rf53, rf67, rf71, rf76, rf88, rf97, rf101, rf109, rf110, rf124, rf128, rf133, rf144, rf156, rf157, rf171, rf175, rf180, rf191, rf51]
  have x3 : μ.1 5 3 = nI (C 0 2) := hc.2.2.1.1.1.2.2.1
  have hno : ¬ ((0 ≤ a0 ∧ a0 ≤ nI (C 0 2) - 1) ∧ (0 ≤ a1 ∧ a1 ≤ 18) ∧ 0 ≤ a2 ∧ a2 ≤ 99) → f_X10_grid F 0 a0 a1 a2 μ = some (-10001, μ) → okI R (f_X10_grid F 0 a0 a1 a2 μ) (fun μ1 => f_X11_grid F 203 a0 a1 a2 μ1) := fun h h1 => by
    refine ⟨_, h1, ?_⟩
    have hc2 := hc.sc ((AgK.rf μ).wI (v := 0) kScr_3)
    have y3 : (aw_wI μ 203 0 0).1 205 2 = nI (C 0 2) := hc2.2.1.2.2.1.1.2.2.1
    show T (f_X11_grid F 203 a0 a1 a2 μ) _
    unfold f_X11_grid
    rw [plet, mQ y3, Option.bind_some]
    by_cases h0 : 0 ≤ a0 ∧ a0 ≤ nI (C 0 2) - 1
    · rw [decide_eq_true h0, if_pos rfl, isIn_eq, Option.bind_some]
      by_cases h2 : 0 ≤ a1 ∧ a1 ≤ 18
      · rw [decide_eq_true h2, if_pos rfl, isIn_eq, Option.bind_some, decide_eq_false (fun h3 => h ⟨h0, h2, h3⟩), if_neg Bool.false_ne_true]
        exact ⟨_, rfl, rfl, R_th hR⟩
      · rw [decide_eq_false h2, if_neg Bool.false_ne_true]
        exact ⟨_, rfl, rfl, R_th hR⟩
    · rw [decide_eq_false h0, if_neg Bool.false_ne_true]
      exact ⟨_, rfl, rfl, R_th hR⟩
  by_cases h0 : 0 ≤ a0 ∧ a0 ≤ nI (C 0 2) - 1
  · by_cases hp : (0 ≤ a1 ∧ a1 ≤ 18) ∧ 0 ≤ a2 ∧ a2 ≤ 99
    · obtain ⟨q, hq, rfl⟩ := ix_of (by omega) h0
      obtain ⟨n, hn, rfl⟩ := nI_of2 (x := a1) (M := 18) (n := 18) (by decide) (by grind) hp.1.2
      obtain ⟨e, he, rfl⟩ := nI_of2 (x := a2) (M := 99) (n := 99) (by decide) (by grind) hp.2.2
      unfold okI f_X10_grid
      rw [xQ hnq x3, Option.bind_some, decide_eq_true h0, if_pos rfl, isPlan_x, Option.bind_some, decide_eq_true hp, if_pos rfl, r8]
      unfold f_X5_marksWith
      obtain ⟨μ1, e1, g1, ag1⟩ := playAll_x (F := F) (by omega) hwf hc.2.1.2.1 hc.2.2.1
      have hc1 := hc.sc (sd_scr ag1)
      obtain ⟨μ2, e2, ag2, -, e3⟩ := playG (F := F) (n := n) (e := e) (by omega) hc1 ⟨_, _, g1, fun _ _ => rfl, fun _ _ _ => rfl⟩ hq hn he
      have e205 : μ1.1 205 = μ.1 205 := ag1.a fun k => decide_eq_true (by omega)
      refine ⟨(gV C P (μ1.1 205) q n e, μ2), ?_, ?_⟩
      · show ((f_X5_playAll F 88 μ).bind _).bind _ = _
        rw [e1, Option.bind_some, pI_in_t (by omega) (by decide), pg_t, r81, s3, nI_clamp (by omega), e2, Option.bind_some, e3]
        rfl
      · have ag3 : AgK kScr μ (aw_wI μ2 203 0 0) := ((sd_scr ag1).tr (sd_scr ag2)).wI kScr_3
        have hc3 := hc.sc ag3
        have y3 : (aw_wI μ2 203 0 0).1 205 2 = nI (C 0 2) := hc3.2.1.2.2.1.1.2.2.1
        have f205 : (aw_wI μ2 203 0 0).1 205 = μ1.1 205 := by
          rw [rI_a (by decide)]
          exact ag2.a fun k => decide_eq_true (by omega)
        show T (f_X11_grid F 203 (nI q) (nI n) (nI e) μ2) _
        unfold f_X11_grid
        rw [plet, mQ y3, Option.bind_some, decide_eq_true h0, if_pos rfl, isIn_eq, Option.bind_some, decide_eq_true hp.1, if_pos rfl, isIn_eq, Option.bind_some, decide_eq_true hp.2, if_pos rfl, T_bind]
        refine T_mono (gridOf_m (by omega) hc3 hq hn he) ?_
        rintro r ⟨d1, d2⟩
        rw [T_some, d1, f205]
        exact ⟨rfl, R_scr (ag3.tr d2) hR⟩
    · refine hno (fun h => hp h.2) ?_
      unfold f_X10_grid
      rw [xQ hnq x3, Option.bind_some, decide_eq_true h0, if_pos rfl, isPlan_x, Option.bind_some, decide_eq_false hp, if_neg Bool.false_ne_true]
  · refine hno (fun h => h0 h.1) ?_
    unfold f_X10_grid
    rw [xQ hnq x3, Option.bind_some, decide_eq_false h0, if_neg Bool.false_ne_true]
