/-! the best plan; joining -/
def bSt (v : Nat → Nat → Int32) (e n : Nat) (s : Int32 × Int32) : Int32 × Int32 := if v n e ≤ s.2 then s else (nI (100 * n + e), v n e)
def bIn (v : Nat → Nat → Int32) (e : Nat) : Nat → Int32 × Int32 → Int32 × Int32
  | 0, s => s
  | n + 1, s => bSt v e n (bIn v e n s)
def bOut (v : Nat → Nat → Int32) : Nat → Int32 × Int32
  | 0 => (0, 0)
  | e + 1 => bIn v e 13 (bOut v e)
theorem bIn_le {v : Nat → Nat → Int32} {e : Nat} {s : Int32 × Int32} (he : e ≤ 20) (h : inB s.1 5000) : ∀ n, n ≤ 13 → inB (bIn v e n s).1 5000
  | 0, _ => h
  | n + 1, hn => by
    have ih := bIn_le (v := v) he h n (by omega)
    show inB (bSt v e n (bIn v e n s)).1 5000
    unfold bSt
    split
    · exact ih
    · exact inB_nI (by omega)
theorem bOut_le {v : Nat → Nat → Int32} : ∀ e, e ≤ 21 → inB (bOut v e).1 5000
  | 0, _ => inB_0
  | e + 1, he => bIn_le (by omega) (bOut_le e (by omega)) 13 (Nat.le_refl _)
theorem bChain (v : Nat → Nat → Int32) (e : Nat) : ∃ g : Nat → Int32 × Int32, g 0 = bOut v e ∧ (∀ n, g (n + 1) = bSt v e n (g n)) ∧ g 13 = bOut v (e + 1) ∧ (e ≤ 20 → ∀ n, n ≤ 13 → inB (g n).1 5000) := ⟨fun n => bIn v e n (bOut v e), rfl, fun _ => rfl, rfl, fun he => bIn_le he (bOut_le e (by omega))⟩
theorem xi_E {D U : Nat → Nat} {N : Nat} {V : Nat → Nat} : ∀ j, xi D U N 0 V j = none
  | 0 => rfl
  | j + 1 => by
    show (if D (V j) < bd D N V (xi D U N 0 V j) ∧ U (V j) < 0 then some j else xi D U N 0 V j) = none
    rw [xi_E j, if_neg (fun h => Nat.not_lt_zero _ h.2)]
theorem gV_0 {C P : Nat → Nat → Nat} {S : Nat → Int32} {q n : Nat} : gV C P S q n 0 = 0 := by
  have h : ∀ i, mkG C (fun q => plD C q) (rW C (gP P q n 0)) (fun q => jsee C (pl C q)) S q i = 0 := fun i => by
    refine mkG_none (rEv_none ?_)
    unfold rAim
    have : rW C (gP P q n 0) q 2 = 0 := gP_at.2.1
    rw [this, xi_E]
    split <;> rfl
  have := sumr_0 (g := mkG C (fun q => plD C q) (rW C (gP P q n 0)) (fun q => jsee C (pl C q)) S q) (i := 0) (nbz C 240) fun k _ _ => h k
  rw [Nat.zero_add] at this
  exact this
theorem best_x {F q : Nat} {C P : Nat → Nat → Nat} {μ : aw_M} (hF : 2000 ≤ F) (hc : ctx C P μ) (hq : q < C 0 2) : T (f_X5_bestPlan F 88 (nI q) μ) fun r => r.1 = (bOut (gV C P (μ.1 205) q) 21).1 ∧ AgK kSD μ r.2 := by
  have hwf := hc.1
  have hnq := hwf.1.2.2.1
  have r81 : aw_rf 88 1 = 19 := by simp only [rf0, rf1, rf4, rf5, rf19, rf23, rf28, rf39, rf53, rf67, rf71, rf76, rf88, rf97, rf101, rf109, rf110, rf124, rf128, rf133, rf144, rf156, rf157, rf171, rf175, rf180, rf191, rf51]
  have s3 : aw_rf 19 3 = 22 := by simp only [rf0, rf1, rf4, rf5, rf19, rf23, rf28, rf39, rf53, rf67, rf71, rf76, rf88, rf97, rf101, rf109, rf110, rf124, rf128, rf133, rf144, rf156, rf157, rf171, rf175, rf180, rf191, rf51]
  have i9 : aw_in (nI q) 9 = true := pI_in_t (by omega) (by decide)
  have cq : (nI q).toNatClampNeg = q := nI_clamp (by omega)
  unfold f_X5_bestPlan
  refine T_call (playAll_x hF hwf hc.2.1.2.1 hc.2.2.1) ?_
  rintro μ1 ⟨g1, ag1⟩
  have hS : ∀ μ', AgK kSD μ μ' → μ'.1 205 = μ.1 205 := fun μ' ag => ag.a fun k => decide_eq_true (by omega)
  generalize hv : gV C P (μ.1 205) q = v
  have ch := bChain v
  have h00 : bOut v 0 = (0, 0) := rfl
  generalize bOut v = B at ch h00 ⊢
  refine T_lp (fun e s => ∃ μ', s = (nI q, (B e).1, (B e).2, nI e, μ') ∧ SDq C P q μ' ∧ AgK kSD μ μ') 21 (by omega) ⟨μ1, by rw [h00]; rfl, ⟨_, _, g1, fun _ _ => rfl, fun _ _ _ => rfl⟩, ag1⟩ ?_ ?_
  · rintro e he _ ⟨μ2, rfl, g2, ag2⟩ k hk
    show T (f_X5_bestPlan_11 F 88 k (nI q) (B e).1 (B e).2 (nI e) μ2) _
    unfold f_X5_bestPlan_11
    obtain ⟨g, c0, cs, c13, -⟩ := ch e
    rw [if_neg (show ¬ (20 : Int32) < nI e from nI_nlt (a := 20) (by omega) (by decide))]
    refine T_lp (fun n s => ∃ μ', s = (nI q, (g n).1, (g n).2, nI e, nI n, μ') ∧ SDq C P q μ' ∧ AgK kSD μ μ') 13 (by omega) ⟨μ2, by rw [c0]; rfl, g2, ag2⟩ ?_ ?_
    · rintro n hn _ ⟨μ3, rfl, g3, ag3⟩ k' hk'
      have hc3 := hc.sc (sd_scr ag3)
      show T (f_X5_bestPlan_21 F 88 k' k (nI q) (g n).1 (g n).2 (nI e) (nI n) μ3) _
      unfold f_X5_bestPlan_21 f_X5_bestPlan_72
      rw [if_neg (show ¬ (12 : Int32) < nI n from nI_nlt (a := 12) (by omega) (by decide)), i9, pg_t, r81, s3, cq]
      refine T_call (playG (n := n) (e := e) hF hc3 g3 hq (by omega) (by omega)) ?_
      rintro μ4 ⟨ag4, g4, e4⟩
      rw [e4, Option.bind_some, hS μ3 ag3, hv, nI_1]
      have hst := cs n
      have e100 : (100 : Int32) * nI n + nI e = nI (100 * n + e) := by simp (disch := omega) only [pI_lit, nI_add, nI_clamp, nI_leI, nI_ltI, nI_eq, pk_mul]
      by_cases h : v n e ≤ (g n).2
      · rw [if_pos h]
        refine hk' _ ⟨μ4, ?_, g4, ag3.tr ag4⟩
        rw [hst]
        unfold bSt
        rw [if_pos h]
      · rw [if_neg h, plet, e100]
        refine hk' _ ⟨μ4, ?_, g4, ag3.tr ag4⟩
        rw [hst]
        unfold bSt
        rw [if_neg h]
    · rintro _ ⟨μ3, rfl, g3, ag3⟩ k'
      show T (f_X5_bestPlan_21 F 88 k' k (nI q) (g 13).1 (g 13).2 (nI e) (nI 13) μ3) _
      unfold f_X5_bestPlan_21 f_X5_bestPlan_78
      rw [if_pos (show (12 : Int32) < nI 13 by decide), nI_1]
      exact hk _ ⟨μ3, by rw [c13], g3, ag3⟩
  · rintro _ ⟨μ2, rfl, g2, ag2⟩ k
    show T (f_X5_bestPlan_11 F 88 k (nI q) (B 21).1 (B 21).2 (nI 21) μ2) _
    unfold f_X5_bestPlan_11
    rw [if_pos (show (20 : Int32) < nI 21 by decide), T_some]
    exact ⟨rfl, ag2⟩
def bR (s : Int32 × Int32) (z : Bool) : Int32 := if z = true then -1 else s.1
theorem best_m {F q : Nat} {C P : Nat → Nat → Nat} {μ : aw_M} (hF : 2000 ≤ F) (hc : ctx C P μ) (hq : q < C 0 2) : T (aw_loop (fun k s => f_X11_best_22 F 203 k s.1 s.2.1 s.2.2.1 s.2.2.2.1 s.2.2.2.2) F (nI q, -1, 0, 0, μ)) fun r => r.1 = (bOut (gV C P (μ.1 205) q) 21).1 ∧ AgK kScr μ r.2 := by
  have hwf := hc.1
  have hnq := hwf.1.2.2.1
  have hS : ∀ μ', AgK kScr μ μ' → μ'.1 205 = μ.1 205 := fun μ' ag => ag.a fun k => by
    unfold kScr
    rw [show scr 205 = false from rfl, decide_eq_false (by omega)]
    rfl
  have hv0 : gV C P (μ.1 205) q 0 0 = 0 := gV_0
  generalize hv : gV C P (μ.1 205) q = v at hv0
  have ch := bChain v
  have h00 : bOut v 0 = (0, 0) := rfl
  generalize bOut v = B at ch h00 ⊢
  refine T_lp (fun e s => ∃ μ', s = (nI q, bR (B e) (decide (e = 0)), (B e).2, nI e, μ') ∧ AgK kScr μ μ') 21 (by omega) ⟨μ, by rw [h00]; rfl, AgK.rf μ⟩ ?_ ?_
  · rintro e he _ ⟨μ2, rfl, ag2⟩ k hk
    show T (f_X11_best_22 F 203 k (nI q) (bR (B e) (decide (e = 0))) (B e).2 (nI e) μ2) _
    unfold f_X11_best_22
    obtain ⟨g, c0, cs, c13, cin⟩ := ch e
    rw [if_neg (show ¬ (20 : Int32) < nI e from nI_nlt (a := 20) (by omega) (by decide))]
    refine T_lp (fun n s => ∃ μ', s = (nI q, bR (g n) (decide (e = 0 ∧ n = 0)), (g n).2, nI e, nI n, μ') ∧ AgK kScr μ μ') 13 (by omega) ⟨μ2, ?_, ag2⟩ ?_ ?_
    · have : decide (e = 0 ∧ (0 : Nat) = 0) = decide (e = 0) := by
        by_cases h : e = 0
        · rw [decide_eq_true h, decide_eq_true ⟨h, rfl⟩]
        · rw [decide_eq_false h, decide_eq_false (fun h2 => h h2.1)]
      rw [this, c0]
      rfl
    · rintro n hn _ ⟨μ3, rfl, ag3⟩ k' hk'
      have hc3 := hc.sc ag3
      have hin := cin (by omega) n (by omega)
      show T (f_X11_best_32 F 203 k' k (nI q) (bR (g n) (decide (e = 0 ∧ n = 0))) (g n).2 (nI e) (nI n) μ3) _
      unfold f_X11_best_32 f_X11_best_63 f_X11_best_75
      rw [if_neg (show ¬ (12 : Int32) < nI n from nI_nlt (a := 12) (by omega) (by decide))]
      refine T_call (gridOf_m (n := n) (e := e) hF hc3 hq (by omega) (by omega)) ?_
      rintro ⟨r1, μ4⟩ ⟨e4, ag4⟩
      have e4 : r1 = gV C P (μ3.1 205) q n e := e4
      rw [hS μ3 ag3, hv] at e4
      subst e4
      have hst := cs n
      have e100 : (100 : Int32) * nI n + nI e = nI (100 * n + e) := by simp (disch := omega) only [pI_lit, nI_add, nI_clamp, nI_leI, nI_ltI, nI_eq, pk_mul]
      have hz : decide (e = 0 ∧ n + 1 = 0) = false := decide_eq_false (by omega)
      have ag5 : AgK kScr μ μ4 := ag3.tr ag4
      have hk' : ∀ x2 x3 : Int32, (x2, x3) = bSt v e n (g n) → T (k' (nI q, x2, x3, nI e, nI (n + 1), μ4)) _ := fun x2 x3 h => hk' _ ⟨μ4, by
        rw [hst, ← h, hz]
        rfl, ag5⟩
      rw [plet, e100, nI_1]
      by_cases h0 : e = 0 ∧ n = 0
      · rw [decide_eq_true h0, if_pos (show bR _ true < 0 from by show (-1 : Int32) < 0; decide)]
        obtain ⟨rfl, rfl⟩ := h0
        refine hk' _ _ ?_
        have e1 : g 0 = (0, 0) := c0.trans h00
        rw [e1]
        unfold bSt
        rw [hv0, if_pos (by decide)]
        rfl
      · rw [decide_eq_false h0]
        obtain ⟨x, hx, hx2⟩ := hin
        have hb : bR (g n) false = (g n).1 := rfl
        rw [hb, if_neg (by rw [hx2]; exact nI_pos (by omega))]
        by_cases h1 : (g n).2 < v n e
        · rw [if_pos h1]
          refine hk' _ _ ?_
          unfold bSt
          rw [if_neg (by grind)]
        · rw [if_neg h1]
          refine hk' _ _ ?_
          unfold bSt
          rw [if_pos (by grind)]
    · rintro _ ⟨μ3, rfl, ag3⟩ k'
      show T (f_X11_best_32 F 203 k' k (nI q) (bR (g 13) (decide (e = 0 ∧ (13 : Nat) = 0))) (g 13).2 (nI e) (nI 13) μ3) _
      unfold f_X11_best_32 f_X11_best_81
      rw [if_pos (show (12 : Int32) < nI 13 by decide), nI_1, decide_eq_false (show ¬ (e = 0 ∧ (13 : Nat) = 0) from fun h => by cases h.2)]
      exact hk _ ⟨μ3, by rw [decide_eq_false (show ¬ e + 1 = 0 by omega), c13], ag3⟩
  · rintro _ ⟨μ2, rfl, ag2⟩ k
    show T (f_X11_best_22 F 203 k (nI q) (bR (B 21) (decide ((21 : Nat) = 0))) (B 21).2 (nI 21) μ2) _
    unfold f_X11_best_22
    rw [if_pos (show (20 : Int32) < nI 21 by decide), T_some]
    exact ⟨rfl, ag2⟩
theorem p_best : op_best R := by
  intro F hF a0 μ hR
  obtain ⟨C, P, hc⟩ := ctx_of hR
  have hwf := hc.1
  have hnq := hwf.1.2.2.1
  have r8 : aw_rf 0 8 = 88 := by simp only [rf0, rf1, rf4, rf5, rf19, rf23, rf28, rf39, rf53, rf67, rf71, rf76, rf88, rf97, rf101, rf109, rf110, rf124, rf128, rf133, rf144, rf156, rf157, rf171, rf175, rf180, rf191, rf51]
  have x3 : μ.1 5 3 = nI (C 0 2) := hc.2.2.1.1.1.2.2.1
  unfold okI f_X10_best f_X11_best
  rw [xQ hnq x3, Option.bind_some]
  by_cases h0 : 0 ≤ a0 ∧ a0 ≤ nI (C 0 2) - 1
  · obtain ⟨q, hq, rfl⟩ := ix_of (by omega) h0
    rw [decide_eq_true h0, if_pos rfl, r8]
    obtain ⟨r1, e1, e2, ag1⟩ := best_x (F := F) (by omega) hc hq
    refine ⟨(r1.1, r1.2), by rw [e1]; rfl, ?_⟩
    have ag2 : AgK kScr μ (aw_wI r1.2 203 0 0) := (sd_scr ag1).wI kScr_3
    have hc2 := hc.sc ag2
    have y3 : (aw_wI r1.2 203 0 0).1 205 2 = nI (C 0 2) := hc2.2.1.2.2.1.1.2.2.1
    have e205 : (aw_wI r1.2 203 0 0).1 205 = μ.1 205 := by
      rw [rI_a (by decide)]
      exact ag1.a fun k => decide_eq_true (by omega)
    show T (aw_let (aw_wI r1.2 203 0 0) _) _
    rw [plet, mQ y3, Option.bind_some, decide_eq_true h0, if_pos rfl]
    refine T_mono (best_m (by omega) hc2 hq) ?_
    rintro r2 ⟨d1, d2⟩
    rw [e205] at d1
    exact ⟨by rw [d1]; exact e2, R_scr (ag2.tr d2) hR⟩
  · rw [decide_eq_false h0, if_neg Bool.false_ne_true]
    refine ⟨_, rfl, ?_⟩
    have hc2 := hc.sc ((AgK.rf μ).wI (v := 0) kScr_3)
    have y3 : (aw_wI μ 203 0 0).1 205 2 = nI (C 0 2) := hc2.2.1.2.2.1.1.2.2.1
    show T (aw_let (aw_wI μ 203 0 0) _) _
    rw [plet, mQ y3, Option.bind_some, decide_eq_false h0, if_neg Bool.false_ne_true]
    exact ⟨_, rfl, rfl, R_th hR⟩
/-! joining -/
def jP (P : Nat → Nat → Nat) (a b : Nat) : Nat → Nat → Nat := fun f k => if k = a ∧ f < 3 then P f b else P f k
theorem jP_ne {P : Nat → Nat → Nat} {a b f k : Nat} (h : k ≠ a ∨ 3 ≤ f) : jP P a b f k = P f k := if_neg (by omega)
theorem jP_at {P : Nat → Nat → Nat} {a b f : Nat} (h : f < 3) : jP P a b f a = P f b := if_pos ⟨rfl, h⟩
theorem rW_jP {C P : Nat → Nat → Nat} {a b k : Nat} (h : k ≠ a) : rW C (jP P a b) k = rW C P k := by
  funext j
  unfold rW
  rw [jP_ne (.inl h), jP_ne (.inl h), jP_ne (.inl h)]
theorem jP_wf {P : Nat → Nat → Nat} {a b nq : Nat} (pw : qPWF P nq) (ha : a < nq) : qPWF (jP P a b) nq := by
  intro k
  have h := pw k
  have hb := pw b
  by_cases hk : k = a
  · subst hk
    rw [jP_at (by decide), jP_at (by decide), jP_at (by decide)]
    exact ⟨hb.1, hb.2.1, hb.2.2.1, hb.2.2.2.1, fun h => by omega⟩
  · rw [jP_ne (.inl hk), jP_ne (.inl hk), jP_ne (.inl hk)]
    exact h
theorem jP_pm {P : Nat → Nat → Nat} {S : Nat → Int32} {a b : Nat} (pm : qPM P S) (ha : a < 9) (hb : b < 9) : qPM (jP P a b) (upd (upd (upd S (427 + a) (S (427 + b))) (436 + a) (S (436 + b))) (445 + a) (S (445 + b))) := by
  refine ⟨?_, fun k hk => ⟨?_, ?_, ?_⟩⟩
  · rw [pk_un (by omega), pk_un (by omega), pk_un (by omega), jP_ne (.inr (by omega))]
    exact pm.1
  · rw [pk_un (by omega), pk_un (by omega)]
    by_cases h : k = a
    · subst h
      rw [pk_us, jP_at (by decide)]
      exact (pm.2 b hb).1
    · rw [pk_un (by omega), jP_ne (.inl h)]
      exact (pm.2 k hk).1
  · rw [pk_un (by omega)]
    by_cases h : k = a
    · subst h
      rw [pk_us, jP_at (by decide)]
      exact (pm.2 b hb).2.1
    · rw [pk_un (by omega), pk_un (by omega), jP_ne (.inl h)]
      exact (pm.2 k hk).2.1
  · by_cases h : k = a
    · subst h
      rw [pk_us, jP_at (by decide)]
      exact (pm.2 b hb).2.2
    · rw [pk_un (by omega), pk_un (by omega), pk_un (by omega), jP_ne (.inl h)]
      exact (pm.2 k hk).2.2
theorem p_join : op_join R := by
  intro F hF a0 a1 μ hR
  obtain ⟨C, P, hc⟩ := ctx_of hR
  have hwf := hc.1
  have hnq := hwf.1.2.2.1
  have r8 : aw_rf 0 8 = 88 := by simp only [rf0, rf1, rf4, rf5, rf19, rf23, rf28, rf39, rf53, rf67, rf71, rf76, rf88, rf97, rf101, rf109, rf110, rf124, rf128, rf133, rf144, rf156, rf157, rf171, rf175, rf180, rf191, rf51]
  have r11 : aw_rf (aw_rf 0 1) 1 = 19 := by simp only [rf0, rf1, rf4, rf5, rf19, rf23, rf28, rf39, rf53, rf67, rf71, rf76, rf88, rf97, rf101, rf109, rf110, rf124, rf128, rf133, rf144, rf156, rf157, rf171, rf175, rf180, rf191, rf51]
  have r81 : aw_rf 88 1 = 19 := by simp only [rf0, rf1, rf4, rf5, rf19, rf23, rf28, rf39, rf53, rf67, rf71, rf76, rf88, rf97, rf101, rf109, rf110, rf124, rf128, rf133, rf144, rf156, rf157, rf171, rf175, rf180, rf191, rf51]
  have s1 : aw_rf 19 1 = 20 := by simp only [rf0, rf1, rf4, rf5, rf19, rf23, rf28, rf39, rf53, rf67, rf71, rf76, rf88, rf97, rf101, rf109, rf110, rf124, rf128, rf133, rf144, rf156, rf157, rf171, rf175, rf180, rf191, rf51]
  have s2 : aw_rf 19 2 = 21 := by simp only [rf0, rf1, rf4, rf5, rf19, rf23, rf28, rf39, rf53, rf67, rf71, rf76, rf88, rf97, rf101, rf109, rf110, rf124, rf128, rf133, rf144, rf156, rf157, rf171, rf175, rf180, rf191, rf51]
  have s3 : aw_rf 19 3 = 22 := by simp only [rf0, rf1, rf4, rf5, rf19, rf23, rf28, rf39, rf53, rf67, rf71, rf76, rf88, rf97, rf101, rf109, rf110, rf124, rf128, rf133, rf144, rf156, rf157, rf171, rf175, rf180, rf191, rf51]
  have r23 : aw_rf 203 23 = 211 := by simp only [rf203, rf203b]
  have x3 : μ.1 5 3 = nI (C 0 2) := hc.2.2.1.1.1.2.2.1
  have e427 : ∀ q, (427 : Int32) + nI q = nI (427 + q) := fun q => nI_add 427 q
  have e436 : ∀ q, (436 : Int32) + nI q = nI (436 + q) := fun q => nI_add 436 q
  have e445 : ∀ q, (445 : Int32) + nI q = nI (445 + q) := fun q => nI_add 445 q
  have hin : ∀ j, j < 1155 → aw_in (nI j) 1155 = true := fun j hj => pI_in_t hj (by decide)
  have hcl : ∀ j, j < 1155 → (nI j).toNatClampNeg = j := fun j hj => nI_clamp (by omega)
  have hc0 := hc.sc ((AgK.rf μ).wI (v := 0) kScr_3)
  have y0 : (aw_wI μ 203 0 0).1 205 2 = nI (C 0 2) := hc0.2.1.2.2.1.1.2.2.1
  unfold okI f_X10_join f_X11_join
  rw [xQ hnq x3, Option.bind_some]
  by_cases h0 : 0 ≤ a0 ∧ a0 ≤ nI (C 0 2) - 1
  · rw [decide_eq_true h0, if_pos rfl, xQ hnq x3, Option.bind_some]
    by_cases h1 : 0 ≤ a1 ∧ a1 ≤ nI (C 0 2) - 1
    · rw [decide_eq_true h1, if_pos rfl]
      by_cases hab : a0 = a1
      · rw [if_pos hab]
        refine ⟨_, rfl, ?_⟩
        show T (aw_let (aw_wI μ 203 0 0) _) _
        rw [plet, mQ y0, Option.bind_some, decide_eq_true h0, if_pos rfl, mQ y0, Option.bind_some, decide_eq_true h1, if_pos rfl, if_pos hab]
        exact ⟨_, rfl, rfl, R_th hR⟩
      · rw [if_neg hab]
        obtain ⟨a, ha, rfl⟩ := ix_of (by omega) h0
        obtain ⟨b, hb, rfl⟩ := ix_of (by omega) h1
        have hne : a ≠ b := fun e => hab (by rw [e])
        obtain ⟨q0, q1, q2⟩ := hc.2.2.1.2.1.2 b (by omega)
        have q0 : μ.1 20 b = nI (P 0 b) - 1 := q0
        have q1 : μ.1 21 b = if P 0 b = 0 then -1 else nI (P 1 b) := q1
        have q2 : μ.1 22 b = if P 0 b = 0 then -1 else nI (P 2 b) := q2
        have hpb := hc.2.1.2.1 b
        rw [r11, hasPlan_eq (by omega) hpb.1 q0, Option.bind_some]
        by_cases k0 : P 0 b = 0
        · rw [decide_eq_false (fun h => h k0), if_neg Bool.false_ne_true]
          refine ⟨_, rfl, ?_⟩
          have m0 : (aw_wI μ 203 0 0).1 205 (427 + b) = nI (P 0 b) := by
            rw [rI_a (by decide)]
            exact (hc.2.1.2.2.2.2 b (by omega)).1
          show T (aw_let (aw_wI μ 203 0 0) _) _
          rw [plet, mQ y0, Option.bind_some, decide_eq_true h0, if_pos rfl, mQ y0, Option.bind_some, decide_eq_true h1, if_pos rfl, if_neg hab, e427, hin _ (by omega), pg_t, rf203.2.1, hcl _ (by omega)]
          show T (if (aw_wI μ 203 0 0).1 205 (427 + b) = 0 then _ else _) _
          rw [m0, k0, if_pos (show nI 0 = 0 from rfl)]
          exact ⟨_, rfl, rfl, R_th hR⟩
        · rw [decide_eq_true k0, if_pos rfl, r8]
          unfold f_X5_gainByJoining
          obtain ⟨μ1, p1, g1, ag1⟩ := playAll_x (F := F) (by omega) hwf hc.2.1.2.1 hc.2.2.1
          have hc1 := hc.sc (sd_scr ag1)
          have pb : ∀ a, 5 ≤ a → a ≤ 38 → μ1.1 a = μ.1 a := fun a h1 h2 => ag1.a fun k => decide_eq_true (by omega)
          have e205 : μ1.1 205 = μ.1 205 := ag1.a fun k => decide_eq_true (by omega)
          have ib : aw_in (nI b) 9 = true := pI_in_t (by omega) (by decide)
          have ia : aw_in (nI a) 9 = true := pI_in_t (by omega) (by decide)
          have cb : (nI b).toNatClampNeg = b := nI_clamp (by omega)
          have ca : (nI a).toNatClampNeg = a := nI_clamp (by omega)
          obtain ⟨μ2, p2, g2, ag2⟩ := playC (F := F) (a2 := μ1.1 20 b) (a3 := μ1.1 21 b) (a4 := μ1.1 22 b) (p := a) (w := rW C (jP P a b) a) (by omega) hwf hc1.2.2.1 g1 ha (by omega) (by rw [Nat.mod_eq_of_lt (by omega)]; exact ha) (by
            show μ1.1 20 b + 1 = nI (jP P a b 0 a)
            rw [jP_at (by decide), pb 20 (by omega) (by omega), q0]
            grind) (by show jP P a b 0 a ≤ 100; rw [jP_at (by decide)]; omega) (by show jP P a b 1 a ≤ 1000; rw [jP_at (by decide)]; omega) (by
            left
            show μ1.1 21 b = nI (jP P a b 1 a)
            rw [jP_at (by decide), pb 21 (by omega) (by omega), q1, if_neg k0]) (by
            show μ1.1 22 b = 1 ↔ jP P a b 2 a = 1
            rw [jP_at (by decide), pb 22 (by omega) (by omega), q2, if_neg k0]
            exact nI_eq (b := 1) (by omega) (by decide)) rfl rfl (.inl ⟨ha, rfl⟩)
          have hc2 := hc1.sc (sd_scr ag2)
          have f205 : μ2.1 205 = μ.1 205 := by
            rw [← e205]
            exact ag2.a fun k => decide_eq_true (by omega)
          have hcfg : ∀ q, q < C 0 2 → (if q = a then a else (fun q => q) q) = (fun q => q) q ∧ (if q = a then rW C (jP P a b) a else rW C P q) = rW C (jP P a b) q := fun q hq => by
            by_cases e : q = a
            · rw [if_pos e, if_pos e, e]
              exact ⟨rfl, rfl⟩
            · rw [if_neg e, if_neg e, rW_jP e]
              exact ⟨rfl, rfl⟩
          have tve : ∀ q, q < C 0 2 → tv C (μ.1 205) (fun k => if k = a then a else k) (fun k => if k = a then rW C (jP P a b) a else rW C P k) q = tv C (μ.1 205) (fun q => q) (rW C (jP P a b)) q := fun q hq => tv_ext hcfg (fun _ _ => rfl) hq
          refine ⟨(tv C (μ.1 205) (fun q => q) (rW C (jP P a b)) a + tv C (μ.1 205) (fun q => q) (rW C (jP P a b)) b - (tv C (μ.1 205) (fun q => q) (rW C P) a + tv C (μ.1 205) (fun q => q) (rW C P) b), μ2), ?_, ?_⟩
          · show ((f_X5_playAll F 88 μ).bind _).bind _ = _
            rw [p1, Option.bind_some, marksOf_c (by omega) hc1 g1 ha, Option.bind_some, marksOf_c (by omega) hc1 g1 hb, Option.bind_some, plet, ib, pg_t, pg_t, pg_t, r81, s1, s2, s3, cb]
            show ((f_X5_play F 88 (nI a) (nI a) (μ1.1 20 b) (μ1.1 21 b) (μ1.1 22 b) μ1).bind _).bind _ = _
            rw [p2, Option.bind_some, marksOf_c (by omega) hc2 g2 ha, Option.bind_some, marksOf_c (by omega) hc2 g2 hb, Option.bind_some, Option.bind_some, e205, f205, tve a ha, tve b hb]
          · have ag3 : AgK kScr μ (aw_wI μ2 203 0 0) := ((sd_scr ag1).tr (sd_scr ag2)).wI kScr_3
            have hc3 := hc.sc ag3
            have y3 : (aw_wI μ2 203 0 0).1 205 2 = nI (C 0 2) := hc3.2.1.2.2.1.1.2.2.1
            have h205 : (aw_wI μ2 203 0 0).1 205 = μ.1 205 := by rw [rI_a (by decide), f205]
            have m0 : (aw_wI μ2 203 0 0).1 205 (427 + b) = nI (P 0 b) := by
              rw [h205]
              exact (hc.2.1.2.2.2.2 b (by omega)).1
            show T (aw_let (aw_wI μ2 203 0 0) _) _
            rw [plet, mQ y3, Option.bind_some, decide_eq_true h0, if_pos rfl, mQ y3, Option.bind_some, decide_eq_true h1, if_pos rfl, if_neg hab, e427, hin _ (by omega), pg_t, rf203.2.1, hcl _ (by omega)]
            show T (if (aw_wI μ2 203 0 0).1 205 (427 + b) = 0 then _ else (f_X11_sureDay F 203 (aw_wI μ2 203 0 0)).bind _) _
            rw [m0, if_neg (nI_ne0 (by omega) (by omega))]
            refine T_call (sureDay_c (C := C) (S := μ.1 205) (pf := fun q => q) (wf := rW C P) (by omega) hc3.2.1 hc3.2.2.2.1 (fun _ _ => rfl) (fun q hq => told_wf hnq hq) (fun _ _ => rfl) (fun i hi => by rw [h205])) ?_
            rintro μ4 ⟨d1, d2, d3⟩
            have k205 : μ4.1 205 = μ.1 205 := by rw [d1 205 (by decide) (by decide), h205]
            simp only [e427, e436, e445, r23, ia, ib, pg_t, plet, ca, cb]
            simp (disch := omega) only [hin, hcl, pg_t, d3 a ha, d3 b hb]
            simp (disch := omega) only [wI_aset, rA_s, k205, aset_aset, pk_un]
            have ok' : sOK C (jP P a b) (upd (upd (upd (μ.1 205) (427 + a) (μ.1 205 (427 + b))) (436 + a) (μ.1 205 (436 + b))) (445 + a) (μ.1 205 (445 + b))) := ⟨hc.2.1.1, jP_wf hc.2.1.2.1 ha, qTM_ext hc.2.1.1 (fun k hk => by rw [pk_un (by omega), pk_un (by omega), pk_un (by omega)]) hc.2.1.2.2.1, jP_pm hc.2.1.2.2.2 (by omega) (by omega)⟩
            refine T_call (sureDay_c (C := C) (S := μ.1 205) (pf := fun q => q) (wf := rW C (jP P a b)) (by omega) (by rw [rA_s]; exact ok') (fun i hi => by rw [rA_s, pk_un (by omega), pk_un (by omega), pk_un (by omega)]; exact hc.2.2.2.1 i hi) (fun _ _ => rfl) (fun q hq => told_wf hnq hq) (fun _ _ => rfl) (fun i hi => by rw [rA_s, pk_un (by omega), pk_un (by omega), pk_un (by omega)])) ?_
            rintro μ5 ⟨f1, f2, f3⟩
            rw [T_some]
            have l205 := f1 205 (by decide) (by decide)
            rw [rA_s] at l205
            have r211 : ∀ g, (aset μ5 205 g).1 211 = μ5.1 211 := fun g => rA_a (by decide)
            refine ⟨?_, R_scr (ag3.tr ((day_scr d1 d2).tr (ag_scr (fun i hi => ?_) ?_))) hR⟩
            · rw [r211, f3 a ha, f3 b hb]
            · by_cases e5 : i = 205
              · subst e5
                rw [rA_s, l205, k205]
                funext k
                by_cases k1 : k = 445 + a
                · subst k1; rw [pk_us]
                · rw [pk_un k1]
                  by_cases k2 : k = 436 + a
                  · subst k2; rw [pk_us]
                  · rw [pk_un k2]
                    by_cases k3 : k = 427 + a
                    · subst k3; rw [pk_us]
                    · rw [pk_un k3, pk_un k1, pk_un k2, pk_un k3]
              · rw [rA_a e5, f1 i (fun e => by subst e; cases hi) (fun e => by subst e; cases hi), rA_a e5]
            · exact f2
    · rw [decide_eq_false h1, if_neg Bool.false_ne_true]
      refine ⟨_, rfl, ?_⟩
      show T (aw_let (aw_wI μ 203 0 0) _) _
      rw [plet, mQ y0, Option.bind_some, decide_eq_true h0, if_pos rfl, mQ y0, Option.bind_some, decide_eq_false h1, if_neg Bool.false_ne_true]
      exact ⟨_, rfl, rfl, R_th hR⟩
  · rw [decide_eq_false h0, if_neg Bool.false_ne_true]
    refine ⟨_, rfl, ?_⟩
    show T (aw_let (aw_wI μ 203 0 0) _) _
    rw [plet, mQ y0, Option.bind_some, decide_eq_false h0, if_neg Bool.false_ne_true]
    exact ⟨_, rfl, rfl, R_th hR⟩
