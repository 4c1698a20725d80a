/-! a minute's throws, quarter by quarter -/
def sAim (T P : Nat → Nat → Nat) (S : Nat → Int32) (q m : Nat) : Option Nat := if P 0 q = 0 then none else if gS S 0 q = 0 then none else aimo T P (gS S) q m (T 0 3)
def sQ1 (T P : Nat → Nat → Nat) (su : Bool) (m q : Nat) (S : Nat → Int32) : Nat → Int32 := match sAim T P S q m with
  | none => S
  | some c => sThrow T P su m (cl (S 919) 9) q c S
def sQs (T P : Nat → Nat → Nat) (su : Bool) (m : Nat) : Nat → (Nat → Int32) → Nat → Int32
  | 0, S => S
  | q + 1, S => sQ1 T P su m q (sQs T P su m q S)
theorem aimo_some {T P G : Nat → Nat → Nat} {q m : Nat} : ∀ n c, aimo T P G q m n = some c → G 1 (20 * q + c) < P 1 q ∧ dst (T 1 q) (T 6 c) < P 0 q ∧ ther T c m = true
  | 0, c, h => by cases h
  | n + 1, c, h => by
    rw [aimo_succ] at h
    by_cases k : ther T n m = true
    · rw [if_pos k] at h
      unfold stp at h
      by_cases k2 : dst (T 1 q) (T 6 n) < P 0 q ∧ G 1 (20 * q + n) < P 1 q ∧ nearer (fun c => dst (T 1 q) (T 6 c)) (aimo T P G q m n) n = true
      · rw [if_pos k2] at h
        cases h
        exact ⟨k2.2.1, k2.1, k⟩
      · rw [if_neg k2] at h
        exact aimo_some n c h
    · rw [if_neg k] at h
      exact aimo_some n c h
theorem sAim_some {T P : Nat → Nat → Nat} {d m m' n b q c : Nat} {S : Nat → Int32} (ok : sOK T P S) (hs : SW T d m n b S) (hq : q < T 0 2) (h : sAim T P S q m' = some c) : c < T 0 3 ∧ may q c S ∧ ther T c m' = true ∧ dst (T 1 q) (T 6 c) < P 0 q := by
  unfold sAim at h
  by_cases k0 : P 0 q = 0
  · rw [if_pos k0] at h; cases h
  rw [if_neg k0] at h
  by_cases k1 : gS S 0 q = 0
  · rw [if_pos k1] at h; cases h
  rw [if_neg k1] at h
  have hc := aimo_lt _ _ h
  obtain ⟨h1, h2, h3⟩ := aimo_some _ _ h
  have hp := (ok.2.1 q).2.1
  obtain ⟨-, w2, -⟩ := (SW_0 hs).2
  obtain ⟨g1, g2, g3⟩ := w2 q hq
  have hb : gS S 0 q ≤ 400 := cl_le _ _
  refine ⟨hc, ⟨⟨gS S 0 q, by omega, hb, g1⟩, ⟨gS S 1 (20 * q + c), by omega, g3 c hc⟩⟩, h3, h2⟩
theorem sQs_k {T P : Nat → Nat → Nat} {su : Bool} {d m b : Nat} {S : Nat → Int32} (ok : sOK T P S) (hs : SW T d m 0 b S) : ∀ i, i ≤ T 0 2 → ∃ n, n ≤ i ∧ SW T d m n (b + i) (sQs T P su m i S) ∧ TL T n (sQs T P su m i S) ∧ (∀ k, k < 457 ∨ 974 ≤ k ∨ (814 ≤ k ∧ k < 914) → sQs T P su m i S k = S k)
  | 0, _ => ⟨0, Nat.le_refl _, hs, fun k hk => absurd hk (Nat.not_lt_zero _), fun k _ => rfl⟩
  | i + 1, hi => by
    obtain ⟨n, h1, h2, h3, h4⟩ := sQs_k ok hs i (by omega)
    have hnq := ok.1.1.2.2.1
    have ok' : sOK T P (sQs T P su m i S) := ok.ext fun k hk => h4 k (by omega)
    show ∃ n, n ≤ i + 1 ∧ SW T d m n (b + (i + 1)) (sQ1 T P su m i (sQs T P su m i S)) ∧ TL T n (sQ1 T P su m i (sQs T P su m i S)) ∧ (∀ k, k < 457 ∨ 974 ≤ k ∨ (814 ≤ k ∧ k < 914) → sQ1 T P su m i (sQs T P su m i S) k = S k)
    generalize hX : sQs T P su m i S = X at h2 h3 h4 ok' ⊢
    unfold sQ1
    cases ha : sAim T P X i m with
    | none => exact ⟨n, by omega, h2.mono (by omega), h3, h4⟩
    | some c =>
      obtain ⟨hc, hy, -⟩ := sAim_some ok' h2 (by omega) ha
      have e : cl (X 919) 9 = n := by rw [h2.1.2.2, cl_nI (by omega) (by decide)]
      show ∃ n, n ≤ i + 1 ∧ SW T d m n (b + (i + 1)) (sThrow T P su m (cl (X 919) 9) i c X) ∧ TL T n (sThrow T P su m (cl (X 919) 9) i c X) ∧ (∀ k, k < 457 ∨ 974 ≤ k ∨ (814 ≤ k ∧ k < 914) → sThrow T P su m (cl (X 919) 9) i c X k = S k)
      rw [e]
      obtain ⟨t1, t2⟩ := throw_k (su := su) ok' (by omega) h2 h3 (by omega) hc hy
      exact ⟨n + 1, by omega, t1, t2, fun k hk => by rw [throw_o ok' (by omega) (by omega) hc hk]; exact h4 k hk⟩
theorem sAim_m {F q m d n b : Nat} {T P : Nat → Nat → Nat} {S : Nat → Int32} {μ : aw_M} (hF : 100 ≤ F) (ok : sOK T P S) (hs : SW T d m n b S) (hq : q < T 0 2) (hm : m < 240) (e : μ.1 205 = S) : f_X11_aimed F 203 (nI q) (nI m) μ = some (oI (sAim T P S q m), μ) := by
  obtain ⟨w1, w2⟩ := SW_0 hs
  subst e
  rw [aimed_m0 hF ok.1 ok.2.1 w1 ok.2.2.1 ok.2.2.2 w2 hq hm]
  unfold sAim
  split
  · rfl
  · split <;> rfl
theorem quarters_m {F m d b : Nat} {su : Bool} {T P : Nat → Nat → Nat} {S : Nat → Int32} {μ : aw_M} (hF : 100 ≤ F) (ok : sOK T P S) (hs : SW T d m 0 b S) (hm : m < 240) : aw_loop (fun k s => f_X11_minute_11 F 203 k s.1 s.2.1 s.2.2) F (aw_b su, 0, aset μ 205 S) = f_X11_minute_52 F 203 (aset μ 205 (sQs T P su m (T 0 2) S)) := by
  have hnq := ok.1.1.2.2.1
  have i2 : aw_in 2 1155 = true := by decide
  have c2 : (2 : Int32).toNatClampNeg = 2 := by decide
  have i456 : aw_in 456 1155 = true := by decide
  have c456 : (456 : Int32).toNatClampNeg = 456 := by decide
  refine lp_u (fun i => (aw_b su, nI i, aset μ 205 (sQs T P su m i S))) (T 0 2) rfl ?_ ?_ (by omega)
  · intro i hi k
    obtain ⟨n, h1, h2, h3, h4⟩ := sQs_k (su := su) ok hs i (by omega)
    have ok' : sOK T P (sQs T P su m i S) := ok.ext fun k hk => h4 k (by omega)
    show f_X11_minute_11 F 203 k (aw_b su) (nI i) (aset μ 205 (sQs T P su m i S)) = k (aw_b su, nI (i + 1), aset μ 205 (sQ1 T P su m i (sQs T P su m i S)))
    generalize hX : sQs T P su m i S = X at h2 h3 h4 ok' ⊢
    unfold f_X11_minute_11 f_X11_minute_46
    rw [i2, pg_t, c2, rf203.2.1, rA_s, ok'.2.2.1.1.2.2.1, if_neg (nI_ge hi (by omega)), i456, pg_t, c456, h2.1.2.1, sAim_m hF ok' h2 hi hm rA_s, Option.bind_some, nI_1]
    unfold sQ1
    cases ha : sAim T P X i m with
    | none =>
      rw [if_pos (show oI none < 0 by decide)]
    | some c =>
      obtain ⟨hc, hy, -⟩ := sAim_some ok' h2 hi ha
      have e : cl (X 919) 9 = n := by rw [h2.1.2.2, cl_nI (by omega) (by decide)]
      have hnc := ok.1.1.2.2.2
      show (if nI c < 0 then _ else (f_X11_throwsAt F 203 (nI i) (nI c) (aw_b su) (aset μ 205 X)).bind _) = k (aw_b su, nI (i + 1), aset μ 205 (sThrow T P su m (cl (X 919) 9) i c X))
      rw [if_neg (nI_pos (by omega)), throwsAt_m hF ok' h2 (by omega) (by omega) hi hc, Option.bind_some, e]
  · intro k
    obtain ⟨n, h1, h2, h3, h4⟩ := sQs_k (su := su) ok hs (T 0 2) (Nat.le_refl _)
    have ok' : sOK T P (sQs T P su m (T 0 2) S) := ok.ext fun k hk => h4 k (by omega)
    show f_X11_minute_11 F 203 k (aw_b su) (nI (T 0 2)) (aset μ 205 (sQs T P su m (T 0 2) S)) = _
    unfold f_X11_minute_11
    rw [i2, pg_t, c2, rf203.2.1, rA_s, ok'.2.2.1.1.2.2.1, if_pos (nI_le (Nat.le_refl _) (by omega))]
/-- the visit aimed at, by the class -/
theorem aimedVisit_f {F f q m d n b : Nat} {T P : Nat → Nat → Nat} {S : Nat → Int32} {μ : aw_M} (hF : 100 ≤ F) (hf : f = 39 ∨ f = 76) (hwf : qTWF T) (pw : qPWF P (T 0 2)) (ev : env T P μ) (hx : XS T f μ S) (hs : SW T d m n b S) (hq : q < T 0 2) (hm : m < 240) (hv : vis T m ≠ []) : f_X0_aimedVisit F f (nI q) (nI (nbz T m)) μ = some (if P 0 q = 0 then -1 else if gS S 0 q = 0 then -1 else xiI (cntv T m) (xi (fun c => dst (pl T q) (T 6 c)) (fun c => gS S 1 (20 * q + c)) (P 0 q) (P 1 q) (fun k => (vis T m).getD k 0) (vis T m).length), μ) := by
  obtain ⟨r0, r1, r2, r8, r9, r10, r11, r12, r13, r14, r15, r16, r17, r19⟩ := rfF hf
  have hnq := hwf.1.2.2.1
  have hp := (pw q).1
  have hp1 := (pw q).2.1
  obtain ⟨q0, q1, q2⟩ := ev.2.1.2 q (by omega)
  obtain ⟨-, w2, -⟩ := (SW_0 hs).2
  obtain ⟨g1, g2, g3⟩ := w2 q hq
  have b0 : μ.1 (f + 2) q = nI (gS S 0 q) := (hx.2.2.1 q hq).1.trans g1
  have hb : gS S 0 q ≤ 400 := cl_le _ _
  have s1 : aw_rf 19 1 = 20 := by simp only [rf0, rf1, rf4, rf5, rf19, rf23, rf28, rf39, rf53, rf67, rf71, rf76, rf88, rf97, rf101, rf109, rf110, rf124, rf128, rf133, rf144, rf156, rf157, rf171, rf175, rf180, rf191, rf51]
  have s2 : aw_rf 19 2 = 21 := by simp only [rf0, rf1, rf4, rf5, rf19, rf23, rf28, rf39, rf53, rf67, rf71, rf76, rf88, rf97, rf101, rf109, rf110, rf124, rf128, rf133, rf144, rf156, rf157, rf171, rf175, rf180, rf191, rf51]
  have hs6 : (aw_sh (f + 6)).2 = 180 := by rcases hf with rfl | rfl <;> decide
  unfold f_X0_aimedVisit
  rw [r1, hasPlan_eq (by omega) hp q0, Option.bind_some]
  by_cases k0 : P 0 q = 0
  · rw [decide_eq_false (fun c => c k0), if_neg Bool.false_ne_true, if_pos k0]
  rw [decide_eq_true k0, if_pos rfl, if_neg k0, pI_in_t (by omega) (by decide), pg_t, r9, nI_clamp (by omega), b0, pg_t, pg_t]
  by_cases k1 : gS S 0 q = 0
  · rw [if_neg (by rw [k1, nI_0]; decide), if_pos k1]
  rw [if_pos (by rw [← nI_0]; exact nI_lt (by omega) (by omega)), if_neg k1, r2, r13, s1, s2]
  have e20 : nI q * 20 = nI (20 * q) := by
    have : nI q * 20 = 20 * nI q := by grind
    rw [this]
    simp (disch := omega) only [pI_lit, nI_add, nI_clamp, nI_leI, nI_ltI, nI_eq, pk_mul]
  have hpl : pl T q = T 1 q := by unfold pl; rw [if_pos (by omega)]
  have hq1 : μ.1 21 q = nI (P 1 q) := by
    have : μ.1 21 q = if P 0 q = 0 then -1 else nI (P 1 q) := q1
    rw [this, if_neg k0]
  show (f_X1_nearestVisit F 28 (f + 6) (nI q) (nI (nbz T m)) (μ.1 20 q) (μ.1 21 q) (nI q * 20) μ).bind _ = _
  rw [hq1, e20, show μ.1 20 q = nI (P 0 q) - 1 from q0, nearest_x (T := T) (U := fun c => gS S 1 (20 * q + c)) (N := P 0 q) hF hwf ev.2.2 (by omega) (by rw [Nat.mod_eq_of_lt (by omega)]; exact hq) hm hv (by grind) (by omega) (by omega) (by rw [hs6]; omega) (by rw [hs6]; decide) (fun c hc => ⟨(hx.2.2.2.1 q c hq hc).trans (g3 c hc), Nat.le_trans (cl_le _ _) (by decide)⟩) (by
    rw [hpl]
    have h := (hwf.2.1 q hq).1
    have := hwf.1
    unfold cellok at h
    omega)]
  rfl
theorem quarters_x {F f m d b : Nat} {C P : Nat → Nat → Nat} {S : Nat → Int32} {μ : aw_M} {Q : aw_M → Prop} (hF : 100 ≤ F) (hf : f = 39 ∨ f = 76) (hwf : qTWF C) (ok : sOK C P S) (ev : env C P μ) (hx : XS C f μ S) (hs : SW C d m 0 b S) (hm : m < 240) (hv : vis C m ≠ []) (hQ : ∀ μ', XS C f μ' (sQs C P false m (C 0 2) S) → AgK (kNF f) μ μ' → T (f_X0_playMinute_45 F f (nI (nbz C m)) μ') Q) : T (f_X0_playMinute F f (nI (nbz C m)) μ) Q := by
  obtain ⟨r0, r1, r2, -⟩ := rfF hf
  have hnq := hwf.1.2.2.1
  have hnc := hwf.1.2.2.2
  have s11 : aw_rf 28 11 = 38 := by simp only [rf0, rf1, rf4, rf5, rf19, rf23, rf28, rf39, rf53, rf67, rf71, rf76, rf88, rf97, rf101, rf109, rf110, rf124, rf128, rf133, rf144, rf156, rf157, rf171, rf175, rf180, rf191, rf51]
  have b2 := cntv_le C (m + 1)
  have b3 := cntv_succ C m
  unfold f_X0_playMinute
  refine T_lp (fun i s => ∃ μ', s = (nI (nbz C m), nI i, μ') ∧ XS C f μ' (sQs C P false m i S) ∧ AgK (kNF f) μ μ') (C 0 2) (by omega) ⟨μ, rfl, hx, AgK.rf μ⟩ ?_ ?_
  · rintro i hi _ ⟨μ', rfl, hx', ag⟩ k hk
    obtain ⟨n, h1, h2, h3, h4⟩ := sQs_k (su := false) ok hs i (by omega)
    have ok' : sOK C P (sQs C P false m i S) := ok.ext fun k hk => h4 k (by omega)
    have ev' := ev.ag hf ag
    show T (f_X0_playMinute_2 F f k (nI (nbz C m)) (nI i) μ') Q
    have hstep : sQs C P false m (i + 1) S = sQ1 C P false m i (sQs C P false m i S) := rfl
    have hk' : ∀ μ'', XS C f μ'' (sQ1 C P false m i (sQs C P false m i S)) → AgK (kNF f) μ μ'' → T (k (nI (nbz C m), nI (i + 1), μ'')) Q := fun μ'' g1 g2 => hk _ ⟨μ'', rfl, by rw [hstep]; exact g1, g2⟩
    generalize hX : sQs C P false m i S = X at h2 h3 h4 ok' hx' hk'
    unfold f_X0_playMinute_2 f_X0_playMinute_39
    rw [r0, show μ'.1 5 3 = nI (C 0 2) from ev'.1.1.2.2.1, if_neg (nI_ge hi (by omega)), aimedVisit_f hF hf hwf ok.2.1 ev' hx' h2 hi hm hv, Option.bind_some, nI_1]
    have hno : sAim C P X i m = none → sQ1 C P false m i X = X := fun h => by unfold sQ1; rw [h]
    by_cases k0 : P 0 i = 0
    · rw [if_pos k0, if_pos rfl]
      refine hk' _ ?_ ag
      rw [hno (by unfold sAim; rw [if_pos k0])]
      exact hx'
    by_cases k1 : gS X 0 i = 0
    · rw [if_neg k0, if_pos k1, if_pos rfl]
      refine hk' _ ?_ ag
      rw [hno (by unfold sAim; rw [if_neg k0, if_pos k1])]
      exact hx'
    rw [if_neg k0, if_neg k1]
    have ea : sAim C P X i m = (xi (fun c => dst (pl C i) (C 6 c)) (fun c => gS X 1 (20 * i + c)) (P 0 i) (P 1 i) (fun k => (vis C m).getD k 0) (vis C m).length).map (fun k => (vis C m).getD k 0) := by
      unfold sAim
      rw [if_neg k0, if_neg k1, aim_fold (by omega)]
    cases hxi : xi (fun c => dst (pl C i) (C 6 c)) (fun c => gS X 1 (20 * i + c)) (P 0 i) (P 1 i) (fun k => (vis C m).getD k 0) (vis C m).length with
    | none =>
      rw [if_pos (show xiI (cntv C m) none = -1 from rfl)]
      refine hk' _ ?_ ag
      rw [hno (by rw [ea, hxi]; rfl)]
      exact hx'
    | some j =>
      have hj := (xi_lt _ _ hxi).1
      have e2 : xiI (cntv C m) (some j) = nI (cntv C m + j) := rfl
      have e3 : nI (cntv C m + j) ≠ -1 := by
        have := nI_pos' (n := cntv C m + j) (by omega)
        grind
      have e5 : μ'.1 38 (cntv C m + j) = nI ((vis C m).getD j 0) := ((ev'.2.2.2.2.2.2 m hm).2 hv).2.2.2.2 j hj
      rw [hxi] at ea
      have ea : sAim C P X i m = some ((vis C m).getD j 0) := ea
      obtain ⟨hc, hy, -⟩ := sAim_some ok' h2 hi ea
      have e9 : cl (X 919) 9 = n := by rw [h2.1.2.2, cl_nI (by omega) (by decide)]
      rw [e2, if_neg e3, pI_in_t (by omega) (by decide), pg_t, r2, s11, nI_clamp (by omega)]
      show T ((f_X0_throwAt F f (nI i) (μ'.1 38 (cntv C m + j)) μ').bind _) Q
      rw [e5]
      refine T_call (throwAt_x hf hwf ok' ev' hx' h2 (by omega) (n := n) (by omega) hi hc) fun μ2 h => hk' μ2 ?_ (ag.tr h.2)
      have e1 : sQ1 C P false m i X = sThrow C P false m n i ((vis C m).getD j 0) X := by
        unfold sQ1
        rw [ea, ← e9]
      rw [e1]
      exact h.1
  · rintro _ ⟨μ', rfl, hx', ag⟩ k
    have ev' := ev.ag hf ag
    show T (f_X0_playMinute_2 F f k (nI (nbz C m)) (nI (C 0 2)) μ') Q
    unfold f_X0_playMinute_2
    rw [r0, show μ'.1 5 3 = nI (C 0 2) from ev'.1.1.2.2.1, if_pos (nI_le (Nat.le_refl _) (by omega))]
    exact hQ μ' hx' ag
