/-! a quarter's row of a sure day, as the class plays it -/
theorem cnt_chg {f f' : Nat → Nat} {i : Nat} (h : ∀ j, j ≠ i → f' j = f j) : ∀ n, i < n → cnt f' n + f i = cnt f n + f' i
  | 0, hi => absurd hi (Nat.not_lt_zero _)
  | n + 1, hi => by
    show cnt f' n + f' n + f i = cnt f n + f n + f' i
    by_cases e : i = n
    · subst e
      have := cnt_ext (f := f') (g := f) i (fun k hk => h k (by omega))
      omega
    · have := cnt_chg h n (by omega)
      have := h n (by omega)
      omega
/-- how many throw in a visit -/
def cw (V : Nat → Nat → Option Nat) (v : Nat) : Nat := cnt (fun q => cnt (fun i => if V q i = some v then 1 else 0) 80) 9
theorem cw_chg {V V' : Nat → Nat → Option Nat} {q i : Nat} (hq : q < 9) (hi : i < 80) (h : ∀ q' i', ¬ (q' = q ∧ i' = i) → V' q' i' = V q' i') (v : Nat) : cw V' v + (if V q i = some v then 1 else 0) = cw V v + (if V' q i = some v then 1 else 0) := by
  have h1 := cnt_chg (f := fun q => cnt (fun i => if V q i = some v then 1 else 0) 80) (f' := fun q => cnt (fun i => if V' q i = some v then 1 else 0) 80) (i := q) (fun j hj => cnt_ext 80 fun k _ => by rw [h j k (fun e => hj e.1)]) 9 hq
  have h2 := cnt_chg (f := fun i => if V q i = some v then 1 else 0) (f' := fun i => if V' q i = some v then 1 else 0) (i := i) (fun j hj => by show (if V' q j = some v then 1 else 0) = (if V q j = some v then 1 else 0); rw [h q j (fun e => hj e.2)]) 80 hi
  have h1 : cnt (fun q => cnt (fun i => if V' q i = some v then 1 else 0) 80) 9 + cnt (fun i => if V q i = some v then 1 else 0) 80 = cnt (fun q => cnt (fun i => if V q i = some v then 1 else 0) 80) 9 + cnt (fun i => if V' q i = some v then 1 else 0) 80 := h1
  have h2 : cnt (fun i => if V' q i = some v then 1 else 0) 80 + (if V q i = some v then 1 else 0) = cnt (fun i => if V q i = some v then 1 else 0) 80 + (if V' q i = some v then 1 else 0) := h2
  unfold cw
  omega
theorem cw_le (V : Nat → Nat → Option Nat) (v : Nat) : cw V v ≤ 720 := by
  have h := cnt_mono (f := fun q => cnt (fun i => if V q i = some v then 1 else 0) 80) (g := fun _ => 80 * 1) 9 fun q _ => by
    have := cnt_le (f := fun i => if V q i = some v then 1 else 0) (fun k => by show (if _ then 1 else 0) ≤ 1; split <;> omega) 80
    omega
  have e : cnt (fun _ => 80 * 1) 9 = 720 := by decide
  unfold cw
  omega
theorem cw_pos {V : Nat → Nat → Option Nat} {q i v : Nat} (hq : q < 9) (hi : i < 80) (h : V q i = some v) : 1 ≤ cw V v := by
  have := cw_chg (V := V) (V' := fun q' i' => if q' = q ∧ i' = i then none else V q' i') hq hi (fun q' i' e => if_neg e) v
  rw [if_pos h] at this
  have e : (if q = q ∧ i = i then none else V q i) = none := if_pos ⟨rfl, rfl⟩
  rw [e, if_neg (fun h => by cases h)] at this
  omega
/-- the rows as the class keeps them -/
def SDr (V : Nat → Nat → Option Nat) (μ : aw_M) : Prop := (∀ q i, q < 9 → i < 80 → μ.1 89 (80 * q + i) = oI (V q i)) ∧ (∀ v, v < 80 → μ.1 90 v = nI (cw V v)) ∧ ∀ q i v, V q i = some v → v < 80
theorem SDr.chg {V V' : Nat → Nat → Option Nat} {q i : Nat} {μ : aw_M} (h : SDr V μ) (hq : q < 9) (hi : i < 80) (hV : ∀ q' i', ¬ (q' = q ∧ i' = i) → V' q' i' = V q' i') (hb : ∀ v, V' q i = some v → v < 80) (μ' : aw_M) (h89 : ∀ k, k ≠ 80 * q + i → μ'.1 89 k = μ.1 89 k) (h89' : μ'.1 89 (80 * q + i) = oI (V' q i)) (h90 : ∀ v, v < 80 → μ'.1 90 v = nI (cw V' v)) : SDr V' μ' := by
  refine ⟨fun q' i' hq' hi' => ?_, h90, fun q' i' v hv => ?_⟩
  · by_cases e : q' = q ∧ i' = i
    · obtain ⟨rfl, rfl⟩ := e
      exact h89'
    · rw [h89 _ (by omega), hV q' i' e]
      exact h.1 q' i' hq' hi'
  · by_cases e : q' = q ∧ i' = i
    · obtain ⟨rfl, rfl⟩ := e
      exact hb v hv
    · rw [hV q' i' e] at hv
      exact h.2.2 q' i' v hv
/-- all but what is noted of sure days -/
def kSD (a k : Nat) : Bool := decide (a < 89 ∨ 93 < a)
theorem kSD_f {a k : Nat} (h : 89 ≤ a) (h2 : a ≤ 93) : kSD a k = false := decide_eq_false (by omega)
theorem env.sd {T P : Nat → Nat → Nat} {μ μ' : aw_M} (h : env T P μ) (ag : AgK kSD μ μ') : env T P μ' := by
  have hk : ∀ a, 5 ≤ a → a ≤ 38 → μ'.1 a = μ.1 a := fun a h1 h2 => ag.a fun k => decide_eq_true (by omega)
  obtain ⟨h1, h2, h3⟩ := h
  refine ⟨?_, ?_, qGX_ag (fun a h1 h2 => hk a (by omega) (by omega)) h3⟩
  · unfold qTX at h1 ⊢
    simp (disch := omega) only [hk]
    exact h1
  · unfold qPX at h2 ⊢
    simp (disch := omega) only [hk]
    exact h2
theorem takeBack_x {F q : Nat} {V : Nat → Nat → Option Nat} {μ : aw_M} (hF : 200 ≤ F) (hq : q < 9) (h : SDr V μ) : T (f_X5_takeBack F 88 (nI q) μ) fun μ' => SDr (fun q' i => if q' = q then none else V q' i) μ' ∧ AgK kSD μ μ' ∧ μ'.1 91 = μ.1 91 ∧ μ'.1 92 = μ.1 92 := by
  have r3 : aw_rf 88 3 = 89 := by simp only [rf0, rf1, rf4, rf5, rf19, rf23, rf28, rf39, rf53, rf67, rf71, rf76, rf88, rf97, rf101, rf109, rf110, rf124, rf128, rf133, rf144, rf156, rf157, rf171, rf175, rf180, rf191, rf51]
  have r4 : aw_rf 88 4 = 90 := by simp only [rf0, rf1, rf4, rf5, rf19, rf23, rf28, rf39, rf53, rf67, rf71, rf76, rf88, rf97, rf101, rf109, rf110, rf124, rf128, rf133, rf144, rf156, rf157, rf171, rf175, rf180, rf191, rf51]
  have e80 : nI q * 80 = nI (80 * q) := by
    have : nI q * 80 = 80 * nI q := by grind
    rw [this]
    simp (disch := omega) only [pI_lit, nI_add, nI_clamp, nI_leI, nI_ltI, nI_eq, pk_mul]
  have e81 : (nI q + 1) * 80 = nI (80 * q + 80) := by
    have : (nI q + 1) * 80 = 80 * nI q + 80 := by grind
    rw [this]
    simp (disch := omega) only [pI_lit, nI_add, nI_clamp, nI_leI, nI_ltI, nI_eq, pk_mul]
  unfold f_X5_takeBack
  rw [plet, e80]
  refine T_lp (fun i s => ∃ μ', s = (nI q, nI (80 * q + i), μ') ∧ SDr (fun q' i' => if q' = q ∧ i' < i then none else V q' i') μ' ∧ AgK kSD μ μ' ∧ μ'.1 91 = μ.1 91 ∧ μ'.1 92 = μ.1 92) 80 (by omega) ⟨μ, rfl, ?_, AgK.rf μ, rfl, rfl⟩ ?_ ?_
  · have : (fun q' i' => if q' = q ∧ i' < 0 then none else V q' i') = V := by
      funext q' i'
      rw [if_neg (by omega)]
    rw [this]
    exact h
  · rintro i hi _ ⟨μ', rfl, h', ag, g1, g2⟩ k hk
    have hent : μ'.1 89 (80 * q + i) = oI (if q = q ∧ i < i then none else V q i) := h'.1 q i hq hi
    rw [if_neg (by omega)] at hent
    have hk : ∀ μ2, SDr (fun q' i' => if q' = q ∧ i' < i + 1 then none else V q' i') μ2 → AgK kSD μ μ2 → μ2.1 91 = μ.1 91 → μ2.1 92 = μ.1 92 → T (k (nI q, nI (80 * q + i + 1), μ2)) _ := fun μ2 a1 a2 a3 a4 => hk _ ⟨μ2, rfl, a1, a2, a3, a4⟩
    show T (f_X5_takeBack_5 F 88 k (nI q) (nI (80 * q + i)) μ') _
    unfold f_X5_takeBack_5 f_X5_takeBack_47
    rw [e81, if_neg (nI_ge (by omega) (by omega)), pI_in_t (by omega) (by decide), pg_t, r3, nI_clamp (by omega), hent, nI_1]
    have hV' : ∀ q' i', ¬ (q' = q ∧ i' = i) → (if q' = q ∧ i' < i + 1 then none else V q' i') = (if q' = q ∧ i' < i then none else V q' i') := fun q' i' e => by
      by_cases e2 : q' = q ∧ i' < i
      · rw [if_pos e2, if_pos (by omega)]
      · rw [if_neg e2, if_neg (by omega)]
    cases hv : V q i with
    | none =>
      rw [if_pos (show oI none = -1 from rfl)]
      refine hk μ' ?_ ag g1 g2
      have : (fun q' i' => if q' = q ∧ i' < i + 1 then none else V q' i') = fun q' i' => if q' = q ∧ i' < i then none else V q' i' := by
        funext q' i'
        by_cases e : q' = q ∧ i' = i
        · obtain ⟨rfl, rfl⟩ := e
          rw [if_pos ⟨rfl, Nat.lt_succ_self _⟩, if_neg (by omega), hv]
        · exact hV' q' i' e
      rw [this]
      exact h'
    | some v =>
      have hv80 := h.2.2 q i v hv
      have eo : oI (some v) = nI v := rfl
      have n1 : ¬ nI v = -1 := by
        have := nI_pos' (n := v) (by omega)
        grind
      have hVi : (if q = q ∧ i < i then none else V q i) = some v := by rw [if_neg (by omega), hv]
      have hc1 := cw_pos (V := fun q' i' => if q' = q ∧ i' < i then none else V q' i') hq hi hVi
      have hcl := cw_le (fun q' i' => if q' = q ∧ i' < i then none else V q' i') v
      rw [eo, if_neg n1, pg_t, pI_in_t hv80 (by decide), pg_t, pg_t, plet, r4, nI_clamp (by omega), h'.2.1 v hv80, show nI (cw _ v) - 1 = nI (cw _ v - 1) from nI_sub (b := 1) hc1, pg_t, plet]
      refine hk _ ?_ ((ag.wI (kSD_f (by omega) (by omega))).wI (kSD_f (by omega) (by omega))) (by rw [rI_a (by decide), rI_a (by decide)]; exact g1) (by rw [rI_a (by decide), rI_a (by decide)]; exact g2)
      refine h'.chg hq hi hV' (fun w hw => ?_) _ (fun j hj => ?_) ?_ (fun w hw => ?_)
      · have hw : (if q = q ∧ i < i + 1 then none else V q i) = some w := hw
        rw [if_pos ⟨rfl, Nat.lt_succ_self _⟩] at hw
        cases hw
      · rw [rI_k hj, rI_a (by decide)]
      · rw [rI_s]
        show -1 = oI (if q = q ∧ i < i + 1 then none else V q i)
        rw [if_pos ⟨rfl, Nat.lt_succ_self _⟩]
        rfl
      · have hch := cw_chg (V := fun q' i' => if q' = q ∧ i' < i then none else V q' i') (V' := fun q' i' => if q' = q ∧ i' < i + 1 then none else V q' i') hq hi hV' w
        rw [hVi, if_pos (show q = q ∧ i < i + 1 from ⟨rfl, Nat.lt_succ_self _⟩), if_neg (show ¬ (none : Option Nat) = some w from fun h => by cases h)] at hch
        rw [rI_a (by decide)]
        by_cases e : w = v
        · subst e
          rw [rI_s]
          rw [if_pos rfl] at hch
          refine congrArg nI ?_
          omega
        · rw [rI_k e, h'.2.1 w hw]
          rw [if_neg (fun h => e (Option.some.inj h).symm)] at hch
          refine congrArg nI ?_
          omega
  · rintro _ ⟨μ', rfl, h', ag, g1, g2⟩ k
    show T (f_X5_takeBack_5 F 88 k (nI q) (nI (80 * q + 80)) μ') _
    unfold f_X5_takeBack_5
    rw [e81, if_pos (nI_le (Nat.le_refl _) (by omega)), T_some]
    refine ⟨⟨fun q' i' hq' hi' => ?_, fun v hv => ?_, fun q' i' v hv => ?_⟩, ag, g1, g2⟩
    · rw [h'.1 q' i' hq' hi']
      show oI (if q' = q ∧ i' < 80 then none else V q' i') = oI (if q' = q then none else V q' i')
      by_cases e : q' = q
      · rw [if_pos e, if_pos ⟨e, hi'⟩]
      · rw [if_neg e, if_neg (fun h => e h.1)]
    · rw [h'.2.1 v hv]
      refine congrArg nI ?_
      unfold cw
      refine cnt_ext 9 fun q' _ => cnt_ext 80 fun i' hi' => ?_
      show (if (if q' = q ∧ i' < 80 then none else V q' i') = some v then 1 else 0) = (if (if q' = q then none else V q' i') = some v then 1 else 0)
      by_cases e : q' = q
      · rw [if_pos (show q' = q ∧ i' < 80 from ⟨e, hi'⟩), if_pos e]
      · rw [if_neg (show ¬ (q' = q ∧ i' < 80) from fun h => e h.1), if_neg e]
    · by_cases e : q' = q
      · have hv : (if q' = q then none else V q' i') = some v := hv
        rw [if_pos e] at hv
        cases hv
      · have hv : (if q' = q then none else V q' i') = some v := hv
        rw [if_neg e] at hv
        exact h.2.2 q' i' v hv
/-- no cart is nearer than none -/
theorem nearest_0 {F a4 p m : Nat} {a2 a3 a6 : Int32} {T : Nat → Nat → Nat} {μ : aw_M} (hF : 100 ≤ F) (hwf : qTWF T) (hG : qGX T μ 28) (hp : p < 18) (hpq : p % 9 < T 0 2) (hm : m < 240) (hv : vis T m ≠ []) (h2 : a2 + 1 = 0) (hpl : pl T p < 100) : f_X1_nearestVisit F 28 a4 (nI p) (nI (nbz T m)) a2 a3 a6 μ = some (-1, μ) := by
  have hnc := hwf.1.2.2.2
  have hcell : ∀ c, c < T 0 3 → T 6 c < 100 := fun c hc => by
    have h := (hwf.2.2.2.1 c hc).2.1
    have := hwf.1
    unfold cellok at h
    omega
  obtain ⟨g1, g2, g3, g4⟩ := (hG.2.2.2.2 m hm).2 hv
  have f1 : μ.1 37 (nbz T m) = nI (cntv T m) := g3
  have f2 : μ.1 37 (nbz T m + 1) = nI (cntv T (m + 1)) := g4.1
  have f3 : ∀ j, j < (vis T m).length → μ.1 38 (cntv T m + j) = nI ((vis T m).getD j 0) := g4.2
  have fa : ∀ c, c < T 0 3 → μ.1 29 (20 * p + c) = nI (dst (pl T p) (T 6 c)) := (hG.1 p hp hpq).1
  have b1 := nbz_le T (m + 1)
  have b2 := cntv_le T (m + 1)
  have b3 := cntv_succ T m
  have b4 := nbz_s hv
  unfold f_X1_nearestVisit
  have r9 : aw_rf 28 10 = 37 := by simp only [rf0, rf1, rf4, rf5, rf19, rf23, rf28, rf39, rf53, rf67, rf71, rf76, rf88, rf97, rf101, rf109, rf110, rf124, rf128, rf133, rf144, rf156, rf157, rf171, rf175, rf180, rf191, rf51]
  have r10 : aw_rf 28 11 = 38 := by simp only [rf0, rf1, rf4, rf5, rf19, rf23, rf28, rf39, rf53, rf67, rf71, rf76, rf88, rf97, rf101, rf109, rf110, rf124, rf128, rf133, rf144, rf156, rf157, rf171, rf175, rf180, rf191, rf51]
  have r0 : aw_rf 28 0 = 29 := by simp only [rf0, rf1, rf4, rf5, rf19, rf23, rf28, rf39, rf53, rf67, rf71, rf76, rf88, rf97, rf101, rf109, rf110, rf124, rf128, rf133, rf144, rf156, rf157, rf171, rf175, rf180, rf191, rf51]
  rw [plet, pI_in_t (by omega) (by decide), pg_t, plet, r9, nI_clamp (by omega), f1, h2]
  refine lp_up (fun j => (nI p, nI (nbz T m), a3, a6, -1, 0, nI (cntv T m + j), μ)) (vis T m).length _ ?_ ?_ (by omega)
  · intro j hj g
    have hc := vis_lt hj
    have hd := dst_le hpl (hcell _ hc)
    have e20 : nI p * 20 + nI ((vis T m).getD j 0) = nI (20 * p + (vis T m).getD j 0) := by
      have : nI p * 20 + nI ((vis T m).getD j 0) = 20 * nI p + nI ((vis T m).getD j 0) := by grind
      rw [this]
      simp (disch := omega) only [pI_lit, nI_add, nI_clamp, nI_leI, nI_ltI, nI_eq, pk_mul]
    show f_X1_nearestVisit_16 F 28 a4 g (nI p) (nI (nbz T m)) a3 a6 (-1) 0 (nI (cntv T m + j)) μ = g (nI p, nI (nbz T m), a3, a6, -1, 0, nI (cntv T m + j + 1), μ)
    unfold f_X1_nearestVisit_16 f_X1_nearestVisit_86
    rw [nI_1, pI_in_t (by omega) (by decide), pg_t, r9, nI_clamp (by omega), f2, b3, if_neg (nI_ge (by omega) (by omega)), pI_in_t (by omega) (by decide), pg_t, plet, r10, nI_clamp (by omega), f3 j hj, e20, pI_in_t (by omega) (by decide), pg_t, r0, nI_clamp (by omega), fa _ hc, if_pos (nI_pos' (by omega)), nI_1]
  · intro g
    show f_X1_nearestVisit_16 F 28 a4 g (nI p) (nI (nbz T m)) a3 a6 (-1) 0 (nI (cntv T m + (vis T m).length)) μ = _
    unfold f_X1_nearestVisit_16
    rw [nI_1, pI_in_t (by omega) (by decide), pg_t, r9, nI_clamp (by omega), f2, b3, if_pos (nI_le (Nat.le_refl _) (by omega))]
