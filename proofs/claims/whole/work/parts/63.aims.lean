theorem aim_fold {T P G : Nat → Nat → Nat} {q m : Nat} (hq : q < 9) : aimo T P G q m (T 0 3) = (xi (fun c => dst (pl T q) (T 6 c)) (fun c => G 1 (20 * q + c)) (P 0 q) (P 1 q) (fun k => (vis T m).getD k 0) (vis T m).length).map (fun k => (vis T m).getD k 0) := by
  rw [xi_stp _ _ (Nat.le_refl _), List.take_length]
  have : pl T q = T 1 q := by unfold pl; rw [if_pos hq]
  rw [this]
  rfl
theorem hasPlan_eq {F q p : Nat} {μ : aw_M} (hq : q < 9) (hp : p ≤ 19) (e : μ.1 20 q = nI p - 1) : f_X2_hasPlan F 19 (nI q) μ = some (decide (p ≠ 0), μ) := by
  unfold f_X2_hasPlan
  have r : aw_rf 19 1 = 20 := by simp only [rf0, rf1, rf4, rf5, rf19, rf23, rf28, rf39, rf53, rf67, rf71, rf76, rf88, rf97, rf101, rf109, rf110, rf124, rf128, rf133, rf144, rf156, rf157, rf171, rf175, rf180, rf191, rf51]
  rw [if_neg (nI_pos (by omega)), if_neg (show ¬ (9 : Int32) ≤ nI q from nI_ge (a := q) (b := 9) hq (by decide)), pI_in_t hq (by decide), pg_t, r, nI_clamp (by omega), e]
  have h0 : nI p - 1 = -1 ↔ p = 0 := by
    have : nI p = 0 ↔ p = 0 := by rw [← nI_0]; exact nI_eq (by omega) (by decide)
    rw [← this]
    constructor
    · intro h; grind
    · intro h; grind
  by_cases h : p = 0
  · rw [if_pos (h0.2 h), decide_eq_false (fun c => c h)]
  · rw [if_neg (fun c => h (h0.1 c)), decide_eq_true h]
theorem aimedVisit_x {F q m : Nat} {T P G : Nat → Nat → Nat} {μ : aw_M} (hF : 100 ≤ F) (hwf : qTWF T) (pw : qPWF P (T 0 2)) (fw : qFWF T G) (px : qPX P μ 19) (fx : qFX T G μ 39) (hG : qGX T μ 28) (hq : q < T 0 2) (hm : m < 240) (hv : vis T m ≠ []) : f_X0_aimedVisit F 39 (nI q) (nI (nbz T m)) μ = some (if P 0 q = 0 then -1 else if G 0 q = 0 then -1 else xiI (cntv T m) (xi (fun c => dst (pl T q) (T 6 c)) (fun c => G 1 (20 * q + c)) (P 0 q) (P 1 q) (fun k => (vis T m).getD k 0) (vis T m).length), μ) := by
  have hnq := hwf.1.2.2.1
  have hp := (pw q).1
  have hp1 := (pw q).2.1
  obtain ⟨q0, q1, q2⟩ := px.2 q (by omega)
  have b0 : μ.1 41 q = nI (G 0 q) := (fx.2.1 q hq).1
  have hb := (fw.2.1 q).1
  have r1 : aw_rf 39 1 = 19 := by simp only [rf0, rf1, rf4, rf5, rf19, rf23, rf28, rf39, rf53, rf67, rf71, rf76, rf88, rf97, rf101, rf109, rf110, rf124, rf128, rf133, rf144, rf156, rf157, rf171, rf175, rf180, rf191, rf51]
  have r2 : aw_rf 39 2 = 28 := by simp only [rf0, rf1, rf4, rf5, rf19, rf23, rf28, rf39, rf53, rf67, rf71, rf76, rf88, rf97, rf101, rf109, rf110, rf124, rf128, rf133, rf144, rf156, rf157, rf171, rf175, rf180, rf191, rf51]
  have r9 : aw_rf 39 9 = 41 := by simp only [rf0, rf1, rf4, rf5, rf19, rf23, rf28, rf39, rf53, rf67, rf71, rf76, rf88, rf97, rf101, rf109, rf110, rf124, rf128, rf133, rf144, rf156, rf157, rf171, rf175, rf180, rf191, rf51]
  have r13 : aw_rf 39 13 = 45 := by simp only [rf0, rf1, rf4, rf5, rf19, rf23, rf28, rf39, rf53, rf67, rf71, rf76, rf88, rf97, rf101, rf109, rf110, rf124, rf128, rf133, rf144, rf156, rf157, rf171, rf175, rf180, rf191, rf51]
  have s1 : aw_rf 19 1 = 20 := by simp only [rf0, rf1, rf4, rf5, rf19, rf23, rf28, rf39, rf53, rf67, rf71, rf76, rf88, rf97, rf101, rf109, rf110, rf124, rf128, rf133, rf144, rf156, rf157, rf171, rf175, rf180, rf191, rf51]
  have s2 : aw_rf 19 2 = 21 := by simp only [rf0, rf1, rf4, rf5, rf19, rf23, rf28, rf39, rf53, rf67, rf71, rf76, rf88, rf97, rf101, rf109, rf110, rf124, rf128, rf133, rf144, rf156, rf157, rf171, rf175, rf180, rf191, rf51]
  have hs : (aw_sh 45).2 = 180 := by decide
  unfold f_X0_aimedVisit
  rw [r1, hasPlan_eq (by omega) hp q0, Option.bind_some]
  by_cases k0 : P 0 q = 0
  · rw [decide_eq_false (fun c => c k0), if_neg Bool.false_ne_true, if_pos k0]
  rw [decide_eq_true k0, if_pos rfl, if_neg k0, pI_in_t (by omega) (by decide), pg_t, r9, nI_clamp (by omega), b0, pg_t, pg_t]
  by_cases k1 : G 0 q = 0
  · rw [if_neg (by rw [k1, nI_0]; decide), if_pos k1]
  rw [if_pos (by rw [← nI_0]; exact nI_lt (by omega) (by omega)), if_neg k1, r2, r13, s1, s2]
  have e20 : nI q * 20 = nI (20 * q) := by
    have : nI q * 20 = 20 * nI q := by grind
    rw [this]
    simp (disch := omega) only [pI_lit, nI_add, nI_clamp, nI_leI, nI_ltI, nI_eq, pk_mul]
  have hpl : pl T q = T 1 q := by unfold pl; rw [if_pos (by omega)]
  have hq1 : μ.1 21 q = nI (P 1 q) := by
    have : μ.1 21 q = if P 0 q = 0 then -1 else nI (P 1 q) := q1
    rw [this, if_neg k0]
  show (f_X1_nearestVisit F 28 45 (nI q) (nI (nbz T m)) (μ.1 20 q) (μ.1 21 q) (nI q * 20) μ).bind _ = _
  rw [hq1, e20, show μ.1 20 q = nI (P 0 q) - 1 from q0, nearest_x (T := T) (U := fun c => G 1 (20 * q + c)) (N := P 0 q) hF hwf hG (by omega) (by rw [Nat.mod_eq_of_lt (by omega)]; exact hq) hm hv (by grind) (by omega) (by omega) (by rw [hs]; omega) (by rw [hs]; decide) (fun c hc => ⟨(fx.2.1 q hq).2.2 c hc, by have := fw.2.2.1 (20 * q + c); show G 1 (20 * q + c) ≤ 1000; omega⟩) (by
    rw [hpl]
    have h := (hwf.2.1 q hq).1
    have := hwf.1
    unfold cellok at h
    omega)]
  rfl
