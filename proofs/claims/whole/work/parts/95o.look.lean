def lkN (B : Nat → Nat) (n : Nat) : Nat → Nat
  | 0 => 0
  | k + 1 => lkN B n k + if lws B n (nI k) then 1 else 0
theorem lkN_le {B : Nat → Nat} {n : Nat} : ∀ k, lkN B n k ≤ k
  | 0 => Nat.le_refl _
  | k + 1 => by
    have := lkN_le (B := B) (n := n) k
    show lkN B n k + _ ≤ _
    split <;> omega
theorem lkN_mono {B : Nat → Nat} {n : Nat} {j : Nat} : ∀ d, lkN B n j ≤ lkN B n (j + d)
  | 0 => Nat.le_refl _
  | d + 1 => Nat.le_trans (lkN_mono d) (Nat.le_add_right _ _)
theorem lkN_lt {B : Nat → Nat} {n j k : Nat} (h : j < k) (hj : lws B n (nI j)) : lkN B n j < lkN B n k := by
  obtain ⟨d, rfl⟩ : ∃ d, k = (j + 1) + d := ⟨k - (j + 1), by omega⟩
  refine Nat.lt_of_lt_of_le ?_ (lkN_mono d)
  show lkN B n j < lkN B n j + if lws B n (nI j) then 1 else 0
  rw [if_pos hj]
  omega
theorem lkN_at {B : Nat → Nat} {n i : Nat} : ∀ k, i < lkN B n k → ∃ y, y < k ∧ lws B n (nI y) ∧ lkN B n y = i
  | 0, h => absurd h (Nat.not_lt_zero _)
  | k + 1, h => by
    by_cases e : i < lkN B n k
    · obtain ⟨y, h1, h2⟩ := lkN_at k e
      exact ⟨y, by omega, h2⟩
    · have h : i < lkN B n k + if lws B n (nI k) then 1 else 0 := h
      by_cases q : lws B n (nI k)
      · rw [if_pos q] at h
        exact ⟨k, by omega, q, by omega⟩
      · rw [if_neg q] at h
        omega
def lkA (a : Nat) (B : Nat → Nat) (n : Nat) (μ : aw_M) (x : Nat) : Prop := ∀ y, y < x → lws B n (nI y) → lkN B n y < 100 → μ.1 a (lkN B n y) = nI y
theorem lkA_w {a : Nat} {B : Nat → Nat} {n x : Nat} {μ : aw_M} (h : lkA a B n μ x) (hx : lws B n (nI x)) : lkA a B n (aw_wI μ a (lkN B n x) (nI x)) (x + 1) := by
  intro y hy h1 h2
  by_cases e : y = x
  · subst e; exact rI_s
  · have := lkN_lt (show y < x by omega) h1
    rw [rI_k (by omega)]
    exact h y (by omega) h1 h2
theorem lkA_s {a : Nat} {B : Nat → Nat} {n x : Nat} {μ : aw_M} (h : lkA a B n μ x) (hx : lws B n (nI x) → 100 ≤ lkN B n x) : lkA a B n μ (x + 1) := by
  intro y hy h1 h2
  by_cases e : y = x
  · subst e; exact absurd (hx h1) (by omega)
  · exact h y (by omega) h1 h2
def kLx (a k : Nat) : Bool := decide (a ≠ 100 ∧ (a ≠ 97 ∨ k ≠ 2))
theorem findLaws_x {F n : Nat} {B : Nat → Nat} {μ : aw_M} (hF : 20000 ≤ F) (hn : n ≤ 940) (e1 : μ.1 1 1 = nI n) (hB : tpX B n μ) (hok : rwOK B n) : T (f_X7_findLaws F 97 1 μ) fun r => r.1 = nI (lkN B (n / 5) 10000) ∧ r.2.1 97 2 = nI (lkN B (n / 5) 10000) ∧ AgK kLx μ r.2 ∧ lkA 100 B (n / 5) r.2 10000 := by
  have r3 : aw_rf 97 3 = 100 := by simp only [rf0, rf1, rf4, rf5, rf19, rf23, rf28, rf39, rf53, rf67, rf71, rf76, rf88, rf97, rf101, rf109, rf110, rf124, rf128, rf133, rf144, rf156, rf157, rf171, rf175, rf180, rf191, rf51]
  obtain ⟨k1, k2, k3, k4⟩ := hok
  unfold f_X7_findLaws
  refine T_call (areRows_x (by omega) hn e1 hB) ?_
  rintro ⟨b, μ'⟩ ⟨e3, e4⟩
  have e3 : μ' = μ := e3
  subst e3
  have e4 : b = true := e4.2 ⟨k1, k2, k3, k4⟩
  subst e4
  rw [if_pos rfl, plet]
  refine T_lp (fun x s => ∃ μ1, s = (nI x, μ1) ∧ μ1.1 97 2 = nI (lkN B (n / 5) x) ∧ AgK kLx μ' μ1 ∧ lkA 100 B (n / 5) μ1 x) 10000 (by omega) ⟨_, rfl, rI_s, (AgK.rf μ').wI rfl, fun y h => absurd h (Nat.not_lt_zero _)⟩ ?_ ?_
  · rintro x hx _ ⟨μ1, rfl, g1, g2, g3⟩ k hk
    have hl := lkN_le (B := B) (n := n / 5) x
    show T (f_X7_findLaws_16 F 97 1 k (nI x) μ1) _
    unfold f_X7_findLaws_16
    rw [if_neg (show ¬ ((10000 : Int32) ≤ nI x) from (show ¬ (nI 10000 ≤ nI x) from nI_ge (by omega) (by omega)))]
    refine T_call (tells_x (by omega) k2 k3 ((g2 1 1 rfl).1.trans e1) (fun i hi => ⟨(hB i hi).1, ((g2 2 i rfl).1).trans (hB i hi).2⟩)) ?_
    rintro ⟨b, μ2⟩ ⟨e3, e4⟩
    have e3 : μ2 = μ1 := e3
    subst e3
    have e4 : b = true ↔ lws B (n / 5) (nI x) := e4
    have es : lkN B (n / 5) (x + 1) = lkN B (n / 5) x + if lws B (n / 5) (nI x) then 1 else 0 := rfl
    by_cases q : lws B (n / 5) (nI x)
    · rw [if_pos (e4.2 q)]
      rw [if_pos q] at es
      dsimp only
      rw [g1]
      unfold f_X7_findLaws_50 f_X7_findLaws_60
      by_cases c : 100 ≤ lkN B (n / 5) x
      · rw [if_pos (show (100 : Int32) ≤ nI (lkN B (n / 5) x) from (show nI 100 ≤ nI (lkN B (n / 5) x) from nI_le c (by omega))), plet, g1, nI_1, nI_1, ← es]
        exact hk _ ⟨_, rfl, rI_s, g2.wI rfl, lkA_s (fun y h1 h2 h3 => (congrFun (rI_a (by decide)) _).trans (g3 y h1 h2 h3)) fun _ => c⟩
      · rw [if_neg (show ¬ ((100 : Int32) ≤ nI (lkN B (n / 5) x)) from (show ¬ (nI 100 ≤ nI (lkN B (n / 5) x)) from nI_ge (by omega) (by omega))), pI_in_t (by omega) (by decide), pg_t, plet, plet, r3, nI_clamp (by omega), rI_a (by decide), g1, nI_1, nI_1, ← es]
        exact hk _ ⟨_, rfl, rI_s, (g2.wI rfl).wI rfl, fun y h1 h2 h3 => (congrFun (rI_a (by decide)) _).trans (lkA_w g3 q y h1 h2 h3)⟩
    · rw [if_neg (fun h => q (e4.1 h))]
      rw [if_neg q] at es
      unfold f_X7_findLaws_60
      rw [nI_1]
      exact hk _ ⟨μ2, rfl, by rw [es]; exact g1, g2, lkA_s g3 fun h => absurd h q⟩
  · rintro _ ⟨μ1, rfl, g1, g2, g3⟩ k
    show T (f_X7_findLaws_16 F 97 1 k (nI 10000) μ1) _
    unfold f_X7_findLaws_16
    rw [if_pos (show (10000 : Int32) ≤ nI 10000 by decide), T_some]
    exact ⟨g1, g1, g2, g3⟩
def kLm (a k : Nat) : Bool := decide ((a ≠ 203 ∨ (k ≠ 0 ∧ (k < 2 ∨ (5 < k ∧ k ≠ 31)))) ∧ a ≠ 217)
theorem look_m {F n : Nat} {B : Nat → Nat} {μ : aw_M} (hF : 20000 ≤ F) (hn : n ≤ 940) (e1 : μ.1 203 2 = nI n) (hB : tpM B n μ) : T (f_X11_look F 203 μ) fun r => r.2.1 203 2 = 0 ∧ (rwOK B n → r.1 = nI (lkN B (n / 5) 10000) ∧ r.2.1 203 31 = nI (min (lkN B (n / 5) 10000) 100) ∧ AgK kLm μ r.2 ∧ lkA 217 B (n / 5) r.2 10000) ∧ (¬ rwOK B n → r.1 = -1 ∧ AgK kTn μ r.2) := by
  have r30 : aw_rf 203 30 = 217 := by simp only [rf203, rf203b]
  unfold f_X11_look
  rw [plet, taken_m, Option.bind_some]
  have hag : AgK kTn μ (aw_wI (aw_wI (aw_wI (aw_wI (aw_wI μ 203 0 0) 203 3 ((aw_wI μ 203 0 0).1 203 2)) 203 2 0) 203 4 0) 203 5 940) := (((((AgK.rf μ).wI (v := _) rfl).wI (v := _) rfl).wI (v := _) rfl).wI (v := _) rfl).wI (v := _) rfl
  have h3 : (aw_wI (aw_wI (aw_wI (aw_wI (aw_wI μ 203 0 0) 203 3 ((aw_wI μ 203 0 0).1 203 2)) 203 2 0) 203 4 0) 203 5 940).1 203 3 = nI n := by
    rw [rI_k (by decide), rI_k (by decide), rI_k (by decide), rI_s, rI_k (by decide), e1]
  have h2 : (aw_wI (aw_wI (aw_wI (aw_wI (aw_wI μ 203 0 0) 203 3 ((aw_wI μ 203 0 0).1 203 2)) 203 2 0) 203 4 0) 203 5 940).1 203 2 = 0 := by
    rw [rI_k (by decide), rI_k (by decide), rI_s]
  generalize aw_wI (aw_wI (aw_wI (aw_wI (aw_wI μ 203 0 0) 203 3 ((aw_wI μ 203 0 0).1 203 2)) 203 2 0) 203 4 0) 203 5 940 = μ1 at hag h3 h2
  have hB1 : tpM B n μ1 := fun i hi => by rw [(hag 204 i rfl).1]; exact hB i hi
  have bad : ¬ rwOK B n → T (some ((-1 : Int32), μ1)) fun r => r.2.1 203 2 = 0 ∧ (rwOK B n → r.1 = nI (lkN B (n / 5) 10000) ∧ r.2.1 203 31 = nI (min (lkN B (n / 5) 10000) 100) ∧ AgK kLm μ r.2 ∧ lkA 217 B (n / 5) r.2 10000) ∧ (¬ rwOK B n → r.1 = -1 ∧ AgK kTn μ r.2) := fun g3 => ⟨_, rfl, h2, fun h => absurd h g3, fun _ => ⟨rfl, hag⟩⟩
  have hmod : nI n - nI n / 5 * 5 = nI (n % 5) := by rw [show (5 : Int32) = nI 5 from rfl, nI_mod (by omega) (by decide)]
  have hdiv : nI n / 5 = nI (n / 5) := nI_div (b := 5) (by omega) (by decide)
  rw [h3, hmod]
  by_cases k3 : n % 5 = 0
  · rw [if_pos (by rw [k3]; rfl), hdiv, isIn_eq, Option.bind_some]
    have h16 : (1 ≤ nI (n / 5) ∧ nI (n / 5) ≤ 12) ↔ 5 ≤ n ∧ n ≤ 60 := by
      have hx : nI (n / 5) ≤ 12 ↔ n / 5 ≤ 12 := nI_leI (b := 12) (by omega) (by decide)
      have hy : 1 ≤ nI (n / 5) ↔ 1 ≤ n / 5 := nI_leI (a := 1) (by decide) (by omega)
      rw [hx, hy]
      omega
    by_cases k2 : 5 ≤ n ∧ n ≤ 60
    · rw [decide_eq_true (h16.2 k2), if_pos rfl]
      refine T_lp (fun r s => s = (nI (5 * r), μ1) ∧ ∀ r', r' < r → B (5 * r') ≤ 20 ∧ B (5 * r' + 1) ≤ 1 ∧ B (5 * r' + 2) ≤ 8 ∧ B (5 * r' + 3) ≤ 1) (n / 5) (by omega) ⟨rfl, fun r' h => absurd h (Nat.not_lt_zero _)⟩ ?_ ?_
      · rintro r hr _ ⟨rfl, h⟩ k hk
        have oc : ∀ i, i < n → f_X11_octet F 203 (nI i) μ1 = some (nI (B i), μ1) := fun i hi => octet_m (by omega) (hB1 i hi).1 (hB1 i hi).2
        have bb : ∀ i, i < n → B i < 256 := fun i hi => (hB1 i hi).1
        have a1 := bb (5 * r) (by omega)
        have b1 := bb (5 * r + 1) (by omega)
        have c1 := bb (5 * r + 2) (by omega)
        have d1 := bb (5 * r + 3) (by omega)
        have x2 : nI (5 * r) + 2 = nI (5 * r + 2) := nI_add (5 * r) 2
        have x3 : nI (5 * r) + 3 = nI (5 * r + 3) := nI_add (5 * r) 3
        have x5 : nI (5 * r) + 5 = nI (5 * (r + 1)) := nI_add (5 * r) 5
        show T (f_X11_look_40 F 203 k (nI (5 * r)) μ1) _
        unfold f_X11_look_40
        rw [h3, if_neg (nI_ge (by omega) (by omega)), nI_1, x2, x3, x5, oc _ (by omega), Option.bind_some]
        dsimp only
        by_cases q1 : B (5 * r) ≤ 20
        · rw [if_neg (show ¬ ((20 : Int32) < nI (B (5 * r))) from (le_lit (b := 20) a1 (by decide)).2 q1), oc _ (by omega), Option.bind_some]
          dsimp only
          by_cases q2 : B (5 * r + 1) ≤ 1
          · rw [if_neg (show ¬ ((1 : Int32) < nI (B (5 * r + 1))) from (le_lit (b := 1) b1 (by decide)).2 q2), oc _ (by omega), Option.bind_some]
            dsimp only
            by_cases q3 : B (5 * r + 2) ≤ 8
            · rw [if_neg (show ¬ ((8 : Int32) < nI (B (5 * r + 2))) from (le_lit (b := 8) c1 (by decide)).2 q3), oc _ (by omega), Option.bind_some]
              dsimp only
              by_cases q4 : B (5 * r + 3) ≤ 1
              · rw [if_pos (show nI (B (5 * r + 3)) ≤ (1 : Int32) from (show nI (B (5 * r + 3)) ≤ nI 1 from nI_le q4 (by decide)))]
                refine hk _ ⟨rfl, fun r' hr' => ?_⟩
                by_cases e : r' = r
                · rw [e]; exact ⟨q1, q2, q3, q4⟩
                · exact h r' (by omega)
              · rw [if_neg (show ¬ (nI (B (5 * r + 3)) ≤ (1 : Int32)) from (show ¬ (nI (B (5 * r + 3)) ≤ nI 1) from nI_ge (by omega) (by omega)))]
                exact bad fun h => q4 (h.2.2.2 r hr).2.2.2
            · rw [if_pos (show (8 : Int32) < nI (B (5 * r + 2)) from (show nI 8 < nI (B (5 * r + 2)) from nI_lt (by omega) (by omega)))]
              exact bad fun h => q3 (h.2.2.2 r hr).2.2.1
          · rw [if_pos (show (1 : Int32) < nI (B (5 * r + 1)) from (show nI 1 < nI (B (5 * r + 1)) from nI_lt (by omega) (by omega)))]
            exact bad fun h => q2 (h.2.2.2 r hr).2.1
        · rw [if_pos (show (20 : Int32) < nI (B (5 * r)) from (show nI 20 < nI (B (5 * r)) from nI_lt (by omega) (by omega)))]
          exact bad fun h => q1 (h.2.2.2 r hr).1
      · rintro _ ⟨rfl, hrow⟩ k
        have e : 5 * (n / 5) = n := by omega
        have hok : rwOK B n := ⟨k2.1, k2.2, k3, hrow⟩
        show T (f_X11_look_40 F 203 k (nI (5 * (n / 5))) μ1) _
        unfold f_X11_look_40
        rw [e, h3, if_pos (nI_le (Nat.le_refl _) (by omega))]
        unfold f_X11_look_100
        rw [plet]
        refine T_lp (fun x s => ∃ μ2, s = (nI (lkN B (n / 5) x), nI x, μ2) ∧ μ2.1 203 31 = nI (min (lkN B (n / 5) x) 100) ∧ AgK (fun a k => decide (a ≠ 217 ∧ (a ≠ 203 ∨ k ≠ 31))) μ1 μ2 ∧ lkA 217 B (n / 5) μ2 x) 10000 (by omega) ⟨_, rfl, rI_s, (AgK.rf μ1).wI rfl, fun y h => absurd h (Nat.not_lt_zero _)⟩ ?_ ?_
        · rintro x hx _ ⟨μ2, rfl, g1, g2, g3⟩ k hk
          have hl := lkN_le (B := B) (n := n / 5) x
          show T (f_X11_look_109 F 203 k (nI (lkN B (n / 5) x)) (nI x) μ2) _
          unfold f_X11_look_109
          rw [if_neg (show ¬ ((10000 : Int32) ≤ nI x) from (show ¬ (nI 10000 ≤ nI x) from nI_ge (by omega) (by omega)))]
          refine T_call (isLaw_m (by omega) k2.2 k3 ((g2 203 3 rfl).1.trans h3) (fun i hi => ⟨(hB1 i hi).1, ((g2 204 i rfl).1).trans (hB1 i hi).2⟩)) ?_
          rintro ⟨b, μ3⟩ ⟨e3, e4⟩
          have e3 : μ3 = μ2 := e3
          subst e3
          have e4 : b = true ↔ lws B (n / 5) (nI x) := e4
          have es : lkN B (n / 5) (x + 1) = lkN B (n / 5) x + if lws B (n / 5) (nI x) then 1 else 0 := rfl
          unfold f_X11_look_162
          by_cases q : lws B (n / 5) (nI x)
          · rw [if_pos (e4.2 q)]
            rw [if_pos q] at es
            dsimp only
            rw [g1, nI_1, nI_1, ← es]
            by_cases c : 100 ≤ lkN B (n / 5) x
            · rw [if_pos (show nI (min (lkN B (n / 5) x) 100) = 100 from (by rw [Nat.min_eq_right c]; rfl))]
              exact hk _ ⟨_, rfl, by rw [g1, es, Nat.min_eq_right c, Nat.min_eq_right (by omega)], g2, lkA_s g3 fun _ => c⟩
            · have ec : min (lkN B (n / 5) x) 100 = lkN B (n / 5) x := Nat.min_eq_left (by omega)
              rw [ec, if_neg (show ¬ (nI (lkN B (n / 5) x) = 100) from (show ¬ (nI (lkN B (n / 5) x) = nI 100) from fun h => by rw [nI_eq (by omega) (by decide)] at h; omega)), pI_in_t (by omega) (by decide), pg_t, plet, plet, r30, nI_clamp (by omega), rI_a (by decide), g1, ec, nI_1, ← es]
              exact hk _ ⟨_, rfl, by rw [rI_s, es, Nat.min_eq_left (by omega)], (g2.wI rfl).wI rfl, fun y h1 h2 h3 => (congrFun (rI_a (by decide)) _).trans (lkA_w g3 q y h1 h2 h3)⟩
          · rw [if_neg (fun h => q (e4.1 h))]
            rw [if_neg q] at es
            rw [nI_1]
            exact hk _ ⟨μ3, by rw [es]; rfl, by rw [es]; exact g1, g2, lkA_s g3 fun h => absurd h q⟩
        · rintro _ ⟨μ2, rfl, g1, g2, g3⟩ k
          show T (f_X11_look_109 F 203 k (nI (lkN B (n / 5) 10000)) (nI 10000) μ2) _
          unfold f_X11_look_109
          rw [if_pos (show (10000 : Int32) ≤ nI 10000 by decide), T_some]
          refine ⟨(g2 203 2 rfl).1.trans h2, fun _ => ⟨rfl, g1, (hag.sub fun a k h => ?_).tr (g2.sub fun a k h => ?_), g3⟩, fun h => absurd hok h⟩
          · have h := of_decide_eq_true h
            exact decide_eq_true (by omega)
          · have h := of_decide_eq_true h
            exact decide_eq_true (by omega)
    · rw [decide_eq_false (fun h => k2 (h16.1 h)), if_neg Bool.false_ne_true]
      exact bad fun h => k2 ⟨h.1, h.2.1⟩
  · rw [if_neg (nI_ne0 (by omega) (by omega))]
    exact bad fun h => k3 h.2.2.1
