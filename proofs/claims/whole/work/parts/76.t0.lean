/-! a town where quarters may stand on one cell; of the fight what an aim needs -/
def qT0 (T : Nat → Nat → Nat) : Prop :=
  (T 0 0 ≤ 10 ∧ T 0 1 ≤ 10 ∧ T 0 2 ≤ 9 ∧ T 0 3 ≤ 20) ∧
  (∀ q, q < T 0 2 → cellok T (T 1 q) ∧ T 2 q ≤ 400 ∧ 1 ≤ T 3 q ∧ T 3 q ≤ 9 ∧ (T 4 q = 0 ∨ cellok T (T 4 q - 1))) ∧
  (∀ q, T 0 2 ≤ q → T 4 q = 0) ∧
  (∀ c, c < T 0 3 → T 5 c < 240 ∧ cellok T (T 6 c) ∧ T 7 c ≤ 400 ∧ T 8 c ≤ 9) ∧
  (∀ f, 9 ≤ f → f ≤ 11 → (∀ a, T f a ≤ 1 ∧ (T f a = 1 → cellok T a)) ∧ cnt (T f) 100 ≤ 12 ∧ T 13 (f - 9) = cnt (T f) 100) ∧
  True ∧ (∀ i, T 12 i ≤ 9)
theorem qTWF.t0 {T : Nat → Nat → Nat} (h : qTWF T) : qT0 T := ⟨h.1, h.2.1, h.2.2.1, h.2.2.2.1, h.2.2.2.2.1, trivial, h.2.2.2.2.2.2⟩
def qF0 (G : Nat → Nat → Nat) : Prop := True ∧ (∀ q, G 0 q ≤ 400 ∧ G 6 q ≤ 2) ∧ (∀ i, G 1 i ≤ 400) ∧ True
def qM0 (T G : Nat → Nat → Nat) (s : Nat → Int32) : Prop := True ∧ (∀ q, q < T 0 2 → s (458 + q) = nI (G 0 q) ∧ s (485 + q) = nI (G 6 q) ∧ ∀ c, c < T 0 3 → s (494 + 20 * q + c) = nI (G 1 (20 * q + c))) ∧ True
theorem aimed_m0 {F q m : Nat} {T P G : Nat → Nat → Nat} {μ : aw_M} (hF : 100 ≤ F) (hwf : qT0 T) (pw : qPWF P (T 0 2)) (fw : qF0 G) (tm : qTM T (μ.1 205)) (pm : qPM P (μ.1 205)) (fm : qM0 T G (μ.1 205)) (hq : q < T 0 2) (hm : m < 240) : f_X11_aimed F 203 (nI q) (nI m) μ = some (if P 0 q = 0 then -1 else if G 0 q = 0 then -1 else oI (aimo T P G q m (T 0 3)), μ) := by
  have hnq := hwf.1.2.2.1
  have hnc := hwf.1.2.2.2
  have hp := (pw q).1
  have hp1 := (pw q).2.1
  have hg := (fw.2.1 q).1
  have p0 := (pm.2 q (by omega)).1
  have p1 := (pm.2 q (by omega)).2.1
  have g0 := (fm.2.1 q hq).1
  have hcell : ∀ a, cellok T a → a < 100 := fun a h => by
    have := hwf.1
    unfold cellok at h
    omega
  have hT1 := hcell _ (hwf.2.1 q hq).1
  have t1 := (tm.2.2.2.1 q hq).1
  have e427 : (427 : Int32) + nI q = nI (427 + q) := nI_add 427 q
  have e458 : (458 : Int32) + nI q = nI (458 + q) := nI_add 458 q
  have e11 : (11 : Int32) + nI q = nI (11 + q) := nI_add 11 q
  have e436 : (436 : Int32) + nI q = nI (436 + q) := nI_add 436 q
  have z : ∀ {n : Nat}, n < 2 ^ 31 → (nI n = 0 ↔ n = 0) := fun hn => by rw [← nI_0]; exact nI_eq hn (by decide)
  unfold f_X11_aimed
  rw [e427, pI_in_t (by omega) (by decide), pg_t, rf203.2.1, nI_clamp (by omega), p0]
  by_cases hP : P 0 q = 0
  · rw [if_pos ((z (by omega)).2 hP), if_pos hP]
  rw [if_neg (fun h => hP ((z (by omega)).1 h)), if_neg hP, e458, pI_in_t (by omega) (by decide), pg_t, nI_clamp (by omega), g0]
  by_cases hG : G 0 q = 0
  · rw [if_pos ((z (by omega)).2 hG), if_pos hG]
  rw [if_neg (fun h => hG ((z (by omega)).1 h)), if_neg hG]
  refine lp_up (fun k => (nI q, nI m, oI (aimo T P G q m k), nI k, μ)) (T 0 3) _ ?_ ?_ (by omega)
  · intro c hc g
    show f_X11_aimed_33 F 203 g (nI q) (nI m) (oI (aimo T P G q m c)) (nI c) μ = g (nI q, nI m, oI (aimo T P G q m (c + 1)), nI (c + 1), μ)
    unfold f_X11_aimed_33 f_X11_aimed_155 f_X11_aimed_158
    have i3 : aw_in 3 1155 = true := by decide
    have c3 : (3 : Int32).toNatClampNeg = 3 := by decide
    have y3 := tm.1.2.2.2
    have e67 : ∀ c, (67 : Int32) + nI c = nI (67 + c) := fun c => nI_add 67 c
    have hc6 := hcell _ (hwf.2.2.2.1 c hc).2.1
    obtain ⟨t5, t6, -⟩ := tm.2.2.2.2.2.1 c hc
    have g1 := (fm.2.1 q hq).2.2 c hc
    have hg1 := fw.2.2.1 (20 * q + c)
    have hd := dst_le hT1 hc6
    have e494 : (494 : Int32) + 20 * nI q + nI c = nI (494 + 20 * q + c) := by simp (disch := omega) only [pI_lit, nI_add, nI_clamp, nI_leI, nI_ltI, nI_eq, pk_mul]
    have ht : (decide (T 5 c ≤ m ∧ m < T 5 c + 4)) = ther T c m := by
      unfold ther
      rw [decide_eq_true hm, Bool.and_true, Bool.decide_and]
    rw [i3, pg_t, c3, rf203.2.1, y3, if_neg (nI_ge hc (by omega)), e11, pI_in_t (by omega) (by decide), pg_t, e67, pI_in_t (by omega) (by decide), pg_t, nI_clamp (by omega), nI_clamp (by omega), t1, t6, apart_eq (by omega) (by omega), Option.bind_some, mThere (by omega) (hwf.2.2.2.1 c hc).1 (by omega) t5, Option.bind_some, ht, aimo_succ, nI_1]
    cases hth : ther T c m with
    | false => rw [if_neg Bool.false_ne_true, if_neg Bool.false_ne_true]
    | true =>
      rw [if_pos rfl, if_pos rfl, e427, pI_in_t (by omega) (by decide), pg_t, nI_clamp (by omega), p0]
      unfold stp
      by_cases k1 : dst (T 1 q) (T 6 c) < P 0 q
      · rw [if_neg (nI_ge k1 (by omega)), e494, pI_in_t (by omega) (by decide), pg_t, e436, pI_in_t (by omega) (by decide), pg_t, nI_clamp (by omega), nI_clamp (by omega), g1, p1]
        by_cases k2 : G 1 (20 * q + c) < P 1 q
        · rw [if_pos (nI_lt k2 (by omega))]
          cases ho : aimo T P G q m c with
          | none =>
            rw [if_pos (show oI none < 0 by decide), if_pos ⟨k1, k2, rfl⟩]
            rfl
          | some b =>
            have hb := aimo_lt _ _ ho
            obtain ⟨-, t6b, -⟩ := tm.2.2.2.2.2.1 b (by omega)
            have hb6 := hcell _ (hwf.2.2.2.1 b (by omega)).2.1
            have hdb := dst_le hT1 hb6
            have eo : oI (some b) = nI b := rfl
            rw [eo, if_neg (nI_pos (by omega))]
            rw [pg_t, e67, pI_in_t (by omega) (by decide), pg_t, nI_clamp (by omega), t6b, show (true, μ).2.1 205 (11 + q) = nI (T 1 q) from t1, apart_eq (by omega) (by omega), Option.bind_some]
            by_cases k3 : dst (T 1 q) (T 6 c) < dst (T 1 q) (T 6 b)
            · rw [if_neg (nI_ge k3 (by omega)), if_pos ⟨k1, k2, decide_eq_true k3⟩]
              rfl
            · rw [if_pos (nI_le (by omega) (by omega)), if_neg (fun h => k3 (of_decide_eq_true h.2.2))]
              rfl
        · rw [if_neg (fun h => k2 ((nI_ltI (by omega) (by omega)).1 h)), if_neg (fun h => k2 h.2.1)]
      · rw [if_pos (nI_le (by omega) (by omega)), if_neg (fun h => k1 h.1)]
  · intro g
    show f_X11_aimed_33 F 203 g (nI q) (nI m) (oI (aimo T P G q m (T 0 3))) (nI (T 0 3)) μ = _
    unfold f_X11_aimed_33
    have i3 : aw_in 3 1155 = true := by decide
    have c3 : (3 : Int32).toNatClampNeg = 3 := by decide
    rw [i3, pg_t, c3, rf203.2.1, tm.1.2.2.2, if_pos (nI_le (Nat.le_refl _) (by omega))]

theorem hitOf_m0 {F q c : Nat} {T G : Nat → Nat → Nat} {μ : aw_M} (hwf : qT0 T) (fw : qF0 G) (tm : qTM T (μ.1 205)) (fm : qM0 T G (μ.1 205)) (hq : q < T 0 2) (hc : c < T 0 3) : f_X11_hitOf F 203 (nI q) (nI c) μ = some (nI (hitN T G q c (dst (T 1 q) (T 6 c))), μ) := by
  have hnq := hwf.1.2.2.1
  have hnc := hwf.1.2.2.2
  have hcell : ∀ a, cellok T a → a < 100 := fun a h => by
    have := hwf.1
    unfold cellok at h
    omega
  have h1 := hcell _ (hwf.2.1 q hq).1
  have h3 := (hwf.2.1 q hq).2.2.2.1
  have h6 := hcell _ (hwf.2.2.2.1 c hc).2.1
  have h8 := (hwf.2.2.2.1 c hc).2.2.2
  have hg := (fw.2.1 q).2
  have hd := dst_le h1 h6
  obtain ⟨t1, -, t3⟩ := tm.2.2.2.1 q hq
  obtain ⟨-, t6, -, t8⟩ := tm.2.2.2.2.2.1 c hc
  have g6 := (fm.2.1 q hq).2.1
  unfold f_X11_hitOf f_X11_hitOf_53
  rw [show (11 : Int32) + nI q = nI (11 + q) from nI_add 11 q, show (67 : Int32) + nI c = nI (67 + c) from nI_add 67 c, show (29 : Int32) + nI q = nI (29 + q) from nI_add 29 q, show (485 : Int32) + nI q = nI (485 + q) from nI_add 485 q, show (107 : Int32) + nI c = nI (107 + c) from nI_add 107 c, pI_in_t (by omega) (by decide), pg_t, pI_in_t (by omega) (by decide), pg_t, rf203.2.1, nI_clamp (by omega), nI_clamp (by omega), t1, t6, apart_eq (by omega) (by omega), Option.bind_some, pI_in_t (by omega) (by decide), pg_t, pI_in_t (by omega) (by decide), pg_t, pI_in_t (by omega) (by decide), pg_t, pg_t, nI_clamp (by omega), nI_clamp (by omega), nI_clamp (by omega), t3, g6, t8, nI_add]
  have e2 : (2 : Int32) = nI 2 := rfl
  unfold hitN
  by_cases k : 2 < dst (T 1 q) (T 6 c)
  · rw [e2, if_pos (nI_lt k (by omega)), if_pos k, plet]
    have e : nI (T 3 q + G 6 q) + -nI (dst (T 1 q) (T 6 c)) - nI (T 8 c) = nI (T 3 q + G 6 q) - nI (dst (T 1 q) (T 6 c) + T 8 c) := by
      rw [← nI_add (dst _ _)]
      grind
    have hp := pos_part (a := T 3 q + G 6 q) (b := dst (T 1 q) (T 6 c) + T 8 c) (by omega) (by omega)
    show (if 0 ≤ nI (T 3 q + G 6 q) + -nI (dst (T 1 q) (T 6 c)) - nI (T 8 c) then some (nI (T 3 q + G 6 q) + -nI (dst (T 1 q) (T 6 c)) - nI (T 8 c), μ) else some (0, μ)) = _
    rw [e, ← hp]
    split <;> rfl
  · rw [e2, if_neg (fun h => k ((nI_ltI (by omega) (by omega)).1 h)), if_neg k, plet]
    have hp := pos_part (a := T 3 q + G 6 q + 2) (b := T 8 c) (by omega) (by omega)
    rw [nI_add, ← hp]
    split <;> rfl

theorem besides_eq0 {F a k : Nat} {T : Nat → Nat → Nat} {μ : aw_M} (hwf : qT0 T) (tm : qTM T (μ.1 205)) (ha : a < 100) (hk : k < 4) : f_X11_besides F 203 (nI a) (nI k) μ = some (oI (side T a (bperm k)), μ) := by
  have y0 := tm.1.1
  have y1 := tm.1.2.1
  obtain ⟨w0, w1, -, -⟩ := hwf.1
  have e10 : (10 : Int32) = nI 10 := rfl
  have hm := Nat.mod_lt a (y := 10) (by decide)
  have hd : a / 10 < 10 := by omega
  have hdm := Nat.div_add_mod a 10
  have hk' : k = 0 ∨ k = 1 ∨ k = 2 ∨ k = 3 := by omega
  have z0 : ∀ x : Int32, x + 0 = x := fun x => by grind
  have key : ∀ (X Y : Int32) (o : Option Nat), ((0 ≤ X ∧ X ≤ nI (T 0 0) - 1) ∧ (0 ≤ Y ∧ Y ≤ nI (T 0 1) - 1) → ∃ b, o = some b ∧ 10 * Y + X = nI b) → (¬ ((0 ≤ X ∧ X ≤ nI (T 0 0) - 1) ∧ (0 ≤ Y ∧ Y ≤ nI (T 0 1) - 1)) → o = none) → (if (0 ≤ X ∧ X ≤ nI (T 0 0) - 1) ∧ (0 ≤ Y ∧ Y ≤ nI (T 0 1) - 1) then 10 * Y + X else -1) = oI o := fun X Y o h1 h2 => by
    by_cases h : (0 ≤ X ∧ X ≤ nI (T 0 0) - 1) ∧ (0 ≤ Y ∧ Y ≤ nI (T 0 1) - 1)
    · obtain ⟨b, hb, hb2⟩ := h1 h
      rw [if_pos h, hb, hb2]
      rfl
    · rw [if_neg h, h2 h]
      rfl
  have kn : ∀ (x y : Nat) (o : Option Nat), x < 1000 → y < 1000 → (x < T 0 0 ∧ y < T 0 1 → o = some (10 * y + x)) → (¬ (x < T 0 0 ∧ y < T 0 1) → o = none) → (if (0 ≤ nI x ∧ nI x ≤ nI (T 0 0) - 1) ∧ (0 ≤ nI y ∧ nI y ≤ nI (T 0 1) - 1) then 10 * nI y + nI x else -1) = oI o := fun x y o hx hy h1 h2 => by
    refine key _ _ _ (fun h => ⟨10 * y + x, h1 ?_, ?_⟩) (fun h => h2 ?_)
    · exact ⟨(in_w hx (by omega)).1 h.1, (in_w hy (by omega)).1 h.2⟩
    · rw [e10, pk_mul, nI_add]
    · intro g
      exact h ⟨(in_w hx (by omega)).2 g.1, (in_w hy (by omega)).2 g.2⟩
  unfold f_X11_besides f_X11_besides_23
  rw [e10, nI_mod (by omega) (by decide), nI_div (by omega) (by decide)]
  rcases hk' with rfl | rfl | rfl | rfl
  · rw [if_neg (show ¬ nI 0 = 1 by decide), if_neg (show ¬ nI 0 = 3 by decide), plet, if_neg (show ¬ nI 0 = 2 by decide), if_pos (show nI 0 = 0 by decide), bes_core y0 y1, z0]
    have hs : side T a (bperm 0) = if a % 10 < T 0 0 ∧ 1 ≤ a / 10 ∧ a / 10 - 1 < T 0 1 then some (a - 10) else none := rfl
    rw [hs]
    rcases Nat.eq_zero_or_pos (a / 10) with hz | hz
    · rw [hz, if_neg (show ¬ (a % 10 < T 0 0 ∧ 1 ≤ 0 ∧ 0 - 1 < T 0 1) by omega), if_neg (fun h => absurd h.2.1 (by decide))]
      rfl
    · have : nI (a / 10) + -1 = nI (a / 10 - 1) := by
        have := nI_sub (a := a / 10) (b := 1) hz
        have e1 : nI 1 = 1 := by decide
        rw [e1] at this
        rw [← this]
        grind
      rw [this]
      refine congrArg some (congrArg (fun x => (x, μ)) (kn _ _ _ (by omega) (by omega) (fun h => ?_) (fun h => ?_)))
      · rw [if_pos ⟨h.1, hz, h.2⟩]; congr 1; omega
      · rw [if_neg (fun g => h ⟨g.1, g.2.2⟩)]
  · rw [if_pos (show nI 1 = 1 by decide), plet, if_neg (show ¬ nI 1 = 2 by decide), if_neg (show ¬ nI 1 = 0 by decide), bes_core y0 y1, z0, nI_1]
    have hs : side T a (bperm 1) = if a % 10 + 1 < T 0 0 ∧ a / 10 < T 0 1 then some (a + 1) else none := rfl
    rw [hs]
    refine congrArg some (congrArg (fun x => (x, μ)) (kn _ _ _ (by omega) (by omega) (fun h => ?_) (fun h => ?_)))
    · rw [if_pos h]; congr 1; omega
    · rw [if_neg h]
  · rw [if_neg (show ¬ nI 2 = 1 by decide), if_neg (show ¬ nI 2 = 3 by decide), plet, if_pos (show nI 2 = 2 by decide), bes_core y0 y1, z0, nI_1]
    have hs : side T a (bperm 2) = if a % 10 < T 0 0 ∧ a / 10 + 1 < T 0 1 then some (a + 10) else none := rfl
    rw [hs]
    refine congrArg some (congrArg (fun x => (x, μ)) (kn _ _ _ (by omega) (by omega) (fun h => ?_) (fun h => ?_)))
    · rw [if_pos h]; congr 1; omega
    · rw [if_neg h]
  · rw [if_neg (show ¬ nI 3 = 1 by decide), if_pos (show nI 3 = 3 by decide), plet, if_neg (show ¬ nI 3 = 2 by decide), if_neg (show ¬ nI 3 = 0 by decide), bes_core y0 y1, z0]
    have hs : side T a (bperm 3) = if 1 ≤ a % 10 ∧ a % 10 - 1 < T 0 0 ∧ a / 10 < T 0 1 then some (a - 1) else none := rfl
    rw [hs]
    rcases Nat.eq_zero_or_pos (a % 10) with hz | hz
    · rw [hz, if_neg (show ¬ (1 ≤ 0 ∧ 0 - 1 < T 0 0 ∧ a / 10 < T 0 1) by omega), if_neg (fun h => absurd h.1.1 (by decide))]
      rfl
    · have : nI (a % 10) + -1 = nI (a % 10 - 1) := by
        have := nI_sub (a := a % 10) (b := 1) hz
        have e1 : nI 1 = 1 := by decide
        rw [e1] at this
        rw [← this]
        grind
      rw [this]
      refine congrArg some (congrArg (fun x => (x, μ)) (kn _ _ _ (by omega) (by omega) (fun h => ?_) (fun h => ?_)))
      · rw [if_pos ⟨hz, h.1, h.2⟩]; congr 1; omega
      · rw [if_neg (fun g => h ⟨g.2.1, g.2.2⟩)]

theorem bf_nbr0 {T : Nat → Nat → Nat} {a : Nat} (hwf : qT0 T) (hc : cellok T a) : bf T a 4 = decide (0 < nbr T 9 a) := by
  have h9 := fun b => ((hwf.2.2.2.2.1 9 (by decide) (by decide)).1 b).1
  have e : nbr T 9 a = 0 + T 9 a + v9 T (side T a 1) + v9 T (side T a 2) + v9 T (side T a 3) + v9 T (side T a 4) := by
    have e0 : side T a 0 = some a := by
      show (if cellok T a then some a else none) = some a
      rw [if_pos hc]
    have : nbr T 9 a = 0 + v9 T (side T a 0) + v9 T (side T a 1) + v9 T (side T a 2) + v9 T (side T a 3) + v9 T (side T a 4) := rfl
    rw [this, e0]
    rfl
  have hb : ∀ o : Option Nat, ∃ x, x ≤ 1 ∧ v9 T o = x ∧ b9 T o = decide (x = 1) := fun o => by
    cases o with
    | none => exact ⟨0, by decide, rfl, rfl⟩
    | some b => exact ⟨T 9 b, h9 b, rfl, rfl⟩
  have e2 : bf T a 4 = ((((decide (T 9 a = 1) || b9 T (side T a 4)) || b9 T (side T a 1)) || b9 T (side T a 3)) || b9 T (side T a 2)) := rfl
  obtain ⟨x1, l1, m1, n1⟩ := hb (side T a 1)
  obtain ⟨x2, l2, m2, n2⟩ := hb (side T a 2)
  obtain ⟨x3, l3, m3, n3⟩ := hb (side T a 3)
  obtain ⟨x4, l4, m4, n4⟩ := hb (side T a 4)
  have l0 := h9 a
  rw [e2, e, m1, m2, m3, m4, n1, n2, n3, n4]
  generalize T 9 a = x0 at l0
  have : ∀ x0, x0 ≤ 1 → ∀ x1, x1 ≤ 1 → ∀ x2, x2 ≤ 1 → ∀ x3, x3 ≤ 1 → ∀ x4, x4 ≤ 1 → ((((decide (x0 = 1) || decide (x4 = 1)) || decide (x1 = 1)) || decide (x3 = 1)) || decide (x2 = 1)) = decide (0 < 0 + x0 + x1 + x2 + x3 + x4) := by decide
  exact this _ l0 _ l1 _ l2 _ l3 _ l4
theorem side_lt0 {T : Nat → Nat → Nat} {a k b : Nat} (hwf : qT0 T) (ha : a < 100) (h : side T a k = some b) : b < 100 := by
  unfold side at h
  have := hwf.1
  repeat' split at h
  all_goals first | (cases h; omega) | cases h
theorem isBarred_m0 {F q c : Nat} {T : Nat → Nat → Nat} {μ : aw_M} (hF : 100 ≤ F) (hwf : qT0 T) (tm : qTM T (μ.1 205)) (hq : q < T 0 2) (hc : c < T 0 3) : f_X11_isBarred F 203 (nI q) (nI c) μ = some (decide (3 ≤ dst (T 1 q) (T 6 c)) && decide (0 < nbr T 9 (T 6 c)), μ) := by
  have hnq := hwf.1.2.2.1
  have hnc := hwf.1.2.2.2
  have hcell : ∀ a, cellok T a → a < 100 := fun a h => by
    have := hwf.1
    unfold cellok at h
    omega
  have h1 := hcell _ (hwf.2.1 q hq).1
  have h6' := (hwf.2.2.2.1 c hc).2.1
  have h6 := hcell _ h6'
  have hd := dst_le h1 h6
  have t1 := (tm.2.2.2.1 q hq).1
  have t6 := (tm.2.2.2.2.2.1 c hc).2.1
  have t9 : ∀ b, b < 100 → μ.1 205 (127 + b) = nI (T 9 b) := fun b hb => (tm.2.2.2.2.2.2 b hb).1
  have h9 := fun b => ((hwf.2.2.2.2.1 9 (by decide) (by decide)).1 b).1
  have one : ∀ b, (nI (T 9 b) = 1 ↔ T 9 b = 1) := fun b => by
    have := h9 b
    exact nI_eq (a := T 9 b) (b := 1) (by omega) (by decide)
  have hloop : ∀ z : Bool, z = bf T (T 6 c) 0 → f_X11_isBarred_47 F 203 (nI (T 6 c)) z μ = some (bf T (T 6 c) 4, μ) := fun z hz => by
    subst hz
    unfold f_X11_isBarred_47
    refine lp_up (fun k => (nI (T 6 c), bf T (T 6 c) k, nI k, μ)) 4 _ ?_ ?_ (by omega)
    · intro k hk g
      show f_X11_isBarred_52 F 203 g (nI (T 6 c)) (bf T (T 6 c) k) (nI k) μ = g (nI (T 6 c), (bf T (T 6 c) k || b9 T (side T (T 6 c) (bperm k))), nI (k + 1), μ)
      unfold f_X11_isBarred_52 f_X11_isBarred_92 f_X11_isBarred_96 f_X11_isBarred_97
      rw [if_neg (show ¬ (4 : Int32) ≤ nI k from nI_ge (a := k) (b := 4) hk (by decide)), nI_1]
      cases hb : bf T (T 6 c) k with
      | true => rw [if_pos rfl, Bool.true_or]
      | false =>
        rw [if_neg Bool.false_ne_true, besides_eq0 hwf tm h6 hk, Option.bind_some, Bool.false_or]
        cases hs : side T (T 6 c) (bperm k) with
        | none =>
          rw [if_pos (show oI none < 0 by decide)]
          rfl
        | some b =>
          have hb100 := side_lt0 hwf h6 hs
          have eo : oI (some b) = nI b := rfl
          rw [eo, if_neg (nI_pos (by omega)), besides_eq0 hwf tm h6 hk, Option.bind_some, hs, eo, show (127 : Int32) + nI b = nI (127 + b) from nI_add 127 b, pI_in_t (by omega) (by decide), pg_t, rf203.2.1, nI_clamp (by omega), t9 b hb100]
          have e9 : b9 T (some b) = decide (T 9 b = 1) := rfl
          rw [e9]
          by_cases k1 : T 9 b = 1
          · rw [if_pos ((one b).2 k1), decide_eq_true k1]
          · rw [if_neg (fun h => k1 ((one b).1 h)), decide_eq_false k1]
    · intro g
      show f_X11_isBarred_52 F 203 g (nI (T 6 c)) (bf T (T 6 c) 4) (nI 4) μ = _
      unfold f_X11_isBarred_52
      rw [if_pos (show (4 : Int32) ≤ nI 4 by decide)]
  unfold f_X11_isBarred
  have e3 : (3 : Int32) = nI 3 := rfl
  rw [show (11 : Int32) + nI q = nI (11 + q) from nI_add 11 q, show (67 : Int32) + nI c = nI (67 + c) from nI_add 67 c, pI_in_t (by omega) (by decide), pg_t, plet, rf203.2.1, nI_clamp (by omega), nI_clamp (by omega), t1, t6, pI_in_t (by omega) (by decide), pg_t, apart_eq (by omega) (by omega), Option.bind_some, e3]
  by_cases k : 3 ≤ dst (T 1 q) (T 6 c)
  · rw [if_pos (nI_le k (by omega)), decide_eq_true k, Bool.true_and, show (127 : Int32) + nI (T 6 c) = nI (127 + T 6 c) from nI_add 127 _, pI_in_t (by omega) (by decide), pg_t, nI_clamp (by omega), t9 _ h6, ← bf_nbr0 hwf h6']
    by_cases k1 : T 9 (T 6 c) = 1
    · rw [if_pos ((one _).2 k1)]
      exact hloop true (decide_eq_true k1).symm
    · rw [if_neg (fun h => k1 ((one _).1 h))]
      exact hloop false (decide_eq_false k1).symm
  · rw [if_neg (fun h => k ((nI_leI (by omega) (by omega)).1 h)), decide_eq_false k, Bool.false_and]

