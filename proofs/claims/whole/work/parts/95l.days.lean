theorem dcmp {u c : Nat} (hu : u < 2000000) (hc : c ≤ 1755676) : (nI u ≤ nI c - 1 ↔ ¬ (c ≤ u)) ∧ (nI c - 1 < nI u ↔ c ≤ u) := by
  have h : nI u ≤ nI c - 1 ↔ ¬ (c ≤ u) := by
    by_cases e : c = 0
    · rw [e]
      have := nI_b (j := u) (n := u + 1) (by omega) (by omega)
      constructor
      · intro h2
        have h3 : nI 0 - 1 = (-1 : Int32) := by decide
        rw [h3] at h2
        exfalso
        have := this.1
        grind
      · intro h2; omega
    · have : nI c - 1 = nI (c - 1) := by rw [show (1 : Int32) = nI 1 from rfl, nI_sub (by omega)]
      rw [this, nI_leI (by omega) (by omega)]
      omega
  refine ⟨h, ?_⟩
  have h2 : nI c - 1 < nI u ↔ ¬ (nI u ≤ nI c - 1) := by constructor <;> intro h <;> grind
  rw [h2, h]
  omega
def dOK (n : Nat) (a0 : Int32) : Prop := (0 ≤ a0 ∧ a0 ≤ 9999) ∧ 4 ≤ n ∧ n ≤ 12
def kDm (a k : Nat) : Bool := decide ((a ≠ 203 ∨ (k ≠ 0 ∧ (k < 2 ∨ (5 < k ∧ k ≠ 26)))) ∧ a ≠ 212 ∧ a ≠ 213)
def kDo (a _k : Nat) : Bool := decide (a ≠ 212 ∧ a ≠ 213)
theorem days_m {F n : Nat} {a0 : Int32} {B : Nat → Nat} {μ : aw_M} (hF : 1000 ≤ F) (hn : n ≤ 940) (e1 : μ.1 203 2 = nI n) (hB : ∀ i, i < n → B i < 256 ∧ μ.1 204 i = (nI (B i)).toInt8.toInt32) : T (f_X11_days F 203 a0 μ) fun r => r.2.1 203 2 = 0 ∧ (dOK n a0 → r.1 = nI (xF B a0.toNatClampNeg (n - 3) (n - 3 + 1) (0, 0, 0, 0)).1 - 1 ∧ r.2.1 203 26 = 1 ∧ AgK kDm μ r.2 ∧ dI 212 B r.2 (xF B a0.toNatClampNeg (n - 3) (n - 3 + 1) (0, 0, 0, 0))) ∧ (¬ dOK n a0 → r.1 = -1 ∧ AgK kTn μ r.2) := by
  have r24 : aw_rf 203 24 = 212 := by simp only [rf203, rf203b]
  have r25 : aw_rf 203 25 = 213 := by simp only [rf203, rf203b]
  unfold f_X11_days
  rw [plet, taken_m, Option.bind_some]
  have hag : AgK kTn μ (aw_wI (aw_wI (aw_wI (aw_wI (aw_wI μ 203 0 0) 203 3 ((aw_wI μ 203 0 0).1 203 2)) 203 2 0) 203 4 0) 203 5 940) := (((((AgK.rf μ).wI (v := _) rfl).wI (v := _) rfl).wI (v := _) rfl).wI (v := _) rfl).wI (v := _) rfl
  have h3 : (aw_wI (aw_wI (aw_wI (aw_wI (aw_wI μ 203 0 0) 203 3 ((aw_wI μ 203 0 0).1 203 2)) 203 2 0) 203 4 0) 203 5 940).1 203 3 = nI n := by
    rw [rI_k (by decide), rI_k (by decide), rI_k (by decide), rI_s, rI_k (by decide), e1]
  have h2 : (aw_wI (aw_wI (aw_wI (aw_wI (aw_wI μ 203 0 0) 203 3 ((aw_wI μ 203 0 0).1 203 2)) 203 2 0) 203 4 0) 203 5 940).1 203 2 = 0 := by
    rw [rI_k (by decide), rI_k (by decide), rI_s]
  generalize aw_wI (aw_wI (aw_wI (aw_wI (aw_wI μ 203 0 0) 203 3 ((aw_wI μ 203 0 0).1 203 2)) 203 2 0) 203 4 0) 203 5 940 = μ1 at hag h3 h2
  have hB1 : ∀ i, i < n → B i < 256 ∧ μ1.1 204 i = (nI (B i)).toInt8.toInt32 := fun i hi => by rw [(hag 204 i rfl).1]; exact hB i hi
  have bad : ¬ dOK n a0 → T (some ((-1 : Int32), μ1)) fun r => r.2.1 203 2 = 0 ∧ (dOK n a0 → r.1 = nI (xF B a0.toNatClampNeg (n - 3) (n - 3 + 1) (0, 0, 0, 0)).1 - 1 ∧ r.2.1 203 26 = 1 ∧ AgK kDm μ r.2 ∧ dI 212 B r.2 (xF B a0.toNatClampNeg (n - 3) (n - 3 + 1) (0, 0, 0, 0))) ∧ (¬ dOK n a0 → r.1 = -1 ∧ AgK kTn μ r.2) := fun g3 => ⟨_, rfl, h2, fun h => absurd h g3, fun _ => ⟨rfl, hag⟩⟩
  rw [isIn_eq, Option.bind_some]
  by_cases k1 : 0 ≤ a0 ∧ a0 ≤ 9999
  · rw [decide_eq_true k1, if_pos rfl]
    dsimp only
    rw [h3, isIn_eq, Option.bind_some]
    have h16 : (4 ≤ nI n ∧ nI n ≤ 12) ↔ 4 ≤ n ∧ n ≤ 12 := by
      have hx : nI n ≤ 12 ↔ n ≤ 12 := nI_leI (b := 12) (by omega) (by decide)
      have hy : 4 ≤ nI n ↔ 4 ≤ n := nI_leI (a := 4) (by decide) (by omega)
      rw [hx, hy]
    by_cases k2 : 4 ≤ n ∧ n ≤ 12
    · obtain ⟨A, hA, rfl⟩ := nI_of2 (x := a0) (M := 9999) (n := 9999) (by decide) (by grind) k1.2
      rw [decide_eq_true (h16.2 k2), if_pos rfl, nI_clamp (by omega)]
      rw [nI_clamp (by omega)] at bad
      dsimp only
      have e3 : nI n - 3 = nI (n - 3) := by rw [show (3 : Int32) = nI 3 from rfl, nI_sub (by omega)]
      have i0 : aw_in 0 10 = true := by decide
      have c0 : (0 : Int32).toNatClampNeg = 0 := by decide
      have hok : dOK n (nI A) := ⟨k1, k2⟩
      obtain ⟨m, rfl⟩ : ∃ m, n = m + 3 := ⟨n - 3, by omega⟩
      have hb : ∀ i, i < m + 3 → B i < 256 := fun i hi => (hB i hi).1
      have b0 := hb 0 (by omega)
      have b1 := hb 1 (by omega)
      have b2 := hb 2 (by omega)
      rw [plet, h3, e3, i0, pg_t, plet, r25, c0, Nat.add_sub_cancel]
      refine T_lp (fun i s => ∃ μ', s = (nI A, nI m, nI i, μ') ∧ AgK kDo μ1 μ' ∧ ∀ k, k ≤ i → μ'.1 213 k = nI (dQ B k)) m (by omega) ⟨_, rfl, (AgK.rf μ1).wI rfl, fun k hk => by rw [Nat.le_zero.1 hk, rI_s]; rfl⟩ ?_ ?_
      · rintro i hi _ ⟨μ2, rfl, ag, h⟩ k hk
        obtain ⟨c1, c2⟩ := hB1 (3 + i) (by omega)
        have e4 : (3 : Int32) + nI i = nI (3 + i) := nI_add 3 i
        have t2 : μ2.1 204 (3 + i) = (nI (B (3 + i))).toInt8.toInt32 := (ag 204 _ rfl).1.trans c2
        show T (f_X11_days_54 F 203 k (nI A) (nI m) (nI i) μ2) _
        unfold f_X11_days_54
        rw [if_neg (nI_ge hi (by omega)), pI_in_t (by omega) (by decide), pg_t, e4, octet_m (by omega) c1 t2, Option.bind_some]
        dsimp only
        rw [nI_1, pI_in_t (by omega) (by decide), pg_t, plet, r25, nI_clamp (by omega), nI_clamp (by omega), h i (Nat.le_refl _), nI_add]
        refine hk _ ⟨_, rfl, ag.wI (decide_eq_false (by omega)), fun k hk => ?_⟩
        by_cases e : k = i + 1
        · subst e; rw [rI_s]; rfl
        · rw [rI_k e]; exact h k (by omega)
      · rintro _ ⟨μ2, rfl, ag, h⟩ k
        have t2 : ∀ μ3, AgK (fun a _ => decide (a ≠ 212)) μ2 μ3 → (∀ i, i < 3 → f_X11_octet F 203 (nI i) μ3 = some (nI (B i), μ3)) ∧ ∀ k, k ≤ m → μ3.1 213 k = nI (dQ B k) := fun μ3 g => ⟨fun i hi => octet_m (by omega) (hB1 i (by omega)).1 ((g 204 _ rfl).1.trans ((ag 204 _ rfl).1.trans (hB1 i (by omega)).2)), fun k hk => (g 213 _ rfl).1.trans (h k hk)⟩
        show T (f_X11_days_54 F 203 k (nI A) (nI m) (nI m) μ2) _
        unfold f_X11_days_54
        rw [if_pos (nI_le (Nat.le_refl _) (by omega))]
        unfold f_X11_days_87
        refine T_lp (fun x s => ∃ μ', s = (nI A, nI m, nI (xF B A m x (0, 0, 0, 0)).1 - 1, nI x, μ') ∧ (xF B A m x (0, 0, 0, 0)).1 ≤ 1755676 ∧ AgK (fun a _ => decide (a ≠ 212)) μ2 μ' ∧ dI 212 B μ' (xF B A m x (0, 0, 0, 0))) (m + 1) (by omega) ⟨μ2, rfl, Nat.zero_le _, AgK.rf _, fun h => absurd h (show ¬ (1 ≤ 0) by decide)⟩ ?_ ?_
        · rintro x hx _ ⟨μ3, rfl, g0, g1, g2⟩ k hk
          show T (f_X11_days_92 F 203 k (nI A) (nI m) _ (nI x) μ3) _
          unfold f_X11_days_92
          rw [if_neg (nI_nlt (by omega) (by omega))]
          have xs : xF B A m (x + 1) (0, 0, 0, 0) = yF B A m x (m + 1) (xF B A m x (0, 0, 0, 0)) := rfl
          rw [xs] at hk
          generalize xF B A m x (0, 0, 0, 0) = S0 at g0 g2 hk
          refine T_lp (fun y s => ∃ μ', s = (nI A, nI m, nI (yF B A m x y S0).1 - 1, nI x, nI y, μ') ∧ (yF B A m x y S0).1 ≤ 1755676 ∧ AgK (fun a _ => decide (a ≠ 212)) μ2 μ' ∧ dI 212 B μ' (yF B A m x y S0)) (m + 1) (by omega) ⟨μ3, rfl, g0, g1, g2⟩ ?_ ?_
          · rintro y hy _ ⟨μ4, rfl, g0, g1, g2⟩ k' hk'
            show T (f_X11_days_101 F 203 k' k (nI A) (nI m) _ (nI x) (nI y) μ4) _
            unfold f_X11_days_101
            rw [if_neg (nI_nlt (by omega) (by omega))]
            have ys : yF B A m x (y + 1) S0 = zF B A x y (m + 1) (yF B A m x y S0) := rfl
            rw [ys] at hk'
            generalize yF B A m x y S0 = S1 at g0 g2 hk'
            refine T_lp (fun z s => ∃ μ', s = (nI A, nI m, nI (zF B A x y z S1).1 - 1, nI x, nI y, nI z, μ') ∧ (zF B A x y z S1).1 ≤ 1755676 ∧ AgK (fun a _ => decide (a ≠ 212)) μ2 μ' ∧ dI 212 B μ' (zF B A x y z S1)) (m + 1) (by omega) ⟨μ4, rfl, g0, g1, g2⟩ ?_ ?_
            · rintro z hz _ ⟨μ5, rfl, g0, g1, g2⟩ k'' hk''
              obtain ⟨t3, t4⟩ := t2 μ5 g1
              show T (f_X11_days_110 F 203 k'' k k' (nI A) (nI m) _ (nI x) (nI y) (nI z) μ5) _
              unfold f_X11_days_110
              have zs : zF B A x y (z + 1) S1 = dS B A x y z (zF B A x y z S1) := rfl
              rw [zs] at hk''
              generalize zF B A x y z S1 = S2 at g0 g2 hk''
              have o0 : f_X11_octet F 203 0 μ5 = some (nI (B 0), μ5) := t3 0 (by decide)
              have o1 : f_X11_octet F 203 1 μ5 = some (nI (B 1), μ5) := t3 1 (by decide)
              have o2 : f_X11_octet F 203 2 μ5 = some (nI (B 2), μ5) := t3 2 (by decide)
              have ec : ∀ x y z, nI (B 0) * nI x + nI (B 1) * nI y + nI (B 2) * nI z = nI (dC B x y z) := fun x y z => by
                simp (disch := omega) only [pI_lit, nI_add, nI_clamp, nI_leI, nI_ltI, nI_eq, pk_mul]
                rfl
              rw [if_neg (nI_nlt (by omega) (by omega)), o0, Option.bind_some]
              dsimp only
              rw [o1, Option.bind_some]
              dsimp only
              rw [o2, Option.bind_some]
              dsimp only
              rw [ec]
              have q1 := dQ_le hb x (by omega)
              have q2 := dQ_le hb y (by omega)
              have q3 := dQ_le hb z (by omega)
              have l1 : dC B x y z ≤ 765 * 9 := dC_le (by omega) (by omega) (by omega) (by omega) (by omega) (by omega)
              have l2 : dC B (dQ B x) (dQ B y) (dQ B z) ≤ 765 * 2295 := dC_le (by omega) (by omega) (by omega) (by omega) (by omega) (by omega)
              have cmp := (dcmp (u := dC B (dQ B x) (dQ B y) (dQ B z)) (c := S2.1) (by omega) g0).2
              have upto : ∀ S3 μ5, S3 = dS B A x y z S2 → S3.1 ≤ 1755676 → AgK (fun a _ => decide (a ≠ 212)) μ2 μ5 → dI 212 B μ5 S3 → T (f_X11_days_228 F 203 k k' k'' (nI A) (nI m) (nI S3.1 - 1) (nI x) (nI y) (nI z) μ5) _ := fun S3 μ5 h1 h2 h3 h4 => by
                unfold f_X11_days_228
                rw [nI_1]
                exact hk'' _ ⟨μ5, by rw [h1], by rw [← h1]; exact h2, h3, by rw [← h1]; exact h4⟩
              by_cases w1 : dC B x y z ≤ A
              · rw [if_pos (nI_le w1 (by omega)), o0, Option.bind_some, pI_in_t (by omega) (by decide), pg_t]
                dsimp only
                rw [o1, Option.bind_some, pI_in_t (by omega) (by decide), pg_t]
                dsimp only
                rw [o2, Option.bind_some, pI_in_t (by omega) (by decide), pg_t, plet]
                dsimp only
                rw [r25, nI_clamp (by omega), nI_clamp (by omega), nI_clamp (by omega), t4 x (by omega), t4 y (by omega), t4 z (by omega), ec]
                by_cases w2 : S2.1 ≤ dC B (dQ B x) (dQ B y) (dQ B z)
                · rw [if_pos (cmp.2 w2)]
                  have i0 : aw_in 0 3 = true := by decide
                  have i1 : aw_in 1 3 = true := by decide
                  have i2 : aw_in 2 3 = true := by decide
                  have c0 : (0 : Int32).toNatClampNeg = 0 := by decide
                  have c1 : (1 : Int32).toNatClampNeg = 1 := by decide
                  have c2 : (2 : Int32).toNatClampNeg = 2 := by decide
                  rw [i0, pg_t, plet, i1, pg_t, plet, i2, pg_t, plet, r24, c0, c1, c2]
                  have ed : dS B A x y z S2 = (dC B (dQ B x) (dQ B y) (dQ B z) + 1, x, y, z) := if_pos ⟨w1, w2⟩
                  have e6 : nI (dC B (dQ B x) (dQ B y) (dQ B z)) = nI (dC B (dQ B x) (dQ B y) (dQ B z) + 1) - 1 := by
                    rw [← nI_1]
                    grind
                  rw [e6]
                  refine upto (dC B (dQ B x) (dQ B y) (dQ B z) + 1, x, y, z) _ ed.symm (by show _ + 1 ≤ _; omega) (((g1.wI rfl).wI rfl).wI rfl) fun _ => ⟨?_, ?_, ?_⟩
                  · rw [rI_k (by decide), rI_k (by decide), rI_s]
                  · rw [rI_k (by decide), rI_s]
                  · rw [rI_s]
                · rw [if_neg (fun h => w2 (cmp.1 h))]
                  exact upto S2 _ (if_neg fun h => w2 h.2).symm g0 g1 g2
              · rw [if_neg (nI_ge (by omega) (by omega))]
                exact upto S2 _ (if_neg fun h => w1 h.1).symm g0 g1 g2
            · rintro _ ⟨μ4, rfl, g0, g1, g2⟩ k''
              show T (f_X11_days_110 F 203 k'' k k' (nI A) (nI m) _ (nI x) (nI y) (nI (m + 1)) μ4) _
              unfold f_X11_days_110 f_X11_days_234
              rw [if_pos (nI_lt (by omega) (by omega)), nI_1]
              exact hk' _ ⟨μ4, rfl, g0, g1, g2⟩
          · rintro _ ⟨μ3, rfl, g0, g1, g2⟩ k'
            show T (f_X11_days_101 F 203 k' k (nI A) (nI m) _ (nI x) (nI (m + 1)) μ3) _
            unfold f_X11_days_101 f_X11_days_240
            rw [if_pos (nI_lt (by omega) (by omega)), nI_1]
            exact hk _ ⟨μ3, rfl, g0, g1, g2⟩
        · rintro _ ⟨μ3, rfl, g0, g1, g2⟩ k
          show T (f_X11_days_92 F 203 k (nI A) (nI m) _ (nI (m + 1)) μ3) _
          unfold f_X11_days_92
          rw [if_pos (nI_lt (by omega) (by omega)), plet, T_some]
          refine ⟨?_, fun _ => ⟨rfl, rI_s, ?_, ?_⟩, fun h => absurd hok h⟩
          · show (aw_wI μ3 203 26 1).1 203 2 = 0
            rw [rI_k (by decide), (g1 203 2 rfl).1, (ag 203 2 rfl).1, h2]
          · refine (((hag.sub fun a k h => ?_).tr (ag.sub fun a k h => ?_)).tr (g1.sub fun a k h => ?_)).wI rfl
            · have h := of_decide_eq_true h
              exact decide_eq_true (by omega)
            · have h := of_decide_eq_true h
              exact decide_eq_true (by omega)
            · have h := of_decide_eq_true h
              exact decide_eq_true (by omega)
          · intro h
            obtain ⟨u1, u2, u3⟩ := g2 h
            exact ⟨(congrFun (rI_a (by decide)) _).trans u1, (congrFun (rI_a (by decide)) _).trans u2, (congrFun (rI_a (by decide)) _).trans u3⟩
    · rw [decide_eq_false (fun h => k2 (h16.1 h)), if_neg Bool.false_ne_true]
      exact bad fun h => k2 h.2
  · rw [decide_eq_false k1, if_neg Bool.false_ne_true]
    exact bad fun h => k1 h.1
