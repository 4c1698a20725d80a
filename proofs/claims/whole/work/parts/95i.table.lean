theorem taken_m {F : Nat} {v : Int32} {μ : aw_M} : f_X11_taken F 203 v μ = some (aw_wI (aw_wI (aw_wI (aw_wI μ 203 3 (μ.1 203 2)) 203 2 0) 203 4 0) 203 5 v) := rfl
/-- all but what the reference notes while it reads a tape -/
def kTn (a k : Nat) : Bool := decide (a ≠ 203 ∨ (k ≠ 0 ∧ (k < 2 ∨ 5 < k)))
def tOK (C : Nat → Nat → Nat) (B : Nat → Nat) (n : Nat) : Prop := 2 ≤ C 0 2 ∧ 2 ≤ n ∧ n ≤ 12 ∧ n % 2 = 0 ∧ ∀ i, i < n / 2 → plOK B i
theorem table_m {F n : Nat} {B : Nat → Nat} {C P : Nat → Nat → Nat} {μ : aw_M} (hF : 2000 ≤ F) (hc : ctx C P μ) (hn : n ≤ 940) (e1 : μ.1 203 2 = nI n) (hB : ∀ i, i < n → B i < 256 ∧ μ.1 204 i = (nI (B i)).toInt8.toInt32) : T (f_X11_table F 203 μ) fun r => r.2.1 203 2 = 0 ∧ (tOK C B n → r.1 = nI (n / 2) ∧ r.2.1 203 41 = nI (n / 2) ∧ AgK kTm μ r.2 ∧ r.2.2 205 = μ.2 205 ∧ r.2.1 205 = μ.1 205 ∧ mDone C P (μ.1 205) B (n / 2) (n / 2) 0 (r.2.1 223)) ∧ (¬ tOK C B n → r.1 = -1 ∧ AgK kTn μ r.2) := by
  have hwf := hc.1
  have hnq := hwf.1.2.2.1
  have r6 : aw_rf 203 6 = 205 := by simp only [rf203, rf203b]
  have r40 : aw_rf 203 40 = 224 := by simp only [rf203, rf203b]
  have r39 : aw_rf 203 39 = 223 := by simp only [rf203, rf203b]
  have r23 : aw_rf 203 23 = 211 := by simp only [rf203, rf203b]
  have i2 : aw_in 2 1155 = true := by decide
  have c2 : (2 : Int32).toNatClampNeg = 2 := by decide
  have e2 : (2 : Int32) = nI 2 := rfl
  have e6 : (6 : Int32) = nI 6 := rfl
  have e0 : (0 : Int32) = nI 0 := rfl
  unfold f_X11_table
  rw [plet, taken_m, Option.bind_some, i2, pg_t, r6, c2]
  have hag : AgK kTn μ (aw_wI (aw_wI (aw_wI (aw_wI (aw_wI μ 203 0 0) 203 3 ((aw_wI μ 203 0 0).1 203 2)) 203 2 0) 203 4 0) 203 5 940) := (((((AgK.rf μ).wI (v := _) rfl).wI (v := _) rfl).wI (v := _) rfl).wI (v := _) rfl).wI (v := _) rfl
  have h3 : (aw_wI (aw_wI (aw_wI (aw_wI (aw_wI μ 203 0 0) 203 3 ((aw_wI μ 203 0 0).1 203 2)) 203 2 0) 203 4 0) 203 5 940).1 203 3 = nI n := by
    rw [rI_k (by decide), rI_k (by decide), rI_k (by decide), rI_s, rI_k (by decide), e1]
  have h2 : (aw_wI (aw_wI (aw_wI (aw_wI (aw_wI μ 203 0 0) 203 3 ((aw_wI μ 203 0 0).1 203 2)) 203 2 0) 203 4 0) 203 5 940).1 203 2 = 0 := by
    rw [rI_k (by decide), rI_k (by decide), rI_s]
  generalize aw_wI (aw_wI (aw_wI (aw_wI (aw_wI μ 203 0 0) 203 3 ((aw_wI μ 203 0 0).1 203 2)) 203 2 0) 203 4 0) 203 5 940 = μ1 at hag h3 h2
  have ha : ∀ a, a ≠ 203 → μ1.1 a = μ.1 a := fun a h => hag.a fun k => decide_eq_true (.inl h)
  have hc1 : ctx C P μ1 := hc.ag fun a h => ha a (by omega)
  have hB1 : ∀ i, i < n → B i < 256 ∧ μ1.1 204 i = (nI (B i)).toInt8.toInt32 := fun i hi => by rw [ha 204 (by decide)]; exact hB i hi
  have y3 : μ1.1 205 2 = nI (C 0 2) := hc1.2.1.2.2.1.1.2.2.1
  have hs : μ1.1 205 = μ.1 205 := ha 205 (by decide)
  rw [← hs]
  generalize hS : μ1.1 205 = S at *
  have bad : ∀ μ', AgK kTn μ μ' → μ'.1 203 2 = 0 → ¬ tOK C B n → T (some ((-1 : Int32), μ')) fun r => r.2.1 203 2 = 0 ∧ (tOK C B n → r.1 = nI (n / 2) ∧ r.2.1 203 41 = nI (n / 2) ∧ AgK kTm μ r.2 ∧ r.2.2 205 = μ.2 205 ∧ r.2.1 205 = S ∧ mDone C P S B (n / 2) (n / 2) 0 (r.2.1 223)) ∧ (¬ tOK C B n → r.1 = -1 ∧ AgK kTn μ r.2) := fun μ' g1 g2 g3 => ⟨_, rfl, g2, fun h => absurd h g3, fun _ => ⟨rfl, g1⟩⟩
  rw [y3]
  by_cases k1 : C 0 2 < 2
  · rw [if_pos (by rw [e2]; exact nI_lt k1 (by decide))]
    exact bad _ hag h2 fun h => by have := h.1; omega
  rw [if_neg (by rw [e2]; exact nI_nlt (by omega) (by omega)), h3]
  have hmod : nI n - nI n / 2 * 2 = nI (n % 2) := by rw [e2, nI_mod (by omega) (by decide)]
  have hdiv : nI n / 2 = nI (n / 2) := nI_div (b := 2) (by omega) (by decide)
  rw [hmod]
  by_cases k4 : n % 2 = 0
  · rw [if_pos (by rw [k4]; rfl), hdiv, isIn_eq, Option.bind_some]
    have h16 : (1 ≤ nI (n / 2) ∧ nI (n / 2) ≤ 6) ↔ 2 ≤ n ∧ n ≤ 12 := by
      have hx : nI (n / 2) ≤ 6 ↔ n / 2 ≤ 6 := nI_leI (b := 6) (by omega) (by decide)
      have hy : 1 ≤ nI (n / 2) ↔ 1 ≤ n / 2 := by
        constructor
        · intro h
          by_cases z : n / 2 = 0
          · rw [z] at h; exact absurd h (by decide)
          · omega
        · intro h
          exact (show nI 1 ≤ nI (n / 2) from nI_le h (by omega))
      rw [hx, hy]
      omega
    by_cases k5 : 2 ≤ n ∧ n ≤ 12
    · rw [decide_eq_true (h16.2 k5), if_pos rfl]
      show T (aw_let (μ1.1 203 3 / 2) _) _
      rw [plet, h3, hdiv]
      generalize ht : n / 2 = t at *
      refine T_lp (fun i s => s = (nI t, nI i, μ1) ∧ ∀ i', i' < i → plOK B i') t (by omega) ⟨rfl, fun i' h => absurd h (Nat.not_lt_zero _)⟩ ?_ ?_
      · rintro i hi _ ⟨rfl, h⟩ k hk
        obtain ⟨b1, b2⟩ := hB1 (2 * i) (by omega)
        obtain ⟨b3, b4⟩ := hB1 (2 * i + 1) (by omega)
        show T (f_X11_table_57 F 203 k (nI t) (nI i) μ1) _
        unfold f_X11_table_57
        have e2x : (2 : Int32) * nI i = nI (2 * i) := by simp (disch := omega) only [pI_lit, nI_add, nI_clamp, nI_leI, nI_ltI, nI_eq, pk_mul]
        rw [if_neg (nI_ge hi (by omega)), e2x, octet_m (by omega) b1 b2, Option.bind_some, nI_1, octet_m (by omega) b3 b4]
        by_cases c1 : B (2 * i) ≤ 18
        · rw [if_neg (show ¬ ((18 : Int32) < nI (B (2 * i))) from (show ¬ (nI 18 < nI (B (2 * i))) from nI_nlt (by omega) (by omega))), Option.bind_some]
          by_cases c3 : B (2 * i + 1) ≤ 99
          · rw [if_pos (show nI (B (2 * i + 1)) ≤ 99 from (nI_leI (b := 99) (by omega) (by decide)).2 c3), nI_1]
            refine hk _ ⟨rfl, fun i' hi' => ?_⟩
            by_cases e : i' = i
            · rw [e]; exact ⟨c1, c3⟩
            · exact h i' (by omega)
          · rw [if_neg (show ¬ (nI (B (2 * i + 1)) ≤ 99) from fun h => c3 ((nI_leI (b := 99) (by omega) (by decide)).1 h))]
            exact bad _ hag h2 fun h => c3 (h.2.2.2.2 i (by omega)).2
        · rw [if_pos (show (18 : Int32) < nI (B (2 * i)) from (show nI 18 < nI (B (2 * i)) from nI_lt (by omega) (by omega)))]
          exact bad _ hag h2 fun h => c1 (h.2.2.2.2 i (by omega)).1
      · rintro _ ⟨rfl, hok⟩ k
        show T (f_X11_table_57 F 203 k (nI t) (nI t) μ1) _
        unfold f_X11_table_57
        rw [if_pos (nI_le (Nat.le_refl _) (by omega))]
        unfold f_X11_table_96
        refine T_lp (fun i s => s = (nI t, nI i, its sv μ1 i)) 2 (by omega) rfl ?_ ?_
        · rintro i hi _ rfl k hk
          show T (f_X11_table_98 F 203 k (nI t) (nI i) (its sv μ1 i)) _
          unfold f_X11_table_98
          have x1 : (427 : Int32) + nI i = nI (427 + i) := nI_add 427 i
          have x2 : (436 : Int32) + nI i = nI (436 + i) := nI_add 436 i
          have x3 : (445 : Int32) + nI i = nI (445 + i) := nI_add 445 i
          have x4 : (3 : Int32) * nI i = nI (3 * i) := by simp (disch := omega) only [pI_lit, nI_add, nI_clamp, nI_leI, nI_ltI, nI_eq, pk_mul]
          have x5 : nI (3 * i) + 1 = nI (3 * i + 1) := nI_add (3 * i) 1
          have x6 : nI (3 * i) + 2 = nI (3 * i + 2) := nI_add (3 * i) 2
          rw [if_neg (show ¬ ((2 : Int32) ≤ nI i) from (show ¬ (nI 2 ≤ nI i) from nI_ge (by omega) (by omega))), x1, x2, x3, x4, x5, x6]
          simp (disch := omega) only [pI_in_t, pg_t, plet, nI_clamp, r6, r40, nI_1]
          exact hk _ rfl
        · rintro _ rfl k
          obtain ⟨s1, s2, s3⟩ := sv_2 hS
          show T (f_X11_table_98 F 203 k (nI t) (nI 2) (its sv μ1 2)) _
          unfold f_X11_table_98
          rw [if_pos (show (2 : Int32) ≤ nI 2 by decide)]
          unfold f_X11_table_178
          have sz : (its sv μ1 2).2 = μ1.2 := rfl
          generalize its sv μ1 2 = μ2 at s1 s2 s3 sz
          refine T_lp (fun i s => ∃ μ', s = (nI t, nI i, μ') ∧ AgK kTo μ1 μ' ∧ μ'.2 = μ1.2 ∧ μ'.1 224 = μ2.1 224 ∧ (∀ k, k ≠ 427 → k ≠ 436 → k ≠ 428 → k ≠ 437 → μ'.1 205 k = upd (upd S 445 0) 446 0 k) ∧ mDone C P S B t i 0 (μ'.1 223)) t (by omega) ⟨μ2, rfl, s2, sz, rfl, fun k _ _ _ _ => by rw [s1], fun i' j' w h => by omega⟩ ?_ ?_
          · rintro i hi _ ⟨μ3, rfl, g1, gz, g2, g3, g4⟩ k hk
            show T (f_X11_table_180 F 203 k (nI t) (nI i) μ3) _
            unfold f_X11_table_180
            rw [if_neg (nI_ge hi (by omega))]
            refine T_lp (fun j s => ∃ μ', s = (nI t, nI i, nI j, μ') ∧ AgK kTo μ1 μ' ∧ μ'.2 = μ1.2 ∧ μ'.1 224 = μ2.1 224 ∧ (∀ k, k ≠ 427 → k ≠ 436 → k ≠ 428 → k ≠ 437 → μ'.1 205 k = upd (upd S 445 0) 446 0 k) ∧ mDone C P S B t i j (μ'.1 223)) t (by omega) ⟨μ3, rfl, g1, gz, g2, g3, g4⟩ ?_ ?_
            · rintro j hj _ ⟨μ4, rfl, g1, gz, g2, g3, g4⟩ k' hk'
              show T (f_X11_table_187 F 203 k' k (nI t) (nI i) (nI j) μ4) _
              unfold f_X11_table_187
              have oct : ∀ i (μ5 : aw_M), i < n → μ5.1 204 = μ4.1 204 → f_X11_octet F 203 (nI i) μ5 = some (nI (B i), μ5) := fun i μ5 hi h => octet_m (by omega) (hB1 i hi).1 (by rw [h, g1.a fun k => rfl]; exact (hB1 i hi).2)
              have a1 : (2 : Int32) * nI i = nI (2 * i) := by simp (disch := omega) only [pI_lit, nI_add, nI_clamp, nI_leI, nI_ltI, nI_eq, pk_mul]
              have a2 : (2 : Int32) * nI j = nI (2 * j) := by simp (disch := omega) only [pI_lit, nI_add, nI_clamp, nI_leI, nI_ltI, nI_eq, pk_mul]
              have a3 : (12 : Int32) * nI i = nI (12 * i) := by simp (disch := omega) only [pI_lit, nI_add, nI_clamp, nI_leI, nI_ltI, nI_eq, pk_mul]
              have a4 : nI (12 * i) + nI (2 * j) = nI (12 * i + 2 * j) := nI_add _ _
              have i1 : aw_in 427 1155 = true := by decide
              have i2 : aw_in 436 1155 = true := by decide
              have i3 : aw_in 428 1155 = true := by decide
              have i4 : aw_in 437 1155 = true := by decide
              have c1 : (427 : Int32).toNatClampNeg = 427 := by decide
              have c2 : (436 : Int32).toNatClampNeg = 436 := by decide
              have c3 : (428 : Int32).toNatClampNeg = 428 := by decide
              have c4 : (437 : Int32).toNatClampNeg = 437 := by decide
              rw [if_neg (nI_ge hj (by omega)), a1, a2, a3, a4, nI_1, nI_1, nI_1, oct _ _ (by omega) rfl, Option.bind_some, i1, pg_t, plet, c1, r6, oct _ _ (by omega) (rI_a (by decide)), Option.bind_some, i2, pg_t, plet, c2, oct _ _ (by omega) (by rw [rI_a (by decide), rI_a (by decide)]), Option.bind_some, i3, pg_t, plet, c3, oct _ _ (by omega) (by rw [rI_a (by decide), rI_a (by decide), rI_a (by decide)]), Option.bind_some, i4, pg_t, plet, c4]
              dsimp only
              rw [nI_1, nI_1]
              have row : (aw_wI (aw_wI (aw_wI (aw_wI μ4 205 427 (nI (B (2 * i) + 1))) 205 436 (nI (B (2 * i + 1)))) 205 428 (nI (B (2 * j) + 1))) 205 437 (nI (B (2 * j + 1)))).1 205 = tS S (nI (B (2 * i) + 1)) (nI (B (2 * i + 1))) (nI (B (2 * j) + 1)) (nI (B (2 * j + 1))) := by
                rw [wI_aset, wI_aset, wI_aset, wI_aset, rA_s, rA_s, rA_s, rA_s]
                exact tS_of g3
              have row2 : ∀ k, k ≠ 427 → k ≠ 436 → k ≠ 428 → k ≠ 437 → (aw_wI (aw_wI (aw_wI (aw_wI μ4 205 427 (nI (B (2 * i) + 1))) 205 436 (nI (B (2 * i + 1)))) 205 428 (nI (B (2 * j) + 1))) 205 437 (nI (B (2 * j + 1)))).1 205 k = upd (upd S 445 0) 446 0 k := fun k k1 k2 k3 k4 => by
                rw [rI_k k4, rI_k k3, rI_k k2, rI_k k1]
                exact g3 k k1 k2 k3 k4
              have ag5 : AgK kTo μ1 (aw_wI (aw_wI (aw_wI (aw_wI μ4 205 427 (nI (B (2 * i) + 1))) 205 436 (nI (B (2 * i + 1)))) 205 428 (nI (B (2 * j) + 1))) 205 437 (nI (B (2 * j + 1)))) := (((g1.wI rfl).wI rfl).wI rfl).wI rfl
              have f5 : ∀ a, a ≠ 205 → (aw_wI (aw_wI (aw_wI (aw_wI μ4 205 427 (nI (B (2 * i) + 1))) 205 436 (nI (B (2 * i + 1)))) 205 428 (nI (B (2 * j) + 1))) 205 437 (nI (B (2 * j + 1)))).1 a = μ4.1 a := fun a h => by
                rw [rI_a h, rI_a h, rI_a h, rI_a h]
              have f6 : (aw_wI (aw_wI (aw_wI (aw_wI μ4 205 427 (nI (B (2 * i) + 1))) 205 436 (nI (B (2 * i + 1)))) 205 428 (nI (B (2 * j) + 1))) 205 437 (nI (B (2 * j + 1)))).2 = μ1.2 := gz
              generalize aw_wI (aw_wI (aw_wI (aw_wI μ4 205 427 (nI (B (2 * i) + 1))) 205 436 (nI (B (2 * i + 1)))) 205 428 (nI (B (2 * j) + 1))) 205 437 (nI (B (2 * j + 1))) = μ5 at row row2 ag5 f5 f6
              have oS := hc1.2.1
              rw [hS] at oS
              have ok5 : sOK C (tP P B i j) (μ5.1 205) := by
                rw [row]
                exact ⟨oS.1, tP_wf oS.2.1 (by omega) (hok i hi) (hok j hj), qTM_ext oS.1 (fun k hk => tS_o (by omega)) oS.2.2.1, tS_pm oS.2.2.2⟩
              have hsd := hc1.2.2.2.1
              rw [hS] at hsd
              refine T_call (sureDay_c (C := C) (S := S) (pf := fun q => q) (wf := rW C (tP P B i j)) hF ok5 (fun a ha => by rw [row, tS_o (by omega)]; exact hsd a ha) (fun _ _ => rfl) (fun q hq => told_wf hnq hq) (fun _ _ => rfl) (fun i hi => by rw [row, tS_o (by omega)])) ?_
              rintro μ6 ⟨d1, d2, d3⟩
              have m0 : μ6.1 211 0 = tV C P S B i j 0 := d3 0 (by omega)
              have m1 : μ6.1 211 1 = tV C P S B i j 1 := d3 1 (by omega)
              have i5 : aw_in 0 9 = true := by decide
              have i6 : aw_in 1 9 = true := by decide
              have c5 : (0 : Int32).toNatClampNeg = 0 := by decide
              have c6 : (1 : Int32).toNatClampNeg = 1 := by decide
              rw [i5, pg_t, pI_in_t (by omega) (by decide), pg_t, plet, i6, pg_t, pI_in_t (by omega) (by decide), pg_t, plet, r39, r23, c5, c6, nI_clamp (by omega), nI_clamp (by omega), nI_1, m0, rI_a (by decide), m1]
              refine hk' _ ⟨_, rfl, ?_, d2.trans f6, ?_, ?_, ?_⟩
              · refine ((ag5.tr fun a k q => ⟨?_, by rw [d2]⟩).wI rfl).wI rfl
                have q := of_decide_eq_true q
                rw [d1 a (by omega) (by omega)]
              · rw [rI_a (by decide), rI_a (by decide), d1 224 (by decide) (by decide), f5 224 (by decide)]
                exact g2
              · intro k k1 k2 k3 k4
                rw [rI_a (by decide), rI_a (by decide), d1 205 (by decide) (by decide)]
                exact row2 k k1 k2 k3 k4
              · refine mDone_s g4 (by omega) ?_ ?_ (fun k h1 h2 => ?_) hj
                · rw [rI_k (by omega), rI_s]
                · rw [rI_s]
                · rw [rI_k h2, rI_k h1, d1 223 (by decide) (by decide), f5 223 (by decide)]
            · rintro _ ⟨μ4, rfl, g1, gz, g2, g3, g4⟩ k'
              show T (f_X11_table_187 F 203 k' k (nI t) (nI i) (nI t) μ4) _
              unfold f_X11_table_187 f_X11_table_310
              rw [if_pos (nI_le (Nat.le_refl _) (by omega)), nI_1]
              exact hk _ ⟨μ4, rfl, g1, gz, g2, g3, fun i' j' w h1 h2 h3 => g4 i' j' w (by omega) h2 h3⟩
          · rintro _ ⟨μ3, rfl, g1, gz, g2, g3, g4⟩ k
            show T (f_X11_table_180 F 203 k (nI t) (nI t) μ3) _
            unfold f_X11_table_180
            rw [if_pos (nI_le (Nat.le_refl _) (by omega))]
            unfold f_X11_table_316
            refine T_lp (fun i s => s = (nI t, nI i, its rs μ3 i)) 2 (by omega) rfl ?_ ?_
            · rintro i hi _ rfl k hk
              show T (f_X11_table_318 F 203 k (nI t) (nI i) (its rs μ3 i)) _
              unfold f_X11_table_318
              have x1 : (427 : Int32) + nI i = nI (427 + i) := nI_add 427 i
              have x2 : (436 : Int32) + nI i = nI (436 + i) := nI_add 436 i
              have x3 : (445 : Int32) + nI i = nI (445 + i) := nI_add 445 i
              have x4 : (3 : Int32) * nI i = nI (3 * i) := by simp (disch := omega) only [pI_lit, nI_add, nI_clamp, nI_leI, nI_ltI, nI_eq, pk_mul]
              have x5 : nI (3 * i) + 1 = nI (3 * i + 1) := nI_add (3 * i) 1
              have x6 : nI (3 * i) + 2 = nI (3 * i + 2) := nI_add (3 * i) 2
              rw [if_neg (show ¬ ((2 : Int32) ≤ nI i) from (show ¬ (nI 2 ≤ nI i) from nI_ge (by omega) (by omega))), x1, x2, x3, x4, x5, x6]
              simp (disch := omega) only [pI_in_t, pg_t, plet, nI_clamp, r6, r40, nI_1]
              exact hk _ rfl
            · rintro _ rfl k
              obtain ⟨u1, u2⟩ := rs_2 (S := S) (by rw [g2]; exact s3) g3
              show T (f_X11_table_318 F 203 k (nI t) (nI 2) (its rs μ3 2)) _
              unfold f_X11_table_318
              rw [if_pos (show (2 : Int32) ≤ nI 2 by decide), plet, T_some]
              have ag : AgK kTm μ (aw_wI (its rs μ3 2) 203 41 (nI t)) := (((hag.sub fun a k h => by
                have h := of_decide_eq_true h
                exact decide_eq_true (by omega)).tr (g1.sub fun a k h => by
                have h := of_decide_eq_true h
                exact decide_eq_true (by omega))).tr (u2.sub fun a k h => by
                have h := of_decide_eq_true h
                exact decide_eq_true (by omega))).wI rfl
              have gy : (aw_wI (its rs μ3 2) 203 41 (nI t)).2 205 = μ.2 205 := (congrFun gz 205).trans (hag.b fun k => rfl)
              refine ⟨?_, fun _ => ⟨rfl, rI_s, ag, gy, ?_, ?_⟩, fun h => absurd ⟨by omega, k5.1, k5.2, k4, fun i hi => hok i (by omega)⟩ h⟩
              · show (aw_wI (its rs μ3 2) 203 41 (nI t)).1 203 2 = 0
                rw [rI_k (by decide), (u2 203 2 rfl).1, (g1 203 2 rfl).1, h2]
              · show (aw_wI (its rs μ3 2) 203 41 (nI t)).1 205 = S
                rw [rI_a (by decide), u1]
              · show mDone C P S B t t 0 ((aw_wI (its rs μ3 2) 203 41 (nI t)).1 223)
                rw [rI_a (by decide), u2.a fun k => rfl]
                exact g4
    · rw [decide_eq_false (fun h => k5 (h16.1 h)), if_neg Bool.false_ne_true]
      exact bad _ hag h2 fun h => k5 ⟨h.2.1, h.2.2.1⟩
  · rw [if_neg (nI_ne0 (by omega) (by omega))]
    exact bad _ hag h2 fun h => k4 h.2.2.2.1
