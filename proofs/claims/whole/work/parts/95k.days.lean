/-! boxes spread over three days -/
def dQ (B : Nat → Nat) : Nat → Nat
  | 0 => 0
  | k + 1 => dQ B k + B (3 + k)
def dC (B : Nat → Nat) (x y z : Nat) : Nat := B 0 * x + B 1 * y + B 2 * z
def dS (B : Nat → Nat) (A x y z : Nat) (s : Nat × Nat × Nat × Nat) : Nat × Nat × Nat × Nat :=
  if dC B x y z ≤ A ∧ s.1 ≤ dC B (dQ B x) (dQ B y) (dQ B z) then (dC B (dQ B x) (dQ B y) (dQ B z) + 1, x, y, z) else s
def zF (B : Nat → Nat) (A x y : Nat) : Nat → Nat × Nat × Nat × Nat → Nat × Nat × Nat × Nat
  | 0, s => s
  | k + 1, s => dS B A x y k (zF B A x y k s)
def yF (B : Nat → Nat) (A n x : Nat) : Nat → Nat × Nat × Nat × Nat → Nat × Nat × Nat × Nat
  | 0, s => s
  | k + 1, s => zF B A x k (n + 1) (yF B A n x k s)
def xF (B : Nat → Nat) (A n : Nat) : Nat → Nat × Nat × Nat × Nat → Nat × Nat × Nat × Nat
  | 0, s => s
  | k + 1, s => yF B A n k (n + 1) (xF B A n k s)
theorem dS_le {B : Nat → Nat} {A x y z : Nat} {s : Nat × Nat × Nat × Nat} : s.1 ≤ (dS B A x y z s).1 := by
  unfold dS
  split
  · show s.1 ≤ _ + 1
    omega
  · exact Nat.le_refl _
theorem zF_le {B : Nat → Nat} {A x y : Nat} {s : Nat × Nat × Nat × Nat} : ∀ k, s.1 ≤ (zF B A x y k s).1
  | 0 => Nat.le_refl _
  | k + 1 => Nat.le_trans (zF_le k) dS_le
theorem yF_le {B : Nat → Nat} {A n x : Nat} {s : Nat × Nat × Nat × Nat} : ∀ k, s.1 ≤ (yF B A n x k s).1
  | 0 => Nat.le_refl _
  | k + 1 => Nat.le_trans (yF_le k) (zF_le _)
theorem xF_le {B : Nat → Nat} {A n : Nat} {s : Nat × Nat × Nat × Nat} : ∀ k, s.1 ≤ (xF B A n k s).1
  | 0 => Nat.le_refl _
  | k + 1 => Nat.le_trans (xF_le k) (yF_le _)
theorem z_1 {B : Nat → Nat} {A : Nat} {s : Nat × Nat × Nat × Nat} (h : s.1 = 0) : ∀ k, 1 ≤ (zF B A 0 0 (k + 1) s).1
  | 0 => by
    show 1 ≤ (dS B A 0 0 0 s).1
    unfold dS
    rw [if_pos ⟨by show dC B 0 0 0 ≤ A; unfold dC; simp only [Nat.mul_zero, Nat.add_zero]; exact Nat.zero_le _, by rw [h]; exact Nat.zero_le _⟩]
    show 1 ≤ _ + 1
    omega
  | k + 1 => Nat.le_trans (z_1 h k) dS_le
theorem y_1 {B : Nat → Nat} {A n : Nat} {s : Nat × Nat × Nat × Nat} (h : s.1 = 0) : ∀ k, 1 ≤ (yF B A n 0 (k + 1) s).1
  | 0 => z_1 h n
  | k + 1 => Nat.le_trans (y_1 h k) (zF_le _)
theorem x_1 {B : Nat → Nat} {A n : Nat} {s : Nat × Nat × Nat × Nat} (h : s.1 = 0) : ∀ k, 1 ≤ (xF B A n (k + 1) s).1
  | 0 => y_1 h n
  | k + 1 => Nat.le_trans (x_1 h k) (yF_le _)
theorem dQ_le {B : Nat → Nat} {n : Nat} (hB : ∀ i, i < n + 3 → B i < 256) : ∀ k, k ≤ n → dQ B k ≤ 255 * k
  | 0, _ => Nat.le_refl _
  | k + 1, h => by
    have h1 := dQ_le hB k (by omega)
    have h2 := hB (3 + k) (by omega)
    show dQ B k + B (3 + k) ≤ _
    omega
theorem dC_le {B : Nat → Nat} {M x y z : Nat} (h0 : B 0 ≤ 255) (h1 : B 1 ≤ 255) (h2 : B 2 ≤ 255) (hx : x ≤ M) (hy : y ≤ M) (hz : z ≤ M) : dC B x y z ≤ 765 * M := by
  have a := Nat.mul_le_mul h0 hx
  have b := Nat.mul_le_mul h1 hy
  have c := Nat.mul_le_mul h2 hz
  unfold dC
  omega
theorem over_x {F x y z : Nat} {B : Nat → Nat} {μ : aw_M} (h : ∀ i, i < 3 → μ.1 2 i = nI (B i)) : f_X7_overDays F 2 (nI x) (nI y) (nI z) μ = some (nI (dC B x y z), μ) := by
  unfold f_X7_overDays
  have i0 : aw_in 0 ((aw_sh 2).2) = true := by decide
  have i1 : aw_in 1 ((aw_sh 2).2) = true := by decide
  have i2 : aw_in 2 ((aw_sh 2).2) = true := by decide
  have c0 : (0 : Int32).toNatClampNeg = 0 := by decide
  have c1 : (1 : Int32).toNatClampNeg = 1 := by decide
  have c2 : (2 : Int32).toNatClampNeg = 2 := by decide
  rw [i0, i1, i2, pg_t, pg_t, pg_t, c0, c1, c2, h 0 (by decide), h 1 (by decide), h 2 (by decide)]
  simp (disch := omega) only [pI_lit, nI_add, nI_clamp, nI_leI, nI_ltI, nI_eq, pk_mul]
  rfl
def kDx (a k : Nat) : Bool := decide (a ≠ 98 ∧ (a ≠ 99 ∨ k = 0))
/-- what the class knows in the loops -/
def dI (a : Nat) (B : Nat → Nat) (μ : aw_M) (s : Nat × Nat × Nat × Nat) : Prop := 1 ≤ s.1 → μ.1 a 0 = nI s.2.1 ∧ μ.1 a 1 = nI s.2.2.1 ∧ μ.1 a 2 = nI s.2.2.2
theorem spread_x {F n A : Nat} {B : Nat → Nat} {μ : aw_M} (hF : 100 ≤ F) (hn : 1 ≤ n ∧ n ≤ 9) (e1 : μ.1 1 1 = nI (n + 3)) (hB : ∀ i, i < n + 3 → B i < 256 ∧ μ.1 2 i = nI (B i)) (h99 : μ.1 99 0 = 0) (hA : A ≤ 9999) : T (f_X7_spreadBoxes F 97 1 (nI A) μ) fun r => r.1 = nI (xF B A n (n + 1) (0, 0, 0, 0)).1 - 1 ∧ AgK kDx μ r.2 ∧ dI 98 B r.2 (xF B A n (n + 1) (0, 0, 0, 0)) := by
  have r0 : aw_rf 97 0 = 98 := by simp only [rf0, rf1, rf4, rf5, rf19, rf23, rf28, rf39, rf53, rf67, rf71, rf76, rf88, rf97, rf101, rf109, rf110, rf124, rf128, rf133, rf144, rf156, rf157, rf171, rf175, rf180, rf191, rf51]
  have r1 : aw_rf 97 1 = 99 := by simp only [rf0, rf1, rf4, rf5, rf19, rf23, rf28, rf39, rf53, rf67, rf71, rf76, rf88, rf97, rf101, rf109, rf110, rf124, rf128, rf133, rf144, rf156, rf157, rf171, rf175, rf180, rf191, rf51]
  have r2 : aw_rf 1 0 = 2 := by simp only [rf0, rf1, rf4, rf5, rf19, rf23, rf28, rf39, rf53, rf67, rf71, rf76, rf88, rf97, rf101, rf109, rf110, rf124, rf128, rf133, rf144, rf156, rf157, rf171, rf175, rf180, rf191, rf51]
  have hb : ∀ i, i < n + 3 → B i < 256 := fun i hi => (hB i hi).1
  have b0 := hb 0 (by omega)
  have b1 := hb 1 (by omega)
  have b2 := hb 2 (by omega)
  have e3 : nI (n + 3) - 3 = nI n := by rw [show (3 : Int32) = nI 3 from rfl, nI_sub (by omega)]; exact congrArg nI (by omega)
  unfold f_X7_spreadBoxes
  rw [plet, e1, e3, if_neg (show ¬ (nI A < 0) from fun h => absurd h (show ¬ (nI A < nI 0) from nI_nlt (by omega) (by omega))), if_neg (show ¬ ((9999 : Int32) < nI A) from (show ¬ (nI 9999 < nI A) from nI_nlt (by omega) (by omega))), if_neg (show ¬ (nI n < (1 : Int32)) from (show ¬ (nI n < nI 1) from nI_nlt (by omega) (by omega))), if_pos (show nI n ≤ (9 : Int32) from (show nI n ≤ nI 9 from nI_le (by omega) (by omega)))]
  refine T_lp (fun i s => ∃ μ', s = (nI A, nI n, nI i, μ') ∧ AgK kDx μ μ' ∧ ∀ k, k ≤ i → μ'.1 99 k = nI (dQ B k)) n (by omega) ⟨μ, rfl, AgK.rf μ, fun k hk => by rw [Nat.le_zero.1 hk, h99]; rfl⟩ ?_ ?_
  · rintro i hi _ ⟨μ1, rfl, ag, h⟩ k hk
    obtain ⟨c1, c2⟩ := hB (3 + i) (by omega)
    have e4 : (3 : Int32) + nI i = nI (3 + i) := nI_add 3 i
    have t2 : μ1.1 2 (3 + i) = nI (B (3 + i)) := (ag 2 _ rfl).1.trans c2
    show T (f_X7_spreadBoxes_34 F 97 1 k (nI A) (nI n) (nI i) μ1) _
    unfold f_X7_spreadBoxes_34
    rw [if_neg (nI_ge hi (by omega)), pI_in_t (by omega) (by decide), pg_t, e4, pI_in_t (by omega) (by decide), pg_t, nI_1, pI_in_t (by omega) (by decide), pg_t, plet, r1, r2, nI_clamp (by omega), nI_clamp (by omega), nI_clamp (by omega), t2, h i (Nat.le_refl _), nI_add]
    refine hk _ ⟨_, rfl, ag.wI (decide_eq_false (by omega)), fun k hk => ?_⟩
    by_cases e : k = i + 1
    · subst e; rw [rI_s]; rfl
    · rw [rI_k e]; exact h k (by omega)
  · rintro _ ⟨μ1, rfl, ag, h⟩ k
    have t2 : ∀ μ2, AgK (fun a _ => decide (a ≠ 98)) μ1 μ2 → (∀ i, i < 3 → μ2.1 2 i = nI (B i)) ∧ ∀ k, k ≤ n → μ2.1 99 k = nI (dQ B k) := fun μ2 g => ⟨fun i hi => (g 2 _ rfl).1.trans ((ag 2 _ rfl).1.trans (hB i (by omega)).2), fun k hk => (g 99 _ rfl).1.trans (h k hk)⟩
    show T (f_X7_spreadBoxes_34 F 97 1 k (nI A) (nI n) (nI n) μ1) _
    unfold f_X7_spreadBoxes_34
    rw [if_pos (nI_le (Nat.le_refl _) (by omega))]
    unfold f_X7_spreadBoxes_72
    refine T_lp (fun x s => ∃ μ', s = (nI A, nI n, nI (xF B A n x (0, 0, 0, 0)).1 - 1, nI x, μ') ∧ (xF B A n x (0, 0, 0, 0)).1 ≤ 1755676 ∧ AgK (fun a _ => decide (a ≠ 98)) μ1 μ' ∧ dI 98 B μ' (xF B A n x (0, 0, 0, 0))) (n + 1) (by omega) ⟨μ1, rfl, Nat.zero_le _, AgK.rf _, fun h => absurd h (show ¬ (1 ≤ 0) by decide)⟩ ?_ ?_
    · rintro x hx _ ⟨μ2, rfl, g0, g1, g2⟩ k hk
      show T (f_X7_spreadBoxes_78 F 97 1 k (nI A) (nI n) _ (nI x) μ2) _
      unfold f_X7_spreadBoxes_78
      rw [if_neg (nI_nlt (by omega) (by omega))]
      have xs : xF B A n (x + 1) (0, 0, 0, 0) = yF B A n x (n + 1) (xF B A n x (0, 0, 0, 0)) := rfl
      rw [xs] at hk
      generalize xF B A n x (0, 0, 0, 0) = S0 at g0 g2 hk
      refine T_lp (fun y s => ∃ μ', s = (nI A, nI n, nI (yF B A n x y S0).1 - 1, nI x, nI y, μ') ∧ (yF B A n x y S0).1 ≤ 1755676 ∧ AgK (fun a _ => decide (a ≠ 98)) μ1 μ' ∧ dI 98 B μ' (yF B A n x y S0)) (n + 1) (by omega) ⟨μ2, rfl, g0, g1, g2⟩ ?_ ?_
      · rintro y hy _ ⟨μ3, rfl, g0, g1, g2⟩ k' hk'
        show T (f_X7_spreadBoxes_87 F 97 1 k' k (nI A) (nI n) _ (nI x) (nI y) μ3) _
        unfold f_X7_spreadBoxes_87
        rw [if_neg (nI_nlt (by omega) (by omega))]
        have ys : yF B A n x (y + 1) S0 = zF B A x y (n + 1) (yF B A n x y S0) := rfl
        rw [ys] at hk'
        generalize yF B A n x y S0 = S1 at g0 g2 hk'
        refine T_lp (fun z s => ∃ μ', s = (nI A, nI n, nI (zF B A x y z S1).1 - 1, nI x, nI y, nI z, μ') ∧ (zF B A x y z S1).1 ≤ 1755676 ∧ AgK (fun a _ => decide (a ≠ 98)) μ1 μ' ∧ dI 98 B μ' (zF B A x y z S1)) (n + 1) (by omega) ⟨μ3, rfl, g0, g1, g2⟩ ?_ ?_
        · rintro z hz _ ⟨μ4, rfl, g0, g1, g2⟩ k'' hk''
          obtain ⟨t3, t4⟩ := t2 μ4 g1
          show T (f_X7_spreadBoxes_96 F 97 1 k'' k k' (nI A) (nI n) _ (nI x) (nI y) (nI z) μ4) _
          unfold f_X7_spreadBoxes_96
          have zs : zF B A x y (z + 1) S1 = dS B A x y z (zF B A x y z S1) := rfl
          rw [zs] at hk''
          generalize zF B A x y z S1 = S2 at g0 g2 hk''
          rw [if_neg (nI_nlt (by omega) (by omega)), r2, over_x t3, Option.bind_some, pI_in_t (by omega) (by decide), pg_t, pI_in_t (by omega) (by decide), pg_t, pI_in_t (by omega) (by decide), pg_t]
          dsimp only
          rw [r1, nI_clamp (by omega), nI_clamp (by omega), nI_clamp (by omega), t4 x (by omega), t4 y (by omega), t4 z (by omega), over_x t3, Option.bind_some]
          have q1 := dQ_le hb x (by omega)
          have q2 := dQ_le hb y (by omega)
          have q3 := dQ_le hb z (by omega)
          have l1 : dC B x y z ≤ 765 * 9 := dC_le (by omega) (by omega) (by omega) (by omega) (by omega) (by omega)
          have l2 : dC B (dQ B x) (dQ B y) (dQ B z) ≤ 765 * 2295 := dC_le (by omega) (by omega) (by omega) (by omega) (by omega) (by omega)
          have cmp : nI (dC B (dQ B x) (dQ B y) (dQ B z)) ≤ nI S2.1 - 1 ↔ ¬ (S2.1 ≤ dC B (dQ B x) (dQ B y) (dQ B z)) := by
            generalize dC B (dQ B x) (dQ B y) (dQ B z) = u at l2
            by_cases e : S2.1 = 0
            · rw [e]
              have := nI_b (j := u) (n := u + 1) (by omega) (by omega)
              constructor
              · intro h2
                have h3 : nI 0 - 1 = (-1 : Int32) := by decide
                rw [h3] at h2
                exfalso
                have := this.1
                grind
              · intro h2; omega
            · have : nI S2.1 - 1 = nI (S2.1 - 1) := by rw [show (1 : Int32) = nI 1 from rfl, nI_sub (by omega)]
              rw [this, nI_leI (by omega) (by omega)]
              omega
          have upto : ∀ S3 μ5, S3 = dS B A x y z S2 → S3.1 ≤ 1755676 → AgK (fun a _ => decide (a ≠ 98)) μ1 μ5 → dI 98 B μ5 S3 → T (f_X7_spreadBoxes_188 F 97 1 k k' k'' (nI A) (nI n) (nI S3.1 - 1) (nI x) (nI y) (nI z) μ5) _ := fun S3 μ5 h1 h2 h3 h4 => by
            unfold f_X7_spreadBoxes_188
            rw [nI_1]
            exact hk'' _ ⟨μ5, by rw [h1], by rw [← h1]; exact h2, h3, by rw [← h1]; exact h4⟩
          by_cases w1 : dC B x y z ≤ A
          · rw [if_neg (nI_nlt w1 (by omega))]
            by_cases w2 : S2.1 ≤ dC B (dQ B x) (dQ B y) (dQ B z)
            · rw [if_neg (fun h => cmp.1 h w2)]
              have i0 : aw_in 0 3 = true := by decide
              have i1 : aw_in 1 3 = true := by decide
              have i2 : aw_in 2 3 = true := by decide
              have c0 : (0 : Int32).toNatClampNeg = 0 := by decide
              have c1 : (1 : Int32).toNatClampNeg = 1 := by decide
              have c2 : (2 : Int32).toNatClampNeg = 2 := by decide
              rw [i0, pg_t, plet, i1, pg_t, plet, i2, pg_t, plet, r0, c0, c1, c2]
              have ed : dS B A x y z S2 = (dC B (dQ B x) (dQ B y) (dQ B z) + 1, x, y, z) := if_pos ⟨w1, w2⟩
              have e6 : nI (dC B (dQ B x) (dQ B y) (dQ B z)) = nI (dC B (dQ B x) (dQ B y) (dQ B z) + 1) - 1 := by
                rw [← nI_1]
                grind
              rw [e6]
              refine upto (dC B (dQ B x) (dQ B y) (dQ B z) + 1, x, y, z) _ ed.symm (by show _ + 1 ≤ _; omega) (((g1.wI rfl).wI rfl).wI rfl) fun _ => ⟨?_, ?_, ?_⟩
              · rw [rI_k (by decide), rI_k (by decide), rI_s]
              · rw [rI_k (by decide), rI_s]
              · rw [rI_s]
            · rw [if_pos (cmp.2 w2)]
              exact upto S2 _ (if_neg fun h => w2 h.2).symm g0 g1 g2
          · rw [if_pos (nI_lt (by omega) (by omega))]
            exact upto S2 _ (if_neg fun h => w1 h.1).symm g0 g1 g2
        · rintro _ ⟨μ4, rfl, g0, g1, g2⟩ k''
          show T (f_X7_spreadBoxes_96 F 97 1 k'' k k' (nI A) (nI n) _ (nI x) (nI y) (nI (n + 1)) μ4) _
          unfold f_X7_spreadBoxes_96 f_X7_spreadBoxes_194
          rw [if_pos (nI_lt (by omega) (by omega)), nI_1]
          exact hk' _ ⟨μ4, rfl, g0, g1, g2⟩
      · rintro _ ⟨μ3, rfl, g0, g1, g2⟩ k'
        show T (f_X7_spreadBoxes_87 F 97 1 k' k (nI A) (nI n) _ (nI x) (nI (n + 1)) μ3) _
        unfold f_X7_spreadBoxes_87 f_X7_spreadBoxes_200
        rw [if_pos (nI_lt (by omega) (by omega)), nI_1]
        exact hk _ ⟨μ3, rfl, g0, g1, g2⟩
    · rintro _ ⟨μ2, rfl, g0, g1, g2⟩ k
      show T (f_X7_spreadBoxes_78 F 97 1 k (nI A) (nI n) _ (nI (n + 1)) μ2) _
      unfold f_X7_spreadBoxes_78
      rw [if_pos (nI_lt (by omega) (by omega)), T_some]
      exact ⟨rfl, ag.tr (g1.sub fun a k h => by
        have h := of_decide_eq_true h
        exact decide_eq_true h.1), g2⟩
