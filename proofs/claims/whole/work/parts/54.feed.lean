def shf (i : Nat) : Int32 := if i < 4 then nI (24 - 8 * i) else -8
theorem shf_s : ∀ i, i < 4 → shf i = nI (24 - 8 * i) ∧ ¬ shf i < 0 ∧ shf i + -8 = shf (i + 1) := by decide
theorem shf_e : shf 4 < 0 := by decide
/-- a number's bytes put behind what is there, one after the other -/
def fdm (a s f : Nat) (g : Nat → Int32) (n : Nat) (μ : aw_M) : Nat → aw_M
  | 0 => μ
  | i + 1 => aw_wI (aw_wI (fdm a s f g n μ i) a (n + i) (g i)) s f (nI (n + i + 1))
theorem fdm_ag {K : Nat → Nat → Bool} {a s f n : Nat} {g : Nat → Int32} {μ : aw_M} (h1 : ∀ k, n ≤ k → K a k = false) (h2 : K s f = false) : ∀ i, AgK K μ (fdm a s f g n μ i)
  | 0 => AgK.rf μ
  | i + 1 => ((fdm_ag h1 h2 i).wI (h1 _ (by omega))).wI h2
theorem fdm_s {a s f n : Nat} {g : Nat → Int32} {μ : aw_M} (e : μ.1 s f = nI n) : ∀ i, (fdm a s f g n μ i).1 s f = nI (n + i)
  | 0 => e
  | i + 1 => rI_s
theorem fdm_a {a s f n : Nat} {g : Nat → Int32} {μ : aw_M} (h : a ≠ s) : ∀ i j, j < i → (fdm a s f g n μ i).1 a (n + j) = g j
  | 0, j, hj => absurd hj (by omega)
  | i + 1, j, hj => by
    show (aw_wI (aw_wI (fdm a s f g n μ i) a (n + i) (g i)) s f (nI (n + i + 1))).1 a (n + j) = g j
    rw [rI_a h]
    by_cases e : j = i
    · subst e
      rw [rI_s]
    · rw [rI_k (by omega)]
      exact fdm_a h i j (by omega)
theorem num_x {F n : Nat} {v : Int32} {μ : aw_M} (hF : 100 ≤ F) (hn : n + 4 ≤ 940) (e : μ.1 1 1 = nI n) : f_X6_addNumber F 1 v μ = some (fdm 2 1 1 (fun i => nI (byt v (24 - 8 * i))) n μ 4) := by
  unfold f_X6_addNumber
  refine lp_up (fun i => (v, shf i, fdm 2 1 1 (fun i => nI (byt v (24 - 8 * i))) n μ i)) 4 _ ?_ ?_ (by omega)
  · intro i hi k
    show f_X6_addNumber_3 F 1 k v (shf i) (fdm 2 1 1 _ n μ i) = k (v, shf (i + 1), fdm 2 1 1 _ n μ (i + 1))
    obtain ⟨h1, h2, h3⟩ := shf_s i hi
    have g1 := fdm_s (a := 2) (g := fun i => nI (byt v (24 - 8 * i))) e i
    have g2 : ¬ (940 : Int32) ≤ nI (n + i) := by simp (disch := omega) only [pI_lit, nI_leI]; omega
    have g3 : nI (n + i) + 1 = nI (n + i + 1) := by show nI (n + i) + nI 1 = _; rw [nI_add]
    unfold f_X6_addNumber_3
    rw [if_neg h2, g1, if_neg g2, pI_in_t (by omega) (by decide), pg_t, plet, plet, nI_clamp (by omega), h3, rf1.1, rI_a (by decide), g1, g3, h1, byt_x v (by omega)]
    rfl
  · intro k
    show f_X6_addNumber_3 F 1 k v (shf 4) _ = _
    unfold f_X6_addNumber_3
    rw [if_pos shf_e]
theorem num_m {F n : Nat} {v : Int32} {μ : aw_M} (hF : 100 ≤ F) (hn : n + 4 ≤ 940) (e : μ.1 203 2 = nI n) : f_X11_four F 203 v μ = some (fdm 204 203 2 (fun i => (nI (byt v (24 - 8 * i))).toInt8.toInt32) n μ 4) := by
  unfold f_X11_four
  refine lp_up (fun i => (v, shf i, fdm 204 203 2 (fun i => (nI (byt v (24 - 8 * i))).toInt8.toInt32) n μ i)) 4 _ ?_ ?_ (by omega)
  · intro i hi k
    show f_X11_four_3 F 203 k v (shf i) (fdm 204 203 2 _ n μ i) = k (v, shf (i + 1), fdm 204 203 2 _ n μ (i + 1))
    obtain ⟨h1, h2, h3⟩ := shf_s i hi
    have g1 := fdm_s (a := 204) (g := fun i => (nI (byt v (24 - 8 * i))).toInt8.toInt32) e i
    have g3 : nI (n + i) + 1 = nI (n + i + 1) := by show nI (n + i) + nI 1 = _; rw [nI_add]
    unfold f_X11_four_3
    rw [if_neg h2, g1, pI_in_t (by omega) (by decide), pg_t, plet, plet, nI_clamp (by omega), h3, rf203.1, rI_a (by decide), g1, g3, h1, byt_m v (by omega)]
    rfl
  · intro k
    show f_X11_four_3 F 203 k v (shf 4) _ = _
    unfold f_X11_four_3
    rw [if_pos shf_e]
def kF (a k : Nat) : Bool := decide (¬ ((a = 1 ∧ k = 1) ∨ (a = 203 ∧ k = 2) ∨ a = 2 ∨ a = 204))
/-- one number more on both sides -/
theorem num_both {n : Nat} {v : Int32} {μx μm : aw_M} {B : Nat → Nat} (hn : n + 4 ≤ 940) (ex : μx.1 1 1 = nI n) (em : μm.1 203 2 = nI n) (hB : ∀ i, i < n → B i < 256 ∧ μx.1 2 i = nI (B i) ∧ μm.1 204 i = (nI (B i)).toInt8.toInt32) :
    ∃ B' : Nat → Nat, (∀ i, i < n + 4 → B' i < 256 ∧ (fdm 2 1 1 (fun i => nI (byt v (24 - 8 * i))) n μx 4).1 2 i = nI (B' i) ∧ (fdm 204 203 2 (fun i => (nI (byt v (24 - 8 * i))).toInt8.toInt32) n μm 4).1 204 i = (nI (B' i)).toInt8.toInt32) := by
  refine ⟨fun i => if i < n then B i else byt v (24 - 8 * (i - n)), fun i hi => ?_⟩
  by_cases h : i < n
  · simp only [if_pos h]
    have a1 := (fdm_ag (K := fun a k => decide (a = 2 ∧ k < n)) (a := 2) (s := 1) (f := 1) (n := n) (g := fun i => nI (byt v (24 - 8 * i))) (μ := μx) (fun k hk => decide_eq_false (by omega)) rfl 4 2 i (decide_eq_true ⟨rfl, h⟩)).1
    have a2 := (fdm_ag (K := fun a k => decide (a = 204 ∧ k < n)) (a := 204) (s := 203) (f := 2) (n := n) (g := fun i => (nI (byt v (24 - 8 * i))).toInt8.toInt32) (μ := μm) (fun k hk => decide_eq_false (by omega)) rfl 4 204 i (decide_eq_true ⟨rfl, h⟩)).1
    rw [a1, a2]
    exact hB i h
  · simp only [if_neg h]
    obtain ⟨j, rfl⟩ : ∃ j, i = n + j := ⟨i - n, by omega⟩
    have : n + j - n = j := by omega
    rw [fdm_a (by decide) 4 j (by omega), fdm_a (by decide) 4 j (by omega), this]
    exact ⟨byt_lt _ _, rfl, rfl⟩
def fx (v : Int32) (n : Nat) (μ : aw_M) : aw_M := fdm 2 1 1 (fun i => nI (byt v (24 - 8 * i))) n μ 4
def fm (v : Int32) (n : Nat) (μ : aw_M) : aw_M := fdm 204 203 2 (fun i => (nI (byt v (24 - 8 * i))).toInt8.toInt32) n μ 4
def kFd (a k : Nat) : Bool := decide (¬ (a = 1 ∧ k = 1) ∧ ¬ (a = 203 ∧ k = 2) ∧ ¬ a = 2 ∧ ¬ a = 204 ∧ ¬ (a = 203 ∧ k = 0))
theorem fx_ag {v : Int32} {n : Nat} {μ : aw_M} {K : Nat → Nat → Bool} (h1 : K 1 1 = false) (h2 : ∀ k, K 2 k = false) : AgK K μ (fx v n μ) := fdm_ag (fun k _ => h2 k) h1 4
theorem fm_ag {v : Int32} {n : Nat} {μ : aw_M} {K : Nat → Nat → Bool} (h1 : K 203 2 = false) (h2 : ∀ k, K 204 k = false) : AgK K μ (fm v n μ) := fdm_ag (fun k _ => h2 k) h1 4
theorem fx_s {v : Int32} {n : Nat} {μ : aw_M} (e : μ.1 1 1 = nI n) : (fx v n μ).1 1 1 = nI (n + 4) := fdm_s e 4
theorem fm_s {v : Int32} {n : Nat} {μ : aw_M} (e : μ.1 203 2 = nI n) : (fm v n μ).1 203 2 = nI (n + 4) := fdm_s e 4
theorem num_x' {F n : Nat} {v : Int32} {μ : aw_M} (hF : 100 ≤ F) (hn : n + 4 ≤ 940) (e : μ.1 1 1 = nI n) : f_X6_addNumber F 1 v μ = some (fx v n μ) := num_x hF hn e
theorem num_m' {F n : Nat} {v : Int32} {μ : aw_M} (hF : 100 ≤ F) (hn : n + 4 ≤ 940) (e : μ.1 203 2 = nI n) : f_X11_four F 203 v μ = some (fm v n μ) := num_m hF hn e
theorem num_both' {n : Nat} {v : Int32} {μx μm : aw_M} {B : Nat → Nat} (hn : n + 4 ≤ 940) (ex : μx.1 1 1 = nI n) (em : μm.1 203 2 = nI n) (hB : ∀ i, i < n → B i < 256 ∧ μx.1 2 i = nI (B i) ∧ μm.1 204 i = (nI (B i)).toInt8.toInt32) :
    ∃ B' : Nat → Nat, (∀ i, i < n + 4 → B' i < 256 ∧ (fx v n μx).1 2 i = nI (B' i) ∧ (fm v n μm).1 204 i = (nI (B' i)).toInt8.toInt32) := num_both hn ex em hB
theorem p_feed : op_feed R := by
  intro F hF a0 a1 a2 a3 a4 μ hR
  have hR' := R_th (v := 0) hR
  obtain ⟨h1, ⟨n, B, h2, h3, h4, h5⟩, h6⟩ := R_iff.1 hR
  unfold okI f_X10_feed f_X11_feed f_X6_hasRoom
  simp (disch := omega) only [T_some, T_g, T_bind, T_let, T_ite, rf0, rf1, rf4, rf5, rf19, rf23, rf28, rf39, rf53, rf67, rf71, rf76, rf88, rf97, rf101, rf109, rf110, rf124, rf128, rf133, rf144, rf156, rf157, rf171, rf175, rf180, rf191, rf51, rf203, rf203b, rI_k, rI_a, h3]
  have e920 : (920 : Int32) = nI 920 := rfl
  have hlt : (920 < nI n) ↔ 920 < n := by rw [e920]; simp (disch := omega) only [nI_ltI]
  have hle : (nI n + 20 ≤ 940) ↔ n + 20 ≤ 940 := by simp (disch := omega) only [pI_lit, nI_add, nI_leI]
  refine ⟨fun h => ?_, fun h => ?_⟩
  · have hn : ¬ n + 20 ≤ 940 := by have := hlt.1 h; omega
    refine ⟨fun h => (by cases h), fun _ => ?_⟩
    rw [h4]
    exact ⟨fun h => absurd (hle.1 h) hn, fun _ => ⟨trivial, hR'⟩⟩
  · have hn : n + 20 ≤ 940 := by have : ¬ 920 < n := fun q => h (hlt.2 q); omega
    refine ⟨fun _ => ?_, fun h => absurd trivial h⟩
    have x1 : (fx a0 n μ).1 1 1 = nI (n + 4) := fx_s h3
    have x2 : (fx a1 (n + 4) (fx a0 n μ)).1 1 1 = nI (n + 8) := fx_s x1
    have x3 : (fx a2 (n + 8) (fx a1 (n + 4) (fx a0 n μ))).1 1 1 = nI (n + 12) := fx_s x2
    have x4 : (fx a3 (n + 12) (fx a2 (n + 8) (fx a1 (n + 4) (fx a0 n μ)))).1 1 1 = nI (n + 16) := fx_s x3
    have x5 : (fx a4 (n + 16) (fx a3 (n + 12) (fx a2 (n + 8) (fx a1 (n + 4) (fx a0 n μ))))).1 1 1 = nI (n + 20) := fx_s x4
    refine ⟨_, num_x' (by omega) (by omega) h3, _, num_x' (by omega) (by omega) x1, _, num_x' (by omega) (by omega) x2, _, num_x' (by omega) (by omega) x3, _, num_x' (by omega) (by omega) x4, ?_⟩
    have gx : ∀ {K : Nat → Nat → Bool}, K 1 1 = false → (∀ k, K 2 k = false) → AgK K μ (fx a4 (n + 16) (fx a3 (n + 12) (fx a2 (n + 8) (fx a1 (n + 4) (fx a0 n μ))))) := fun k1 k2 => ((((fx_ag k1 k2).tr (fx_ag k1 k2)).tr (fx_ag k1 k2)).tr (fx_ag k1 k2)).tr (fx_ag k1 k2)
    dsimp only
    generalize hX : fx a4 (n + 16) (fx a3 (n + 12) (fx a2 (n + 8) (fx a1 (n + 4) (fx a0 n μ)))) = X at gx x5
    have eX : X.1 203 2 = nI n := by rw [(gx (K := fun a k => decide (a = 203)) rfl (fun _ => rfl) 203 2 rfl).1]; exact h4
    refine ⟨fun _ => ?_, fun h => absurd (show X.1 203 2 + 20 ≤ 940 by rw [eX]; exact hle.2 hn) h⟩
    have m0 : (aw_wI X 203 0 0).1 203 2 = nI n := by rw [rI_k (by decide)]; exact eX
    generalize hM : aw_wI X 203 0 0 = M at m0
    have m1 : (fm a0 n M).1 203 2 = nI (n + 4) := fm_s m0
    have m2 : (fm a1 (n + 4) (fm a0 n M)).1 203 2 = nI (n + 8) := fm_s m1
    have m3 : (fm a2 (n + 8) (fm a1 (n + 4) (fm a0 n M))).1 203 2 = nI (n + 12) := fm_s m2
    have m4 : (fm a3 (n + 12) (fm a2 (n + 8) (fm a1 (n + 4) (fm a0 n M)))).1 203 2 = nI (n + 16) := fm_s m3
    have m5 : (fm a4 (n + 16) (fm a3 (n + 12) (fm a2 (n + 8) (fm a1 (n + 4) (fm a0 n M))))).1 203 2 = nI (n + 20) := fm_s m4
    have gm : ∀ {K : Nat → Nat → Bool}, K 203 2 = false → (∀ k, K 204 k = false) → AgK K M (fm a4 (n + 16) (fm a3 (n + 12) (fm a2 (n + 8) (fm a1 (n + 4) (fm a0 n M))))) := fun k1 k2 => ((((fm_ag k1 k2).tr (fm_ag k1 k2)).tr (fm_ag k1 k2)).tr (fm_ag k1 k2)).tr (fm_ag k1 k2)
    refine ⟨_, num_m' (by omega) (by omega) m0, _, num_m' (by omega) (by omega) m1, _, num_m' (by omega) (by omega) m2, _, num_m' (by omega) (by omega) m3, _, num_m' (by omega) (by omega) m4, ?_⟩
    dsimp only
    have b0 : ∀ i, i < n → B i < 256 ∧ μ.1 2 i = nI (B i) ∧ M.1 204 i = (nI (B i)).toInt8.toInt32 := fun i hi => by
      have : M.1 204 i = μ.1 204 i := by
        rw [← hM, rI_a (by decide)]
        exact (gx (K := fun a k => decide (a = 204)) rfl (fun _ => rfl) 204 i rfl).1
      rw [this]
      exact h5 i hi
    obtain ⟨B1, b1⟩ := num_both' (v := a0) (by omega) h3 m0 b0
    obtain ⟨B2, b2⟩ := num_both' (v := a1) (by omega) x1 m1 b1
    obtain ⟨B3, b3⟩ := num_both' (v := a2) (by omega) x2 m2 b2
    obtain ⟨B4, b4⟩ := num_both' (v := a3) (by omega) x3 m3 b3
    obtain ⟨B5, b5⟩ := num_both' (v := a4) (by omega) x4 m4 b4
    have b5 : ∀ i, i < n + 20 → B5 i < 256 ∧ (fx a4 (n + 16) (fx a3 (n + 12) (fx a2 (n + 8) (fx a1 (n + 4) (fx a0 n μ))))).1 2 i = nI (B5 i) ∧ (fm a4 (n + 16) (fm a3 (n + 12) (fm a2 (n + 8) (fm a1 (n + 4) (fm a0 n M))))).1 204 i = (nI (B5 i)).toInt8.toInt32 := b5
    rw [hX] at b5
    have gg : ∀ {K : Nat → Nat → Bool}, K 1 1 = false → (∀ k, K 2 k = false) → K 203 0 = false → K 203 2 = false → (∀ k, K 204 k = false) → AgK K μ (fm a4 (n + 16) (fm a3 (n + 12) (fm a2 (n + 8) (fm a1 (n + 4) (fm a0 n M))))) := fun {K} k1 k2 k3 k4 k5 => ((gx (K := K) k1 k2).tr (hM ▸ (AgK.rf X).wI k3)).tr (gm k4 k5)
    refine ⟨by rw [x5, m5], R_iff.2 ⟨Rsc_ag (gg rfl (fun _ => rfl) rfl rfl (fun _ => rfl)) h1, ⟨n + 20, B5, hn, ?_, m5, fun i hi => ?_⟩, Rfa_ag (gg rfl (fun _ => rfl) rfl rfl (fun _ => rfl)) h6.1, Rkp_ag (gg rfl (fun _ => rfl) rfl rfl (fun _ => rfl)) h6.2.1, qPz_ag (gg rfl (fun _ => rfl) rfl rfl (fun _ => rfl)) h6.2.2.1, qK_ag (gg rfl (fun _ => rfl) rfl rfl (fun _ => rfl)) h6.2.2.2⟩⟩
    · rw [(gm (K := fun a k => decide (a = 1)) rfl (fun _ => rfl) 1 1 rfl).1, ← hM, rI_a (by decide)]
      exact x5
    · obtain ⟨c1, c2, c3⟩ := b5 i hi
      refine ⟨c1, ?_, c3⟩
      rw [(gm (K := fun a k => decide (a = 2)) rfl (fun _ => rfl) 2 i rfl).1, ← hM, rI_a (by decide)]
      exact c2
