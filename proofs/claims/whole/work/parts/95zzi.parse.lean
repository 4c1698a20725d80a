/-! reading on both sides -/
def RT {α β : Type} (o1 : Option α) (o2 : Option β) (Q : α → β → Prop) : Prop := T o1 fun a => T o2 fun b => Q a b
theorem RT_call {α β α' β' : Type} {o1 : Option α} {o2 : Option β} {f : α → Option α'} {g : β → Option β'} {P : α → β → Prop} {Q : α' → β' → Prop} (h : RT o1 o2 P) (hf : ∀ a b, P a b → RT (f a) (g b) Q) : RT (o1.bind f) (o2.bind g) Q := by
  obtain ⟨a, e1, b, e2, h⟩ := h
  rw [e1, e2]
  exact hf a b h
theorem RT_l {α β α' : Type} {o1 : Option α} {o2 : Option β} {f : α → Option α'} {P : α → Prop} {Q : α' → β → Prop} (h : T o1 P) (hf : ∀ a, P a → RT (f a) o2 Q) : RT (o1.bind f) o2 Q := by
  obtain ⟨a, e1, h⟩ := h
  rw [e1]
  exact hf a h
theorem RT_r {α β β' : Type} {o1 : Option α} {o2 : Option β} {g : β → Option β'} {P : β → Prop} {Q : α → β' → Prop} (h : T o2 P) (hf : ∀ b, P b → RT o1 (g b) Q) : RT o1 (o2.bind g) Q := by
  obtain ⟨b, e2, h⟩ := h
  rw [e2]
  exact hf b h
theorem RT_some {α β : Type} {a : α} {b : β} {Q : α → β → Prop} : RT (some a) (some b) Q ↔ Q a b := by
  unfold RT
  rw [T_some, T_some]
theorem RT_mono {α β : Type} {o1 : Option α} {o2 : Option β} {P Q : α → β → Prop} (h : RT o1 o2 P) (hf : ∀ a b, P a b → Q a b) : RT o1 o2 Q := by
  obtain ⟨a, e1, b, e2, h⟩ := h
  exact ⟨a, e1, b, e2, hf a b h⟩
/-- two loops in step -/
theorem RT_lp {σ τ α β : Type} {f : (σ → Option α) → σ → Option α} {g : (τ → Option β) → τ → Option β} {Q : α → β → Prop} (I : Nat → σ → τ → Prop) (hs : ∀ i s t, I i s t → ∀ k k', (∀ i' s' t', i' < i → I i' s' t' → RT (k s') (k' t') Q) → RT (f k s) (g k' t) Q) : ∀ (i : Nat) {F G : Nat} {s : σ} {t : τ}, i < F → i < G → I i s t → RT (aw_loop f F s) (aw_loop g G t) Q := by
  intro i
  induction i using Nat.strongRecOn with
  | ind i ih =>
    intro F G s t hF hG h
    obtain ⟨F, rfl⟩ : ∃ x, F = x + 1 := ⟨F - 1, by omega⟩
    obtain ⟨G, rfl⟩ : ∃ x, G = x + 1 := ⟨G - 1, by omega⟩
    rw [lp_1, lp_1]
    exact hs i s t h _ _ fun i' s' t' hi h' => ih i' hi (by omega) (by omega) h'
theorem tN_p {B : Nat → Nat} {n lim p : Nat} (hp : p ≤ n) (hK : tK B n lim p ≠ 4 ∧ tK B n lim p ≠ 5) : p < tN B n lim p ∧ tN B n lim p ≤ n := by
  obtain ⟨a1, a2, a3, a4⟩ := tA_p (B := B) hp
  obtain ⟨e1, e2, e3, e4⟩ := tE_p (B := B) hp
  unfold tK at hK
  unfold tN
  by_cases h1 : lim < n ∧ lim ≤ tA B n p
  · rw [if_pos h1] at hK
    exact absurd rfl hK.2
  · rw [if_neg h1] at hK ⊢
    by_cases h2 : n ≤ tA B n p
    · rw [if_pos h2] at hK
      exact absurd rfl hK.1
    · rw [if_neg h2] at hK ⊢
      by_cases h3 : tE B n p = tA B n p
      · rw [if_pos h3]
        omega
      · rw [if_neg h3]
        omega
theorem tK_le (B : Nat → Nat) (n lim p : Nat) : tK B n lim p = 1 ∨ tK B n lim p = 2 ∨ tK B n lim p = 3 ∨ tK B n lim p = 4 ∨ tK B n lim p = 5 := by
  unfold tK tR
  split
  · omega
  · split
    · omega
    · split
      · split <;> omega
      · split
        · omega
        · split <;> omega
theorem nmv_lt {B : Nat → Nat} {a : Nat} (hb : ∀ i, B i < 256 ∨ True) : ∀ k, k ≤ 3 → (∀ i, i < k → dgt (B (a + i)) = true) → nmv B a k < 10 ^ k := by
  intro k
  induction k with
  | zero => intro _ _; exact Nat.lt_succ_self 0
  | succ k ih =>
    intro hk h
    have h1 := ih (by omega) fun i hi => h i (by omega)
    have h2 := of_decide_eq_true (h k (Nat.lt_succ_self k))
    show nmv B a k * 10 + (B (a + k) - 48) < 10 ^ (k + 1)
    rw [Nat.pow_succ]
    omega
theorem tV_lt {B : Nat → Nat} {n lim p : Nat} (hp : p ≤ n) (hK : tK B n lim p = 2) : tVl B n p < 1000 := by
  obtain ⟨e1, e2, e3, e4⟩ := tE_p (B := B) hp
  unfold tK at hK
  unfold tVl
  by_cases h1 : lim < n ∧ lim ≤ tA B n p
  · rw [if_pos h1] at hK; cases hK
  · rw [if_neg h1] at hK
    by_cases h2 : n ≤ tA B n p
    · rw [if_pos h2] at hK; cases hK
    · rw [if_neg h2] at hK
      by_cases h3 : tE B n p = tA B n p
      · rw [if_pos h3] at hK
        split at hK <;> cases hK
      · rw [if_neg h3] at hK ⊢
        unfold tR at hK
        by_cases c : alf sml B (tA B n p) (tE B n p) = true ∧ tE B n p ≤ tA B n p + 7
        · rw [if_pos c] at hK; cases hK
        · rw [if_neg c] at hK
          by_cases c2 : alf dgt B (tA B n p) (tE B n p) = true ∧ tE B n p ≤ tA B n p + 3
          · have h5 := nmv_lt (B := B) (a := tA B n p) (fun _ => .inr trivial) (tE B n p - tA B n p) (by omega) fun i hi => alf_t.1 c2.1 _ (by omega) (by omega)
            have h6 : 10 ^ (tE B n p - tA B n p) ≤ 10 ^ 3 := Nat.pow_le_pow_right (by decide) (by omega)
            omega
          · rw [if_neg c2] at hK; cases hK
theorem tW_ok {B : Nat → Nat} {n lim p : Nat} (hp : p ≤ n) (hK : tK B n lim p = 1) : wordok (tW B n p) := by
  obtain ⟨e1, e2, e3, e4⟩ := tE_p (B := B) hp
  unfold tK at hK
  by_cases h1 : lim < n ∧ lim ≤ tA B n p
  · rw [if_pos h1] at hK; cases hK
  · rw [if_neg h1] at hK
    by_cases h2 : n ≤ tA B n p
    · rw [if_pos h2] at hK; cases hK
    · rw [if_neg h2] at hK
      by_cases h3 : tE B n p = tA B n p
      · rw [if_pos h3] at hK
        split at hK <;> cases hK
      · rw [if_neg h3] at hK
        unfold tR at hK
        by_cases c : alf sml B (tA B n p) (tE B n p) = true ∧ tE B n p ≤ tA B n p + 7
        · exact wd_ok c.1 (by omega) c.2
        · rw [if_neg c] at hK
          split at hK <;> cases hK
theorem tS_le {B : Nat → Nat} {n lim p : Nat} (hp : p ≤ n) : tSt B n lim p ≤ n := by
  have := tA_p (B := B) hp
  unfold tSt
  split <;> omega
/-- the token at p is the latest -/
def PXk (B : Nat → Nat) (n lim p : Nat) (μ : aw_M) : Prop := p ≤ n ∧ lim ≤ 900 ∧ XC B n lim μ ∧ XT B n lim p μ
def PMk (B : Nat → Nat) (n lim p : Nat) (μ : aw_M) : Prop := p ≤ n ∧ lim ≤ 900 ∧ MC B n lim μ ∧ MTk B n lim p μ
def kXp (a k : Nat) : Bool := decide (¬ (a = 1 ∧ 4 ≤ k ∧ k ≤ 12))
def kMp (a k : Nat) : Bool := decide (¬ (a = 203 ∧ (k = 4 ∨ (11 ≤ k ∧ k ≤ 18))))
/-- both have failed alike -/
def FF (n : Nat) (μ ν : aw_M) : Prop := ∃ v a, 1 ≤ v ∧ v ≤ 4 ∧ a ≤ n ∧ μ.1 1 11 = nI v ∧ μ.1 1 12 = nI a ∧ ν.1 203 15 = nI v ∧ ν.1 203 16 = nI a
theorem pstep_x {F n lim p : Nat} {B : Nat → Nat} {μ : aw_M} (hF : 2000 ≤ F) (px : PXk B n lim p μ) (hK : tK B n lim p ≠ 4 ∧ tK B n lim p ≠ 5) : T (f_X6_step F 1 μ) fun μ' => AgK kXs μ μ' ∧ PXk B n lim (tN B n lim p) μ' := by
  obtain ⟨h1, h2, h3, h4⟩ := px
  refine T_mono (step_x hF h2 h3 h4.1 (tN_p h1 hK).2) ?_
  rintro μ' ⟨ag, xt⟩
  exact ⟨ag, (tN_p h1 hK).2, h2, XC_ag ag (fun a k h => decide_eq_true (by omega)) h3, xt⟩
theorem pstep_m {F n lim p : Nat} {B : Nat → Nat} {μ : aw_M} (hF : 2000 ≤ F) (pm : PMk B n lim p μ) (hK : tK B n lim p ≠ 4 ∧ tK B n lim p ≠ 5) : T (f_X11_next F 203 μ) fun μ' => AgK kXm μ μ' ∧ PMk B n lim (tN B n lim p) μ' := by
  obtain ⟨h1, h2, h3, h4⟩ := pm
  refine T_mono (next_m hF h2 h3 h4.1 (tN_p h1 hK).2) ?_
  rintro μ' ⟨ag, xt⟩
  exact ⟨ag, (tN_p h1 hK).2, h2, MC_ag ag (fun a k h => decide_eq_true (by omega)) h3, xt⟩
theorem fail_x {F n lim p v : Nat} {B : Nat → Nat} {μ : aw_M} (px : PXk B n lim p μ) : T (f_X6_fail F 1 (nI v) μ) fun r => r.1 = false ∧ AgK kXp μ r.2 ∧ r.2.1 1 11 = nI v ∧ r.2.1 1 12 = nI (tSt B n lim p) := by
  unfold f_X6_fail
  rw [plet, plet, T_some]
  refine ⟨rfl, ((AgK.rf μ).wI (decide_eq_false (by omega))).wI (decide_eq_false (by omega)), ?_, ?_⟩
  · rw [rI_k (by decide), rI_s]
  · rw [rI_s, rI_k (by decide)]
    exact px.2.2.2.2.1
theorem bad_m {F n lim p v : Nat} {B : Nat → Nat} {μ : aw_M} (pm : PMk B n lim p μ) : T (f_X11_bad F 203 (nI v) μ) fun r => r.1 = false ∧ AgK kMp μ r.2 ∧ r.2.1 203 15 = nI v ∧ r.2.1 203 16 = nI (tSt B n lim p) := by
  unfold f_X11_bad
  rw [plet, plet, T_some]
  refine ⟨rfl, ((AgK.rf μ).wI (decide_eq_false (by omega))).wI (decide_eq_false (by omega)), ?_, ?_⟩
  · rw [rI_k (by decide), rI_s]
  · rw [rI_s, rI_k (by decide)]
    exact pm.2.2.2.2.1
/-- what a number in lo .. hi - 1 would be at p: 0 well, 1 none, 2 another -/
def nu (B : Nat → Nat) (n lim p lo hi : Nat) : Nat := if tK B n lim p = 2 then (if lo ≤ tVl B n p ∧ tVl B n p < hi then 0 else 2) else 1
theorem nI_le1 {a b : Nat} (ha : a < 2 ^ 30) (hb : b < 2 ^ 30) : nI a ≤ nI b - 1 ↔ a < b := by
  by_cases h0 : b = 0
  · subst h0
    constructor
    · intro h
      have h1 : nI 0 - 1 < 0 := by decide
      have h2 := nI_pos' (n := a) (by omega)
      grind
    · intro h; omega
  · rw [show (1 : Int32) = nI 1 from rfl, nI_sub (by omega), nI_leI (by omega) (by omega)]
    omega
theorem see_x {F n lim p lo hi : Nat} {B : Nat → Nat} {μ : aw_M} (px : PXk B n lim p μ) (hlo : lo < 1000) (hhi : hi < 1001) : T (f_X6_seeNumber F 1 (nI lo) (nI hi - 1) μ) fun r => (nu B n lim p lo hi = 0 ∧ r = (true, μ)) ∨ (nu B n lim p lo hi ≠ 0 ∧ r.1 = false ∧ AgK kXp μ r.2 ∧ r.2.1 1 11 = nI (nu B n lim p lo hi) ∧ r.2.1 1 12 = nI (tSt B n lim p)) := by
  obtain ⟨g4, g5, g6, g1, g7, g10⟩ := px.2.2.2
  have hk := tK_le B n lim p
  unfold f_X6_seeNumber f_X6_seeNumber_38
  rw [g6]
  by_cases h2 : tK B n lim p = 2
  · have hv := tV_lt px.1 h2
    have f30 : ¬ (lo ≤ tVl B n p ∧ tVl B n p < hi) → T (f_X6_seeNumber_30 F 1 μ) fun r => (nu B n lim p lo hi = 0 ∧ r = (true, μ)) ∨ (nu B n lim p lo hi ≠ 0 ∧ r.1 = false ∧ AgK kXp μ r.2 ∧ r.2.1 1 11 = nI (nu B n lim p lo hi) ∧ r.2.1 1 12 = nI (tSt B n lim p)) := fun h => by
      have e : nu B n lim p lo hi = 2 := by unfold nu; rw [if_pos h2, if_neg h]
      unfold f_X6_seeNumber_30
      refine T_call (fail_x (v := 2) px) ?_
      rintro ⟨r1, μ1⟩ ⟨t1, t2, t3, t4⟩
      dsimp only at t1 t2 t3 t4 ⊢
      subst t1
      rw [if_neg Bool.false_ne_true, T_some, e]
      exact .inr ⟨by decide, rfl, t2, t3, t4⟩
    rw [if_pos (show nI (tK B n lim p) = 2 by rw [h2]; rfl), g7 h2]
    by_cases c1 : tVl B n p < lo
    · rw [if_pos (nI_lt c1 (by omega))]
      exact f30 fun h => by omega
    · rw [if_neg (nI_nlt (by omega) (by omega))]
      by_cases c2 : tVl B n p < hi
      · rw [if_pos ((nI_le1 (by omega) (by omega)).2 c2), T_some]
        exact .inl ⟨by unfold nu; rw [if_pos h2, if_pos ⟨by omega, c2⟩], rfl⟩
      · rw [if_neg fun h => c2 ((nI_le1 (by omega) (by omega)).1 h)]
        exact f30 fun h => c2 h.2
  · have e : nu B n lim p lo hi = 1 := by unfold nu; rw [if_neg h2]
    rw [if_neg (show ¬ nI (tK B n lim p) = 2 from fun h => h2 ((nI_eq (b := 2) (by omega) (by decide)).1 h))]
    refine T_call (fail_x (v := 1) px) ?_
    rintro ⟨r1, μ1⟩ ⟨t1, t2, t3, t4⟩
    dsimp only at t1 t2 t3 t4 ⊢
    subst t1
    rw [T_some, e]
    exact .inr ⟨by decide, rfl, t2, t3, t4⟩
theorem takes_m {F n lim p lo hi : Nat} {B : Nat → Nat} {μ : aw_M} (hF : 2000 ≤ F) (pm : PMk B n lim p μ) (hlo : lo < 1000) (hhi : hi < 1001) : T (f_X11_takes F 203 (nI lo) (nI hi - 1) μ) fun r => (nu B n lim p lo hi = 0 ∧ r.1 = true ∧ AgK kMp μ r.2 ∧ PMk B n lim (tN B n lim p) r.2 ∧ r.2.1 203 18 = nI (tVl B n p) ∧ r.2.1 203 15 = μ.1 203 15) ∨ (nu B n lim p lo hi ≠ 0 ∧ r.1 = false ∧ AgK kMp μ r.2 ∧ r.2.1 203 15 = nI (nu B n lim p lo hi) ∧ r.2.1 203 16 = nI (tSt B n lim p)) := by
  obtain ⟨g4, g12, g11, g17, g14⟩ := pm.2.2.2
  have hk := tK_le B n lim p
  have hkm : ∀ k, (k = 1 ∨ k = 2 ∨ k = 3 ∨ k = 4 ∨ k = 5) → (nI (km k) = 2 ↔ k = 2) := by
    rintro k (rfl | rfl | rfl | rfl | rfl) <;> decide
  unfold f_X11_takes
  rw [g11]
  by_cases h2 : tK B n lim p = 2
  · have hv := tV_lt pm.1 h2
    rw [if_pos ((hkm _ hk).2 h2), g14 (.inl h2), isIn_eq, Option.bind_some]
    dsimp only
    by_cases c : lo ≤ tVl B n p ∧ tVl B n p < hi
    · rw [if_pos (decide_eq_true ⟨nI_le c.1 (by omega), (nI_le1 (by omega) (by omega)).2 c.2⟩), plet]
      have pm1 : PMk B n lim p (aw_wI μ 203 18 (μ.1 203 14)) := ⟨pm.1, pm.2.1, MC_ag ((AgK.rf μ).wI (K := kMp) (decide_eq_false (by omega))) (fun a k h => decide_eq_true (by omega)) pm.2.2.1, by
        refine ⟨?_, ?_, ?_, fun h => ?_, fun h => ?_⟩
        · rw [rI_k (by decide)]; exact g4
        · rw [rI_k (by decide)]; exact g12
        · rw [rI_k (by decide)]; exact g11
        · rw [rI_2]; exact g17 h
        · rw [rI_k (by decide)]; exact g14 h⟩
      have e18 : (aw_wI μ 203 18 (μ.1 203 14)).1 203 18 = nI (tVl B n p) := by rw [rI_s]; exact g14 (.inl h2)
      have ag1 : AgK kMp μ (aw_wI μ 203 18 (μ.1 203 14)) := (AgK.rf μ).wI (decide_eq_false (by omega))
      have e15 : (aw_wI μ 203 18 (μ.1 203 14)).1 203 15 = μ.1 203 15 := rI_k (by decide)
      generalize aw_wI μ 203 18 (μ.1 203 14) = μ1 at pm1 e18 ag1 e15 ⊢
      refine T_call (pstep_m (B := B) (n := n) (lim := lim) (p := p) hF pm1 (by rw [h2]; decide)) ?_
      rintro μ2 ⟨ag2, pm2⟩
      rw [T_some]
      refine .inl ⟨by unfold nu; rw [if_pos h2, if_pos c], rfl, ag1.tr (ag2.sub fun a k h => decide_eq_true (by have := of_decide_eq_true h; omega)), pm2, ?_, ?_⟩
      · rw [(ag2 203 18 (decide_eq_true (by omega))).1]
        exact e18
      · rw [(ag2 203 15 (decide_eq_true (by omega))).1]
        exact e15
    · rw [if_neg (show ¬ decide (nI lo ≤ nI (tVl B n p) ∧ nI (tVl B n p) ≤ nI hi - 1) = true from by
        rw [decide_eq_true_eq]
        rintro ⟨h3, h4⟩
        exact c ⟨(nI_leI (by omega) (by omega)).1 h3, (nI_le1 (by omega) (by omega)).1 h4⟩)]
      have e : nu B n lim p lo hi = 2 := by unfold nu; rw [if_pos h2, if_neg c]
      refine T_call (bad_m (v := 2) pm) ?_
      rintro ⟨r1, μ1⟩ ⟨t1, t2, t3, t4⟩
      dsimp only at t1 t2 t3 t4 ⊢
      subst t1
      rw [T_some, e]
      exact .inr ⟨by decide, rfl, t2, t3, t4⟩
  · have e : nu B n lim p lo hi = 1 := by unfold nu; rw [if_neg h2]
    rw [if_neg fun h => h2 ((hkm _ hk).1 h)]
    refine T_call (bad_m (v := 1) pm) ?_
    rintro ⟨r1, μ1⟩ ⟨t1, t2, t3, t4⟩
    dsimp only at t1 t2 t3 t4 ⊢
    subst t1
    rw [T_some, e]
    exact .inr ⟨by decide, rfl, t2, t3, t4⟩
