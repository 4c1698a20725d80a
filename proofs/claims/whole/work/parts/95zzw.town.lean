/-! the town's text -/
def T00 : Nat → Nat → Nat := fun f i => if f = 12 ∧ i < 3 then 1 else 0
theorem T00_wf : qTWF T00 := by
  have h0 : ∀ f i, f ≠ 12 → T00 f i = 0 := fun f i h => if_neg fun h2 => h h2.1
  refine ⟨⟨by decide, by decide, by decide, by decide⟩, fun q hq => absurd hq (Nat.not_lt_zero q), fun q _ => h0 4 q (by decide), fun c hc => absurd hc (Nat.not_lt_zero c), fun f h1 h2 => ?_, fun q r hq => absurd hq (Nat.not_lt_zero q), fun i => ?_⟩
  · have hc : cnt (T00 f) 100 = 0 := cnt_0 100 fun k _ => h0 f k (by omega)
    refine ⟨fun a => ⟨by rw [h0 f a (by omega)]; decide, fun h => ?_⟩, by omega, ?_⟩
    · rw [h0 f a (by omega)] at h
      cases h
    · rw [hc, h0 13 _ (by decide)]
  · unfold T00
    split <;> decide
theorem empty_x {F : Nat} {μ : aw_M} (hF : 2000 ≤ F) : T (f_X8_empty F 53 μ) fun μ' => AgK (fun a k => decide (¬ (53 ≤ a ∧ a ≤ 66))) μ μ' ∧ (∀ k, k < 5 → μ'.1 53 k = 0) ∧ μ'.1 53 18 = 0 ∧ (∀ q, q < 9 → μ'.1 58 q = -1) ∧ (∀ i, i < 4 → μ'.1 63 i = 0) ∧ (∀ a, a < 100 → μ'.1 64 a = 0 ∧ μ'.1 65 a = -1) ∧ ∀ i, i < 4 → μ'.1 66 i = if i < 3 then 1 else 0 := by
  have r : aw_rf 53 9 = 58 ∧ aw_rf 53 14 = 63 ∧ aw_rf 53 15 = 64 ∧ aw_rf 53 16 = 65 ∧ aw_rf 53 17 = 66 := by simp only [rf0, rf1, rf4, rf5, rf19, rf23, rf28, rf39, rf53, rf67, rf71, rf76, rf88, rf97, rf101, rf109, rf110, rf124, rf128, rf133, rf144, rf156, rf157, rf171, rf175, rf180, rf191, rf51, and_self]
  unfold f_X8_empty
  rw [plet, plet, plet, plet, plet, plet, r.1, r.2.1, r.2.2.1, r.2.2.2.1, r.2.2.2.2, fil_wr (n := 9) hF (by decide) (by decide), Option.bind_some, fil_wr (n := 4) hF (by decide) (by decide), Option.bind_some, fil_wr (n := 100) hF (by decide) (by decide), Option.bind_some, fil_wr (n := 100) hF (by decide) (by decide), Option.bind_some, fil_wr (n := 4) hF (by decide) (by decide), Option.bind_some, show aw_in 3 4 = true by decide, pg_t, plet, show (3 : Int32).toNatClampNeg = 3 by decide, T_some]
  have hk : ∀ (a : Nat) {X : Prop} (k : Nat), 53 ≤ a → a ≤ 66 → decide (¬ (53 ≤ a ∧ a ≤ 66)) = true → X := fun a X k h1 h2 h => by rw [decide_eq_false (by omega)] at h; cases h
  refine ⟨?_, ?_⟩
  · refine AgK.wI (AgK.wA (AgK.wA (AgK.wA (AgK.wA (AgK.wA (AgK.wI (AgK.wI (AgK.wI (AgK.wI (AgK.wI (AgK.wI (AgK.rf μ) ?_) ?_) ?_) ?_) ?_) ?_) ?_) ?_) ?_) ?_) ?_) ?_
    all_goals first | exact decide_eq_false (by omega) | exact fun k h => hk _ k (by decide) (by decide) h
  · simp (disch := decide) only [rA_s, rA_a, rI_s, rI_k, rI_a]
    refine ⟨fun k hk => ?_, trivial, fun q hq => wr0 hq, fun i hi => wr0 hi, fun a ha => ⟨wr0 ha, wr0 ha⟩, fun i hi => ?_⟩
    · have : k = 0 ∨ k = 1 ∨ k = 2 ∨ k = 3 ∨ k = 4 := by omega
      rcases this with rfl | rfl | rfl | rfl | rfl <;> simp (disch := decide) only [rI_s, rI_k]
    · by_cases e : i = 3
      · rw [e, rI_s, if_neg (by decide)]
      · rw [rI_k e, if_pos (by omega), rA_s, wr0 hi]
/-- what the reference lays over its row -/
def S0 (ν : aw_M) : Nat → Int32 := wr (ν.1 205) 0 1155 (fun k => if k < 427 then ν.1 206 k else 0)
theorem town124_m {F nq : Nat} {ν : aw_M} (hF : 2000 ≤ F) (hn : nq ≤ 9) (h2 : ν.1 206 2 = nI nq) : T (f_X11_town_124 F 203 ν) fun r => r.1 = ν.1 203 19 ∧ AgK (fun a k => decide (a ≠ 205 ∧ a ≠ 208)) ν r.2 ∧ r.2.1 205 = sBegin nq 0 (S0 ν) ∧ ∀ q, q < 9 → r.2.2 208 q = ν.2 208 (9 + q) := by
  have r7 : aw_rf 203 7 = 206 ∧ aw_rf 203 6 = 205 ∧ aw_rf 203 9 = 208 := by simp only [rf203, rf203b, and_self]
  have kA : ∀ g : Nat → Int32, AgK (fun a k => decide (a ≠ 205 ∧ a ≠ 208)) ν (aset ν 205 g) := fun g => (AgK.rf ν).wA (fun k hk => absurd rfl (of_decide_eq_true hk).1)
  unfold f_X11_town_124
  refine T_lp (fun i s => s = (nI i, aset ν 205 (wr (ν.1 205) 0 i (fun k => if k < 427 then ν.1 206 k else 0)))) 1155 (by omega) (by rw [wr_0, aset_self]; rfl) ?_ ?_
  · rintro i hi _ rfl k hk
    have hw := wr_s (S := ν.1 205) (b := 0) (i := i) (g := fun k => if k < 427 then ν.1 206 k else 0)
    rw [Nat.zero_add] at hw
    have fin : ∀ z, z = (if i < 427 then ν.1 206 i else 0) → T (f_X11_town_155 F 203 k (nI i) z (nI i) (aset ν 205 (wr (ν.1 205) 0 i (fun k => if k < 427 then ν.1 206 k else 0)))) fun r => r.1 = ν.1 203 19 ∧ AgK (fun a k => decide (a ≠ 205 ∧ a ≠ 208)) ν r.2 ∧ r.2.1 205 = sBegin nq 0 (S0 ν) ∧ ∀ q, q < 9 → r.2.2 208 q = ν.2 208 (9 + q) := fun z hz => by
      unfold f_X11_town_155
      rw [pI_in_t hi (by decide), pg_t, plet, r7.2.1, nI_clamp (by omega), wI_wA, nI_1, hz]
      refine hk _ ?_
      rw [← hw]
    show T (f_X11_town_126 F 203 k (nI i) (aset ν 205 _)) _
    unfold f_X11_town_126
    rw [if_neg (show ¬ (1155 : Int32) ≤ nI i from (show ¬ nI 1155 ≤ nI i from nI_ge hi (by decide)))]
    by_cases c : i < 427
    · rw [if_neg (show ¬ (427 : Int32) ≤ nI i from (show ¬ nI 427 ≤ nI i from nI_ge c (by decide))), pI_in_t c (by decide), pg_t, r7.1, nI_clamp (by omega), rA_a (by decide)]
      exact fin _ (if_pos c).symm
    · rw [if_pos (show (427 : Int32) ≤ nI i from (show nI 427 ≤ nI i from nI_le (by omega) (by omega)))]
      exact fin _ (if_neg c).symm
  rintro _ rfl k
  show T (f_X11_town_126 F 203 k (nI 1155) (aset ν 205 (S0 ν))) _
  unfold f_X11_town_126 f_X11_town_162
  rw [if_pos (show (1155 : Int32) ≤ nI 1155 by decide)]
  refine T_lp (fun i s => ∃ ν', s = (nI i, aset ν' 205 (S0 ν)) ∧ AgK (fun a k => decide (a ≠ 208)) ν ν' ∧ (∀ k, 9 ≤ k → ν'.2 208 k = ν.2 208 k) ∧ ∀ q, q < i → ν'.2 208 q = ν.2 208 (9 + q)) 9 (by omega) ⟨ν, rfl, AgK.rf ν, fun k _ => rfl, fun q h => absurd h (Nat.not_lt_zero q)⟩ ?_ ?_
  · rintro i hi _ ⟨ν', rfl, ag, w1, w2⟩ k hk
    show T (f_X11_town_164 F 203 k (nI i) (aset ν' 205 (S0 ν))) _
    unfold f_X11_town_164
    rw [if_neg (show ¬ (9 : Int32) ≤ nI i from (show ¬ nI 9 ≤ nI i from nI_ge hi (by decide))), show (9 : Int32) + nI i = nI (9 + i) from nI_add 9 i, pI_in_t (by omega) (by decide), pg_t, pI_in_t (by omega) (by decide), pg_t, plet, r7.2.2, nI_clamp (by omega), nI_clamp (by omega), nI_1]
    refine hk _ ⟨aw_wL ν' 208 i (ν'.2 208 (9 + i)), rfl, ag.wL (decide_eq_false (by omega)), fun k hk => ?_, fun q hq => ?_⟩
    · rw [rL_k (by omega)]; exact w1 k hk
    · by_cases e : q = i
      · rw [e, rL_s]; exact w1 _ (by omega)
      · rw [rL_k e]; exact w2 q (by omega)
  · rintro _ ⟨ν', rfl, ag, w1, w2⟩ k
    show T (f_X11_town_164 F 203 k (nI 9) (aset ν' 205 (S0 ν))) _
    unfold f_X11_town_164 f_X11_town_191
    have s2 : S0 ν 2 = nI nq := by
      unfold S0
      rw [wr0 (by decide), if_pos (by decide)]
      exact h2
    rw [if_pos (show (9 : Int32) ≤ nI 9 by decide), begins_m (by omega) hn s2, Option.bind_some, T_some]
    refine ⟨?_, (ag.sub fun a k h => decide_eq_true (by have := of_decide_eq_true h; omega)).wA (fun k hk => absurd rfl (of_decide_eq_true hk).1), rA_s, w2⟩
    show (aset ν' 205 (sBegin nq 0 (S0 ν))).1 203 19 = _
    rw [rA_a (by decide)]
    exact (ag 203 19 (decide_eq_true (by omega))).1
def kTnX (a k : Nat) : Bool := decide (¬ (a = 1 ∧ 3 ≤ k ∧ k ≤ 12) ∧ ¬ (53 ≤ a ∧ a ≤ 66))
def kTnM (a k : Nat) : Bool := decide (¬ (a = 203 ∧ (k = 0 ∨ (2 ≤ k ∧ k ≤ 5) ∨ (11 ≤ k ∧ k ≤ 21))) ∧ a ≠ 205 ∧ a ≠ 206 ∧ a ≠ 208)
/-- how a town's text ends -/
def TnEnd (n : Nat) (μ ν : aw_M) (r1 : Bool × aw_M) (r2 : Int32 × aw_M) : Prop :=
  AgK kTnX μ r1.2 ∧ AgK kTnM ν r2.2 ∧ r2.2.1 203 2 = 0 ∧
  ((r1.1 = true ∧ ∃ (C : Nat → Nat → Nat) (W : Nat → List Nat) (c : Nat) (S : Nat → Int32), c ≤ 900 ∧ qTWF C ∧ qTX C r1.2 53 ∧ qTM C S ∧ (∀ i, 427 ≤ i → i < 1155 → S i = 0) ∧ (∀ q, q < C 0 2 → wordok (W q) ∧ r1.2.2 54 q = e27 (W q) ∧ r2.2.2 208 q = e8 (W q)) ∧ (∀ q r, q < C 0 2 → r < C 0 2 → W q = W r → q = r) ∧ (∀ q, q < C 0 2 → ∀ i, i < 20 → W q ≠ kw i) ∧ r1.2.1 53 0 = nI c ∧ r2.1 = nI c ∧ r2.2.1 203 15 = 0 ∧ r2.2.1 205 = sBegin (C 0 2) 0 S) ∨
   (r1.1 = false ∧ r2.2.1 205 = ν.1 205 ∧ (∀ q, q < 9 → r2.2.2 208 q = ν.2 208 q) ∧ ∃ v a, 1 ≤ v ∧ v ≤ 4 ∧ a ≤ n ∧ r1.2.1 1 11 = nI v ∧ r1.2.1 1 12 = nI a ∧ r2.1 = -1 - nI a ∧ r2.2.1 203 15 = nI v))
theorem town_t {F n : Nat} {B : Nat → Nat} {μ ν : aw_M} (hF : 100000 ≤ F) (sx : StX n B μ) (sm : StM n B ν) : RT (f_X8_readFrom F 53 1 μ) (f_X11_town F 203 ν) (TnEnd n μ ν) := by
  have r7 : aw_rf 203 7 = 206 := by simp only [rf203, rf203b]
  have n9 := sx.1
  unfold f_X8_readFrom f_X11_town
  refine RT_l (empty_x (by omega)) ?_
  rintro μ0 ⟨ag0, z53, z18, z58, z63, z64, z66⟩
  have sx0 : StX n B μ0 := ⟨sx.1, by rw [(ag0 1 1 (decide_eq_true (by omega))).1]; exact sx.2.1, fun i hi => ⟨(sx.2.2.1 i hi).1, by rw [(ag0 2 i (decide_eq_true (by omega))).1]; exact (sx.2.2.1 i hi).2⟩, fun i hi => by rw [(ag0 3 i (decide_eq_true (by omega))).2]; exact sx.2.2.2 i hi⟩
  refine RT_l (open_x (lim := 900) (by omega) (by decide) sx0) ?_
  rintro μ1 ⟨ag1, px1⟩
  have fx1 : AgK kTnX μ μ1 := (ag0.sub fun a k h => decide_eq_true (by have := of_decide_eq_true h; omega)).tr (ag1.sub fun a k h => decide_eq_true (by have := of_decide_eq_true h; omega))
  have g1 : ∀ a k, 53 ≤ a → a ≤ 66 → μ1.1 a k = μ0.1 a k := fun a k h1 h2 => (ag1 a k (decide_eq_true (by omega))).1
  rw [plet]
  refine RT_r (takenT_m (lim := 900) sm) ?_
  rintro νa ⟨agm, opn⟩
  rw [plet]
  generalize aw_wI νa 203 15 0 = ν1 at agm opn ⊢
  rw [plet, plet, plet]
  have agb : AgK (fun a k => decide (¬ (a = 203 ∧ 19 ≤ k ∧ k ≤ 21))) ν1 (aw_wI (aw_wI (aw_wI ν1 203 19 0) 203 20 0) 203 21 0) := (((AgK.rf ν1).wI (decide_eq_false (by omega))).wI (decide_eq_false (by omega))).wI (decide_eq_false (by omega))
  have b19 : (aw_wI (aw_wI (aw_wI ν1 203 19 0) 203 20 0) 203 21 0).1 203 19 = nI 0 := by rw [rI_k (by decide), rI_k (by decide), rI_s]; rfl
  have b20 : (aw_wI (aw_wI (aw_wI ν1 203 19 0) 203 20 0) 203 21 0).1 203 20 = nI 0 := by rw [rI_k (by decide), rI_s]; rfl
  have b21 : (aw_wI (aw_wI (aw_wI ν1 203 19 0) 203 20 0) 203 21 0).1 203 21 = nI 0 := by rw [rI_s]; rfl
  generalize aw_wI (aw_wI (aw_wI ν1 203 19 0) 203 20 0) 203 21 0 = ν2 at agb b19 b20 b21 ⊢
  have mc2 : MC B n 900 ν2 := MC_ag agb (fun a k h => decide_eq_true (by omega)) opn.1
  have e4 : ν2.1 203 4 = nI 0 := by rw [(agb 203 4 (decide_eq_true (by omega))).1]; exact opn.2.1
  have e15 : ν2.1 203 15 = 0 := by rw [(agb 203 15 (decide_eq_true (by omega))).1]; exact opn.2.2.1
  have e2 : ν2.1 203 2 = 0 := by rw [(agb 203 2 (decide_eq_true (by omega))).1]; exact opn.2.2.2
  have fm2 : AgK kTnM ν ν2 := (agm.sub fun a k h => decide_eq_true (by have := of_decide_eq_true h; omega)).tr (agb.sub fun a k h => decide_eq_true (by have := of_decide_eq_true h; omega))
  have e205 : ν2.1 205 = ν.1 205 := (agb.a fun k => decide_eq_true (by omega)).trans (agm.a fun k => decide_eq_true (by omega))
  have e208 : ∀ q, ν2.2 208 q = ν.2 208 q := fun q => by rw [(agb 208 q (decide_eq_true (by omega))).2, (agm 208 q (decide_eq_true (by omega))).2]
  clear agm agb opn
  refine RT_lpr (fun i s => ∃ ν', s = (nI i, ν') ∧ AgK (fun a k => decide (a ≠ 206)) ν2 ν' ∧ ∀ k, k < i → ν'.1 206 k = 0) 427 (by omega) ⟨ν2, rfl, AgK.rf ν2, fun k hk => absurd hk (Nat.not_lt_zero _)⟩ ?_ ?_
  · rintro i hi _ ⟨ν', rfl, ag, w⟩ k hk
    show RT _ (f_X11_town_34 F 203 k (nI i) ν') _
    unfold f_X11_town_34
    rw [if_neg (show ¬ (427 : Int32) ≤ nI i from (show ¬ nI 427 ≤ nI i from nI_ge hi (by decide))), pI_in_t (by omega) (by decide), pg_t, plet, r7, nI_clamp (by omega), nI_1]
    refine hk _ ⟨_, rfl, ag.wI (decide_eq_false (by omega)), fun j hj => ?_⟩
    by_cases e : j = i
    · rw [e, rI_s]
    · rw [rI_k e]; exact w j (by omega)
  rintro _ ⟨ν3, rfl, ag3, w3⟩ k
  show RT _ (f_X11_town_34 F 203 k (nI 427) ν3) _
  unfold f_X11_town_34 f_X11_town_54
  rw [if_pos (show (427 : Int32) ≤ nI 427 by decide)]
  refine RT_lpr (fun i s => ∃ ν', s = (nI i, ν') ∧ AgK (fun a k => decide (a ≠ 206)) ν2 ν' ∧ (∀ k, k < 427 → ν'.1 206 k = if 7 ≤ k ∧ k < 7 + i then 1 else 0)) 3 (by omega) ⟨ν3, rfl, ag3, fun k hk => by rw [if_neg (by omega)]; exact w3 k hk⟩ ?_ ?_
  · rintro i hi _ ⟨ν', rfl, ag, w⟩ k hk
    show RT _ (f_X11_town_56 F 203 k (nI i) ν') _
    unfold f_X11_town_56
    rw [if_neg (show ¬ (3 : Int32) ≤ nI i from (show ¬ nI 3 ≤ nI i from nI_ge hi (by decide))), show (7 : Int32) + nI i = nI (7 + i) from nI_add 7 i, pI_in_t (by omega) (by decide), pg_t, plet, r7, nI_clamp (by omega), nI_1]
    refine hk _ ⟨_, rfl, ag.wI (decide_eq_false (by omega)), fun j hj => ?_⟩
    by_cases e : j = 7 + i
    · rw [e, rI_s, if_pos (by omega)]
    · rw [rI_k e, w j hj]
      by_cases c : 7 ≤ j ∧ j < 7 + i
      · rw [if_pos c, if_pos (by omega)]
      · rw [if_neg c, if_neg (by omega)]
  rintro _ ⟨ν4, rfl, ag4, w4⟩ k
  show RT _ (f_X11_town_56 F 203 k (nI 3) ν4) _
  unfold f_X11_town_56 f_X11_town_77
  rw [if_pos (show (3 : Int32) ≤ nI 3 by decide)]
  have mc4 : MC B n 900 ν4 := MC_ag ag4 (fun a k h => decide_eq_true (by omega)) mc2
  have f4 : ∀ a k, a ≠ 206 → ν4.1 a k = ν2.1 a k ∧ ν4.2 a k = ν2.2 a k := fun a k h => ag4 a k (decide_eq_true h)
  refine RT_r (next_m (p := 0) (by omega) (by decide) mc4 (by rw [(f4 203 4 (by decide)).1]; exact e4) (Nat.zero_le n)) ?_
  rintro ν5 ⟨ag5, mt5⟩
  have fm5 : AgK kTnM ν ν5 := (fm2.tr (ag4.sub fun a k h => decide_eq_true (by have := of_decide_eq_true h; omega))).tr (ag5.sub fun a k h => decide_eq_true (by have := of_decide_eq_true h; omega))
  have pm5 : PMk B n 900 0 ν5 := ⟨Nat.zero_le n, by decide, MC_ag ag5 (fun a k h => decide_eq_true (by omega)) mc4, mt5⟩
  have f5 : ∀ a k, (a = 203 → k = 2 ∨ k = 15 ∨ 19 ≤ k) → a ≠ 206 → ν5.1 a k = ν2.1 a k ∧ ν5.2 a k = ν2.2 a k := fun a k h h2 => by
    have z := ag5 a k (decide_eq_true (by omega))
    have z2 := f4 a k h2
    exact ⟨z.1.trans z2.1, z.2.trans z2.2⟩
  have w5 : ∀ k, k < 427 → ν5.1 206 k = if 7 ≤ k ∧ k < 10 then 1 else 0 := fun k hk => by
    rw [(ag5 206 k (decide_eq_true (by omega))).1]
    exact w4 k hk
  have dt1 : DT T00 (fun _ => []) μ1 ν5 := by
    refine ⟨T00_wf, ⟨⟨?_, ?_, ?_, ?_⟩, fun q hq => absurd hq (Nat.not_lt_zero q), fun q hq => ?_, fun c hc => absurd hc (Nat.not_lt_zero c), fun i hi => ?_, fun a ha => ⟨?_, ?_⟩, fun i hi => ?_⟩, ⟨⟨?_, ?_, ?_, ?_⟩, fun i hi => ?_, fun i hi => ?_, fun q hq => absurd hq (Nat.not_lt_zero q), fun q hq => ?_, fun c hc => absurd hc (Nat.not_lt_zero c), fun a ha => ⟨?_, ?_, ?_⟩⟩, ⟨fun q hq => absurd hq (Nat.not_lt_zero q), fun q r hq => absurd hq (Nat.not_lt_zero q), fun q hq => absurd hq (Nat.not_lt_zero q)⟩, ?_, 0, by decide, ?_, ?_⟩
    · rw [g1 53 1 (by decide) (by decide)]; exact z53 1 (by decide)
    · rw [g1 53 2 (by decide) (by decide)]; exact z53 2 (by decide)
    · rw [g1 53 3 (by decide) (by decide)]; exact z53 3 (by decide)
    · rw [g1 53 4 (by decide) (by decide)]; exact z53 4 (by decide)
    · show μ1.1 58 q = _
      rw [g1 58 q (by decide) (by decide), z58 q hq]
      rfl
    · show μ1.1 63 i = _
      rw [g1 63 i (by decide) (by decide), z63 i (by omega)]
      rfl
    · show μ1.1 64 a = _
      rw [g1 64 a (by decide) (by decide), (z64 a ha).1]
      rfl
    · show μ1.1 65 a = _
      rw [g1 65 a (by decide) (by decide), (z64 a ha).2]
      rfl
    · show μ1.1 66 i = _
      rw [g1 66 i (by decide) (by decide), z66 i hi]
      unfold T00
      by_cases c : i < 3
      · rw [if_pos c, if_pos ⟨rfl, c⟩]; rfl
      · rw [if_neg c, if_neg fun h => c h.2]; rfl
    · rw [w5 0 (by decide)]; rfl
    · rw [w5 1 (by decide)]; rfl
    · rw [w5 2 (by decide)]; rfl
    · rw [w5 3 (by decide)]; rfl
    · rw [w5 _ (by omega), if_neg (by omega)]; rfl
    · rw [w5 _ (by omega)]
      unfold T00
      by_cases c : i < 3
      · rw [if_pos (by omega), if_pos ⟨rfl, c⟩]; rfl
      · rw [if_neg (by omega), if_neg fun h => c h.2]; rfl
    · rw [w5 _ (by omega), if_neg (by omega)]; rfl
    · rw [w5 _ (by omega), if_neg (by omega)]; rfl
    · rw [w5 _ (by omega), if_neg (by omega)]; rfl
    · rw [w5 _ (by omega), if_neg (by omega)]; rfl
    · rw [(f5 203 20 (by omega) (by decide)).1, b20]; rfl
    · rw [g1 53 18 (by decide) (by decide)]; exact z18
    · rw [(f5 203 21 (by omega) (by decide)).1, b21]
  refine RT_lp (fun i s t => ∃ c p T W μ' ν', i = n - p ∧ s = (nI c, μ') ∧ t = ν' ∧ 2 * c ≤ p ∧ PXk B n 900 p μ' ∧ PMk B n 900 p ν' ∧ AgK kTnX μ μ' ∧ AgK kTnM ν ν' ∧ ν'.1 205 = ν.1 205 ∧ (∀ q, q < 9 → ν'.2 208 q = ν.2 208 q) ∧ (T 0 0 = 0 → T 0 1 = 0) ∧ DT T W μ' ν' ∧ μ'.1 53 0 = nI c ∧ ν'.1 203 19 = nI c ∧ ν'.1 203 15 = 0 ∧ ν'.1 203 2 = 0) ?_ n (by omega) (by omega) ⟨0, 0, T00, fun _ => [], μ1, ν5, rfl, rfl, rfl, Nat.le_refl _, px1, pm5, fx1, fm5, ?_, fun q hq => ?_, fun _ => rfl, dt1, ?_, ?_, ?_, ?_⟩
  · rintro i s t ⟨c, p, T, W, μ', ν', rfl, rfl, rfl, hc, px, pm, fx, fm, h205, h208, h01, dt, h53, h19, h15, h2⟩ k k' hk
    have hp := px.1
    have kx' := kk_is (tK_le B n 900 p)
    have km' := km_is (tK_le B n 900 p)
    show RT (f_X8_readFrom_13 F 53 1 k (nI c) μ') (f_X11_town_81 F 203 k' t) _
    unfold f_X8_readFrom_13 f_X11_town_81
    rw [if_neg (show ¬ (900 : Int32) ≤ nI c from (show ¬ nI 900 ≤ nI c from nI_ge (by omega) (by decide))), px.2.2.2.2.2.1, pm.2.2.2.2.2.1]
    by_cases hE : tK B n 900 p = 4
    · rw [if_pos (kx'.2.2.2.2 hE), if_pos (km'.2.2.2.2 hE)]
      obtain ⟨hwf, tx, tm, ⟨w1, w2, w3⟩, -⟩ := id dt
      obtain ⟨r2, er2, j1, j2, j3, j4⟩ := town124_m (F := F) (ν := t) (by omega) hwf.1.2.2.1 tm.1.2.2.1
      refine ⟨_, rfl, r2, er2, fx, fm.tr (j2.sub fun a k h => decide_eq_true (by have := of_decide_eq_true h; omega)), ?_, .inl ⟨rfl, T, W, c, S0 t, by omega, hwf, tx, ?_, fun i h1 h2 => ?_, fun q hq => ?_, w2, w3, h53, by rw [j1]; exact h19, ?_, j3⟩⟩
      · rw [(j2 203 2 (decide_eq_true (by omega))).1]; exact h2
      · refine qTM_s hwf (fun i hi => ?_) tm
        unfold S0
        rw [wr0 (by omega), if_pos hi]
      · unfold S0
        rw [wr0 h2, if_neg (by omega)]
      · have n9 := hwf.1.2.2.1
        obtain ⟨q1, q2, q3⟩ := w1 q hq
        exact ⟨q1, q2, by rw [j4 q (by omega)]; exact q3⟩
      · rw [(j2 203 15 (decide_eq_true (by omega))).1]; exact h15
    · rw [if_neg fun h => hE (kx'.2.2.2.1 h), if_neg fun h => hE (km'.2.2.2.1 h)]
      refine RT_call (line_t (by omega) px pm h01 dt) ?_
      rintro ⟨r1, μ4⟩ ⟨r2, ν4⟩ ⟨a4, b4, h⟩
      dsimp only at a4 b4 h ⊢
      have fx4 : AgK kTnX μ μ4 := fx.tr (a4.sub fun a k h => decide_eq_true (by have := of_decide_eq_true h; omega))
      have fm4 : AgK kTnM ν ν4 := fm.tr (b4.sub fun a k h => decide_eq_true (by have := of_decide_eq_true h; omega))
      have e2054 : ν4.1 205 = ν.1 205 := by rw [← h205]; exact b4.a fun k => decide_eq_true (by omega)
      have e2084 : ∀ q, q < 9 → ν4.2 208 q = ν.2 208 q := fun q hq => by rw [(b4 208 q (decide_eq_true (by omega))).2]; exact h208 q hq
      have e24 : ν4.1 203 2 = 0 := by rw [(b4 203 2 (decide_eq_true (by omega))).1]; exact h2
      rcases h with ⟨rfl, rfl, p4, hp4, px4, pm4, x15, T', W', h01', dt'⟩ | ⟨rfl, rfl, v, a, v1, v2, va, t1, t2, t3, t4⟩
      · rw [if_pos rfl, if_pos rfl]
        refine RT_call (rsign (c := 59) (by omega) (by decide) px4 pm4) ?_
        rintro ⟨r1, μ5⟩ ⟨r2, ν6⟩ ⟨a5, b5, h⟩
        dsimp only at a5 b5 h ⊢
        have fx5 : AgK kTnX μ μ5 := fx4.tr (a5.sub fun a k h => decide_eq_true (by have := of_decide_eq_true h; omega))
        have fm6 : AgK kTnM ν ν6 := fm4.tr (b5.sub fun a k h => decide_eq_true (by have := of_decide_eq_true h; omega))
        have e2055 : ν6.1 205 = ν.1 205 := by rw [← e2054]; exact b5.a fun k => decide_eq_true (by omega)
        have e2085 : ∀ q, q < 9 → ν6.2 208 q = ν.2 208 q := fun q hq => by rw [(b5 208 q (decide_eq_true (by omega))).2]; exact e2084 q hq
        have e25 : ν6.1 203 2 = 0 := by rw [(b5 203 2 (decide_eq_true (by omega))).1]; exact e24
        rcases h with ⟨rfl, rfl, p5, hp5, px5, pm5', y15⟩ | ⟨rfl, rfl, v, a, v1, v2, va, t1, t2, t3, t4⟩
        · rw [if_pos rfl, if_pos rfl, plet, plet]
          have e535 : μ5.1 53 0 = nI c := by rw [(a5 53 0 (decide_eq_true (by omega))).1, (a4 53 0 (decide_eq_true (by omega))).1]; exact h53
          have e195 : ν6.1 203 19 = nI c := by rw [(b5 203 19 (decide_eq_true (by omega))).1, (b4 203 19 (decide_eq_true (by omega))).1]; exact h19
          rw [e535, e195, nI_1]
          have hw : AgK (fun a k => decide (¬ (a = 53 ∧ k = 0))) μ5 (aw_wI μ5 53 0 (nI (c + 1))) := (AgK.rf μ5).wI (decide_eq_false (by omega))
          have hv : AgK (fun a k => decide (¬ (a = 203 ∧ k = 19))) ν6 (aw_wI ν6 203 19 (nI (c + 1))) := (AgK.rf ν6).wI (decide_eq_false (by omega))
          have hp5' := px5.1
          have dt6 : DT T' W' μ5 ν6 := DT_ag a5 (fun a k h => decide_eq_true (by omega)) b5 (fun a k h => decide_eq_true (by omega)) dt'
          refine hk (n - p5) _ _ (by omega) ⟨c + 1, p5, T', W', _, _, rfl, rfl, rfl, by omega, PXk_ag hw (fun a k h => decide_eq_true (by omega)) px5, PMk_ag hv (fun a k h => decide_eq_true (by omega)) pm5', fx5.tr (hw.sub fun a k h => decide_eq_true (by have := of_decide_eq_true h; omega)), fm6.tr (hv.sub fun a k h => decide_eq_true (by have := of_decide_eq_true h; omega)), ?_, fun q hq => ?_, h01', DT_ag hw (fun a k h => decide_eq_true (by omega)) hv (fun a k h => decide_eq_true (by omega)) dt6, rI_s, rI_s, ?_, ?_⟩
          · rw [rI_a (by decide)]; exact e2055
          · rw [rI_2]; exact e2085 q hq
          · rw [rI_k (by decide), y15, x15]; exact h15
          · rw [rI_k (by decide)]; exact e25
        · rw [if_neg Bool.false_ne_true, if_neg Bool.false_ne_true, RT_some]
          exact ⟨fx5, fm6, e25, .inr ⟨rfl, e2055, e2085, v, a, v1, v2, va, t1, t2, by rw [t4], t3⟩⟩
      · rw [if_neg Bool.false_ne_true, if_neg Bool.false_ne_true, RT_some]
        exact ⟨fx4, fm4, e24, .inr ⟨rfl, e2054, e2084, v, a, v1, v2, va, t1, t2, by rw [t4], t3⟩⟩
  · rw [← e205]
    funext k
    exact (f5 205 k (by omega) (by decide)).1
  · rw [(f5 208 q (by omega) (by decide)).2]; exact e208 q
  · rw [g1 53 0 (by decide) (by decide)]; exact z53 0 (by decide)
  · rw [(f5 203 19 (by omega) (by decide)).1]; exact b19
  · rw [(f5 203 15 (by omega) (by decide)).1]; exact e15
  · rw [(f5 203 2 (by omega) (by decide)).1]; exact e2
