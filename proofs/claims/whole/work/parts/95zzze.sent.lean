/-! sentences: the text -/
def kNX (a k : Nat) : Bool := decide (¬ (a = 1 ∧ 3 ≤ k ∧ k ≤ 12) ∧ ¬ (71 ≤ a ∧ a ≤ 74))
def kNM (a k : Nat) : Bool := decide (¬ (a = 203 ∧ (k = 0 ∨ (2 ≤ k ∧ k ≤ 5) ∨ (11 ≤ k ∧ k ≤ 18) ∨ (43 ≤ k ∧ k ≤ 47))) ∧ a ≠ 207 ∧ a ≠ 225 ∧ ¬ (a = 205 ∧ 974 ≤ k ∧ k < 1155))
def SnEnd (n nq : Nat) (μ ν : aw_M) (r1 : Bool × aw_M) (r2 : Int32 × aw_M) : Prop :=
  AgK kNX μ r1.2 ∧ AgK kNM ν r2.2 ∧ r2.2.1 203 2 = 0 ∧
  ((r1.1 = true ∧ ∃ (E : List (Nat × Nat × Nat)) (o : Nat), E.length ≤ 39 ∧ okE nq E ∧ htE E = 1 ∧ XE E r1.2 ∧ r1.2.1 71 0 = nI o ∧ r2.1 = nI o ∧ r2.2.1 203 15 = 0 ∧ r2.2.1 205 974 = nI E.length ∧ ∀ i, i < E.length → r2.2.1 205 (975 + 3 * i) = nI (ycode (E.getD i (0, 0, 0)).1) ∧ r2.2.1 205 (976 + 3 * i) = nI (E.getD i (0, 0, 0)).2.1 ∧ r2.2.1 205 (977 + 3 * i) = nI (E.getD i (0, 0, 0)).2.2) ∨
   (r1.1 = false ∧ r2.2.1 205 = ν.1 205 ∧ ∃ v a, 1 ≤ v ∧ v ≤ 4 ∧ a ≤ n ∧ r1.2.1 1 11 = nI v ∧ r1.2.1 1 12 = nI a ∧ r2.1 = -1 - nI a ∧ r2.2.1 203 15 = nI v))
theorem sent132_m {F n p o d w : Nat} {B : Nat → Nat} {E : List (Nat × Nat × Nat)} {st : List Nat} {ν0 ν : aw_M} (hF : 1000 ≤ F) (hE : E.length ≤ 39) (h : MS B n ν0 E o d st w p ν) : T (f_X11_sentence_132 F 203 ν) fun r => r.1 = nI o ∧ AgK (fun a k => decide (¬ (a = 205 ∧ 974 ≤ k ∧ k < 1155))) ν r.2 ∧ r.2.1 205 974 = nI E.length ∧ ∀ i, i < 3 * E.length → r.2.1 205 (975 + i) = ν.1 207 i := by
  have r6 : aw_rf 203 6 = 205 ∧ aw_rf 203 8 = 207 := by simp only [rf203, rf203b, and_self]
  obtain ⟨h1, h2, h3, h4, h5, h6, h7, h8, h9⟩ := h
  unfold f_X11_sentence_132
  rw [show aw_in 974 1155 = true by decide, pg_t, plet, r6.1, show (974 : Int32).toNatClampNeg = 974 by decide, h3.1]
  refine T_lp (fun i s => ∃ ν', s = (nI i, ν') ∧ AgK (fun a k => decide (¬ (a = 205 ∧ 974 ≤ k ∧ k < 1155))) ν ν' ∧ ν'.1 205 974 = nI E.length ∧ ∀ j, j < i → ν'.1 205 (975 + j) = ν.1 207 j) (3 * E.length) (by omega) ⟨_, rfl, (AgK.rf ν).wI (decide_eq_false (by omega)), rI_s, fun j hj => absurd hj (Nat.not_lt_zero j)⟩ ?_ ?_
  · rintro i hi _ ⟨ν', rfl, ag, e, w⟩ k hk
    show T (f_X11_sentence_146 F 203 k (nI i) ν') _
    unfold f_X11_sentence_146
    rw [(ag 203 43 (decide_eq_true (by omega))).1, h3.1, mul3 (by omega), if_neg (nI_ge hi (by omega)), pI_in_t (by omega) (by decide), pg_t, show (975 : Int32) + nI i = nI (975 + i) from nI_add 975 i, pI_in_t (by omega) (by decide), pg_t, plet, r6.1, r6.2, nI_clamp (by omega), nI_clamp (by omega), nI_1]
    refine hk _ ⟨_, rfl, ag.wI (decide_eq_false (by omega)), ?_, fun j hj => ?_⟩
    · rw [rI_k (by omega)]; exact e
    · by_cases ej : j = i
      · rw [ej, rI_s, (ag 207 i (decide_eq_true (by omega))).1]
      · rw [rI_k (by omega)]; exact w j (by omega)
  · rintro _ ⟨ν', rfl, ag, e, w⟩ k
    show T (f_X11_sentence_146 F 203 k (nI (3 * E.length)) ν') _
    unfold f_X11_sentence_146
    rw [(ag 203 43 (decide_eq_true (by omega))).1, h3.1, mul3 (by omega), if_pos (nI_le (Nat.le_refl _) (by omega)), T_some]
    refine ⟨?_, ag, e, w⟩
    show ν'.1 203 44 = _
    rw [(ag 203 44 (decide_eq_true (by omega))).1]
    exact h4
theorem sent_t {F n nq : Nat} {B : Nat → Nat} {W : Nat → List Nat} {μ ν : aw_M} (hF : 100000 ≤ F) (sx : StX n B μ) (sm : StM n B ν) (nx : NmX nq W μ) (nm : NmM nq W ν) (hinj : ∀ q r, q < nq → r < nq → W q = W r → q = r) : RT (f_X3_readFrom F 71 1 5 μ) (f_X11_sentence F 203 ν) (SnEnd n nq μ ν) := by
  have n9 := sx.1
  unfold f_X3_readFrom f_X3_forget f_X11_sentence
  rw [plet, plet, Option.bind_some]
  have ag0 : AgK kNX μ (aw_wI (aw_wI μ 71 0 0) 71 1 0) := ((AgK.rf μ).wI (decide_eq_false (by omega))).wI (decide_eq_false (by omega))
  have z0 : (aw_wI (aw_wI μ 71 0 0) 71 1 0).1 71 0 = nI 0 := by rw [rI_k (by decide), rI_s]; rfl
  have z1 : (aw_wI (aw_wI μ 71 0 0) 71 1 0).1 71 1 = nI 0 := by rw [rI_s]; rfl
  generalize aw_wI (aw_wI μ 71 0 0) 71 1 0 = μ1 at ag0 z0 z1 ⊢
  have sx1 : StX n B μ1 := ⟨sx.1, by rw [(ag0 1 1 (decide_eq_true (by omega))).1]; exact sx.2.1, fun i hi => ⟨(sx.2.2.1 i hi).1, by rw [(ag0 2 i (decide_eq_true (by omega))).1]; exact (sx.2.2.1 i hi).2⟩, fun i hi => by rw [(ag0 3 i (decide_eq_true (by omega))).2]; exact sx.2.2.2 i hi⟩
  refine RT_l (open_x (lim := 200) (by omega) (by decide) sx1) ?_
  rintro μ2 ⟨ag2, px2⟩
  have fx2 : AgK kNX μ μ2 := ag0.tr (ag2.sub fun a k h => decide_eq_true (by have := of_decide_eq_true h; omega))
  have y0 : μ2.1 71 0 = nI 0 := by rw [(ag2 71 0 (decide_eq_true (by omega))).1]; exact z0
  have y1 : μ2.1 71 1 = nI 0 := by rw [(ag2 71 1 (decide_eq_true (by omega))).1]; exact z1
  rw [plet]
  refine RT_r (takenT_m (lim := 200) sm) ?_
  rintro νa ⟨agm, opn⟩
  rw [plet]
  generalize aw_wI νa 203 15 0 = ν1 at agm opn ⊢
  rw [plet, plet, plet, plet, plet]
  have agb : AgK (fun a k => decide (¬ (a = 203 ∧ 43 ≤ k ∧ k ≤ 47))) ν1 (aw_wI (aw_wI (aw_wI (aw_wI (aw_wI ν1 203 43 0) 203 44 0) 203 45 0) 203 46 1) 203 47 0) := (((((AgK.rf ν1).wI (decide_eq_false (by omega))).wI (decide_eq_false (by omega))).wI (decide_eq_false (by omega))).wI (decide_eq_false (by omega))).wI (decide_eq_false (by omega))
  have b43 : (aw_wI (aw_wI (aw_wI (aw_wI (aw_wI ν1 203 43 0) 203 44 0) 203 45 0) 203 46 1) 203 47 0).1 203 43 = nI 0 := by rw [rI_k (by decide), rI_k (by decide), rI_k (by decide), rI_k (by decide), rI_s]; rfl
  have b44 : (aw_wI (aw_wI (aw_wI (aw_wI (aw_wI ν1 203 43 0) 203 44 0) 203 45 0) 203 46 1) 203 47 0).1 203 44 = nI 0 := by rw [rI_k (by decide), rI_k (by decide), rI_k (by decide), rI_s]; rfl
  have b45 : (aw_wI (aw_wI (aw_wI (aw_wI (aw_wI ν1 203 43 0) 203 44 0) 203 45 0) 203 46 1) 203 47 0).1 203 45 = nI 0 := by rw [rI_k (by decide), rI_k (by decide), rI_s]; rfl
  have b46 : (aw_wI (aw_wI (aw_wI (aw_wI (aw_wI ν1 203 43 0) 203 44 0) 203 45 0) 203 46 1) 203 47 0).1 203 46 = nI 1 := by rw [rI_k (by decide), rI_s]; rfl
  have b47 : (aw_wI (aw_wI (aw_wI (aw_wI (aw_wI ν1 203 43 0) 203 44 0) 203 45 0) 203 46 1) 203 47 0).1 203 47 = nI 0 := by rw [rI_s]; rfl
  generalize aw_wI (aw_wI (aw_wI (aw_wI (aw_wI ν1 203 43 0) 203 44 0) 203 45 0) 203 46 1) 203 47 0 = ν2 at agb b43 b44 b45 b46 b47 ⊢
  have mc2 : MC B n 200 ν2 := MC_ag agb (fun a k h => decide_eq_true (by omega)) opn.1
  have g2 : ∀ k, k < 43 → ν2.1 203 k = ν1.1 203 k := fun k hk => (agb 203 k (decide_eq_true (by omega))).1
  refine RT_r (next_m (p := 0) (by omega) (by decide) mc2 (by rw [g2 4 (by decide)]; exact opn.2.1) (Nat.zero_le n)) ?_
  rintro ν3 ⟨ag3, mt3⟩
  have fm3 : AgK kNM ν ν3 := ((agm.sub fun a k h => decide_eq_true (by have := of_decide_eq_true h; omega)).tr (agb.sub fun a k h => decide_eq_true (by have := of_decide_eq_true h; omega))).tr (ag3.sub fun a k h => decide_eq_true (by have := of_decide_eq_true h; omega))
  have g3 : ∀ k, (k = 2 ∨ k = 15 ∨ 43 ≤ k) → ν3.1 203 k = ν2.1 203 k := fun k hk => (ag3 203 k (decide_eq_true (by omega))).1
  have e2 : ν3.1 203 2 = 0 := by rw [g3 2 (by omega), g2 2 (by decide)]; exact opn.2.2.2
  have e205 : ν3.1 205 = ν.1 205 := (ag3.a fun k => decide_eq_true (by omega)).trans ((agb.a fun k => decide_eq_true (by omega)).trans (agm.a fun k => decide_eq_true (by omega)))
  have nx2 : NmX nq W μ2 := NmX_ag fx2 (fun a k h => decide_eq_true (by omega)) nx
  have nm3 : NmM nq W ν3 := ⟨by rw [e205]; exact nm.1, fun q hq => ⟨(nm.2 q hq).1, by rw [(fm3 208 q (decide_eq_true (by omega))).2]; exact (nm.2 q hq).2⟩⟩
  have sx2 : SX B n μ2 [] 0 0 μ2 := ⟨AgK.rf μ2, px2, ⟨y1, fun i hi => absurd hi (Nat.not_lt_zero i)⟩, y0⟩
  have ms3 : MS B n ν3 [] 0 1 [] 0 0 ν3 := ⟨AgK.rf ν3, ⟨Nat.zero_le n, by decide, MC_ag ag3 (fun a k h => decide_eq_true (by omega)) mc2, mt3⟩, ⟨by rw [g3 43 (by omega)]; exact b43, fun i hi => absurd hi (Nat.not_lt_zero i)⟩, by rw [g3 44 (by omega)]; exact b44, by rw [g3 45 (by omega)]; exact b45, fun i hi => absurd hi (Nat.not_lt_zero i), by rw [g3 46 (by omega)]; exact b46, by rw [g3 47 (by omega)]; exact b47, by rw [g3 15 (by omega), g2 15 (by decide)]; exact opn.2.2.1⟩
  have one := one_all (F := F) (B := B) (n := n) (by omega) nx2 nm3 hinj 12
  have cond := cond_t (by omega) (all_t (by omega) one)
  -- what a failure leaves
  have ff : ∀ μ' ν' v a, 1 ≤ v → v ≤ 4 → a ≤ n → FLX μ2 v a μ' → FLM ν3 v a ν' → SnEnd n nq μ ν (false, μ') (-1 - nI a, ν') := fun μ' ν' v a h1 h2 h3 fx fm => by
    refine ⟨fx2.tr (fx.1.sub fun a k h => decide_eq_true (by have := of_decide_eq_true h; omega)), fm3.tr (fm.1.sub fun a k h => decide_eq_true (by have := of_decide_eq_true h; omega)), ?_, .inr ⟨rfl, ?_, v, a, h1, h2, h3, fx.2.1, fx.2.2, rfl, fm.2.1⟩⟩
    · show ν'.1 203 2 = 0
      rw [(fm.1 203 2 (decide_eq_true (by omega))).1]; exact e2
    · show ν'.1 205 = _
      rw [← e205]
      exact fm.1.a fun k => decide_eq_true (by omega)
  show RT ((g_X3_readCond F (g_X3_readAll F (h_X3_readOne F 12)) 71 1 5 (nI 1) μ2).bind _) (LM F F ν3) _
  refine cond 1 [] 0 0 0 [] F μ2 ν3 _ _ (by decide) (by decide) ⟨by decide, by decide, by decide, by decide, by decide, fun i hi => absurd hi (Nat.not_lt_zero i), sx2, ms3, by omega⟩ ?_ ?_
  · intro E2 E1 a k o1 p1 G1 μ4 ν4 ha h10 h9 su
    have hlen := Suc_len su
    obtain ⟨jp, jo, jo20, jE, jok, jht, jhto, jlc, jsl, jsx, jms, jG⟩ := su
    have e0 : ([] : List Nat).length = 0 := rfl
    have kx' := kk_is (tK_le B n 200 p1)
    dsimp only
    rw [if_pos rfl, jsx.2.1.2.2.2.2.2.1]
    by_cases hE4 : tK B n 200 p1 = 4
    · rw [if_pos (kx'.2.2.2.2 hE4)]
      unfold f_X3_readFrom_39
      refine behind_e (by omega) (by omega) hE4 ha (by omega) (by omega) (by omega) jms ?_
      intro ν5 ms5
      rw [← jE] at ms5
      refine RT_sw.2 ?_
      refine T_mono (sent132_m (by omega) (by omega) ms5) ?_
      rintro ⟨r, ν6⟩ ⟨q1, q2, q3, q4⟩
      dsimp only at q1 q2 q3 q4
      rw [T_some]
      have fm6 : AgK kNM ν ν6 := (fm3.tr (ms5.1.sub fun a k h => decide_eq_true (by have := of_decide_eq_true h; omega))).tr (q2.sub fun a k h => decide_eq_true (by have := of_decide_eq_true h; omega))
      refine ⟨fx2.tr (jsx.1.sub fun a k h => decide_eq_true (by have := of_decide_eq_true h; omega)), fm6, ?_, .inl ⟨rfl, E1, o1, by omega, jok, jht, jsx.2.2.1, jsx.2.2.2, q1, ?_, q3, fun i hi => ?_⟩⟩
      · show ν6.1 203 2 = 0
        rw [(q2 203 2 (decide_eq_true (by omega))).1, (ms5.1 203 2 (decide_eq_true (by omega))).1]
        exact e2
      · show ν6.1 203 15 = 0
        rw [(q2 203 15 (decide_eq_true (by omega))).1]
        exact ms5.2.2.2.2.2.2.2.2
      · obtain ⟨m1, m2, m3⟩ := ms5.2.2.1.2 i hi
        show ν6.1 205 (975 + 3 * i) = _ ∧ ν6.1 205 (976 + 3 * i) = _ ∧ ν6.1 205 (977 + 3 * i) = _
        rw [q4 (3 * i) (by omega), show 976 + 3 * i = 975 + (3 * i + 1) by omega, q4 (3 * i + 1) (by omega), show 977 + 3 * i = 975 + (3 * i + 2) by omega, q4 (3 * i + 2) (by omega)]
        exact ⟨m1, m2, m3⟩
    · rw [if_neg fun h => hE4 (kx'.2.2.2.1 h)]
      refine RT_l (failS (v := 1) jsx) ?_
      rintro ⟨r, μ5⟩ ⟨hr, fx5⟩
      dsimp only at hr fx5
      subst hr
      dsimp only
      rw [if_neg Bool.false_ne_true]
      refine behind_f (by omega) (by omega) h10 h9 (.inl ⟨rfl, hE4⟩) ha (by omega) (by omega) (by omega) jms ?_
      intro ν5 fm5
      rw [RT_some]
      exact ff μ5 ν5 1 _ (by decide) (by decide) (tS_le jsx.2.1.1) fx5 fm5
  · intro μ' ν' v x h1 h2 h3 h4 h5
    dsimp only
    rw [if_neg Bool.false_ne_true, RT_some]
    exact ff μ' ν' v x h1 h2 h3 h4 h5
