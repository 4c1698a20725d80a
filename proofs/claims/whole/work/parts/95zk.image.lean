theorem qSC_sn {C : Nat → Nat → Nat} {W : Nat → List Nat} {P Y G : Nat → Nat → Nat} {μ : aw_M} {b : Nat} {S S' : Nat → Int32} {N N' : Nat → Int64} (hs : ∀ i, i < 1155 → S' i = S i) (hn : ∀ i, i < 9 → N' i = N i) (h : qSC C W P Y G μ b S N) : qSC C W P Y G μ b S' N' := by
  obtain ⟨⟨hwf, tx, tm⟩, ⟨w1, w2, w3⟩, ⟨p1, p2, p3⟩, ⟨y1, y2, y3⟩, f1, f2, f3, f4⟩ := h
  have n9 := hwf.1.2.2.1
  have n20 := hwf.1.2.2.2
  have yl := y1.1
  have gl := f1.1
  obtain ⟨t1, t2, t3, t4, t5, t6, t7⟩ := tm
  refine ⟨⟨hwf, tx, ⟨?_, fun i hi => ?_, fun i hi => ?_, fun q hq => ?_, fun q hq => ?_, fun c hc => ?_, fun x hx => ?_⟩⟩, ⟨fun q hq => ?_, w2, w3⟩, ⟨p1, p2, ?_, fun q hq => ?_⟩, ⟨y1, y2, ?_, fun i hi => ?_⟩, f1, f2, ⟨?_, fun q hq => ⟨?_, ?_, fun c hc => ?_⟩, fun c hc => ?_, fun x hx => ?_⟩, ⟨?_, fun q hq => ?_, fun c hc => ?_, fun k hk j hj => ?_⟩⟩
  · rw [hs 0 (by decide), hs 1 (by decide), hs 2 (by decide), hs 3 (by decide)]; exact t1
  · rw [hs _ (by omega)]; exact t2 i hi
  · rw [hs _ (by omega)]; exact t3 i hi
  · rw [hs _ (by omega), hs (20 + q) (by omega), hs (29 + q) (by omega)]; exact t4 q hq
  · rw [hs _ (by omega)]; exact t5 q hq
  · rw [hs _ (by omega), hs (67 + c) (by omega), hs (87 + c) (by omega), hs (107 + c) (by omega)]; exact t6 c hc
  · rw [hs _ (by omega), hs (227 + x) (by omega), hs (327 + x) (by omega)]; exact t7 x hx
  · rw [hn q (by omega)]; exact w1 q hq
  · rw [hs _ (by decide)]; exact p3.1
  · rw [hs _ (by omega), hs (436 + q) (by omega), hs (445 + q) (by omega)]; exact p3.2 q hq
  · rw [hs _ (by decide)]; exact y3.1
  · rw [hs _ (by omega), hs (976 + 3 * i) (by omega), hs (977 + 3 * i) (by omega)]; exact y3.2 i hi
  · rw [hs 455 (by decide), hs 456 (by decide), hs 919 (by decide)]; exact f3.1
  · rw [hs _ (by omega)]; exact (f3.2.1 q hq).1
  · rw [hs _ (by omega)]; exact (f3.2.1 q hq).2.1
  · rw [hs _ (by omega)]; exact (f3.2.1 q hq).2.2 c hc
  · rw [hs _ (by omega)]; exact f3.2.2.1 c hc
  · rw [hs _ (by omega), hs (814 + x) (by omega)]; exact f3.2.2.2 x hx
  · rw [hs 457 (by decide), hs 914 (by decide), hs 915 (by decide), hs 916 (by decide), hs 917 (by decide), hs 918 (by decide)]; exact f4.1
  · rw [hs _ (by omega), hs (476 + q) (by omega)]; exact f4.2.1 q hq
  · rw [hs _ (by omega)]; exact f4.2.2.1 c hc
  · rw [hs _ (by omega)]; exact f4.2.2.2 k hk j hj
/-- what making an image changes -/
def kIm (k b a kk : Nat) : Bool := decide (¬ (a = 52 ∧ kk = k) ∧ ¬ (b + 1 ≤ a ∧ a ≤ b + 46) ∧ ¬ (a = 203 ∧ kk = 0) ∧ ¬ (a = 227 ∧ 1155 * k ≤ kk ∧ kk < 1155 * k + 1155) ∧ ¬ (a = 228 ∧ 9 * k ≤ kk ∧ kk < 9 * k + 9) ∧ ¬ (a = 229 ∧ kk = k))
theorem qKept_im {μ μ' : aw_M} {k b k' b' : Nat} (h : AgK (kIm k b) μ μ') (hk : k < 2) (hb : b = 109 + 47 * k) (hk' : k' < 2) (hb' : b' = 109 + 47 * k') (hne : k' ≠ k) (hR : qKept μ k' b') : qKept μ' k' b' := by
  obtain ⟨x, g1, g2, g3, g4⟩ := hR
  refine ⟨x, g1, ?_, ?_, fun hx => ?_⟩
  · rw [(h 52 k' (decide_eq_true (by omega))).1]; exact g2
  · rw [(h 229 k' (decide_eq_true (by omega))).1]; exact g3
  · obtain ⟨C, W, P, Y, G, g5⟩ := g4 hx
    have g6 := qSC_ag (b := b') (μ' := μ') (fun a h1 h2 h3 h4 => h.a fun kk => decide_eq_true (by omega)) (h.b fun kk => decide_eq_true (by omega)) g5
    exact ⟨C, W, P, Y, G, qSC_sn (fun i hi => (h 227 (1155 * k' + i) (decide_eq_true (by omega))).1) (fun i hi => (h 228 (9 * k' + i) (decide_eq_true (by omega))).2) g6⟩
theorem image_k {F k b : Nat} {μ : aw_M} (hF : 100000 ≤ F) (hk : k < 2) (hb : b = 109 + 47 * k) (rb : aw_rf 51 k = b) (ob : sOb b) (hR : R μ) : okZ R (f_X10_image F 0 (nI k) μ) (fun μ1 => f_X11_image F 203 (nI k) μ1) := by
  obtain ⟨⟨C, W, P, Y, G, hS, hG⟩, htp, hfa, ⟨hk0, hk1⟩, hpz, hK⟩ := R_iff.1 hR
  unfold okZ f_X10_image
  rw [if_neg (nI_pos (by omega)), if_pos (show nI k < 2 from (show nI k < nI 2 from nI_lt hk (by decide))), pI_in_t hk (by decide), pg_t, rf0.2.2.1, rf0.2.1, nI_clamp (by omega), rb]
  refine T_call (take_x (by omega) (by omega) sOb_4 ob hS) ?_
  rintro m1 ⟨s1, -, ag1⟩
  rw [pg_t, rf0.2.2.2.1, plet, T_some]
  dsimp only
  have a1 : AgK (kIm k b) μ (aw_wI (aw_wI m1 52 k (vp_nar .boolean 1)) 203 0 0) := ((ag1.sub (fun a k h => decide_eq_true (by have := of_decide_eq_true h; omega))).wI (decide_eq_false (by omega))).wI (decide_eq_false (by omega))
  have s2 : qSC C W P Y G (aw_wI (aw_wI m1 52 k (vp_nar .boolean 1)) 203 0 0) b (μ.1 205) (μ.2 208) := qSC_ag (μ := m1) (μ' := aw_wI (aw_wI m1 52 k (vp_nar .boolean 1)) 203 0 0) (fun a h1 h2 h3 h4 => by rw [rI_a (by omega), rI_a (by omega)]) rfl s1
  have e52 : (aw_wI (aw_wI m1 52 k (vp_nar .boolean 1)) 203 0 0).1 52 k = nI 1 := by rw [rI_a (by decide), rI_s]; rfl
  unfold f_X11_image
  rw [plet]
  generalize aw_wI (aw_wI m1 52 k (vp_nar .boolean 1)) 203 0 0 = m2 at a1 s2 e52 ⊢
  have f205 : m2.1 205 = μ.1 205 := a1.a fun k => decide_eq_true (by omega)
  have f208 : m2.2 208 = μ.2 208 := a1.b fun k => decide_eq_true (by omega)
  rw [isIn_eq, Option.bind_some, decide_eq_true (show 0 ≤ nI k ∧ nI k ≤ 1 from ⟨(show nI 0 ≤ nI k from nI_le (by omega) (by omega)), (show nI k ≤ nI 1 from nI_le (by omega) (by omega))⟩), if_pos rfl]
  dsimp only
  have e1155 : ∀ i, (1155 : Int32) * nI k + nI i = nI (1155 * k + i) := fun i => by rw [show (1155 : Int32) = nI 1155 from rfl]; rw [pk_mul, nI_add]
  have e9 : ∀ i, (9 : Int32) * nI k + nI i = nI (9 * k + i) := fun i => by rw [show (9 : Int32) = nI 9 from rfl]; rw [pk_mul, nI_add]
  refine T_lp (fun i s => ∃ μ', s = (nI k, nI i, μ') ∧ AgK (kIm k b) μ μ' ∧ (∀ j, j < i → μ'.1 227 (1155 * k + j) = μ.1 205 j) ∧ (∀ a, a ≠ 227 → μ'.1 a = m2.1 a) ∧ μ'.2 = m2.2) 1155 (by omega) ⟨m2, rfl, a1, fun j hj => absurd hj (Nat.not_lt_zero _), fun _ _ => rfl, rfl⟩ ?_ ?_
  · rintro i hi _ ⟨μ', rfl, ag, g1, g2, g3⟩ k2 hk2
    show T (f_X11_image_18 F 203 k2 (nI k) (nI i) μ') _
    unfold f_X11_image_18
    rw [if_neg (show ¬ (1155 : Int32) ≤ nI i from (show ¬ nI 1155 ≤ nI i from nI_ge hi (by decide))), e1155, pI_in_t hi (by decide), pg_t, pI_in_t (by omega) (by decide), pg_t, plet, rf203b.2.2.2.2.2.2.2.2.1, rf203.2.1, nI_clamp (by omega), nI_clamp (by omega), nI_1]
    refine hk2 _ ⟨_, rfl, ag.wI (decide_eq_false (by omega)), fun j hj => ?_, fun a ha => by rw [rI_a ha]; exact g2 a ha, g3⟩
    by_cases e : j = i
    · subst e
      rw [rI_s, g2 205 (by decide), f205]
    · rw [rI_k (by omega)]
      exact g1 j (by omega)
  · rintro _ ⟨m3, rfl, ag3, g1, g2, g3⟩ k2
    show T (f_X11_image_18 F 203 k2 (nI k) (nI 1155) m3) _
    unfold f_X11_image_18 f_X11_image_49
    rw [if_pos (show (1155 : Int32) ≤ nI 1155 by decide)]
    refine T_lp (fun i s => ∃ μ', s = (nI k, nI i, μ') ∧ AgK (kIm k b) μ μ' ∧ (∀ j, j < i → μ'.2 228 (9 * k + j) = μ.2 208 j) ∧ (∀ a, a ≠ 228 → μ'.2 a = m2.2 a) ∧ μ'.1 = m3.1) 9 (by omega) ⟨m3, rfl, ag3, fun j hj => absurd hj (Nat.not_lt_zero _), fun a _ => by rw [g3], rfl⟩ ?_ ?_
    · rintro i hi _ ⟨μ', rfl, ag, q1, q2, q3⟩ k3 hk3
      show T (f_X11_image_51 F 203 k3 (nI k) (nI i) μ') _
      unfold f_X11_image_51
      rw [if_neg (show ¬ (9 : Int32) ≤ nI i from (show ¬ nI 9 ≤ nI i from nI_ge hi (by decide))), e9, pI_in_t (by omega) (by decide), pg_t, pI_in_t (by omega) (by decide), pg_t, plet, rf203b.2.2.2.2.2.2.2.2.2.1, rf203.2.2.2.2.1, nI_clamp (by omega), nI_clamp (by omega), nI_1]
      refine hk3 _ ⟨_, rfl, ag.wL (decide_eq_false (by omega)), fun j hj => ?_, fun a ha => by rw [rL_a ha]; exact q2 a ha, q3⟩
      by_cases e : j = i
      · subst e
        rw [rL_s, q2 208 (by decide), f208]
      · rw [rL_k (by omega)]
        exact q1 j (by omega)
    · rintro _ ⟨m4, rfl, ag4, q1, q2, q3⟩ k3
      show T (f_X11_image_51 F 203 k3 (nI k) (nI 9) m4) _
      unfold f_X11_image_51 f_X11_image_80
      rw [if_pos (show (9 : Int32) ≤ nI 9 by decide), pI_in_t hk (by decide), pg_t, plet, rf203b.2.2.2.2.2.2.2.2.2.2, nI_clamp (by omega), T_some]
      have ag5 : AgK (kIm k b) μ (aw_wI m4 229 k (vp_nar .boolean 1)) := ag4.wI (decide_eq_false (by omega))
      have o1 : ∀ a, a ≠ 227 → a ≠ 229 → (aw_wI m4 229 k (vp_nar .boolean 1)).1 a = m2.1 a := fun a h1 h2 => by rw [rI_a h2, q3]; exact g2 a h1
      have s5 : qSC C W P Y G (aw_wI m4 229 k (vp_nar .boolean 1)) b (μ.1 205) (μ.2 208) := qSC_ag (fun a h1 h2 h3 h4 => o1 a (by omega) (by omega)) (q2 _ (by omega)) s2
      have own : qKept (aw_wI m4 229 k (vp_nar .boolean 1)) k b := by
        refine ⟨1, Nat.le_refl _, ?_, ?_, fun _ => ⟨C, W, P, Y, G, qSC_sn (fun i hi => ?_) (fun i hi => ?_) s5⟩⟩
        · rw [o1 52 (by decide) (by decide)]; exact e52
        · rw [rI_s]; rfl
        · show (aw_wI m4 229 k (vp_nar .boolean 1)).1 227 (1155 * k + i) = _
          rw [rI_a (by decide), q3]; exact g1 i hi
        · show m4.2 228 (9 * k + i) = _
          exact q1 i hi
      refine ⟨rfl, R_iff.2 ⟨?_, ?_, ?_, ?_, ?_, ?_⟩⟩
      · exact Rsc_ag (ag5.sub fun a kk h => decide_eq_true (by have := of_decide_eq_true h; omega)) ⟨C, W, P, Y, G, hS, hG⟩
      · exact Rtp_ag (ag5.sub fun a kk h => decide_eq_true (by have := of_decide_eq_true h; omega)) htp
      · exact Rfa_ag (ag5.sub fun a kk h => decide_eq_true (by have := of_decide_eq_true h; omega)) hfa
      · have hk2 : k = 0 ∨ k = 1 := by omega
        rcases hk2 with rfl | rfl
        · subst hb
          exact ⟨own, qKept_im ag5 (by decide) rfl (by decide) rfl (by decide) hk1⟩
        · subst hb
          exact ⟨qKept_im ag5 (by decide) rfl (by decide) rfl (by decide) hk0, own⟩
      · exact qPz_ag (ag5.sub fun a kk h => decide_eq_true (by have := of_decide_eq_true h; omega)) hpz
      · exact qK_ag (ag5.sub fun a kk h => decide_eq_true (by have := of_decide_eq_true h; omega)) hK
theorem p_image : op_image R := by
  intro F hF a0 μ hR
  by_cases h0 : a0 < 0
  · unfold okZ f_X10_image f_X11_image
    rw [if_pos h0, T_some]
    dsimp only
    rw [plet, isIn_eq, Option.bind_some, decide_eq_false (fun h => by have := h.1; grind), if_neg Bool.false_ne_true, T_some]
    exact ⟨rfl, R_th hR⟩
  · by_cases h2 : a0 < 2
    · obtain ⟨k, hk, rfl⟩ := nI_of2 (x := a0) (M := 1) (n := 1) (by decide) (by grind) (show a0 ≤ nI 1 from (show a0 ≤ 1 by grind))
      have hk2 : k = 0 ∨ k = 1 := by omega
      rcases hk2 with rfl | rfl
      · exact image_k hF (by decide) rfl rf51.1 sOb_109 hR
      · exact image_k hF (by decide) rfl rf51.2 sOb_156 hR
    · unfold okZ f_X10_image f_X11_image
      rw [if_neg h0, if_neg h2, T_some]
      dsimp only
      rw [plet, isIn_eq, Option.bind_some, decide_eq_false (fun h => by have := h.2; grind), if_neg Bool.false_ne_true, T_some]
      exact ⟨rfl, R_th hR⟩
