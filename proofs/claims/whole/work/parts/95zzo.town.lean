/-! the town's text: cells -/
def tu (T : Nat → Nat → Nat) (f i v : Nat) : Nat → Nat → Nat := fun f' i' => if f' = f ∧ i' = i then v else T f' i'
theorem tu_s {T : Nat → Nat → Nat} {f i v : Nat} : tu T f i v f i = v := if_pos ⟨rfl, rfl⟩
theorem tu_f {T : Nat → Nat → Nat} {f i v f' i' : Nat} (h : f' ≠ f) : tu T f i v f' i' = T f' i' := if_neg fun h2 => h h2.1
theorem tu_i {T : Nat → Nat → Nat} {f i v f' i' : Nat} (h : i' ≠ i) : tu T f i v f' i' = T f' i' := if_neg fun h2 => h h2.2
theorem tu_g {T : Nat → Nat → Nat} {f i v : Nat} (h : ∀ f', f' = f → True) : (tu T f i v) = fun f' i' => if f' = f ∧ i' = i then v else T f' i' := rfl
theorem own_ext {T T' : Nat → Nat → Nat} {a : Nat} : ∀ n, (∀ q, q < n → T' 1 q = T 1 q) → own T' a n = own T a n
  | 0, _ => rfl
  | n + 1, h => by
    unfold own
    rw [h n (Nat.lt_succ_self n), own_ext n fun q hq => h q (by omega)]
theorem own_is {T : Nat → Nat → Nat} {a : Nat} : ∀ n, (own T a n).isSome = true ↔ ∃ q, q < n ∧ T 1 q = a
  | 0 => ⟨fun h => (by cases h), fun ⟨q, h, _⟩ => absurd h (Nat.not_lt_zero q)⟩
  | n + 1 => by
    unfold own
    by_cases e : T 1 n = a
    · rw [if_pos e]
      exact ⟨fun _ => ⟨n, Nat.lt_succ_self n, e⟩, fun _ => rfl⟩
    · rw [if_neg e, own_is n]
      constructor
      · rintro ⟨q, h1, h2⟩
        exact ⟨q, by omega, h2⟩
      · rintro ⟨q, h1, h2⟩
        refine ⟨q, ?_, h2⟩
        by_cases e2 : q = n
        · rw [e2] at h2; exact absurd h2 e
        · omega
def occT (T : Nat → Nat → Nat) (k a : Nat) : Bool := if k < 3 then decide (T (9 + k) a = 1) else (own T a (T 0 2)).isSome
theorem bit16 : ∀ v, v < 16 → ∀ k, k < 4 → ((((nI v >>> (nI k &&& 31)) &&& 1) = 0 ↔ v / 2 ^ k % 2 = 0) ∧ (v / 2 ^ k % 2 = 0 → nI v ||| (1 <<< (nI k &&& 31)) = nI (v + 2 ^ k))) := by decide +kernel
theorem things_lt {T : Nat → Nat → Nat} (hwf : qTWF T) (a : Nat) : T 9 a ≤ 1 ∧ T 10 a ≤ 1 ∧ T 11 a ≤ 1 ∧ bN (own T a (T 0 2)).isSome ≤ 1 ∧ things T a < 16 := by
  have hs := hwf.2.2.2.2.1
  have s9 := ((hs 9 (by decide) (by decide)).1 a).1
  have s10 := ((hs 10 (by decide) (by decide)).1 a).1
  have s11 := ((hs 11 (by decide) (by decide)).1 a).1
  have so := bN_le (own T a (T 0 2)).isSome
  refine ⟨s9, s10, s11, so, ?_⟩
  unfold things
  omega
theorem things_bit {T : Nat → Nat → Nat} (hwf : qTWF T) {k : Nat} (hk : k < 4) (a : Nat) : things T a / 2 ^ k % 2 = 0 ↔ occT T k a = false := by
  obtain ⟨s9, s10, s11, so, -⟩ := things_lt hwf a
  have hk4 : k = 0 ∨ k = 1 ∨ k = 2 ∨ k = 3 := by omega
  unfold occT things
  rcases hk4 with rfl | rfl | rfl | rfl
  · rw [if_pos (by decide), decide_eq_false_iff_not]
    show _ ↔ ¬ T 9 a = 1
    omega
  · rw [if_pos (by decide), decide_eq_false_iff_not]
    show _ ↔ ¬ T 10 a = 1
    omega
  · rw [if_pos (by decide), decide_eq_false_iff_not]
    show _ ↔ ¬ T 11 a = 1
    omega
  · rw [if_neg (by decide)]
    cases e : (own T a (T 0 2)).isSome with
    | false =>
      rw [e] at so
      show (T 9 a + 2 * T 10 a + 4 * T 11 a + 8 * 0) / 2 ^ 3 % 2 = 0 ↔ _
      exact ⟨fun _ => rfl, fun _ => by omega⟩
    | true =>
      show (T 9 a + 2 * T 10 a + 4 * T 11 a + 8 * 1) / 2 ^ 3 % 2 = 0 ↔ _
      exact ⟨fun h => by omega, fun h => by cases h⟩
theorem hasOn4 {F a k : Nat} {T : Nat → Nat → Nat} {μ μ' : aw_M} (hwf : qTWF T) (r15 : aw_rf 53 15 = 64) (tx : qTX T μ 53) (e64 : μ'.1 64 = μ.1 64) (ha : a < 100) (hk : k < 4) : f_X8_hasOn F 53 (nI k) (nI a) μ' = some (occT T k a, μ') := by
  have e : μ.1 64 a = nI (things T a) := (tx.2.2.2.2.2.1 a ha).1
  have hb := (bit16 _ (things_lt hwf a).2.2.2.2 k hk).1.trans (things_bit hwf hk a)
  unfold f_X8_hasOn
  rw [if_neg (nI_pos (by omega)), if_neg (show ¬ (100 : Int32) ≤ nI a from (show ¬ nI 100 ≤ nI a from nI_ge ha (by decide))), pI_in_t (by omega) (by decide), pg_t, r15, nI_clamp (by omega), e64, e]
  cases ho : occT T k a with
  | false => rw [if_pos (hb.2 ho)]
  | true => rw [if_neg fun h => by rw [hb.1 h] at ho; cases ho]
def kCx (a k : Nat) : Bool := decide (¬ (a = 1 ∧ 4 ≤ k ∧ k ≤ 12) ∧ ¬ (a = 53 ∧ k = 19))
/-- a cell, as both read it: the class stands behind Y, the reference at it -/
def CellEnd (B : Nat → Nat) (n lim p w h : Nat) (occ : Nat → Bool) (μ ν : aw_M) (r1 r2 : Bool × aw_M) : Prop :=
  AgK kCx μ r1.2 ∧ AgK kMp ν r2.2 ∧ ((r1.1 = false ∧ r2.1 = false ∧ FF n r1.2 r2.2) ∨ ∃ p' x y, r2.1 = true ∧ p < p' ∧ x < w ∧ y < h ∧ tK B n lim p' = 2 ∧ PMk B n lim p' r2.2 ∧ r2.2.1 203 18 = nI (10 * y + x) ∧ r2.2.1 203 15 = ν.1 203 15 ∧ ((occ (10 * y + x) = false ∧ r1.1 = true ∧ PXk B n lim (tN B n lim p') r1.2 ∧ r1.2.1 53 19 = nI (10 * y + x)) ∨ (occ (10 * y + x) = true ∧ r1.1 = false ∧ r1.2.1 1 11 = nI 3 ∧ r1.2.1 1 12 = nI (tSt B n lim p'))))
theorem cell_t {F n lim p w h : Nat} {B : Nat → Nat} {μ ν : aw_M} {s : Int32} {occ : Nat → Bool} (hF : 2000 ≤ F) (px : PXk B n lim p μ) (pm : PMk B n lim p ν) (hw : w ≤ 10) (hh : h ≤ 10) (e1 : μ.1 53 1 = nI w) (e2 : μ.1 53 2 = nI h) (m0 : ν.1 206 0 = nI w) (m1 : ν.1 206 1 = nI h) (hs : (s = -1 ∧ ∀ a, occ a = false) ∨ (s ≠ -1 ∧ ∀ a μ', a < 100 → μ'.1 64 = μ.1 64 → f_X8_hasOn F 53 s (nI a) μ' = some (occ a, μ'))) : RT (f_X8_readCell F 53 1 s μ) (f_X11_looksAtCell F 203 ν) (CellEnd B n lim p w h occ μ ν) := by
  have r7 : aw_rf 203 7 = 206 := by simp only [rf203, rf203b]
  unfold f_X8_readCell f_X11_looksAtCell
  rw [e1, show aw_in 0 427 = true by decide, pg_t, r7, show (0 : Int32).toNatClampNeg = 0 by decide, m0]
  refine RT_l (see_x (lo := 0) (hi := w) px (by decide) (by omega)) ?_
  rintro ⟨r1, μ1⟩ g
  refine RT_r (takes_m (lo := 0) (hi := w) hF pm (by decide) (by omega)) ?_
  rintro ⟨r2, ν1⟩ g'
  rcases g with ⟨h0, g⟩ | ⟨h0, g1, g2, g3, g4⟩
  · cases g
    rcases g' with ⟨-, b1, b2, b3, b4, b5⟩ | ⟨b0, -⟩
    · dsimp only at b1 b2 b3 b4 b5 ⊢
      subst b1
      obtain ⟨nK, n2, n3⟩ := nu_0 h0
      rw [if_pos rfl, if_pos rfl, plet, plet, px.2.2.2.2.2.2.2.1 nK, b4]
      have hp1 := (tN_p px.1 (show tK B n lim p ≠ 4 ∧ tK B n lim p ≠ 5 by rw [nK]; decide)).1
      refine RT_l (pstep_x hF px (by rw [nK]; decide)) ?_
      rintro μ2 ⟨a2, px2⟩
      have fx2 : AgK kCx μ μ2 := a2.sub fun a k h => decide_eq_true (by have := of_decide_eq_true h; omega)
      have e22 : μ2.1 53 2 = nI h := by rw [(a2 53 2 (decide_eq_true (by omega))).1]; exact e2
      have m11 : ν1.1 206 1 = nI h := by rw [(b2 206 1 (decide_eq_true (by omega))).1]; exact m1
      generalize tN B n lim p = p1 at hp1 b3 px2
      generalize tVl B n p = x at n2 n3 b4 ⊢
      have kx := kk_is (tK_le B n lim p1)
      have km' := km_is (tK_le B n lim p1)
      rw [e22]
      refine RT_l (see_x (lo := 0) (hi := h) px2 (by decide) (by omega)) ?_
      rintro ⟨r3, μ3⟩ g
      rw [b3.2.2.2.2.2.1, show aw_in 1 427 = true by decide, pg_t, show (1 : Int32).toNatClampNeg = 1 by decide, m11]
      rcases g with ⟨h0, g⟩ | ⟨h0, g1, g2, g3, g4⟩
      · cases g
        obtain ⟨nK1, n4, n5⟩ := nu_0 h0
        dsimp only
        rw [if_pos rfl, if_pos (km'.2.1.2 nK1), b3.2.2.2.2.2.2.2 (.inl nK1), if_pos (nI_lt n5 (by omega)), plet, px2.2.2.2.2.2.2.2.1 nK1]
        have ev : 10 * nI (tVl B n p1) + nI x = nI (10 * tVl B n p1 + x) := by
          rw [show 10 * nI (tVl B n p1) = nI (10 * tVl B n p1) from pk_mul 10 _, nI_add]
        rw [ev, plet]
        generalize tVl B n p1 = y at n4 n5 ⊢
        have ag3 : AgK (fun a k => decide (¬ (a = 53 ∧ k = 19))) μ2 (aw_wI μ2 53 19 (nI (10 * y + x))) := (AgK.rf μ2).wI (decide_eq_false (by omega))
        have e19 : (aw_wI μ2 53 19 (nI (10 * y + x))).1 53 19 = nI (10 * y + x) := rI_s
        have e64 : (aw_wI μ2 53 19 (nI (10 * y + x))).1 64 = μ.1 64 := by
          rw [rI_a (by decide)]
          exact a2.a fun k => decide_eq_true (by omega)
        generalize aw_wI μ2 53 19 (nI (10 * y + x)) = μ3 at ag3 e19 e64 ⊢
        have fx3 : AgK kCx μ μ3 := fx2.tr (ag3.sub fun a k h => decide_eq_true (by have := of_decide_eq_true h; omega))
        have px3 : PXk B n lim p1 μ3 := PXk_ag ag3 (fun a k h => decide_eq_true (by omega)) px2
        have ag4 : AgK kMp ν (aw_wI ν1 203 18 (nI (10 * y + x))) := b2.wI (decide_eq_false (by omega))
        have pm4 : PMk B n lim p1 (aw_wI ν1 203 18 (nI (10 * y + x))) := PMk_ag (K := fun a k => decide (¬ (a = 203 ∧ k = 18))) ((AgK.rf ν1).wI (decide_eq_false (by omega))) (fun a k h => decide_eq_true (by omega)) b3
        have m18 : (aw_wI ν1 203 18 (nI (10 * y + x))).1 203 18 = nI (10 * y + x) := rI_s
        have m15 : (aw_wI ν1 203 18 (nI (10 * y + x))).1 203 15 = ν.1 203 15 := by rw [rI_k (by decide)]; exact b5
        generalize aw_wI ν1 203 18 (nI (10 * y + x)) = ν4 at ag4 pm4 m18 m15 ⊢
        have f77 : occ (10 * y + x) = false → RT (f_X8_readCell_77 F 53 1 μ3) (some (true, ν4)) (CellEnd B n lim p w h occ μ ν) := fun ho => by
          unfold f_X8_readCell_77
          refine RT_l (pstep_x hF px3 (by rw [nK1]; decide)) ?_
          rintro μ5 ⟨a5, px5⟩
          rw [RT_some]
          exact ⟨fx3.tr (a5.sub fun a k h => decide_eq_true (by have := of_decide_eq_true h; omega)), ag4, .inr ⟨p1, x, y, rfl, hp1, n3, n5, nK1, pm4, m18, m15, .inl ⟨ho, rfl, px5, by rw [(a5 53 19 (decide_eq_true (by omega))).1]; exact e19⟩⟩⟩
        rcases hs with ⟨rfl, ho⟩ | ⟨hs1, hs2⟩
        · rw [if_pos rfl]
          exact f77 (ho _)
        · rw [if_neg hs1, e19, hs2 _ μ3 (by omega) e64, Option.bind_some]
          dsimp only
          cases ho : occ (10 * y + x) with
          | false =>
            rw [if_neg Bool.false_ne_true]
            exact f77 ho
          | true =>
            rw [if_pos rfl]
            refine RT_l (fail_x (v := 3) px3) ?_
            rintro ⟨r5, μ5⟩ ⟨t1, t2, t3, t4⟩
            dsimp only at t1 t2 t3 t4 ⊢
            subst t1
            rw [RT_some]
            exact ⟨fx3.tr (t2.sub fun a k h => decide_eq_true (by have := of_decide_eq_true h; omega)), ag4, .inr ⟨p1, x, y, rfl, hp1, n3, n5, nK1, pm4, m18, m15, .inr ⟨ho, rfl, t3, t4⟩⟩⟩
      · dsimp only at g1 g2 g3 g4 ⊢
        subst g1
        have fx3 : AgK kCx μ μ3 := fx2.tr (g2.sub fun a k h => decide_eq_true (by have := of_decide_eq_true h; omega))
        rw [if_neg Bool.false_ne_true]
        have bad : ∀ v, v = nu B n lim p1 0 h → RT (some (false, μ3)) ((f_X11_bad F 203 (nI v) ν1).bind fun r4 => some (r4.1, r4.2)) (CellEnd B n lim p w h occ μ ν) := fun v hv => by
          refine RT_r (bad_m (v := v) b3) ?_
          rintro ⟨r5, ν5⟩ ⟨t1, t2, t3, t4⟩
          rw [RT_some]
          have hn := nu_le B n lim p1 0 h
          exact ⟨fx3, b2.tr t2, .inl ⟨rfl, t1, v, _, by omega, by omega, tS_le px2.1, by rw [hv]; exact g3, g4, t3, t4⟩⟩
        by_cases hK : tK B n lim p1 = 2
        · have hn : ¬ tVl B n p1 < h := fun hh => h0 (by unfold nu; rw [if_pos hK, if_pos ⟨Nat.zero_le _, hh⟩])
          have hv := tV_lt px2.1 hK
          rw [if_pos (km'.2.1.2 hK), b3.2.2.2.2.2.2.2 (.inl hK), if_neg (nI_nlt (by omega) (by omega))]
          exact bad 2 (by unfold nu; rw [if_pos hK, if_neg fun hh => hn hh.2])
        · rw [if_neg fun hh => hK (km'.2.1.1 hh)]
          exact bad 1 (by unfold nu; rw [if_neg hK])
    · exact absurd h0 b0
  · rcases g' with ⟨b0, -⟩ | ⟨-, b1, b2, b3, b4⟩
    · exact absurd b0 h0
    · dsimp only at g1 g2 g3 g4 b1 b2 b3 b4 ⊢
      subst g1
      subst b1
      rw [if_neg Bool.false_ne_true, if_neg Bool.false_ne_true, RT_some]
      have hn := nu_le B n lim p 0 w
      exact ⟨g2.sub fun a k h => decide_eq_true (by have := of_decide_eq_true h; omega), b2, .inl ⟨rfl, rfl, _, _, by omega, by omega, tS_le px.1, g3, g4, b3, b4⟩⟩
