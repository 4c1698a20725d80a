/-! odds -/
theorem aset_of {μ : aw_M} {a : Nat} {g : Nat → Int32} (h : μ.1 a = g) : aset μ a g = μ := by
  rw [← h, aset_self]
theorem it_day {T P : Nat → Nat → Nat} {S : Nat → Int32} (ok : sOK T P S) (hs : SW T 0 0 0 0 S) : ∀ j, j < 240 → ∃ n, n ≤ 9 ∧ SW T 0 j n (60 * j) (sIt T P j S) ∧ (∀ k, k < 455 ∨ 974 ≤ k ∨ (814 ≤ k ∧ k < 914) → sIt T P j S k = S k)
  | 0, _ => ⟨0, Nat.zero_le _, hs, fun k _ => rfl⟩
  | j + 1, hj => by
    obtain ⟨n, h1, h2, h3⟩ := it_day ok hs j (by omega)
    have ok' : sOK T P (sIt T P j S) := ok.ext fun k hk => h3 k (by omega)
    obtain ⟨e1, e2, -⟩ := dm_of h2 (by unfold dmn; omega)
    obtain ⟨n', t1, t2, t3⟩ := sMin_k (su := false) ok' (by omega) (by omega) h2
    have ex : nxd 0 j = 0 := if_pos (by omega)
    have em : nxm 0 j = j + 1 := if_pos (by omega)
    rw [ex, em] at t1 t2
    have e : sIt T P (j + 1) S = sMin T P false 0 j (sIt T P j S) := by
      show sMinS T P (sIt T P j S) = _
      unfold sMinS
      rw [e1, e2]
    rw [e]
    exact ⟨n', t2.2.2.2, t1, fun k hk => by rw [t3 k hk, h3 k hk]⟩
theorem it_240 {T P : Nat → Nat → Nat} {S : Nat → Int32} (ok : sOK T P S) (hs : SW T 0 0 0 0 S) : sIt T P 240 S 455 = 1 ∧ (∀ k, k < 455 ∨ 974 ≤ k ∨ (814 ≤ k ∧ k < 914) → sIt T P 240 S k = S k) := by
  obtain ⟨n, h1, h2, h3⟩ := it_day ok hs 239 (by omega)
  have ok' : sOK T P (sIt T P 239 S) := ok.ext fun k hk => h3 k (by omega)
  obtain ⟨e1, e2, -⟩ := dm_of h2 (by unfold dmn; omega)
  obtain ⟨n', t1, t2, t3⟩ := sMin_k (su := false) ok' (by omega) (by omega) h2
  have ex : nxd 0 239 = 1 := rfl
  have e : sIt T P 240 S = sMin T P false 0 239 (sIt T P 239 S) := by
    show sMinS T P (sIt T P 239 S) = _
    unfold sMinS
    rw [e1, e2]
  rw [e]
  refine ⟨?_, fun k hk => by rw [t3 k hk, h3 k hk]⟩
  rw [t1.1.1, ex]
  rfl
theorem fin_240 {T P : Nat → Nat → Nat} {S : Nat → Int32} {i : Nat} (ok : sOK T P S) (hs : SW T 0 0 0 0 S) (h : fin T P i 240 S) : i = 240 := by
  rcases h.1 with e | e
  · exact e
  · by_cases h2 : i < 240
    · obtain ⟨n, h1, h3, -⟩ := it_day ok hs i h2
      have := (dm_of h3 (by unfold dmn; omega)).1
      have e : cl (sIt T P i S 455) 3 = 3 := e
      omega
    · have := h.2.1
      omega
theorem sBegin_ext {nq : Nat} {v : Int32} {S S' : Nat → Int32} (hn : nq ≤ 9) (h : ∀ k, k < 455 ∨ 974 ≤ k ∨ (814 ≤ k ∧ k < 914) → S' k = S k) : sBegin nq v S' = sBegin nq v S := by
  obtain ⟨b1, b2, b3, b4, b5, b6, b7⟩ := sBegin_f (v := v) (S := S) hn
  obtain ⟨c1, c2, c3, c4, c5, c6, c7⟩ := sBegin_f (v := v) (S := S') hn
  have hz : zr S' 519 = zr S 519 := by
    funext k
    unfold zr
    by_cases e : 455 ≤ k ∧ k < 455 + 519 ∧ ¬ (814 ≤ k ∧ k ≤ 913)
    · rw [if_pos e, if_pos e]
    · rw [if_neg e, if_neg e, h k (by omega)]
  have hg : ∀ k, k < 455 → S' k = S k := fun k hk => h k (by omega)
  have hw : ∀ Z, wr Z 458 nq (fun q => S' (20 + q)) = wr Z 458 nq (fun q => S (20 + q)) := fun Z => by
    funext k
    unfold wr
    by_cases e : 458 ≤ k ∧ k < 458 + nq
    · rw [if_pos e, if_pos e]
      exact hg _ (by omega)
    · rw [if_neg e, if_neg e]
  unfold sBegin
  rw [hz, hw]
theorem tries_m {F : Nat} {μ : aw_M} (hF : 1000 ≤ F) : f_X11_tries F 203 μ = some (aset μ 210 (wr (μ.1 210) 0 519 (fun k => μ.1 205 (455 + k)))) := by
  have r22 : aw_rf 203 22 = 210 := by simp only [rf203, rf203b]
  unfold f_X11_tries
  refine lp_u (fun i => (nI i, aset μ 210 (wr (μ.1 210) 0 i (fun k => μ.1 205 (455 + k))))) 519 (by rw [wr_0, aset_self]; rfl) ?_ ?_ (by omega)
  · intro i hi k
    show f_X11_tries_2 F 203 k (nI i) (aset μ 210 _) = k (nI (i + 1), aset μ 210 _)
    unfold f_X11_tries_2
    rw [if_neg (show ¬ (519 : Int32) ≤ nI i from nI_ge (b := 519) hi (by decide)), show (455 : Int32) + nI i = nI (455 + i) from nI_add 455 i, pI_in_t (by omega) (by decide), pg_t, pI_in_t hi (by decide), pg_t, plet, r22, rf203.2.1, nI_clamp (by omega), nI_clamp (by omega), rA_a (by decide), wI_wA, nI_1]
    have := wr_s (S := μ.1 210) (b := 0) (i := i) (g := fun k => μ.1 205 (455 + k))
    rw [Nat.zero_add] at this
    rw [this]
  · intro k
    show f_X11_tries_2 F 203 k (nI 519) (aset μ 210 _) = _
    unfold f_X11_tries_2
    rw [if_pos (show (519 : Int32) ≤ nI 519 by decide)]
theorem back_m {F : Nat} {Z g : Nat → Int32} {μ : aw_M} (hF : 1000 ≤ F) (hg : ∀ k, k < 519 → μ.1 210 k = g k) : f_X11_back F 203 (aset μ 205 Z) = some (aset μ 205 (wr Z 455 519 g)) := by
  have r22 : aw_rf 203 22 = 210 := by simp only [rf203, rf203b]
  unfold f_X11_back
  refine lp_u (fun i => (nI i, aset μ 205 (wr Z 455 i g))) 519 (by rw [wr_0]; rfl) ?_ ?_ (by omega)
  · intro i hi k
    show f_X11_back_2 F 203 k (nI i) (aset μ 205 _) = k (nI (i + 1), aset μ 205 _)
    unfold f_X11_back_2
    rw [if_neg (show ¬ (519 : Int32) ≤ nI i from nI_ge (b := 519) hi (by decide)), show (455 : Int32) + nI i = nI (455 + i) from nI_add 455 i, pI_in_t hi (by decide), pg_t, pI_in_t (by omega) (by decide), pg_t, plet, r22, rf203.2.1, nI_clamp (by omega), nI_clamp (by omega), rA_a (by decide), hg i hi, wI_wA, nI_1, wr_s]
  · intro k
    show f_X11_back_2 F 203 k (nI 519) _ = _
    unfold f_X11_back_2
    rw [if_pos (show (519 : Int32) ≤ nI 519 by decide)]
/-- marks behind day 0 by a seed -/
def oMk (C P : Nat → Nat → Nat) (S : Nat → Int32) (q : Nat) (v : Int32) : Int32 := sIt C P 240 (sBegin (C 0 2) v S) (467 + q)
def oCn (C P : Nat → Nat → Nat) (S : Nat → Int32) (q : Nat) (v sm : Int32) : Nat → Nat := cnt (fun j => if oMk C P S q (v + nI j) ≤ sm then 0 else 1)
theorem oCn_le {C P : Nat → Nat → Nat} {S : Nat → Int32} {q : Nat} {v sm : Int32} (n : Nat) : oCn C P S q v sm n ≤ n := cnt_le (fun k => by show (if _ then 0 else 1) ≤ 1; split <;> omega) n
theorem odds_x {F q N : Nat} {v sm : Int32} {C P : Nat → Nat → Nat} {S : Nat → Int32} {μ : aw_M} (hF : 3000 ≤ F) (hc : ctx C P μ) (hS : μ.1 205 = S) (hq : q < C 0 2) (hN : N ≤ 60) (hsd : ∀ a, a < 100 → μ.1 86 a = S (814 + a)) : T (aw_loop (fun k s => f_X10_odds_51 F 0 k s.1 s.2.1 s.2.2.1 s.2.2.2.1 s.2.2.2.2.1 s.2.2.2.2.2.1 s.2.2.2.2.2.2) F (nI q, nI N, v, sm, 0, 0, μ)) fun r => r.1 = nI (oCn C P S q v sm N) ∧ AgK (kNF 76) μ r.2 := by
  have hwf := hc.1
  have hnq := hwf.1.2.2.1
  have r7 : aw_rf 0 7 = 76 := by simp only [rf0, rf1, rf4, rf5, rf19, rf23, rf28, rf39, rf53, rf67, rf71, rf76, rf88, rf97, rf101, rf109, rf110, rf124, rf128, rf133, rf144, rf156, rf157, rf171, rf175, rf180, rf191, rf51]
  have r10 : aw_rf 76 10 = 79 := by simp only [rf0, rf1, rf4, rf5, rf19, rf23, rf28, rf39, rf53, rf67, rf71, rf76, rf88, rf97, rf101, rf109, rf110, rf124, rf128, rf133, rf144, rf156, rf157, rf171, rf175, rf180, rf191, rf51]
  have i9 : aw_in (nI q) 9 = true := pI_in_t (by omega) (by decide)
  have cq : (nI q).toNatClampNeg = q := nI_clamp (by omega)
  have hb : ∀ w, SW C 0 0 0 0 (sBegin (C 0 2) w S) := fun w => by
    rw [← hS]
    exact SW_begin0 hc.2.1.1 hc.2.1.2.2.1 hc.2.2.2.1
  have okb : ∀ w, sOK C P (sBegin (C 0 2) w S) := fun w => by
    have := (sBegin_f (v := w) (S := S) hnq).1
    exact (hS ▸ hc.2.1).ext fun k hk => this k (by omega)
  refine T_lp (fun i s => ∃ μ', s = (nI q, nI N, v, sm, nI (oCn C P S q v sm i), nI i, μ') ∧ AgK (kNF 76) μ μ' ∧ ∀ a, a < 100 → μ'.1 86 a = S (814 + a)) N (by omega) ⟨μ, rfl, AgK.rf μ, hsd⟩ ?_ ?_
  · rintro i hi _ ⟨μ', rfl, ag, hsd'⟩ k hk
    have ev' := hc.2.2.1.ag (.inr rfl) ag
    have hk : ∀ μ2, AgK (kNF 76) μ μ2 → (∀ a, a < 100 → μ2.1 86 a = S (814 + a)) → T (k (nI q, nI N, v, sm, nI (oCn C P S q v sm i + (if oMk C P S q (v + nI i) ≤ sm then 0 else 1)), nI (i + 1), μ2)) _ := fun μ2 a1 a2 => hk _ ⟨μ2, rfl, a1, a2⟩
    show T (f_X10_odds_51 F 0 k (nI q) (nI N) v sm (nI (oCn C P S q v sm i)) (nI i) μ') _
    unfold f_X10_odds_51 f_X10_odds_96
    rw [if_neg (nI_ge hi (by omega)), r7, r10, nI_1, nI_1]
    refine T_call (restart_x (v := v + nI i) (by omega) (.inr rfl)) ?_
    rintro μ2 ⟨ag2, e2, s1, s2, s3, s4, s5, s6, s7⟩
    have ag3 := ag.tr ag2
    have ev2 := hc.2.2.1.ag (.inr rfl) ag3
    have hx : XS C 76 μ2 (sBegin (C 0 2) (v + nI i) S) := XS_begin (μ := μ') (μ' := μ2) hwf ev'.1 (hS ▸ hc.2.1.2.2.1) (fun _ _ _ => rfl) (fun a ha => by
      show μ2.1 86 a = S (814 + a)
      have : μ2.1 86 = μ'.1 86 := s7
      rw [this]
      exact hsd' a ha) ⟨s1, s2, s3, s4, s5, s6⟩
    refine T_call (pass_x (N := 240) (by omega) (.inr rfl) hwf (okb _) ev2 hx (hb _) (by unfold dmn; omega) (by omega)) ?_
    rintro ⟨r1, μ3⟩ ⟨j, f1, f2, f3, f4⟩
    have e240 := fin_240 (okb _) (hb _) f2
    subst e240
    have f3 : XS C 76 μ3 (sIt C P 240 (sBegin (C 0 2) (v + nI i) S)) := f3
    have f4 : AgK (kNF 76) μ2 μ3 := f4
    have em : μ3.1 79 q = oMk C P S q (v + nI i) := (f3.2.2.1 q hq).2.1
    have hsd3 : ∀ a, a < 100 → μ3.1 86 a = S (814 + a) := fun a ha => by
      have h1 : μ3.1 86 a = _ := (f3.2.2.2.2.2.1 a ha).2
      rw [h1, (it_240 (okb _) (hb _)).2 _ (by omega)]
      exact (sBegin_f hnq).2.2.2.2.2.1 a ha
    rw [i9, pg_t, cq]
    show T (if μ3.1 79 q ≤ sm then _ else _) _
    rw [em]
    by_cases h : oMk C P S q (v + nI i) ≤ sm
    · rw [if_pos h] at hk ⊢
      exact hk μ3 (ag3.tr f4) hsd3
    · rw [if_neg h] at hk ⊢
      exact hk μ3 (ag3.tr f4) hsd3
  · rintro _ ⟨μ', rfl, ag, hsd'⟩ k
    show T (f_X10_odds_51 F 0 k (nI q) (nI N) v sm (nI (oCn C P S q v sm N)) (nI N) μ') _
    unfold f_X10_odds_51
    rw [if_pos (nI_le (Nat.le_refl _) (by omega)), T_some]
    exact ⟨rfl, ag⟩
theorem odds_m {F q N : Nat} {v sm : Int32} {C P : Nat → Nat → Nat} {S : Nat → Int32} {μ : aw_M} (hF : 3000 ≤ F) (ok : sOK C P S) (hsd : ∀ a, a < 100 → inB (S (814 + a)) 1) (hq : q < C 0 2) (hN : N ≤ 60) (h210 : ∀ k, k < 519 → μ.1 210 k = S (455 + k)) : aw_loop (fun k s => f_X11_odds_47 F 203 k s.1 s.2.1 s.2.2.1 s.2.2.2.1 s.2.2.2.2.1 s.2.2.2.2.2.1 s.2.2.2.2.2.2) F (nI q, nI N, v, sm, 0, 0, aset μ 205 S) = some (nI (oCn C P S q v sm N), aset μ 205 S) := by
  have hnq := ok.1.1.2.2.1
  have hb : ∀ w, SW C 0 0 0 0 (sBegin (C 0 2) w S) := fun w => SW_begin0 ok.1 ok.2.2.1 hsd
  have okb : ∀ w, sOK C P (sBegin (C 0 2) w S) := fun w => by
    have := (sBegin_f (v := w) (S := S) hnq).1
    exact ok.ext fun k hk => this k (by omega)
  have i455 : aw_in 455 1155 = true := by decide
  have c455 : (455 : Int32).toNatClampNeg = 455 := by decide
  -- the row behind i of them
  let Z : Nat → Nat → Int32 := fun i => match i with
    | 0 => S
    | i + 1 => sIt C P 240 (sBegin (C 0 2) (v + nI i) S)
  have hZ : ∀ i, ∀ k, k < 455 ∨ 974 ≤ k ∨ (814 ≤ k ∧ k < 914) → Z i k = S k := fun i k hk => by
    cases i with
    | zero => rfl
    | succ i =>
      show sIt C P 240 (sBegin (C 0 2) (v + nI i) S) k = S k
      rw [(it_240 (okb _) (hb _)).2 k hk]
      obtain ⟨b1, -, -, -, -, b6, -⟩ := sBegin_f (v := v + nI i) (S := S) hnq
      rcases hk with h | h | h
      · exact b1 k (by omega)
      · exact b1 k (by omega)
      · obtain ⟨a, rfl⟩ : ∃ a, k = 814 + a := ⟨k - 814, by omega⟩
        exact b6 a (by omega)
  refine lp_u (fun i => (nI q, nI N, v, sm, nI (oCn C P S q v sm i), nI i, aset μ 205 (Z i))) N rfl ?_ ?_ (by omega)
  · intro i hi k
    have hl := oCn_le (C := C) (P := P) (S := S) (q := q) (v := v) (sm := sm) i
    show f_X11_odds_47 F 203 k (nI q) (nI N) v sm (nI (oCn C P S q v sm i)) (nI i) (aset μ 205 (Z i)) = k (nI q, nI N, v, sm, nI (oCn C P S q v sm i + (if oMk C P S q (v + nI i) ≤ sm then 0 else 1)), nI (i + 1), aset μ 205 (sIt C P 240 (sBegin (C 0 2) (v + nI i) S)))
    unfold f_X11_odds_47
    rw [if_neg (nI_ge hi (by omega)), begins_m (nq := C 0 2) (by omega) hnq (by rw [hZ i 2 (by omega)]; exact ok.2.2.1.1.2.2.1), Option.bind_some, sBegin_ext hnq (hZ i)]
    have hin : aw_loop (fun k' s => f_X11_odds_61 F 203 k' k s.1 s.2.1 s.2.2.1 s.2.2.2.1 s.2.2.2.2.1 s.2.2.2.2.2.1 s.2.2.2.2.2.2) F (nI q, nI N, v, sm, nI (oCn C P S q v sm i), nI i, aset μ 205 (sBegin (C 0 2) (v + nI i) S)) = f_X11_odds_80 F 203 k (nI q) (nI N) v sm (nI (oCn C P S q v sm i)) (nI i) (aset μ 205 (sIt C P 240 (sBegin (C 0 2) (v + nI i) S))) := by
      have h240 := (it_240 (okb (v + nI i)) (hb (v + nI i))).1
      have hday := it_day (okb (v + nI i)) (hb (v + nI i))
      have hstep : ∀ j, sIt C P (j + 1) (sBegin (C 0 2) (v + nI i) S) = sMinS C P (sIt C P j (sBegin (C 0 2) (v + nI i) S)) := fun _ => rfl
      have hz0 : sIt C P 0 (sBegin (C 0 2) (v + nI i) S) = sBegin (C 0 2) (v + nI i) S := rfl
      have hok := okb (v + nI i)
      generalize hg : (fun j => sIt C P j (sBegin (C 0 2) (v + nI i) S)) = g
      have hg2 : ∀ j, sIt C P j (sBegin (C 0 2) (v + nI i) S) = g j := fun j => by rw [← hg]
      simp only [hg2] at h240 hday hstep hz0
      rw [hg2 240]
      refine lp_u (fun j => (nI q, nI N, v, sm, nI (oCn C P S q v sm i), nI i, aset μ 205 (g j))) 240 (by rw [hz0]) ?_ ?_ (by omega)
      · intro j hj k'
        obtain ⟨n, s1, s2, s3⟩ := hday j hj
        have ok' : sOK C P (g j) := hok.ext fun k hk => s3 k (by omega)
        obtain ⟨e1, e2, -⟩ := dm_of s2 (by unfold dmn; omega)
        show f_X11_odds_61 F 203 k' k (nI q) (nI N) v sm (nI (oCn C P S q v sm i)) (nI i) (aset μ 205 (g j)) = k' (nI q, nI N, v, sm, nI (oCn C P S q v sm i), nI i, aset μ 205 (g (j + 1)))
        have e : g (j + 1) = sMin C P false 0 j (g j) := by
          rw [hstep]
          unfold sMinS
          rw [e1, e2]
        rw [e]
        unfold f_X11_odds_61
        rw [i455, pg_t, c455, rf203.2.1, rA_s, s2.1.1, if_pos (show nI 0 = 0 from rfl), show (0 : Int32) = aw_b false from rfl, minute_m (by omega) ok' (by omega) hj (by omega) s2, Option.bind_some]
      · intro k'
        show f_X11_odds_61 F 203 k' k (nI q) (nI N) v sm (nI (oCn C P S q v sm i)) (nI i) (aset μ 205 (g 240)) = _
        unfold f_X11_odds_61
        rw [i455, pg_t, c455, rf203.2.1, rA_s, h240, if_neg (by decide)]
    rw [hin]
    have hm : oMk C P S q (v + nI i) = sIt C P 240 (sBegin (C 0 2) (v + nI i) S) (467 + q) := rfl
    rw [hm]
    generalize sIt C P 240 (sBegin (C 0 2) (v + nI i) S) = Y
    unfold f_X11_odds_80 f_X11_odds_102
    rw [show (467 : Int32) + nI q = nI (467 + q) from nI_add 467 q, pI_in_t (by omega) (by decide), pg_t, rf203.2.1, nI_clamp (by omega), rA_s, plet, plet, nI_1]
    by_cases h : Y (467 + q) ≤ sm
    · rw [if_pos h, if_pos h, show aw_b false = 0 from rfl, i32_0]
      rfl
    · rw [if_neg h, if_neg h, show aw_b true = 1 from rfl, nI_1]
  · intro k
    show f_X11_odds_47 F 203 k (nI q) (nI N) v sm (nI (oCn C P S q v sm N)) (nI N) (aset μ 205 (Z N)) = _
    unfold f_X11_odds_47 f_X11_odds_111
    rw [if_pos (nI_le (Nat.le_refl _) (by omega)), back_m (by omega) h210, Option.bind_some]
    have : wr (Z N) 455 519 (fun k => S (455 + k)) = S := by
      funext j
      by_cases hk : 455 ≤ j ∧ j < 974
      · rw [wr_in hk.1 (by omega)]
        have : 455 + (j - 455) = j := by omega
        show S (455 + (j - 455)) = S j
        rw [this]
      · rw [wr_out (by omega), hZ N j (by omega)]
    rw [this]
theorem p_odds : op_odds R := by
  intro F hF a0 a1 a2 μ hR
  obtain ⟨C, P, hc⟩ := ctx_of hR
  obtain ⟨⟨C', W, P', Y, G, hSC, hG⟩, hr⟩ := R_iff.1 hR
  have hsand : ∀ a, a < 100 → μ.1 49 a = μ.1 205 (814 + a) := fun a ha => by
    obtain ⟨-, -, -, -, fw, fx, fm, fs⟩ := hSC
    exact ((fx.2.2.2 a ha).2).trans ((fm.2.2.2 a ha).2).symm
  have hwf := hc.1
  have hnq := hwf.1.2.2.1
  have r8 : aw_rf 0 8 = 88 := by simp only [rf0, rf1, rf4, rf5, rf19, rf23, rf28, rf39, rf53, rf67, rf71, rf76, rf88, rf97, rf101, rf109, rf110, rf124, rf128, rf133, rf144, rf156, rf157, rf171, rf175, rf180, rf191, rf51]
  have r7 : aw_rf 0 7 = 76 := by simp only [rf0, rf1, rf4, rf5, rf19, rf23, rf28, rf39, rf53, rf67, rf71, rf76, rf88, rf97, rf101, rf109, rf110, rf124, rf128, rf133, rf144, rf156, rf157, rf171, rf175, rf180, rf191, rf51]
  have r14 : aw_rf (aw_rf 0 1) 4 = 39 := by simp only [rf0, rf1, rf4, rf5, rf19, rf23, rf28, rf39, rf53, rf67, rf71, rf76, rf88, rf97, rf101, rf109, rf110, rf124, rf128, rf133, rf144, rf156, rf157, rf171, rf175, rf180, rf191, rf51]
  have r3917 : aw_rf 39 17 = 49 := by simp only [rf0, rf1, rf4, rf5, rf19, rf23, rf28, rf39, rf53, rf67, rf71, rf76, rf88, rf97, rf101, rf109, rf110, rf124, rf128, rf133, rf144, rf156, rf157, rf171, rf175, rf180, rf191, rf51]
  have r7617 : aw_rf 76 17 = 86 := by simp only [rf0, rf1, rf4, rf5, rf19, rf23, rf28, rf39, rf53, rf67, rf71, rf76, rf88, rf97, rf101, rf109, rf110, rf124, rf128, rf133, rf144, rf156, rf157, rf171, rf175, rf180, rf191, rf51]
  have r23 : aw_rf 203 23 = 211 := by simp only [rf203, rf203b]
  have x3 : μ.1 5 3 = nI (C 0 2) := hc.2.2.1.1.1.2.2.1
  have hc0 := hc.sc ((AgK.rf μ).wI (v := 0) kScr_3)
  have y0 : (aw_wI μ 203 0 0).1 205 2 = nI (C 0 2) := hc0.2.1.2.2.1.1.2.2.1
  unfold okI f_X10_odds f_X11_odds
  rw [xQ hnq x3, Option.bind_some]
  by_cases h0 : 0 ≤ a0 ∧ a0 ≤ nI (C 0 2) - 1
  · obtain ⟨q, hq, rfl⟩ := ix_of (by omega) h0
    rw [decide_eq_true h0, if_pos rfl]
    by_cases h1 : 1 ≤ a1 ∧ a1 ≤ 60
    · obtain ⟨N, hN, rfl⟩ := nI_of2 (x := a1) (M := 60) (n := 60) (by decide) (by grind) h1.2
      rw [if_neg (by grind), if_pos h1.2, r8]
      unfold f_X5_marksAsTold
      obtain ⟨μ1, e1, g1, ag1⟩ := playAll_x (F := F) (by omega) hwf hc.2.1.2.1 hc.2.2.1
      have hc1 := hc.sc (sd_scr ag1)
      have e205 : μ1.1 205 = μ.1 205 := ag1.a fun k => decide_eq_true (by omega)
      have e49 : μ1.1 49 = μ.1 49 := ag1.a fun k => decide_eq_true (by omega)
      have hts : f_X0_takeSand F (aw_rf 0 7) (aw_rf (aw_rf 0 1) 4) μ1 = some (aset μ1 86 (wr (μ1.1 86) 0 100 (μ1.1 49))) := by
        unfold f_X0_takeSand
        rw [r7, r14, r3917, r7617, copyRow_eq (n := 100) (by decide) (by decide) (by decide)]
        rfl
      have ag2 : AgK kScr μ (aset μ1 86 (wr (μ1.1 86) 0 100 (μ1.1 49))) := (sd_scr ag1).wA (fun k h => by rw [kScr_s rfl] at h; cases h)
      have hc2 := hc.sc ag2
      have s205 : (aset μ1 86 (wr (μ1.1 86) 0 100 (μ1.1 49))).1 205 = μ.1 205 := by rw [rA_a (by decide), e205]
      obtain ⟨⟨r1, μ3⟩, o1, o2, o3⟩ := odds_x (F := F) (N := N) (v := a2) (sm := tv C (μ.1 205) (fun q => q) (rW C P) q) (by omega) hc2 s205 hq hN (fun a ha => by rw [rA_s, wr0 ha, e49, hsand a ha])
      have o2 : r1 = _ := o2
      have o3 : AgK (kNF 76) _ μ3 := o3
      refine ⟨(r1, μ3), ?_, ?_⟩
      · show (((f_X5_playAll F 88 μ).bind _).bind _) = _
        rw [e1, Option.bind_some, marksOf_c (by omega) hc1 g1 hq, Option.bind_some, Option.bind_some]
        show ((f_X0_takeSand F (aw_rf 0 7) (aw_rf (aw_rf 0 1) 4) μ1).bind _) = _
        rw [hts, Option.bind_some, e205]
        exact o1
      · have ag3 : AgK kScr μ (aw_wI μ3 203 0 0) := (ag2.tr (o3.sub fun a k hk => by
          refine decide_eq_true ?_
          by_cases e : 76 ≤ a ∧ a ≤ 87
          · rw [kScr_s (by unfold scr; exact decide_eq_true (by omega))] at hk
            cases hk
          · omega)).wI kScr_3
        have hc3 := hc.sc ag3
        have y3 : (aw_wI μ3 203 0 0).1 205 2 = nI (C 0 2) := hc3.2.1.2.2.1.1.2.2.1
        have t205 : (aw_wI μ3 203 0 0).1 205 = μ.1 205 := by
          rw [rI_a (by decide), ← s205]
          exact o3.a fun k => decide_eq_true (by omega)
        show T (aw_let (aw_wI μ3 203 0 0) _) _
        rw [plet, mQ y3, Option.bind_some, decide_eq_true h0, if_pos rfl, isIn_eq, Option.bind_some, decide_eq_true h1, if_pos rfl]
        refine T_call (sureDay_c (C := C) (S := μ.1 205) (pf := fun q => q) (wf := rW C P) (by omega) hc3.2.1 hc3.2.2.2.1 (fun _ _ => rfl) (fun q hq => told_wf hnq hq) (fun _ _ => rfl) (fun i hi => by rw [t205])) ?_
        rintro μ4 ⟨d1, d2, d3⟩
        have u205 : μ4.1 205 = μ.1 205 := by rw [d1 205 (by decide) (by decide), t205]
        rw [pI_in_t (by omega) (by decide), pg_t, plet, r23, nI_clamp (by omega), d3 q hq, tries_m (by omega), Option.bind_some, u205]
        have h5 : aset μ4 210 (wr (μ4.1 210) 0 519 fun k => μ.1 205 (455 + k)) = aset (aset μ4 210 (wr (μ4.1 210) 0 519 fun k => μ.1 205 (455 + k))) 205 (μ.1 205) := by
          exact (aset_of (by rw [rA_a (by decide), u205])).symm
        rw [h5, odds_m (by omega) hc.2.1 hc.2.2.2.1 hq hN (fun k hk => by rw [rA_s, wr0 hk]), T_some, ← h5]
        exact ⟨o2, R_scr ((ag3.tr (day_scr d1 d2)).wA (fun k h => by rw [kScr_s rfl] at h; cases h)) hR⟩
    · have hx1 : ∀ o, (if a1 < 1 then some ((-1 : Int32), μ) else if a1 ≤ 60 then o else some (-1, μ)) = some (-1, μ) := fun o => by
        by_cases c : a1 < 1
        · rw [if_pos c]
        · rw [if_neg c, if_neg (by grind)]
      rw [hx1]
      refine ⟨_, rfl, ?_⟩
      show T (aw_let (aw_wI μ 203 0 0) _) _
      rw [plet, mQ y0, Option.bind_some, decide_eq_true h0, if_pos rfl, isIn_eq, Option.bind_some, decide_eq_false h1, if_neg Bool.false_ne_true]
      exact ⟨_, rfl, rfl, R_th hR⟩
  · rw [decide_eq_false h0, if_neg Bool.false_ne_true]
    refine ⟨_, rfl, ?_⟩
    show T (aw_let (aw_wI μ 203 0 0) _) _
    rw [plet, mQ y0, Option.bind_some, decide_eq_false h0, if_neg Bool.false_ne_true]
    exact ⟨_, rfl, rfl, R_th hR⟩
