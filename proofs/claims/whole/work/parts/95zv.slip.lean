/-! sand: the reference -/
def kSm (a k : Nat) : Bool := decide (a ≠ 221 ∧ a ≠ 222 ∧ ¬ (a = 203 ∧ (k = 0 ∨ k = 38)))
def slM (C G : Nat → Nat → Nat) (S : Nat → Int32) : Prop := qTWF C ∧ qTM C S ∧ (∀ a, a < 100 → S (714 + a) = nI (G 3 a) ∧ S (814 + a) = nI (G 4 a)) ∧ (∀ a, a < 100 → G 4 a ≤ bN (decide (cellok C a))) ∧ (∀ a, G 3 a ≤ 14400)
theorem kSm_5 {μ μ' : aw_M} (h : AgK kSm μ μ') : μ'.1 205 = μ.1 205 := h.a fun k => decide_eq_true (by omega)
theorem dries_m {F a : Nat} {C G : Nat → Nat → Nat} {μ : aw_M} (hF : 200 ≤ F) (x : slM C G (μ.1 205)) (ha : a < 100) : f_X11_dries F 203 (nI a) μ = some (nI (mk (fun q => decide (dst (C 1 q) a ≤ 1)) (C 0 2)), μ) := by
  obtain ⟨hwf, tm, -⟩ := x
  have n9 := hwf.1.2.2.1
  have r6 : aw_rf 203 6 = 205 := rf203.2.1
  unfold f_X11_dries
  refine lp_u (fun n => (nI a, nI (mk (fun q => decide (dst (C 1 q) a ≤ 1)) n), nI n, μ)) (C 0 2) rfl ?_ ?_ (by omega)
  · intro q hq k
    have c1 : C 1 q < 100 := by have := (hwf.2.1 q hq).1; have := hwf.1; unfold cellok at *; omega
    have dl := dst_le c1 ha
    show f_X11_dries_4 F 203 k (nI a) (nI (mk (fun q => decide (dst (C 1 q) a ≤ 1)) q)) (nI q) μ = k (nI a, nI (mk (fun q => decide (dst (C 1 q) a ≤ 1)) q ||| (if decide (dst (C 1 q) a ≤ 1) = true then 2 ^ q else 0)), nI (q + 1), μ)
    unfold f_X11_dries_4 f_X11_dries_39
    rw [show aw_in 2 1155 = true by decide, pg_t, r6, show (2 : Int32).toNatClampNeg = 2 by decide, tm.1.2.2.1, if_neg (nI_ge hq (by omega)), show (11 : Int32) + nI q = nI (11 + q) from nI_add 11 q, pI_in_t (by omega) (by decide), pg_t, nI_clamp (by omega), (tm.2.2.2.1 q hq).1, apart_eq (by omega) (by omega), Option.bind_some]
    dsimp only
    rw [plet, plet, nI_1]
    by_cases h : dst (C 1 q) a ≤ 1
    · rw [if_neg (show ¬ (1 : Int32) < nI (dst (C 1 q) a) from (show ¬ nI 1 < nI (dst (C 1 q) a) from nI_nlt h (by omega))), shl_I q (by omega), orN_I, if_pos (decide_eq_true h)]
    · rw [if_pos (show (1 : Int32) < nI (dst (C 1 q) a) from (show nI 1 < nI (dst (C 1 q) a) from nI_lt (by omega) (by omega))), or_0, if_neg (by rw [decide_eq_true_eq]; exact h), Nat.or_zero]
  · intro k
    show f_X11_dries_4 F 203 k (nI a) (nI (mk (fun q => decide (dst (C 1 q) a ≤ 1)) (C 0 2))) (nI (C 0 2)) μ = _
    unfold f_X11_dries_4
    rw [show aw_in 2 1155 = true by decide, pg_t, r6, show (2 : Int32).toNatClampNeg = 2 by decide, tm.1.2.2.1, if_pos (nI_le (Nat.le_refl _) (by omega))]
theorem isC_m {F a : Nat} {C G : Nat → Nat → Nat} {μ : aw_M} (x : slM C G (μ.1 205)) (ha : a < 100) : f_X11_isCell F 203 (nI a) μ = some (decide (cellok C a), μ) := by
  rw [isCell_eq x.2.1.1.1 x.2.1.1.2.1 x.1.1.1 x.1.1.2.1, isC_nI (by omega), decide_eq_true ha, Bool.true_and]
theorem dSl_512 {C : Nat → Nat → Nat} (a : Nat) (h : C 0 2 ≤ 9) : dSl C a < 512 := by
  unfold dSl
  split
  · exact mk_512 _ h
  · decide
/-- rows d and on are written -/
def RW (D : Nat → Nat) (d : Nat) (μ : aw_M) : Prop := ∀ r, r ≤ d → ∀ m, m < 512 → μ.1 221 (512 * (100 - r) + m) = nI (fS D r m)
theorem row_m {F d M : Nat} {D : Nat → Nat} {μ0 μ : aw_M} {k0 : Int32 × Int32 × aw_M → Option (Int32 × aw_M)} {Q : Int32 × aw_M → Prop} (hF : 1000 ≤ F) (hd : d < 100) (hD : D (99 - d) < 512) (ag : AgK kSm μ0 μ) (rw0 : RW D d μ) (hk : ∀ μ', AgK kSm μ0 μ' → RW D (d + 1) μ' → T (k0 (nI M, nI (99 - d) + -1, μ')) Q) : T (f_X11_slippery_155 F 203 k0 (nI M) (nI (99 - d)) (nI (D (99 - d))) μ) Q := by
  have r36 : aw_rf 203 36 = 221 := rf203b.2.2.1
  have e512 : ∀ i j, (512 : Int32) * nI i + nI j = nI (512 * i + j) := fun i j => by rw [show (512 : Int32) = nI 512 from rfl, pk_mul, nI_add]
  unfold f_X11_slippery_155
  refine T_lp (fun m s => ∃ μ', s = (nI M, nI (99 - d), nI (D (99 - d)), nI m, μ') ∧ AgK kSm μ0 μ' ∧ RW D d μ' ∧ ∀ j, j < m → μ'.1 221 (512 * (99 - d) + j) = nI (fS D (d + 1) j)) 512 (by omega) ⟨μ, rfl, ag, rw0, fun j hj => absurd hj (Nat.not_lt_zero _)⟩ ?_ ?_
  · rintro m hm _ ⟨μ', rfl, ag', w1, w2⟩ k hk2
    have f1 := fS_100 D d m
    have f2 := fS_100 D d (dif m (D (99 - d)))
    have hv := dif_le m (D (99 - d))
    have e1 := w1 d (Nat.le_refl _) m hm
    have e2 := w1 d (Nat.le_refl _) (dif m (D (99 - d))) (by omega)
    have fin : T (aw_g (aw_in (nI (512 * (99 - d) + m)) 51712) (aw_let (aw_wI μ' 221 (nI (512 * (99 - d) + m)).toNatClampNeg (nI (fS D (d + 1) m))) fun μ40 => k (nI M, nI (99 - d), nI (D (99 - d)), nI m + 1, μ40))) Q := by
      rw [pI_in_t (by omega) (by decide), pg_t, nI_clamp (by omega), plet, nI_1]
      refine hk2 _ ⟨_, rfl, ag'.wI (decide_eq_false (by omega)), fun r hr j hj => ?_, fun j hj => ?_⟩
      · rw [rI_k (by omega)]
        exact w1 r hr j hj
      · by_cases e : j = m
        · rw [e, rI_s]
        · rw [rI_k (by omega)]
          exact w2 j (by omega)
    show T (f_X11_slippery_159 F 203 k k0 (nI M) (nI (99 - d)) (nI (D (99 - d))) (nI m) μ') Q
    unfold f_X11_slippery_159 f_X11_slippery_214 f_X11_slippery_242
    rw [if_neg (show ¬ (512 : Int32) ≤ nI m from (show ¬ nI 512 ≤ nI m from nI_ge hm (by decide))), nI_1, show 99 - d + 1 = 100 - d by omega, e512, e512, pI_in_t (by omega) (by decide), pg_t, r36, nI_clamp (by omega), e1, plet, dif_I (by omega)]
    by_cases h0 : D (99 - d) = 0
    · have ef : fS D (d + 1) m = fS D d m := by
        show min (fS D d m) (if D (99 - d) = 0 then 100 else _) = _
        rw [if_pos h0]
        omega
      rw [if_pos (by rw [h0]; rfl), if_pos (show nI (fS D d m) ≤ 100 from (show nI (fS D d m) ≤ nI 100 from nI_le f1 (by decide))), ← ef]
      exact fin
    · have ef : fS D (d + 1) m = min (fS D d m) (1 + fS D d (dif m (D (99 - d)))) := by
        show min (fS D d m) (if D (99 - d) = 0 then 100 else _) = _
        rw [if_neg h0]
      rw [if_neg (show ¬ nI (D (99 - d)) = 0 from fun h => h0 ((nI_eq (b := 0) (by omega) (by decide)).1 h)), e512, pI_in_t (by omega) (by decide), pg_t, nI_clamp (by omega), e2, show (1 : Int32) + nI (fS D d (dif m (D (99 - d)))) = nI (1 + fS D d (dif m (D (99 - d)))) from nI_add 1 _]
      by_cases c : fS D d m ≤ 1 + fS D d (dif m (D (99 - d)))
      · rw [if_pos (nI_le c (by omega)), show fS D d m = fS D (d + 1) m by omega]
        exact fin
      · rw [if_neg (nI_ge (by omega) (by omega)), show 1 + fS D d (dif m (D (99 - d))) = fS D (d + 1) m by omega]
        exact fin
  · rintro _ ⟨μ', rfl, ag', w1, w2⟩ k
    show T (f_X11_slippery_159 F 203 k k0 (nI M) (nI (99 - d)) (nI (D (99 - d))) (nI 512) μ') Q
    unfold f_X11_slippery_159 f_X11_slippery_249
    rw [if_pos (show (512 : Int32) ≤ nI 512 by decide)]
    refine hk μ' ag' fun r hr m hm => ?_
    by_cases e : r = d + 1
    · subst e
      rw [show 100 - (d + 1) = 99 - d by omega]
      exact w2 m hm
    · exact w1 r (by omega) m hm
/-- reading the cells off the rows -/
theorem read_m {F M : Nat} {C G : Nat → Nat → Nat} {μ0 μ : aw_M} (hF : 1000 ≤ F) (x : slM C G (μ0.1 205)) (ag : AgK kSm μ0 μ) (hM : M < 512) (rw0 : RW (dSl C) 100 μ) (hfin : fS (dSl C) 100 M ≤ 9) : T (f_X11_slippery_255 F 203 (nI M) μ) fun r => AgK kSm μ0 r.2 ∧ r.1 = nI (fS (dSl C) 100 M) ∧ r.2.1 203 38 = r.1 ∧ ∀ i, i < fS (dSl C) 100 M → r.2.1 222 i = nI ((lS (dSl C) 100 M).getD i 0) := by
  have n9 := x.1.1.2.2.1
  have hlen := lS_len (dSl C) 100 M hM (by omega)
  have r36 : aw_rf 203 36 = 221 ∧ aw_rf 203 37 = 222 := ⟨rf203b.2.2.1, rf203b.2.2.2.1⟩
  have e512 : ∀ i j, (512 : Int32) * nI i + nI j = nI (512 * i + j) := fun i j => by rw [show (512 : Int32) = nI 512 from rfl, pk_mul, nI_add]
  generalize hD : dSl C = D at *
  have hD5 : ∀ a, D a < 512 := fun a => by rw [← hD]; exact dSl_512 a n9
  unfold f_X11_slippery_255
  rw [plet]
  refine T_lp (fun i s => ∃ m μ' pl, s = (nI m, nI i, μ') ∧ AgK kSm μ0 μ' ∧ m < 512 ∧ fS D (100 - i) m < 100 ∧ pl ++ lS D (100 - i) m = lS D 100 M ∧ μ'.1 203 38 = nI pl.length ∧ RW D 100 μ' ∧ ∀ j, j < pl.length → μ'.1 222 j = nI (pl.getD j 0)) 100 (by omega) ⟨M, _, [], rfl, ag.wI (decide_eq_false (by omega)), hM, (show fS D 100 M < 100 by omega), rfl, rI_s, fun r hr m hm => by rw [rI_a (by decide)]; exact rw0 r hr m hm, fun j hj => absurd hj (Nat.not_lt_zero _)⟩ ?_ ?_
  · rintro i hi _ ⟨m, μ', pl, rfl, ag', hm, hf, hpl, e38, w, epl⟩ k hk
    have x' : slM C G (μ'.1 205) := by rw [kSm_5 ag']; exact x
    show T (f_X11_slippery_264 F 203 k (nI m) (nI i) μ') _
    unfold f_X11_slippery_264
    by_cases hm0 : m = 0
    · subst hm0
      rw [(lS_0 D (100 - i)).2, List.append_nil] at hpl
      rw [if_pos (show nI 0 = 0 from rfl), T_some]
      rw [← hpl] at hlen ⊢
      rw [hlen] at e38 epl
      exact ⟨ag', e38, rfl, epl⟩
    · rw [if_neg (show ¬ nI m = 0 from fun h => hm0 ((nI_eq (b := 0) (by omega) (by decide)).1 h)), isC_m x' hi, Option.bind_some]
      dsimp only
      have go : T (f_X11_slippery_285 F 203 k (nI m) (nI i) (nI (D i)) μ') fun r => AgK kSm μ0 r.2 ∧ r.1 = nI (fS D 100 M) ∧ r.2.1 203 38 = r.1 ∧ ∀ i, i < fS D 100 M → r.2.1 222 i = nI ((lS D 100 M).getD i 0) := by
        obtain ⟨d, ed⟩ : ∃ d, 100 - i = d + 1 := ⟨99 - i, by omega⟩
        have e99 : 99 - d = i := by omega
        have ed2 : 100 - (i + 1) = d := by omega
        rw [ed] at hf hpl
        have hs := fS_s D d m
        have hl := lS_s D d m
        have hmin : fS D (d + 1) m = min (fS D d m) (if D (99 - d) = 0 then 100 else 1 + fS D d (dif m (D (99 - d)))) := rfl
        rw [e99] at hs hl hmin
        have f1 := fS_100 D d m
        have f2 := fS_100 D d (dif m (D i))
        have hv := dif_le m (D i)
        unfold f_X11_slippery_285 f_X11_slippery_358
        have skip : tkS D d m = false → T (k (nI m, nI i + 1, μ')) fun r => AgK kSm μ0 r.2 ∧ r.1 = nI (fS D 100 M) ∧ r.2.1 203 38 = r.1 ∧ ∀ i, i < fS D 100 M → r.2.1 222 i = nI ((lS D 100 M).getD i 0) := fun ht => by
          rw [nI_1]
          rw [ht, if_neg Bool.false_ne_true] at hs hl
          rw [hs] at hf
          rw [hl] at hpl
          exact hk _ ⟨m, μ', pl, rfl, ag', hm, by rw [ed2]; exact hf, by rw [ed2]; exact hpl, e38, w, epl⟩
        by_cases h0 : D i = 0
        · rw [if_pos (by rw [h0]; rfl)]
          exact skip (decide_eq_false fun h => h.1 (by rw [e99]; exact h0))
        · rw [if_neg h0] at hmin
          have e1 := w d (by omega) (dif m (D i)) (by omega)
          have e2 := w (d + 1) (by omega) m hm
          rw [show 100 - d = i + 1 by omega] at e1
          rw [show 100 - (d + 1) = i by omega] at e2
          rw [if_neg (show ¬ nI (D i) = 0 from fun h => h0 ((nI_eq (b := 0) (by have := hD5 i; omega) (by decide)).1 h)), nI_1, dif_I (by omega), e512, e512, pI_in_t (by omega) (by decide), pg_t, pI_in_t (by omega) (by decide), pg_t, r36.1, nI_clamp (by omega), nI_clamp (by omega), e1, e2, show (1 : Int32) + nI (fS D d (dif m (D i))) = nI (1 + fS D d (dif m (D i))) from nI_add 1 _]
          by_cases ht : tkS D d m = true
          · rw [ht, if_pos rfl] at hs hl
            rw [if_pos (by rw [hs]), e38]
            have hl9 : pl.length + 1 ≤ 9 := by
              have := congrArg List.length hpl
              rw [List.length_append, hl, List.length_cons, hlen] at this
              omega
            rw [pI_in_t (by omega) (by decide), pg_t, plet, plet, plet, r36.2, nI_clamp (by omega), rI_a (by decide), e38, nI_1]
            rw [hs] at hf
            rw [hl] at hpl
            refine hk _ ⟨dif m (D i), _, pl ++ [i], rfl, (ag'.wI (decide_eq_false (by omega))).wI (decide_eq_false (by omega)), by omega, by rw [ed2]; omega, ?_, ?_, ?_, ?_⟩
            · rw [ed2, List.append_assoc]
              exact hpl
            · rw [rI_s, List.length_append]
              rfl
            · intro r hr j hj
              rw [rI_a (by decide), rI_a (by decide)]
              exact w r hr j hj
            · intro j hj
              rw [rI_a (by decide)]
              rw [List.length_append] at hj
              by_cases e : j = pl.length
              · rw [e, rI_s, List.getD_eq_getElem?_getD, List.getElem?_append_right (Nat.le_refl _), Nat.sub_self]
                rfl
              · have hj : j < pl.length := by have hj : j < pl.length + 1 := hj; omega
                rw [rI_k e, epl j hj, List.getD_eq_getElem?_getD, List.getD_eq_getElem?_getD, List.getElem?_append_left hj]
          · have ht2 : ¬ 1 + fS D d (dif m (D i)) ≤ fS D d m := fun h => ht (decide_eq_true (by rw [e99]; exact ⟨h0, h⟩))
            rw [if_neg (fun h => by have := (nI_eq (by omega) (by omega)).1 h; omega)]
            rw [← nI_1]
            exact skip (by cases c : tkS D d m with | false => rfl | true => exact absurd c ht)
      by_cases hc : cellok C i
      · rw [if_pos (decide_eq_true hc), dries_m (by omega) x' hi, Option.bind_some]
        dsimp only
        have : D i = mk (fun q => decide (dst (C 1 q) i ≤ 1)) (C 0 2) := by rw [← hD]; exact if_pos hc
        rw [← this]
        exact go
      · rw [if_neg (by rw [decide_eq_true_eq]; exact hc)]
        have : D i = 0 := by rw [← hD]; exact if_neg hc
        rw [this] at go
        exact go
  · rintro _ ⟨m, μ', pl, rfl, ag', hm, hf, hpl, e38, w, epl⟩ k
    rw [Nat.sub_self] at hf hpl
    have hm0 : m = 0 := Classical.byContradiction fun h => by
      have : fS D 0 m = 100 := if_neg h
      omega
    subst hm0
    rw [show lS D 0 0 = [] from rfl, List.append_nil] at hpl
    show T (f_X11_slippery_264 F 203 k (nI 0) (nI 100) μ') _
    unfold f_X11_slippery_264
    rw [if_pos (show nI 0 = 0 from rfl), T_some]
    rw [← hpl] at hlen ⊢
    rw [hlen] at e38 epl
    exact ⟨ag', e38, rfl, epl⟩
