theorem vis_lt {T : Nat → Nat → Nat} {m j : Nat} (h : j < (vis T m).length) : (vis T m).getD j 0 < T 0 3 := by
  rw [List.getD_eq_getElem?_getD, List.getElem?_eq_getElem h]
  have h1 : (vis T m)[j] ∈ vis T m := List.getElem_mem h
  unfold vis at h1
  exact List.mem_range.1 (List.mem_filter.1 h1).1
def xiI (cv : Nat) (o : Option Nat) : Int32 := match o with
  | none => -1
  | some i => nI (cv + i)
theorem nearest_x {F a4 p m off N E : Nat} {a2 : Int32} {T : Nat → Nat → Nat} {U : Nat → Nat} {μ : aw_M} (hF : 100 ≤ F) (hwf : qTWF T) (hG : qGX T μ 28) (hp : p < 18) (hpq : p % 9 < T 0 2) (hm : m < 240) (hv : vis T m ≠ []) (h2 : a2 + 1 = nI N) (hN : N ≤ 100) (hE : E ≤ 1000) (hl : off + 20 ≤ (aw_sh a4).2) (hl2 : (aw_sh a4).2 < 1000) (hU : ∀ c, c < T 0 3 → μ.1 a4 (off + c) = nI (U c) ∧ U c ≤ 1000) (hpl : pl T p < 100) :
    f_X1_nearestVisit F 28 a4 (nI p) (nI (nbz T m)) a2 (nI E) (nI off) μ = some (xiI (cntv T m) (xi (fun c => dst (pl T p) (T 6 c)) U N E (fun k => (vis T m).getD k 0) (vis T m).length), μ) := by
  have hnc := hwf.1.2.2.2
  have hcell : ∀ c, c < T 0 3 → T 6 c < 100 := fun c hc => by
    have h := (hwf.2.2.2.1 c hc).2.1
    have := hwf.1
    unfold cellok at h
    omega
  obtain ⟨g1, g2, g3, g4⟩ := (hG.2.2.2.2 m hm).2 hv
  obtain ⟨g3, g5⟩ := (⟨g3, g4⟩ : _ ∧ _)
  have f1 : μ.1 37 (nbz T m) = nI (cntv T m) := g3
  have f2 : μ.1 37 (nbz T m + 1) = nI (cntv T (m + 1)) := g5.1
  have f3 : ∀ j, j < (vis T m).length → μ.1 38 (cntv T m + j) = nI ((vis T m).getD j 0) := g5.2
  have fa : ∀ c, c < T 0 3 → μ.1 29 (20 * p + c) = nI (dst (pl T p) (T 6 c)) := (hG.1 p hp hpq).1
  have b1 := nbz_le T (m + 1)
  have b2 := cntv_le T (m + 1)
  have b3 := cntv_succ T m
  have b4 : nbz T (m + 1) = nbz T m + 1 := by
    show nbz T m + bN (!(vis T m).isEmpty) = _
    cases hx : vis T m with
    | nil => exact absurd hx hv
    | cons a l => rfl
  unfold f_X1_nearestVisit
  have r9 : aw_rf 28 10 = 37 := by simp only [rf0, rf1, rf4, rf5, rf19, rf23, rf28, rf39, rf53, rf67, rf71, rf76, rf88, rf97, rf101, rf109, rf110, rf124, rf128, rf133, rf144, rf156, rf157, rf171, rf175, rf180, rf191, rf51]
  have r10 : aw_rf 28 11 = 38 := by simp only [rf0, rf1, rf4, rf5, rf19, rf23, rf28, rf39, rf53, rf67, rf71, rf76, rf88, rf97, rf101, rf109, rf110, rf124, rf128, rf133, rf144, rf156, rf157, rf171, rf175, rf180, rf191, rf51]
  have r0 : aw_rf 28 0 = 29 := by simp only [rf0, rf1, rf4, rf5, rf19, rf23, rf28, rf39, rf53, rf67, rf71, rf76, rf88, rf97, rf101, rf109, rf110, rf124, rf128, rf133, rf144, rf156, rf157, rf171, rf175, rf180, rf191, rf51]
  rw [plet, pI_in_t (by omega) (by decide), pg_t, plet, r9, nI_clamp (by omega), f1, h2]
  refine lp_up (fun j => (nI p, nI (nbz T m), nI E, nI off, xiI (cntv T m) (xi (fun c => dst (pl T p) (T 6 c)) U N E (fun k => (vis T m).getD k 0) j), nI (bd (fun c => dst (pl T p) (T 6 c)) N (fun k => (vis T m).getD k 0) (xi (fun c => dst (pl T p) (T 6 c)) U N E (fun k => (vis T m).getD k 0) j)), nI (cntv T m + j), μ)) (vis T m).length _ ?_ ?_ (by omega)
  · intro j hj g
    have hc := vis_lt hj
    have hd := dst_le hpl (hcell _ hc)
    have hc20 : (vis T m).getD j 0 < 20 := by omega
    have hu := hU _ hc
    have hbd : bd (fun c => dst (pl T p) (T 6 c)) N (fun k => (vis T m).getD k 0) (xi (fun c => dst (pl T p) (T 6 c)) U N E (fun k => (vis T m).getD k 0) j) ≤ 100 := by
      cases hx : xi (fun c => dst (pl T p) (T 6 c)) U N E (fun k => (vis T m).getD k 0) j with
      | none => exact hN
      | some i =>
        have := (xi_lt j i hx).2
        show dst (pl T p) (T 6 ((vis T m).getD i 0)) ≤ 100
        omega
    have ex : xi (fun c => dst (pl T p) (T 6 c)) U N E (fun k => (vis T m).getD k 0) (j + 1) = if dst (pl T p) (T 6 ((vis T m).getD j 0)) < bd (fun c => dst (pl T p) (T 6 c)) N (fun k => (vis T m).getD k 0) (xi (fun c => dst (pl T p) (T 6 c)) U N E (fun k => (vis T m).getD k 0) j) ∧ U ((vis T m).getD j 0) < E then some j else xi (fun c => dst (pl T p) (T 6 c)) U N E (fun k => (vis T m).getD k 0) j := rfl
    show f_X1_nearestVisit_16 F 28 a4 g (nI p) (nI (nbz T m)) (nI E) (nI off) _ _ (nI (cntv T m + j)) μ = g (nI p, nI (nbz T m), nI E, nI off, xiI (cntv T m) (xi (fun c => dst (pl T p) (T 6 c)) U N E (fun k => (vis T m).getD k 0) (j + 1)), nI (bd (fun c => dst (pl T p) (T 6 c)) N (fun k => (vis T m).getD k 0) (xi (fun c => dst (pl T p) (T 6 c)) U N E (fun k => (vis T m).getD k 0) (j + 1))), nI (cntv T m + j + 1), μ)
    rw [ex]
    generalize hX : xi (fun c => dst (pl T p) (T 6 c)) U N E (fun k => (vis T m).getD k 0) j = X at hbd ⊢
    have hVd : (fun k => (vis T m).getD k 0) j = (vis T m).getD j 0 := rfl
    have hfj := f3 j hj
    generalize hV : (vis T m).getD j 0 = c at hc hd hc20 hu hfj hVd ⊢
    have e20 : nI p * 20 + nI c = nI (20 * p + c) := by
      have : nI p * 20 + nI c = 20 * nI p + nI c := by grind
      rw [this]
      simp (disch := omega) only [pI_lit, nI_add, nI_clamp, nI_leI, nI_ltI, nI_eq, pk_mul]
    unfold f_X1_nearestVisit_16 f_X1_nearestVisit_86
    rw [nI_1, pI_in_t (by omega) (by decide), pg_t, r9, nI_clamp (by omega), f2, b3, if_neg (nI_ge (by omega) (by omega)), pI_in_t (by omega) (by decide), pg_t, plet, r10, nI_clamp (by omega), hfj, e20, pI_in_t (by omega) (by decide), pg_t, r0, nI_clamp (by omega), fa c hc, nI_add, pI_in_t (by omega) (by omega), pg_t, nI_clamp (by omega), hu.1, nI_1]
    by_cases k1 : dst (pl T p) (T 6 c) < bd (fun c => dst (pl T p) (T 6 c)) N (fun k => (vis T m).getD k 0) X
    · rw [if_neg (nI_ge k1 (by omega))]
      by_cases k2 : U c < E
      · rw [if_neg (nI_ge k2 (by omega)), if_pos ⟨k1, k2⟩, pg_t, plet]
        show _ = g (nI p, nI (nbz T m), nI E, nI off, nI (cntv T m + j), nI (dst (pl T p) (T 6 ((vis T m).getD j 0))), nI (cntv T m + j + 1), μ)
        rw [hV]
      · rw [if_pos (nI_le (by omega) (by omega)), if_neg (fun h => k2 h.2)]
    · rw [if_pos (nI_le (by omega) (by omega)), if_neg (fun h => k1 h.1)]
  · intro g
    show f_X1_nearestVisit_16 F 28 a4 g (nI p) (nI (nbz T m)) (nI E) (nI off) _ _ (nI (cntv T m + (vis T m).length)) μ = _
    unfold f_X1_nearestVisit_16
    rw [nI_1, pI_in_t (by omega) (by decide), pg_t, r9, nI_clamp (by omega), f2, b3, if_pos (nI_le (Nat.le_refl _) (by omega))]
