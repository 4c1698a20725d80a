theorem slip_m {F : Nat} {C G : Nat → Nat → Nat} {μ0 : aw_M} (hF : 1000 ≤ F) (x : slM C G (μ0.1 205)) (hfin : fS (dSl C) 100 (mk (wetM C G) (C 0 2)) ≤ 9) : T (f_X11_slippery F 203 μ0) fun r => AgK kSm μ0 r.2 ∧ r.1 = nI (fS (dSl C) 100 (mk (wetM C G) (C 0 2))) ∧ r.2.1 203 38 = r.1 ∧ ∀ i, i < fS (dSl C) 100 (mk (wetM C G) (C 0 2)) → r.2.1 222 i = nI ((lS (dSl C) 100 (mk (wetM C G) (C 0 2))).getD i 0) := by
  have n9 := x.1.1.2.2.1
  have r6 : aw_rf 203 6 = 205 := rf203.2.1
  have r36 : aw_rf 203 36 = 221 := rf203b.2.2.1
  unfold f_X11_slippery
  rw [plet]
  have a0 : AgK kSm μ0 (aw_wI μ0 203 0 0) := (AgK.rf μ0).wI (decide_eq_false (by omega))
  generalize aw_wI μ0 203 0 0 = μ at a0 ⊢
  have x1 : slM C G (μ.1 205) := by rw [kSm_5 a0]; exact x
  refine T_lp (fun q s => s = (nI (mk (fun q => decide (10 ≤ G 3 (C 1 q))) q), nI q, μ)) (C 0 2) (by omega) rfl ?_ ?_
  · rintro q hq _ rfl k hk
    have c1 : C 1 q < 100 := by have := (x.1.2.1 q hq).1; have := x.1.1; unfold cellok at *; omega
    have g3 := x.2.2.2.2 (C 1 q)
    show T (f_X11_slippery_9 F 203 k (nI (mk (fun q => decide (10 ≤ G 3 (C 1 q))) q)) (nI q) μ) _
    unfold f_X11_slippery_9 f_X11_slippery_50
    rw [show aw_in 2 1155 = true by decide, pg_t, r6, show (2 : Int32).toNatClampNeg = 2 by decide, x1.2.1.1.2.2.1, if_neg (nI_ge hq (by omega)), show (11 : Int32) + nI q = nI (11 + q) from nI_add 11 q, pI_in_t (by omega) (by decide), pg_t, nI_clamp (by omega), (x1.2.1.2.2.2.1 q hq).1, show (714 : Int32) + nI (C 1 q) = nI (714 + C 1 q) from nI_add 714 _, pI_in_t (by omega) (by decide), pg_t, nI_clamp (by omega), (x1.2.2.1 _ c1).1, plet, plet, nI_1]
    by_cases h : 10 ≤ G 3 (C 1 q)
    · rw [if_neg (show ¬ nI (G 3 (C 1 q)) < 10 from (show ¬ nI (G 3 (C 1 q)) < nI 10 from nI_nlt h (by omega))), shl_I q (by omega), orN_I]
      refine hk _ ?_
      show _ = (nI (mk (fun q => decide (10 ≤ G 3 (C 1 q))) q ||| (if decide (10 ≤ G 3 (C 1 q)) = true then 2 ^ q else 0)), nI (q + 1), μ)
      rw [if_pos (decide_eq_true h)]
    · rw [if_pos (show nI (G 3 (C 1 q)) < 10 from (show nI (G 3 (C 1 q)) < nI 10 from nI_lt (by omega) (by decide))), or_0]
      refine hk _ ?_
      show _ = (nI (mk (fun q => decide (10 ≤ G 3 (C 1 q))) q ||| (if decide (10 ≤ G 3 (C 1 q)) = true then 2 ^ q else 0)), nI (q + 1), μ)
      rw [if_neg (by rw [decide_eq_true_eq]; exact h), Nat.or_zero]
  rintro _ rfl k
  show T (f_X11_slippery_9 F 203 k (nI (mk (fun q => decide (10 ≤ G 3 (C 1 q))) (C 0 2))) (nI (C 0 2)) μ) _
  unfold f_X11_slippery_9 f_X11_slippery_58
  rw [show aw_in 2 1155 = true by decide, pg_t, r6, show (2 : Int32).toNatClampNeg = 2 by decide, x1.2.1.1.2.2.1, if_pos (nI_le (Nat.le_refl _) (by omega))]
  refine T_lp (fun n s => s = (nI (mk (fun q => decide (10 ≤ G 3 (C 1 q)) && !(syS C G q n)) (C 0 2)), nI n, μ)) 100 (by omega) ?_ ?_ ?_
  · rw [show mk (fun q => decide (10 ≤ G 3 (C 1 q))) (C 0 2) = mk (fun q => decide (10 ≤ G 3 (C 1 q)) && !(syS C G q 0)) (C 0 2) from mk_ext fun i _ => by
      show _ = (decide (10 ≤ G 3 (C 1 i)) && !false)
      rw [Bool.not_false, Bool.and_true]]
    rfl
  · rintro n hn _ rfl k hk
    have g4 := x.2.2.2.1 n hn
    have g41 := bN_le (decide (cellok C n))
    have m5 : mk (fun q => decide (10 ≤ G 3 (C 1 q)) && !(syS C G q n)) (C 0 2) < 512 := mk_512 _ n9
    show T (f_X11_slippery_60 F 203 k (nI (mk (fun q => decide (10 ≤ G 3 (C 1 q)) && !(syS C G q n)) (C 0 2))) (nI n) μ) _
    unfold f_X11_slippery_60 f_X11_slippery_90
    rw [if_neg (show ¬ (100 : Int32) ≤ nI n from (show ¬ nI 100 ≤ nI n from nI_ge hn (by decide))), show (814 : Int32) + nI n = nI (814 + n) from nI_add 814 n, pI_in_t (by omega) (by decide), pg_t, r6, nI_clamp (by omega), (x1.2.2.1 n hn).2]
    by_cases h : G 4 n = 1
    · rw [if_pos (by rw [h]; rfl), dries_m (by omega) x1 hn, Option.bind_some]
      dsimp only
      rw [dif_I (by omega), plet, dif_mk, nI_1]
      refine hk _ ?_
      refine congrArg (fun v => (nI v, nI (n + 1), μ)) (mk_ext fun i _ => ?_)
      show _ = (decide (10 ≤ G 3 (C 1 i)) && !(syS C G i n || (decide (G 4 n = 1) && decide (dst (C 1 i) n ≤ 1))))
      rw [decide_eq_true h]
      cases decide (10 ≤ G 3 (C 1 i)) <;> cases syS C G i n <;> cases decide (dst (C 1 i) n ≤ 1) <;> rfl
    · rw [if_neg (show ¬ nI (G 4 n) = 1 from fun q => h ((nI_eq (b := 1) (by omega) (by decide)).1 q)), nI_1]
      refine hk _ ?_
      refine congrArg (fun v => (nI v, nI (n + 1), μ)) (mk_ext fun i _ => ?_)
      show _ = (decide (10 ≤ G 3 (C 1 i)) && !(syS C G i n || (decide (G 4 n = 1) && decide (dst (C 1 i) n ≤ 1))))
      rw [decide_eq_false h, Bool.false_and, Bool.or_false]
  rintro _ rfl k
  show T (f_X11_slippery_60 F 203 k (nI (mk (wetM C G) (C 0 2))) (nI 100) μ) _
  have hM5 : mk (wetM C G) (C 0 2) < 512 := mk_512 _ n9
  generalize mk (wetM C G) (C 0 2) = M at hfin hM5 ⊢
  unfold f_X11_slippery_60 f_X11_slippery_96
  rw [if_pos (show (100 : Int32) ≤ nI 100 by decide)]
  refine T_lp (fun m s => ∃ μ', s = (nI M, nI m, μ') ∧ AgK kSm μ0 μ' ∧ ∀ j, j < m → μ'.1 221 (51200 + j) = nI (fS (dSl C) 0 j)) 512 (by omega) ⟨μ, rfl, a0, fun j hj => absurd hj (Nat.not_lt_zero _)⟩ ?_ ?_
  · rintro m hm _ ⟨μ', rfl, ag', w⟩ k hk
    have step : ∀ v, v = nI (fS (dSl C) 0 m) → T (f_X11_slippery_124 F 203 k (nI M) (nI m) v (51200 + nI m) μ') fun r => AgK kSm μ0 r.2 ∧ r.1 = nI (fS (dSl C) 100 M) ∧ r.2.1 203 38 = r.1 ∧ ∀ i, i < fS (dSl C) 100 M → r.2.1 222 i = nI ((lS (dSl C) 100 M).getD i 0) := fun v hv => by
      unfold f_X11_slippery_124
      rw [show (51200 : Int32) + nI m = nI (51200 + m) from nI_add 51200 m, pI_in_t (by omega) (by decide), pg_t, plet, r36, nI_clamp (by omega), nI_1]
      refine hk _ ⟨_, rfl, ag'.wI (decide_eq_false (by omega)), fun j hj => ?_⟩
      by_cases e : j = m
      · rw [e, rI_s, hv]
      · rw [rI_k (by omega)]
        exact w j (by omega)
    show T (f_X11_slippery_98 F 203 k (nI M) (nI m) μ') _
    unfold f_X11_slippery_98
    rw [if_neg (show ¬ (512 : Int32) ≤ nI m from (show ¬ nI 512 ≤ nI m from nI_ge hm (by decide)))]
    by_cases e : m = 0
    · subst e
      rw [if_pos (show nI 0 = 0 from rfl)]
      exact step 0 rfl
    · rw [if_neg (show ¬ nI m = 0 from fun h => e ((nI_eq (b := 0) (by omega) (by decide)).1 h))]
      exact step 100 (by rw [show fS (dSl C) 0 m = 100 from if_neg e]; rfl)
  rintro _ ⟨μ2, rfl, ag2, w2⟩ k
  show T (f_X11_slippery_98 F 203 k (nI M) (nI 512) μ2) _
  unfold f_X11_slippery_98 f_X11_slippery_131
  rw [if_pos (show (512 : Int32) ≤ nI 512 by decide)]
  refine T_lp (fun d s => ∃ μ', s = (nI M, nI 99 - nI d, μ') ∧ AgK kSm μ0 μ' ∧ RW (dSl C) d μ') 100 (by omega) ⟨μ2, rfl, ag2, fun r hr m hm => ?_⟩ ?_ ?_
  · have : r = 0 := by omega
    subst this
    exact w2 m hm
  · rintro d hd _ ⟨μ', rfl, ag', w⟩ k hk
    obtain ⟨n1, n2⟩ := n99 hd
    have x' : slM C G (μ'.1 205) := by rw [kSm_5 ag']; exact x
    show T (f_X11_slippery_134 F 203 k (nI M) (nI 99 - nI d) μ') _
    unfold f_X11_slippery_134
    have go := row_m (M := M) (D := dSl C) (k0 := k) (Q := fun r => AgK kSm μ0 r.2 ∧ r.1 = nI (fS (dSl C) 100 M) ∧ r.2.1 203 38 = r.1 ∧ ∀ i, i < fS (dSl C) 100 M → r.2.1 222 i = nI ((lS (dSl C) 100 M).getD i 0)) hF hd (dSl_512 _ n9) ag' w (fun μ3 a3 w3 => by
      rw [n2]
      exact hk _ ⟨μ3, rfl, a3, w3⟩)
    rw [n1, if_neg (nI_pos (by omega)), isC_m x' (by omega), Option.bind_some]
    dsimp only
    by_cases hc : cellok C (99 - d)
    · rw [if_pos (decide_eq_true hc), dries_m (by omega) x' (by omega), Option.bind_some]
      dsimp only
      have : dSl C (99 - d) = mk (fun q => decide (dst (C 1 q) (99 - d) ≤ 1)) (C 0 2) := if_pos hc
      rw [← this]
      exact go
    · rw [if_neg (by rw [decide_eq_true_eq]; exact hc)]
      have : dSl C (99 - d) = 0 := if_neg hc
      rw [this] at go
      exact go
  · rintro _ ⟨μ', rfl, ag', w⟩ k
    show T (f_X11_slippery_134 F 203 k (nI M) (nI 99 - nI 100) μ') _
    unfold f_X11_slippery_134
    rw [if_pos (show nI 99 - nI 100 < 0 by decide)]
    exact read_m hF x ag' hM5 w hfin
def kSlp (a k : Nat) : Bool := decide (¬ (106 ≤ a ∧ a ≤ 108) ∧ ¬ (a = 101 ∧ (k = 8 ∨ k = 9)) ∧ a ≠ 221 ∧ a ≠ 222 ∧ ¬ (a = 203 ∧ (k = 0 ∨ k = 38)))
theorem p_slippery : op_slippery R := by
  intro F hF μ hR
  obtain ⟨⟨C, W, P, Y, G, hS, hG⟩, htp, hfa, hkp, hpz, hK⟩ := R_iff.1 hR
  obtain ⟨⟨hwf, tx, tm⟩, -, ⟨pw, px, pm⟩, ⟨yw, yx, ym⟩, fw, fx, fm, fs⟩ := id hS
  have n9 := hwf.1.2.2.1
  have g3 : ∀ a, G 3 a ≤ 14400 := fun a => by have := (fw.2.2.2.2.1 a).1; have := fw.1.2.1; omega
  have g4 := fw.2.2.2.2.2
  have xx : slX C G μ := ⟨hwf, tx, fx.2.2.2, g4, g3⟩
  have xm : slM C G (μ.1 205) := ⟨hwf, tm, fm.2.2.2, g4, g3⟩
  have eM : mk (wetM C G) (C 0 2) = mk (wetS C G) (C 0 2) := mk_ext fun i hi => wet_eq hwf g4 hi
  have hM5 : mk (wetS C G) (C 0 2) < 512 := mk_512 _ n9
  have hDM : ∀ a, a < 100 → (fun a => nmS C G a (C 0 2)) a = dSl C a &&& mk (wetS C G) (C 0 2) := fun a ha => nm_eq hwf ha
  obtain ⟨q1, q2⟩ := fS_M hDM 100 (mk (wetS C G) (C 0 2)) (Nat.and_self _)
  have hcov : fS (dSl C) 100 (mk (wetS C G) (C 0 2)) ≤ 9 := by
    refine Nat.le_trans (fS_cov (dSl C) 100 _ hM5 fun i hi => ?_) (pc_le _)
    rw [mk_tb, Bool.and_eq_true, decide_eq_true_eq] at hi
    have c1 := (hwf.2.1 i hi.1).1
    have c2 : C 1 i < 100 := by have := hwf.1; unfold cellok at *; omega
    refine ⟨99 - C 1 i, by omega, ?_⟩
    rw [show 99 - (99 - C 1 i) = C 1 i by omega, show dSl C (C 1 i) = mk (fun q => decide (dst (C 1 q) (C 1 i) ≤ 1)) (C 0 2) from if_pos c1, mk_tb, decide_eq_true hi.1, Bool.true_and]
    refine decide_eq_true ?_
    unfold dst adiff
    omega
  have hx := findSand_x (F := F) (by omega) xx
  rw [← q1, ← q2] at hx
  rw [← eM] at hx hcov
  have hlen := lS_len (dSl C) 100 (mk (wetM C G) (C 0 2)) (mk_512 _ n9) (by omega)
  have hlt := lS_lt (dSl C) 100 (mk (wetM C G) (C 0 2))
  have hm := fun (μ' : aw_M) (hh : slM C G (μ'.1 205)) => slip_m (F := F) (by omega) hh hcov
  generalize fS (dSl C) 100 (mk (wetM C G) (C 0 2)) = n at hx hcov hlen hm
  generalize lS (dSl C) 100 (mk (wetM C G) (C 0 2)) = l at hx hlen hlt hm
  rw [show cl10 n = n from if_neg (by omega)] at hx
  have rr : aw_rf 0 10 = 101 ∧ aw_rf (aw_rf 0 1) 0 = 5 ∧ aw_rf (aw_rf 0 1) 4 = 39 := by simp only [rf0, rf1, rf4, rf5, rf19, rf23, rf28, rf39, rf53, rf67, rf71, rf76, rf88, rf97, rf101, rf109, rf110, rf124, rf128, rf133, rf144, rf156, rf157, rf171, rf175, rf180, rf191, rf51, and_self]
  unfold okI f_X10_slippery
  rw [rr.1, rr.2.1, rr.2.2, T_bind]
  refine T_mono hx ?_
  rintro ⟨r1, μ1⟩ ⟨ag1, e1, e8, e9⟩
  dsimp only at ag1 e1 e8 e9
  subst e1
  rw [T_some]
  dsimp only
  have h205 : μ1.1 205 = μ.1 205 := ag1.a fun k => decide_eq_true (by omega)
  refine T_mono (hm μ1 (by rw [h205]; exact xm)) ?_
  rintro ⟨r2, μ2⟩ ⟨ag2, e2, e38, e222⟩
  dsimp only at ag2 e2 e38 e222 ⊢
  subst e2
  have ag : AgK kSlp μ μ2 := (ag1.sub fun a k h => decide_eq_true (by have := of_decide_eq_true h; omega)).tr (ag2.sub fun a k h => decide_eq_true (by have := of_decide_eq_true h; omega))
  have f8 : μ2.1 101 8 = nI n := (ag2 101 8 (decide_eq_true (by omega))).1.trans e8
  have f9 : μ2.2 101 9 = Int64.ofNat (pkN l) := (ag2 101 9 (decide_eq_true (by omega))).2.trans (e9 (by omega))
  refine ⟨rfl, R_iff.2 ⟨Rsc_ag (ag.sub fun a k h => ?_) ⟨C, W, P, Y, G, hS, hG⟩, Rtp_ag (ag.sub fun a k h => ?_) htp, Rfa_ag (ag.sub fun a k h => ?_) hfa, Rkp_ag (ag.sub fun a k h => ?_) hkp, ?_, qK_ag (ag.sub fun a k h => ?_) hK⟩⟩
  · exact decide_eq_true (by have := of_decide_eq_true h; omega)
  · exact decide_eq_true (by have := of_decide_eq_true h; omega)
  · exact decide_eq_true (by have := of_decide_eq_true h; omega)
  · exact decide_eq_true (by have := of_decide_eq_true h; omega)
  · obtain ⟨z1, z2, z3, z4, z5⟩ := hpz
    have fa : ∀ a, (¬ (106 ≤ a ∧ a ≤ 108) ∧ a ≠ 101 ∧ a ≠ 221 ∧ a ≠ 222 ∧ a ≠ 203) → μ2.1 a = μ.1 a := fun a h => ag.a fun k => decide_eq_true (by omega)
    have f3 : ∀ k, k ≠ 0 → k ≠ 38 → μ2.1 203 k = μ.1 203 k := fun k h1 h2 => (ag 203 k (decide_eq_true (by omega))).1
    have f101 : μ2.1 101 0 = μ.1 101 0 := (ag 101 0 (decide_eq_true (by omega))).1
    refine ⟨?_, ?_, ?_, ⟨n, hcov, f8, e38, fun i hi => ?_⟩, ?_⟩
    · rw [f3 26 (by decide) (by decide), fa 98 (by decide), fa 212 (by decide)]
      exact z1
    · rw [fa 97 (by decide), f3 31 (by decide) (by decide), fa 100 (by decide), fa 217 (by decide)]
      exact z2
    · rw [f101, f3 35 (by decide) (by decide), fa 102 (by decide), fa 219 (by decide)]
      exact z3
    · rw [e222 i hi, f9, ← hlen]
      exact (pkN_get (fun x hx => by have := hlt x hx; omega) (by omega) (by omega)).symm
    · rw [fa 88 (by decide), f3 41 (by decide) (by decide), fa 96 (by decide), fa 223 (by decide)]
      exact z5
  · exact decide_eq_true (by have := of_decide_eq_true h; omega)
