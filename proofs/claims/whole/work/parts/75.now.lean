theorem sBegin_f {nq : Nat} {v : Int32} {S : Nat → Int32} (h : nq ≤ 9) : (∀ k, k < 455 ∨ 974 ≤ k → sBegin nq v S k = S k) ∧ sBegin nq v S 457 = v ∧ (∀ q, q < nq → sBegin nq v S (458 + q) = S (20 + q)) ∧ (∀ k, k < 180 → sBegin nq v S (494 + k) = 0) ∧ (∀ c, c < 20 → sBegin nq v S (674 + c) = S (87 + c)) ∧ (∀ a, a < 100 → sBegin nq v S (814 + a) = S (814 + a)) ∧ (∀ k, (455 ≤ k ∧ k < 457) ∨ (467 ≤ k ∧ k < 494) ∨ (694 ≤ k ∧ k < 814) ∨ (914 ≤ k ∧ k < 974) → sBegin nq v S k = 0) := by
  have z : ∀ k, (455 ≤ k ∧ k < 974 ∧ ¬ (814 ≤ k ∧ k ≤ 913)) → zr S 519 k = 0 := fun k hk => if_pos (by omega)
  have z2 : ∀ k, ¬ (455 ≤ k ∧ k < 974 ∧ ¬ (814 ≤ k ∧ k ≤ 913)) → zr S 519 k = S k := fun k hk => if_neg (by omega)
  unfold sBegin sDay0
  refine ⟨fun k hk => ?_, ?_, fun q hq => ?_, fun k hk => ?_, fun c hc => ?_, fun a ha => ?_, fun k hk => ?_⟩
  · rw [wr_out (by omega), wr_out (by omega), wr_out (by omega), pk_un (by omega), z2 _ (by omega)]
  · rw [wr_out (by omega), wr_out (by omega), wr_out (by omega), pk_us]
  · rw [wr_out (by omega), wr_out (by omega), wr_at hq]
  · rw [wr_at hk]
  · rw [wr_out (by omega), wr_at hc, wr_out (by omega), pk_un (by omega), z2 _ (by omega)]
  · rw [wr_out (by omega), wr_out (by omega), wr_out (by omega), pk_un (by omega), z2 _ (by omega)]
  · rw [wr_out (by omega), wr_out (by omega), wr_out (by omega), pk_un (by omega), z _ (by omega)]
/-- the row behind a beginning has its bounds -/
theorem SW_begin {C G : Nat → Nat → Nat} {v : Int32} {S : Nat → Int32} (hwf : qTWF C) (tm : qTM C S) (fm : qFWF C G ∧ qFM C G S) : SW C 0 0 0 0 (sBegin (C 0 2) v S) := by
  obtain ⟨b1, b2, b3, b4, b5, b6, b7⟩ := sBegin_f (v := v) (S := S) hwf.1.2.2.1
  have hn := hwf.1.2.2.1
  have hc := hwf.1.2.2.2
  refine ⟨⟨b7 _ (by omega), b7 _ (by omega), b7 _ (by omega)⟩, fun q hq => ⟨?_, ?_, fun c hc => ?_⟩, fun c hc => ?_, fun a ha => ⟨?_, ?_⟩⟩
  · rw [b3 q hq, (tm.2.2.2.1 q hq).2.1]
    exact inB_nI (hwf.2.1 q hq).2.1
  · rw [b7 _ (by omega)]; exact inB_0
  · rw [Nat.add_assoc, b4 _ (by omega)]; exact inB_0
  · rw [b5 c (by omega), (tm.2.2.2.2.2.1 c hc).2.2.1]
    exact inB_nI (hwf.2.2.2.1 c hc).2.2.1
  · rw [b7 _ (by omega)]; exact inB_0
  · rw [b6 a ha, (fm.2.2.2.2 a ha).2]
    exact inB_nI (fm.1.2.2.2.2.1 a).2
theorem XS_begin {C : Nat → Nat → Nat} {f : Nat} {v : Int32} {μ μ' μ2 : aw_M} {S : Nat → Int32} (hwf : qTWF C) (tx : qTX C μ 5) (tm : qTM C S) (h2 : ∀ a, f ≤ a → a ≤ f + 11 → μ2.1 a = μ'.1 a) (hs : ∀ a, a < 100 → μ'.1 (f + 10) a = S (814 + a))
    (h : (μ'.1 f 3 = 0 ∧ μ'.1 f 4 = 0 ∧ μ'.1 f 5 = v ∧ μ'.1 f 6 = 0 ∧ μ'.1 f 7 = 0 ∧ μ'.1 f 18 = 0) ∧ (∀ k, k < 5 → μ'.1 (f + 1) k = 0) ∧
    (∀ q, q < 9 → μ'.1 (f + 2) q = μ.1 8 q ∧ μ'.1 (f + 3) q = 0 ∧ μ'.1 (f + 4) q = 0 ∧ μ'.1 (f + 5) q = 0) ∧ (∀ k, k < 180 → μ'.1 (f + 6) k = 0) ∧
    (∀ c, c < 20 → μ'.1 (f + 7) c = μ.1 13 c ∧ μ'.1 (f + 8) c = 0) ∧ (∀ a, a < 100 → μ'.1 (f + 9) a = 0)) : XS C f μ2 (sBegin (C 0 2) v S) := by
  obtain ⟨b1, b2, b3, b4, b5, b6, b7⟩ := sBegin_f (v := v) (S := S) hwf.1.2.2.1
  have hn := hwf.1.2.2.1
  have hc := hwf.1.2.2.2
  obtain ⟨⟨g1, g2, g3, g4, g5, g6⟩, g7, g8, g9, g10, g11⟩ := h
  unfold XS
  rw [h2 f (by omega) (by omega), h2 (f + 1) (by omega) (by omega), h2 (f + 2) (by omega) (by omega), h2 (f + 3) (by omega) (by omega), h2 (f + 4) (by omega) (by omega), h2 (f + 5) (by omega) (by omega), h2 (f + 6) (by omega) (by omega), h2 (f + 7) (by omega) (by omega), h2 (f + 8) (by omega) (by omega), h2 (f + 9) (by omega) (by omega), h2 (f + 10) (by omega) (by omega), h2 (f + 11) (by omega) (by omega)]
  refine ⟨⟨?_, ?_, ?_, ?_, ?_, ?_⟩, ⟨?_, ?_, ?_⟩, fun q hq => ⟨?_, ?_, ?_, ?_⟩, fun q c hq hc => ?_, fun c hc => ⟨?_, ?_⟩, fun a ha => ⟨?_, ?_⟩, fun n hn e k hk j hj => ?_⟩
  · rw [g1, b7 _ (by omega)]
  · rw [g2, b7 _ (by omega)]
  · rw [g3, b2]
  · rw [g4, b7 _ (by omega)]
  · rw [g5, b7 _ (by omega)]
  · rw [g6, b7 _ (by omega)]
  · rw [g7 1 (by omega), b7 _ (by omega)]
  · rw [g7 0 (by omega), b7 _ (by omega)]
  · rw [g7 2 (by omega), b7 _ (by omega)]
  · rw [(g8 q (by omega)).1, b3 q hq, (tm.2.2.2.1 q hq).2.1]
    exact (tx.2.1 q hq).2.1
  · rw [(g8 q (by omega)).2.1, b7 _ (by omega)]
  · rw [(g8 q (by omega)).2.2.1, b7 _ (by omega)]
  · rw [(g8 q (by omega)).2.2.2, b7 _ (by omega)]
  · rw [g9 _ (by omega), Nat.add_assoc, b4 _ (by omega)]
  · rw [(g10 c (by omega)).1, b5 c (by omega), (tm.2.2.2.2.2.1 c hc).2.2.1]
    exact (tx.2.2.2.1 c hc).2.2.1
  · rw [(g10 c (by omega)).2, b7 _ (by omega)]
  · rw [g11 a ha, b7 _ (by omega)]
  · rw [hs a ha, b6 a ha]
  · rw [b7 _ (by omega), ← nI_0, nI_eq (by omega) (by omega)] at e
    omega
theorem p_begin : op_begin R := by
  intro F hF a0 μ hR
  obtain ⟨⟨C, W, P, Y, G, hS, hG⟩, hr⟩ := R_iff.1 hR
  have hS' := hS
  obtain ⟨⟨hwf, tx, tm⟩, -, -, -, fw, fx, fm, fs⟩ := hS'
  obtain ⟨hx, hw, hd⟩ := of_fight (f := 39) ⟨fw, fx, fm, fs⟩
  unfold okV f_X10_begin f_X11_begin
  have r : aw_rf (aw_rf 0 1) 4 = 39 := by simp only [rf0, rf1, rf4, rf5, rf19, rf23, rf28, rf39, rf53, rf67, rf71, rf76, rf88, rf97, rf101, rf109, rf110, rf124, rf128, rf133, rf144, rf156, rf157, rf171, rf175, rf180, rf191, rf51]
  rw [r]
  obtain ⟨μ1, e1, ag, e2, s1, s2, s3, s4, s5, s6, s7⟩ := restart_x (F := F) (f := 39) (v := a0) (μ := μ) (by omega) (.inl rfl)
  have e205 : μ1.1 205 = μ.1 205 := ag.a (fun k => by unfold kNF; exact decide_eq_true (by omega))
  refine ⟨μ1, by rw [e1]; rfl, ?_⟩
  have ea : aw_wI μ1 203 0 0 = aset (aw_wI μ1 203 0 0) 205 (μ.1 205) := by
    have : (aw_wI μ1 203 0 0).1 205 = μ.1 205 := by rw [rI_a (by decide), e205]
    rw [← this, aset_self]
  refine ⟨aset (aw_wI μ1 203 0 0) 205 (sBegin (C 0 2) a0 (μ.1 205)), ?_, ?_⟩
  · show aw_let (aw_wI μ1 203 0 0) _ = _
    rw [plet, ea, begins_m (by omega) hwf.1.2.2.1 tm.1.2.2.1, Option.bind_some, ← ea]
  · obtain ⟨b1, -, -, -, -, b6, -⟩ := sBegin_f (v := a0) (S := μ.1 205) hwf.1.2.2.1
    refine R_fight hR ⟨hS, hG⟩ (d := 0) (m := 0) (n := 0) ?_ ?_ ?_ ?_ (by unfold dmn; omega)
    · refine ((ag.sub fun a k h => ?_).wI (kOF_n rfl)).wA (fun k hk => by rw [kOF_5] at hk; cases hk)
      refine decide_eq_true ?_
      by_cases c : 39 ≤ a ∧ a ≤ 50
      · rw [kOF_f c.1 c.2] at h; cases h
      · omega
    · rw [rA_s]
      intro k hk
      by_cases c : 814 ≤ k ∧ k < 914
      · have := b6 (k - 814) (by omega)
        rw [show 814 + (k - 814) = k by omega] at this
        exact this
      · exact b1 k (by omega)
    · rw [rA_s]
      exact XS_begin (μ := μ) (μ' := μ1) hwf tx tm (fun a h1 h2 => by rw [rA_a (by omega), rI_a (by omega)]) (fun a ha => by
        rw [s7]
        exact (hx.2.2.2.2.2.1 a ha).2) ⟨s1, s2, s3, s4, s5, s6⟩
    · rw [rA_s]
      exact SW_begin hwf tm ⟨fw, fm⟩
/-- the sum of a row -/
def sumr (g : Nat → Int32) : Nat → Int32
  | 0 => 0
  | n + 1 => sumr g n + g n
theorem pulp_x {F : Nat} {μ : aw_M} (hF : 200 ≤ F) : f_X0_allPulp F 39 μ = some (sumr (μ.1 48) 100, μ) := by
  unfold f_X0_allPulp
  have r : aw_rf 39 16 = 48 := by simp only [rf0, rf1, rf4, rf5, rf19, rf23, rf28, rf39, rf53, rf67, rf71, rf76, rf88, rf97, rf101, rf109, rf110, rf124, rf128, rf133, rf144, rf156, rf157, rf171, rf175, rf180, rf191, rf51]
  refine lp_u (fun i => (sumr (μ.1 48) i, nI i, μ)) 100 rfl ?_ ?_ (by omega)
  · intro i hi k
    show f_X0_allPulp_4 F 39 k (sumr (μ.1 48) i) (nI i) μ = k (sumr (μ.1 48) (i + 1), nI (i + 1), μ)
    unfold f_X0_allPulp_4
    rw [if_neg (show ¬ (100 : Int32) ≤ nI i from nI_ge (b := 100) hi (by decide)), pI_in_t hi (by decide), pg_t, plet, r, nI_clamp (by omega), nI_1]
    rfl
  · intro k
    show f_X0_allPulp_4 F 39 k (sumr (μ.1 48) 100) (nI 100) μ = _
    unfold f_X0_allPulp_4
    rw [if_pos (show (100 : Int32) ≤ nI 100 by decide)]
theorem pulp_m {F : Nat} {a : Int32} {μ : aw_M} (hF : 200 ≤ F) : aw_loop (fun k s => f_X11_now_9 F 203 k s.1 s.2.1 s.2.2.1 s.2.2.2) F (a, 0, 0, μ) = f_X11_now_34 F 203 a (sumr (fun i => μ.1 205 (714 + i)) 100) μ := by
  refine lp_u (fun i => (a, sumr (fun i => μ.1 205 (714 + i)) i, nI i, μ)) 100 rfl ?_ ?_ (by omega)
  · intro i hi k
    show f_X11_now_9 F 203 k a (sumr (fun i => μ.1 205 (714 + i)) i) (nI i) μ = k (a, sumr (fun i => μ.1 205 (714 + i)) (i + 1), nI (i + 1), μ)
    unfold f_X11_now_9
    rw [if_neg (show ¬ (100 : Int32) ≤ nI i from nI_ge (b := 100) hi (by decide)), show (714 : Int32) + nI i = nI (714 + i) from nI_add 714 i, pI_in_t (by omega) (by decide), pg_t, plet, rf203.2.1, nI_clamp (by omega), nI_1]
    rfl
  · intro k
    show f_X11_now_9 F 203 k a _ (nI 100) μ = _
    unfold f_X11_now_9
    rw [if_pos (show (100 : Int32) ≤ nI 100 by decide)]
theorem sumr_ext {g h : Nat → Int32} : ∀ n, (∀ i, i < n → g i = h i) → sumr g n = sumr h n
  | 0, _ => rfl
  | n + 1, e => by
    show sumr g n + g n = sumr h n + h n
    rw [sumr_ext n (fun i hi => e i (by omega)), e n (by omega)]
theorem p_now : op_now R := by
  intro F hF a0 μ hR
  have hR' := R_th (v := 0) hR
  obtain ⟨⟨C, W, P, Y, G, hS, hG⟩, hr⟩ := R_iff.1 hR
  obtain ⟨-, -, -, -, fw, fx, fm, fs⟩ := hS
  obtain ⟨⟨⟨x1, x2, x3, x4, x5, x6⟩, ⟨x7, x8, x9⟩, -, -, -, x13, -⟩, -⟩ := of_fight (f := 39) ⟨fw, fx, fm, fs⟩
  have r : aw_rf (aw_rf 0 1) 4 = 39 := by simp only [rf0, rf1, rf4, rf5, rf19, rf23, rf28, rf39, rf53, rf67, rf71, rf76, rf88, rf97, rf101, rf109, rf110, rf124, rf128, rf133, rf144, rf156, rf157, rf171, rf175, rf180, rf191, rf51]
  have r8 : aw_rf 39 8 = 40 := by simp only [rf0, rf1, rf4, rf5, rf19, rf23, rf28, rf39, rf53, rf67, rf71, rf76, rf88, rf97, rf101, rf109, rf110, rf124, rf128, rf133, rf144, rf156, rf157, rf171, rf175, rf180, rf191, rf51]
  have e205 : (aw_wI μ 203 0 0).1 205 = μ.1 205 := by rw [rI_a (by decide)]
  have es : sumr (μ.1 48) 100 = sumr (fun i => (aw_wI μ 203 0 0).1 205 (714 + i)) 100 := sumr_ext 100 fun i hi => by rw [e205]; exact (x13 i hi).1
  have hm : f_X11_now F 203 a0 μ = f_X11_now_34 F 203 a0 (sumr (μ.1 48) 100) (aw_wI μ 203 0 0) := by
    unfold f_X11_now
    rw [plet, pulp_m (by omega), es]
  have i0 : aw_in 0 5 = true := by decide
  have i1 : aw_in 1 5 = true := by decide
  have i2 : aw_in 2 5 = true := by decide
  have j1 : aw_in 455 1155 = true := by decide
  have j2 : aw_in 456 1155 = true := by decide
  have j3 : aw_in 914 1155 = true := by decide
  have j4 : aw_in 915 1155 = true := by decide
  have j5 : aw_in 916 1155 = true := by decide
  have j6 : aw_in 917 1155 = true := by decide
  have j7 : aw_in 918 1155 = true := by decide
  have c0 : (0 : Int32).toNatClampNeg = 0 := by decide
  have c1 : (1 : Int32).toNatClampNeg = 1 := by decide
  have c2 : (2 : Int32).toNatClampNeg = 2 := by decide
  have d1 : (455 : Int32).toNatClampNeg = 455 := by decide
  have d2 : (456 : Int32).toNatClampNeg = 456 := by decide
  have d3 : (914 : Int32).toNatClampNeg = 914 := by decide
  have d4 : (915 : Int32).toNatClampNeg = 915 := by decide
  have d5 : (916 : Int32).toNatClampNeg = 916 := by decide
  have d6 : (917 : Int32).toNatClampNeg = 917 := by decide
  have d7 : (918 : Int32).toNatClampNeg = 918 := by decide
  have x7 : μ.1 40 1 = μ.1 205 916 := x7
  have x8 : μ.1 40 0 = μ.1 205 917 := x8
  have x9 : μ.1 40 2 = μ.1 205 918 := x9
  have k1 : f_X10_now F 0 a0 μ = aw_sel (a0.toInt - 0) [some (μ.1 205 455, μ), some (μ.1 205 456, μ), some (μ.1 205 914, μ), some (μ.1 205 915, μ), some (μ.1 205 916, μ), some (μ.1 205 917, μ), some (μ.1 205 918, μ), some (sumr (μ.1 48) 100, μ)] (some (-1, μ)) := by
    unfold f_X10_now
    rw [r, r8, pulp_x (by omega)]
    simp only [i0, i1, i2, c0, c1, c2, pg_t, Option.bind_some, x1, x2, x4, x5, x7, x8, x9]
  have k2 : f_X11_now_34 F 203 a0 (sumr (μ.1 48) 100) (aw_wI μ 203 0 0) = aw_sel (a0.toInt - 0) [some (μ.1 205 455, aw_wI μ 203 0 0), some (μ.1 205 456, aw_wI μ 203 0 0), some (μ.1 205 914, aw_wI μ 203 0 0), some (μ.1 205 915, aw_wI μ 203 0 0), some (μ.1 205 916, aw_wI μ 203 0 0), some (μ.1 205 917, aw_wI μ 203 0 0), some (μ.1 205 918, aw_wI μ 203 0 0), some (sumr (μ.1 48) 100, aw_wI μ 203 0 0)] (some (-1, aw_wI μ 203 0 0)) := by
    unfold f_X11_now_34
    rw [rf203.2.1, e205]
    simp only [j1, j2, j3, j4, j5, j6, j7, d1, d2, d3, d4, d5, d6, d7, pg_t]
  have key : ∀ v, f_X10_now F 0 a0 μ = some (v, μ) → f_X11_now_34 F 203 a0 (sumr (μ.1 48) 100) (aw_wI μ 203 0 0) = some (v, aw_wI μ 203 0 0) → okI R (f_X10_now F 0 a0 μ) (fun μ1 => f_X11_now F 203 a0 μ1) := fun v h1 h2 => ⟨_, h1, _, hm.trans h2, rfl, hR'⟩
  rcases pk_ix a0 (n := 8) (by decide) with h0 | h0 | ⟨j, hj, rfl⟩
  · exact key _ (k1.trans (sel_lo h0)) (k2.trans (sel_lo h0))
  · exact key _ (k1.trans (sel_hi h0 (by show (8 : Nat) < 2 ^ 31; decide))) (k2.trans (sel_hi h0 (by show (8 : Nat) < 2 ^ 31; decide)))
  · rcases j with _ | _ | _ | _ | _ | _ | _ | _ | j
    all_goals first | omega | exact key _ (k1.trans (sel_j (by decide))) (k2.trans (sel_j (by decide)))
