theorem sand_sc {T : Nat → Nat → Nat} {W : Nat → List Nat} {P Y G : Nat → Nat → Nat} {μ μ' : aw_M} {c : Nat} (h : qSC T W P Y G μ 4 (μ.1 205) (μ.2 208) ∧ qGX T μ 28) (hc1 : c < 100) (hcc : cellok T c) (hA : ∀ a, a ≠ 49 → a ≠ 203 → a ≠ 205 → μ'.1 a = μ.1 a) (h49 : ∀ k, k ≠ c → μ'.1 49 k = μ.1 49 k) (h49c : μ'.1 49 c = 1) (hk : ∀ k, k ≠ 814 + c → μ'.1 205 k = μ.1 205 k) (hkc : μ'.1 205 (814 + c) = 1) (h2 : μ'.2 = μ.2) : Rsc μ' := by
  obtain ⟨hS, hG⟩ := h
  have hS' := hS
  obtain ⟨⟨hwf, -, -⟩, -, -, -, fw, fx, fm, fs⟩ := hS'
  obtain ⟨G', g1, g2, g3⟩ : ∃ G' : Nat → Nat → Nat, (∀ f i, f ≠ 4 → G' f i = G f i) ∧ (∀ i, i ≠ c → G' 4 i = G 4 i) ∧ G' 4 c = 1 := ⟨fun f i => if f = 4 ∧ i = c then 1 else G f i, fun f i h => by simp [h], fun i h => by simp [h], by simp⟩
  have g4 : ∀ i, G' 4 i ≤ 1 := fun i => by
    by_cases e : i = c
    · rw [e, g3]; exact Nat.le_refl 1
    · rw [g2 i e]; exact (fw.2.2.2.2.1 i).2
  have e1 : nI 1 = 1 := by decide
  have hnq := hwf.1.2.2.1
  have hnc := hwf.1.2.2.2
  refine ⟨T, W, P, Y, G', ?_, qGX_ag (fun a h1 h2 => hA a (by omega) (by omega) (by omega)) hG⟩
  rw [h2]
  refine qSC_f hS (fun a h1 h2 => hA a (by omega) (by omega) (by omega)) (by rw [h2]) (fun k h => hk k (by omega)) ⟨?_, ?_, ?_, ?_⟩
  · obtain ⟨q1, q2, q3, q4, q5, q6⟩ := fw
    unfold qFWF
    simp (disch := decide) only [g1]
    refine ⟨q1, q2, q3, q4, fun a => ⟨(q5 a).1, g4 a⟩, fun a ha => ?_⟩
    by_cases e : a = c
    · rw [e, g3, decide_eq_true hcc]
      exact Nat.le_refl 1
    · rw [g2 a e]
      exact q6 a ha
  · obtain ⟨q1, q2, q3, q4⟩ := fx
    unfold qFX
    simp (disch := omega) only [g1, hA]
    refine ⟨q1, q2, q3, fun a ha => ⟨(q4 a ha).1, ?_⟩⟩
    by_cases e : a = c
    · rw [e, g3, e1]; exact h49c
    · rw [g2 a e, ← (q4 a ha).2]; exact h49 a e
  · obtain ⟨⟨q1, q1', q1''⟩, q2, q3, q4⟩ := fm
    unfold qFM
    simp (disch := decide) only [g1]
    refine ⟨⟨?_, ?_, ?_⟩, fun q hq => ⟨?_, ?_, fun c' hc' => ?_⟩, fun c' hc' => ?_, fun a ha => ⟨?_, ?_⟩⟩
    · rw [hk _ (by omega)]; exact q1
    · rw [hk _ (by omega)]; exact q1'
    · rw [hk _ (by omega)]; exact q1''
    · rw [hk _ (by omega)]; exact (q2 q hq).1
    · rw [hk _ (by omega)]; exact (q2 q hq).2.1
    · rw [hk _ (by omega)]; exact (q2 q hq).2.2 c' hc'
    · rw [hk _ (by omega)]; exact q3 c' hc'
    · rw [hk _ (by omega)]; exact (q4 a ha).1
    · by_cases e : a = c
      · rw [e, g3, hkc, e1]
      · rw [g2 a e, hk _ (by omega)]; exact (q4 a ha).2
  · obtain ⟨⟨s1, s2, s3, s4, s5, s6⟩, q2, q3, q4⟩ := fs
    have hf2 := fw.1.2.2.2
    unfold qFS
    simp (disch := omega) only [g1, hA]
    refine ⟨⟨?_, ?_, ?_, ?_, ?_, ?_⟩, fun q hq => ⟨?_, ?_⟩, fun c' hc' => ?_, fun k hk' j hj => ?_⟩
    · rw [hk _ (by omega)]; exact s1
    · rw [hk _ (by omega)]; exact s2
    · rw [hk _ (by omega)]; exact s3
    · rw [hk _ (by omega)]; exact s4
    · rw [hk _ (by omega)]; exact s5
    · rw [hk _ (by omega)]; exact s6
    · rw [hk _ (by omega)]; exact (q2 q hq).1
    · rw [hk _ (by omega)]; exact (q2 q hq).2
    · rw [hk _ (by omega)]; exact q3 c' hc'
    · rw [hk _ (by omega)]; exact q4 k hk' j hj
/-- the scene's number of the fight put anew, the class's at f + 10 and the reference's at 814 on -/
theorem p_sand : op_sand R := by
  intro F hF a0 μ hR
  have hR' := R_th (v := 0) hR
  obtain ⟨⟨T, W, P, Y, G, hS, hG⟩, hr⟩ := R_iff.1 hR
  have hS' := hS
  obtain ⟨⟨hwf, ⟨⟨x1, x2, -⟩, -⟩, ⟨⟨y1, y2, -⟩, -⟩⟩, -, -, -, fw, fx, fm, fs⟩ := hS'
  obtain ⟨w1, w2, -, -⟩ := hwf.1
  unfold okZ f_X10_sand f_X11_sand
  simp (disch := omega) only [T_some, T_g, T_bind, T_let, T_ite, rf0, rf1, rf4, rf5, rf19, rf23, rf28, rf39, rf53, rf67, rf71, rf76, rf88, rf97, rf101, rf109, rf110, rf124, rf128, rf133, rf144, rf156, rf157, rf171, rf175, rf180, rf191, rf51, rf203, rf203b]
  rw [hasCell_eq x1 x2 w1 w2]
  simp only [T_some]
  have hm : ∀ μ1 : aw_M, μ1.1 205 0 = μ.1 205 0 → μ1.1 205 1 = μ.1 205 1 → f_X11_isCell F 203 a0 μ1 = some (isC T a0, μ1) := fun μ1 h1 h2 => isCell_eq (h1.trans y1) (h2.trans y2) w1 w2
  cases hc : isC T a0 with
  | false =>
    refine ⟨fun h => (by cases h), fun _ => ?_⟩
    rw [hm (aw_wI μ 203 0 0) rfl rfl, hc]
    exact ⟨_, rfl, fun h => (by cases h), fun _ => ⟨trivial, hR'⟩⟩
  | true =>
    obtain ⟨c, hc1, rfl, hc2⟩ := isC_ex hc
    refine ⟨fun _ => ?_, fun h => absurd rfl h⟩
    have g1 : ∀ v, f_X11_isCell F 203 (nI c) (aw_wI (aw_wI μ 49 c v) 203 0 0) = some (isC T (nI c), aw_wI (aw_wI μ 49 c v) 203 0 0) := fun v => hm _ rfl rfl
    have g2 : f_X11_isCell F 203 (nI c) (aw_wI μ 203 0 0) = some (isC T (nI c), aw_wI μ 203 0 0) := hm _ rfl rfl
    have e814 : 814 + nI c = nI (814 + c) := nI_add 814 c
    have i1 : aw_in (nI c) 100 = true := pI_in_t hc1 (by decide)
    have i2 : aw_in (nI (814 + c)) 1155 = true := pI_in_t (by omega) (by decide)
    have f1 := (fx.2.2.2 c hc1).2
    have f2 := (fm.2.2.2 c hc1).2
    have hg : G 4 c ≤ 1 := (fw.2.2.2.2.1 c).2
    rw [nI_clamp (by omega), f1]
    simp only [g1, g2, hc, T_some, i1, i2, e814]
    rw [nI_clamp (by omega)]
    have r1 : (aw_wI (aw_wI μ 49 c 1) 203 0 0).1 205 (814 + c) = nI (G 4 c) := by rw [rI_a (by decide), rI_a (by decide)]; exact f2
    have r2 : (aw_wI μ 203 0 0).1 205 (814 + c) = nI (G 4 c) := by rw [rI_a (by decide)]; exact f2
    rw [r1, r2]
    have hv : G 4 c = 0 ∨ G 4 c = 1 := by omega
    rcases hv with hv | hv
    · rw [hv]
      refine ⟨trivial, fun _ => ⟨trivial, fun _ => ⟨trivial, fun h => absurd h (by decide), fun _ => ⟨trivial, trivial, ?_⟩⟩, fun h => absurd trivial h⟩, fun h => absurd nI_0 h⟩
      have ag : ∀ {K : Nat → Nat → Bool}, (∀ k, K 49 k = false) → K 203 0 = false → (∀ k, K 205 k = false) → AgK K μ (aw_wI (aw_wI (aw_wI μ 49 c 1) 203 0 0) 205 (814 + c) 1) := fun k1 k2 k3 => (((AgK.rf μ).wI (k1 _)).wI k2).wI (k3 _)
      refine R_iff.2 ⟨sand_sc (μ := μ) ⟨hS, hG⟩ hc1 hc2 (fun a h1 h2 h3 => by rw [rI_a h3, rI_a h2, rI_a h1]) (fun k hk => by rw [rI_a (by decide), rI_a (by decide), rI_k hk]) (by rw [rI_a (by decide), rI_a (by decide), rI_s]) (fun k hk => by rw [rI_k hk, rI_a (by decide), rI_a (by decide)]) rI_s rfl, Rtp_ag (ag (fun _ => rfl) rfl (fun _ => rfl)) hr.1, Rfa_ag (ag (fun _ => rfl) rfl (fun _ => rfl)) hr.2.1, Rkp_ag (ag (fun _ => rfl) rfl (fun _ => rfl)) hr.2.2.1, qPz_ag (ag (fun _ => rfl) rfl (fun _ => rfl)) hr.2.2.2.1, qK_ag (ag (fun _ => rfl) rfl (fun _ => rfl)) hr.2.2.2.2⟩
    · rw [hv]
      refine ⟨trivial, fun h => absurd h (by decide), fun _ => ⟨fun _ => ⟨trivial, fun _ => ⟨trivial, hR'⟩, fun h => absurd rfl h⟩, fun h => absurd trivial h⟩⟩
