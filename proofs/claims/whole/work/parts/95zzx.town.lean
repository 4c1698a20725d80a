/-! the town: the state behind it -/
theorem T_all {α γ : Type} {o : Option α} {A : γ → Prop} {P : γ → α → Prop} (h : ∀ c, A c → T o (P c)) (h0 : ∃ c, A c) : T o fun r => ∀ c, A c → P c r := by
  obtain ⟨c, hc⟩ := h0
  obtain ⟨r, e, -⟩ := h c hc
  refine ⟨r, e, fun c hc => ?_⟩
  obtain ⟨r', e', h'⟩ := h c hc
  rw [e] at e'
  cases e'
  exact h'
def kSn (a k : Nat) : Bool := decide (¬ (5 ≤ a ∧ a ≤ 50))
/-- the class's scene behind a town C -/
def BT (C : Nat → Nat → Nat) (μ μ' : aw_M) : Prop := AgK kSn μ μ' ∧ qTX C μ' 5 ∧ (∀ q, q < 9 → μ'.2 6 q = μ.2 54 q) ∧ qGX C μ' 28 ∧ qPX (fun _ _ => 0) μ' 19 ∧ qYX (fun _ _ => 0) μ' 23 ∧ ∀ μ2 S, (∀ a, 39 ≤ a → a ≤ 50 → μ2.1 a = μ'.1 a) → qTM C S → (∀ i, 427 ≤ i → i < 1155 → S i = 0) → XS C 39 μ2 (sBegin (C 0 2) 0 S)
theorem becomes_x {F : Nat} {C : Nat → Nat → Nat} {μ : aw_M} (hF : 2000 ≤ F) (hwf : qTWF C) (tx : qTX C μ 53) : T (f_X4_becomeTown F 4 53 μ) (BT C μ) := by
  have r : aw_rf 4 0 = 5 ∧ aw_rf 4 3 = 28 ∧ aw_rf 4 1 = 19 ∧ aw_rf 4 2 = 23 ∧ aw_rf 4 4 = 39 ∧ aw_rf 39 17 = 49 ∧ aw_rf 19 1 = 20 ∧ aw_rf 19 2 = 21 ∧ aw_rf 19 3 = 22 := by simp only [rf0, rf1, rf4, rf5, rf19, rf23, rf28, rf39, rf53, rf67, rf71, rf76, rf88, rf97, rf101, rf109, rf110, rf124, rf128, rf133, rf144, rf156, rf157, rf171, rf175, rf180, rf191, rf51, and_self]
  have q1 : tRf 53 := by
    unfold tRf
    simp only [rf0, rf1, rf4, rf5, rf19, rf23, rf28, rf39, rf53, rf67, rf71, rf76, rf88, rf97, rf101, rf109, rf110, rf124, rf128, rf133, rf144, rf156, rf157, rf171, rf175, rf180, rf191, rf51, and_self]
  have q2 : tSh 53 := by
    unfold tSh
    decide
  unfold f_X4_becomeTown
  rw [r.1, r.2.1, r.2.2.1, r.2.2.2.1, r.2.2.2.2.1]
  refine T_call (takeT (a := 53) (b := 5) (by decide) q1 sOb_4.2.1 q2 sOb_4.2.2.1) ?_
  rintro μ1 ⟨c1, c2, c3, c4⟩
  have tx1 : qTX C μ1 5 := cpT_qTX hwf c1 tx
  refine T_call (derive_x (F := F) (t := 5) (g := 28) (by omega) hwf sOb_4.2.1 sOb_4.2.2.2.2.2.2.2.1 (by decide) tx1) ?_
  rintro μ2 ⟨gx2, ag2⟩
  have fil0 : ∀ (μ : aw_M) a, AgK (fun x k => decide (x ≠ a)) μ (aset μ a (fil (μ.1 a) 9 (-1))) := fun μ a => (AgK.rf μ).wA (fun k hk => absurd rfl (of_decide_eq_true hk))
  unfold f_X2_forget f_X2_empty
  rw [plet, r.2.2.2.2.2.2.1, r.2.2.2.2.2.2.2.1, r.2.2.2.2.2.2.2.2, fil_eq (n := 9) hF (by decide) (by decide), Option.bind_some, fil_eq (n := 9) hF (by decide) (by decide), Option.bind_some, fil_eq (n := 9) hF (by decide) (by decide), Option.bind_some, Option.bind_some, Option.bind_some]
  have p3 : qPX (fun _ _ => 0) (aset (aset (aset (aw_wI μ2 19 0 0) 20 (fil ((aw_wI μ2 19 0 0).1 20) 9 (-1))) 21 (fil ((aset (aw_wI μ2 19 0 0) 20 (fil ((aw_wI μ2 19 0 0).1 20) 9 (-1))).1 21) 9 (-1))) 22 (fil ((aset (aset (aw_wI μ2 19 0 0) 20 (fil ((aw_wI μ2 19 0 0).1 20) 9 (-1))) 21 (fil ((aset (aw_wI μ2 19 0 0) 20 (fil ((aw_wI μ2 19 0 0).1 20) 9 (-1))).1 21) 9 (-1))).1 22) 9 (-1))) 19 := by
    refine ⟨?_, fun q hq => ⟨?_, ?_, ?_⟩⟩
    · rw [rA_a (by decide), rA_a (by decide), rA_a (by decide), rI_s]; rfl
    · show (aset _ 22 _).1 20 q = -1
      rw [rA_a (by decide), rA_a (by decide), rA_s]; unfold fil; rw [if_pos hq]
    · show (aset _ 22 _).1 21 q = -1
      rw [rA_a (by decide), rA_s]; unfold fil; rw [if_pos hq]
    · show (aset _ 22 _).1 22 q = -1
      rw [rA_s]; unfold fil; rw [if_pos hq]
  have ag3 : AgK (fun a k => decide (¬ (19 ≤ a ∧ a ≤ 22))) μ2 (aset (aset (aset (aw_wI μ2 19 0 0) 20 (fil ((aw_wI μ2 19 0 0).1 20) 9 (-1))) 21 (fil ((aset (aw_wI μ2 19 0 0) 20 (fil ((aw_wI μ2 19 0 0).1 20) 9 (-1))).1 21) 9 (-1))) 22 (fil ((aset (aset (aw_wI μ2 19 0 0) 20 (fil ((aw_wI μ2 19 0 0).1 20) 9 (-1))) 21 (fil ((aset (aw_wI μ2 19 0 0) 20 (fil ((aw_wI μ2 19 0 0).1 20) 9 (-1))).1 21) 9 (-1))).1 22) 9 (-1))) := ((((AgK.rf μ2).wI (decide_eq_false (by omega))).wA (fun k hk => absurd hk (by rw [decide_eq_false (by omega)]; decide))).wA (fun k hk => absurd hk (by rw [decide_eq_false (by omega)]; decide))).wA (fun k hk => absurd hk (by rw [decide_eq_false (by omega)]; decide))
  generalize aset (aset (aset (aw_wI μ2 19 0 0) 20 (fil ((aw_wI μ2 19 0 0).1 20) 9 (-1))) 21 (fil ((aset (aw_wI μ2 19 0 0) 20 (fil ((aw_wI μ2 19 0 0).1 20) 9 (-1))).1 21) 9 (-1))) 22 (fil ((aset (aset (aw_wI μ2 19 0 0) 20 (fil ((aw_wI μ2 19 0 0).1 20) 9 (-1))) 21 (fil ((aset (aw_wI μ2 19 0 0) 20 (fil ((aw_wI μ2 19 0 0).1 20) 9 (-1))).1 21) 9 (-1))).1 22) 9 (-1)) = μ3 at p3 ag3 ⊢
  unfold f_X3_forget
  rw [plet, plet, Option.bind_some]
  have ag4 : AgK (fun a k => decide (¬ (a = 23))) μ3 (aw_wI (aw_wI μ3 23 0 0) 23 1 0) := ((AgK.rf μ3).wI (decide_eq_false (by omega))).wI (decide_eq_false (by omega))
  have y4 : (aw_wI (aw_wI μ3 23 0 0) 23 1 0).1 23 1 = 0 := rI_s
  generalize aw_wI (aw_wI μ3 23 0 0) 23 1 0 = μ4 at ag4 y4 ⊢
  unfold f_X0_clearSand
  rw [r.2.2.2.2.2.1, fil_eq (n := 100) hF (by decide) (by decide), Option.bind_some, Option.bind_some]
  have ag5 : AgK (fun a k => decide (¬ (a = 49))) μ4 (aset μ4 49 (fil (μ4.1 49) 100 0)) := (AgK.rf μ4).wA (fun k hk => absurd rfl (of_decide_eq_true hk))
  have s5 : ∀ a, a < 100 → (aset μ4 49 (fil (μ4.1 49) 100 0)).1 49 a = 0 := fun a ha => by rw [rA_s]; unfold fil; rw [if_pos ha]
  generalize aset μ4 49 (fil (μ4.1 49) 100 0) = μ5 at ag5 s5 ⊢
  have t5 : ∀ a, 5 ≤ a → a ≤ 18 → μ5.1 a = μ1.1 a := fun a h1 h2 => (ag5.a fun k => decide_eq_true (by omega)).trans ((ag4.a fun k => decide_eq_true (by omega)).trans ((ag3.a fun k => decide_eq_true (by omega)).trans (ag2.a fun k => decide_eq_true (by omega))))
  have tx5 : qTX C μ5 5 := qTX_ag (fun a h1 h2 => t5 a h1 (by omega)) tx1
  refine T_call (restart_x (F := F) (f := 39) (v := 0) (μ := μ5) (by omega) (.inl rfl)) ?_
  rintro μ6 ⟨ag6, e2, h⟩
  rw [T_some]
  have g6 : ∀ a, a < 39 → μ6.1 a = μ5.1 a := fun a h => ag6.a fun k => decide_eq_true (by omega)
  refine ⟨fun a k hk => ?_, qTX_ag (fun a h1 h2 => g6 a (by omega)) tx5, fun q hq => ?_, ?_, ?_, ?_, fun μ7 S h7 tm hz => XS_begin (μ := μ5) (μ' := μ6) hwf tx5 tm h7 (fun a ha => ?_) ⟨h.1, h.2.1, h.2.2.1, h.2.2.2.1, h.2.2.2.2.1, h.2.2.2.2.2.1⟩⟩
  · have hk := of_decide_eq_true hk
    have z1 : μ1.1 a k = μ.1 a k := by rw [c4 a fun j hj => by omega]
    have z1' : μ1.2 a k = μ.2 a k := by rw [c3 a (by omega)]
    have z2 := ag2 a k (decide_eq_true (by omega))
    have z3 := ag3 a k (decide_eq_true (by omega))
    have z4 := ag4 a k (decide_eq_true (by omega))
    have z5 := ag5 a k (decide_eq_true (by omega))
    have z6 := ag6 a k (decide_eq_true (by omega))
    exact ⟨by rw [z6.1, z5.1, z4.1, z3.1, z2.1, z1], by rw [z6.2, z5.2, z4.2, z3.2, z2.2, z1']⟩
  · rw [e2, (ag5 6 q (decide_eq_true (by omega))).2, (ag4 6 q (decide_eq_true (by omega))).2, (ag3 6 q (decide_eq_true (by omega))).2, (ag2 6 q (decide_eq_true (by omega))).2]
    exact c2 q hq
  · refine qGX_ag (fun a h1 h2 => ?_) gx2
    exact (g6 a (by omega)).trans ((ag5.a fun k => decide_eq_true (by omega)).trans ((ag4.a fun k => decide_eq_true (by omega)).trans (ag3.a fun k => decide_eq_true (by omega))))
  · have hp : ∀ a, 19 ≤ a → a ≤ 22 → μ6.1 a = μ3.1 a := fun a h1 h2 => (g6 a (by omega)).trans ((ag5.a fun k => decide_eq_true (by omega)).trans (ag4.a fun k => decide_eq_true (by omega)))
    unfold qPX at p3 ⊢
    simp (disch := omega) only [hp]
    exact p3
  · refine ⟨?_, fun i hi => absurd hi (Nat.not_lt_zero i)⟩
    rw [g6 23 (by decide), (ag5 23 1 (decide_eq_true (by omega))).1, y4]
    rfl
  · show μ6.1 49 a = _
    rw [show μ6.1 49 = μ5.1 49 from h.2.2.2.2.2.2, s5 a ha, hz _ (by omega) (by omega)]
theorem p_town : op_town R := by
  intro F hF μ hR
  obtain ⟨⟨C0, W0, P0, Y0, G0, hS, hG⟩, ⟨n, B, htp⟩, hfa, hkp, hpz, hK⟩ := R_iff.1 hR
  obtain ⟨-, -, ⟨p1, p2, p3⟩, ⟨y1, y2, y3⟩, -⟩ := id hS
  obtain ⟨sx, sm⟩ := R_stX htp hK
  obtain ⟨⟨b, μ1⟩, ea, hb⟩ := RT_all (S := fun ν => StM n B ν) (Q := fun ν => TnEnd n μ ν) (fun ν h => town_t hF sx h) (ν0 := μ) sm
  obtain ⟨_, -, fx, -, -, hc1⟩ := hb μ sm
  dsimp only at fx hc1
  have rr : aw_rf 0 4 = 53 ∧ aw_rf 0 0 = 1 ∧ aw_rf 0 1 = 4 := by simp only [rf0, rf1, rf4, rf5, rf19, rf23, rf28, rf39, rf53, rf67, rf71, rf76, rf88, rf97, rf101, rf109, rf110, rf124, rf128, rf133, rf144, rf156, rf157, rf171, rf175, rf180, rf191, rf51, and_self]
  have fin : ∀ μ2 : aw_M, AgK kSn μ1 μ2 → (b = true → ∀ C, qTWF C ∧ qTX C μ1 53 → BT C μ1 μ2) → (b = false → μ2 = μ1) → T (f_X10_town_27 F 0 b μ2) fun r1 => T (f_X11_town F 203 r1.2) fun r2 => r1.1 = r2.1 ∧ R r2.2 := fun μ2 ag2 et ef => by
    unfold f_X10_town_27
    rw [rr.1, closeT, Option.bind_some, T_some]
    dsimp only
    have e1 : μ2.1 1 = μ1.1 1 := ag2.a fun k => decide_eq_true (by omega)
    have e53 : μ2.1 53 = μ1.1 53 := ag2.a fun k => decide_eq_true (by omega)
    have ag3 : AgK (fun a k => decide (¬ (a = 1 ∧ k = 1) ∧ ¬ (a = 0 ∧ k = 11))) μ2 (aw_wI (aw_wI μ2 0 11 (if b = true then 0 else μ2.1 1 11)) 1 1 0) := ((AgK.rf μ2).wI (decide_eq_false (by omega))).wI (decide_eq_false (by omega))
    have s1 : (aw_wI (aw_wI μ2 0 11 (if b = true then 0 else μ2.1 1 11)) 1 1 0).1 1 1 = 0 := rI_s
    have s11 : (aw_wI (aw_wI μ2 0 11 (if b = true then 0 else μ2.1 1 11)) 1 1 0).1 0 11 = if b = true then 0 else μ1.1 1 11 := by rw [rI_a (by decide), rI_s, e1]
    rw [e1, e53]
    rw [e1] at ag3 s1 s11
    generalize aw_wI (aw_wI μ2 0 11 (if b = true then 0 else μ1.1 1 11)) 1 1 0 = μ3 at ag3 s1 s11 ⊢
    have ag13 : AgK (fun a k => decide (¬ (a = 1 ∧ (k = 1 ∨ (3 ≤ k ∧ k ≤ 12))) ∧ ¬ (53 ≤ a ∧ a ≤ 66) ∧ ¬ (5 ≤ a ∧ a ≤ 50) ∧ ¬ (a = 0 ∧ k = 11))) μ μ3 := ((fx.sub fun a k h => decide_eq_true (by have := of_decide_eq_true h; omega)).tr (ag2.sub fun a k h => decide_eq_true (by have := of_decide_eq_true h; omega))).tr (ag3.sub fun a k h => decide_eq_true (by have := of_decide_eq_true h; omega))
    have sm3 : StM n B μ3 := StM_ag ag13 (fun a k h => decide_eq_true (by omega)) sm
    refine T_mono (hb μ3 sm3) ?_
    rintro ⟨r2, ν⟩ ⟨-, fm, e2, h⟩
    dsimp only at fm e2 h ⊢
    have ag : AgK (fun a k => decide (¬ (a = 1 ∧ (k = 1 ∨ (3 ≤ k ∧ k ≤ 12))) ∧ ¬ (53 ≤ a ∧ a ≤ 66) ∧ ¬ (5 ≤ a ∧ a ≤ 50) ∧ ¬ (a = 0 ∧ k = 11) ∧ ¬ (a = 203 ∧ (k = 0 ∨ (2 ≤ k ∧ k ≤ 5) ∨ (11 ≤ k ∧ k ≤ 21))) ∧ a ≠ 205 ∧ a ≠ 206 ∧ a ≠ 208)) μ ν := (ag13.sub fun a k h => decide_eq_true (by have := of_decide_eq_true h; omega)).tr (fm.sub fun a k h => decide_eq_true (by have := of_decide_eq_true h; omega))
    have h011 : ν.1 0 11 = if b = true then 0 else μ1.1 1 11 := by rw [(fm 0 11 (decide_eq_true (by omega))).1]; exact s11
    have htp' : Rtp ν := ⟨0, B, by decide, by rw [(fm 1 1 (decide_eq_true (by omega))).1]; exact s1, e2, fun i hi => absurd hi (Nat.not_lt_zero i)⟩
    have hkp' : Rkp ν := Rkp_ag (ag.sub fun a k h => decide_eq_true (by have := of_decide_eq_true h; omega)) hkp
    have hpz' : qPz ν := qPz_ag (ag.sub fun a k h => decide_eq_true (by have := of_decide_eq_true h; omega)) hpz
    have hK' : qK ν := qK_ag (ag.sub fun a k h => decide_eq_true (by have := of_decide_eq_true h; omega)) hK
    have fo : ∀ a, 5 ≤ a → a ≤ 50 → ν.1 a = μ2.1 a := fun a h1 h2 => (fm.a fun k => decide_eq_true (by omega)).trans (ag3.a fun k => decide_eq_true (by omega))
    have fo2 : ∀ a, 5 ≤ a → a ≤ 50 → ν.2 a = μ2.2 a := fun a h1 h2 => (fm.b fun k => decide_eq_true (by omega)).trans (ag3.b fun k => decide_eq_true (by omega))
    rcases h with ⟨rfl, C, W, c, S, hc, hwf, tx, tm, hz, w1, w2, w3, m53, er, e15, e205⟩ | ⟨rfl, e205, e208, v, a, v1, v2, va, t1, t2, t3, t4⟩
    · obtain ⟨-, b5, b6, b28, b19, b23, bX⟩ := et rfl C ⟨hwf, tx⟩
      have n9 := hwf.1.2.2.1
      obtain ⟨g1, g2, g3, g4, g5, g6, g7⟩ := sBegin_f (v := 0) (S := S) n9
      have hx : XS C 39 ν (sBegin (C 0 2) 0 S) := bX ν S (fun a h1 h2 => fo a (by omega) h2) tm hz
      have hw : SW C 0 0 0 0 (sBegin (C 0 2) 0 S) := SW_begin (G := fun _ _ => 0) hwf tm ⟨⟨⟨by decide, by decide, by decide, by decide⟩, fun q => ⟨Nat.zero_le _, Nat.zero_le _⟩, fun i => Nat.zero_le _, fun c => Nat.zero_le _, fun a => ⟨Nat.zero_le _, Nat.zero_le _⟩, fun a _ => Nat.zero_le _⟩, ⟨hz _ (by decide) (by decide), hz _ (by decide) (by decide), hz _ (by decide) (by decide)⟩, fun q hq => ⟨hz _ (by omega) (by omega), hz _ (by omega) (by omega), fun c hc => hz _ (by omega) (by have := hwf.1.2.2.2; omega)⟩, fun c hc => hz _ (by omega) (by have := hwf.1.2.2.2; omega), fun a ha => ⟨hz _ (by omega) (by omega), hz _ (by omega) (by omega)⟩⟩
      have hfi := fight_of hx hw (show dmn 0 0 0 by unfold dmn; omega) (fun a ha => by rw [g6 a ha, hz _ (by omega) (by omega)]; exact inB_0)
      refine ⟨by rw [if_pos rfl, er]; exact m53, R_iff.2 ⟨⟨C, W, fun _ _ => 0, fun _ _ => 0, gS (sBegin (C 0 2) 0 S), ⟨⟨hwf, qTX_ag (fun a h1 h2 => fo a (by omega) (by omega)) b5, ?_⟩, ⟨fun q hq => ?_, w2, w3⟩, ⟨fun q => ⟨Nat.zero_le _, Nat.zero_le _, Nat.zero_le _, fun _ => ⟨rfl, rfl⟩, fun _ => rfl⟩, ?_, ?_⟩, ⟨⟨Nat.zero_le _, .inl rfl, fun i hi => absurd hi (Nat.not_lt_zero i)⟩, ?_, ?_⟩, ?_⟩, qGX_ag (fun a h1 h2 => fo a (by omega) (by omega)) b28⟩, htp', ?_, hkp', hpz', hK'⟩⟩
      · rw [e205]
        exact qTM_s hwf (fun i hi => g1 i (by omega)) tm
      · obtain ⟨j1, j2, j3⟩ := w1 q hq
        refine ⟨j1, ?_, j3⟩
        show ν.2 6 q = _
        rw [fo2 6 (by decide) (by decide), b6 q (by omega)]
        exact j2
      · have hp : ∀ a, 19 ≤ a → a ≤ 22 → ν.1 a = μ2.1 a := fun a h1 h2 => fo a (by omega) (by omega)
        unfold qPX at b19 ⊢
        simp (disch := omega) only [hp]
        exact b19
      · rw [e205]
        refine ⟨?_, fun q hq => ⟨?_, ?_, ?_⟩⟩
        · rw [g1 _ (by omega), hz _ (by decide) (by decide)]; rfl
        · rw [g1 _ (by omega), hz _ (by omega) (by omega)]; rfl
        · rw [g1 _ (by omega), hz _ (by omega) (by omega)]; rfl
        · rw [g1 _ (by omega), hz _ (by omega) (by omega)]; rfl
      · refine ⟨?_, fun i hi => absurd hi (Nat.not_lt_zero i)⟩
        show ν.1 23 1 = _
        rw [fo 23 (by decide) (by decide)]
        exact b23.1
      · rw [e205]
        refine ⟨?_, fun i hi => absurd hi (Nat.not_lt_zero i)⟩
        rw [g1 _ (by omega), hz _ (by decide) (by decide)]; rfl
      · rw [e205]
        exact hfi
      · show ν.1 0 11 = ν.1 203 15
        rw [h011, e15, if_pos rfl]
    · have e3 : μ2 = μ1 := ef rfl
      have hsc : ∀ a, 5 ≤ a → a ≤ 50 → ν.1 a = μ.1 a := fun a h1 h2 => by rw [fo a h1 h2, e3]; exact fx.a fun k => decide_eq_true (by omega)
      have h205 : ν.1 205 = μ.1 205 := e205.trans (ag13.a fun k => decide_eq_true (by omega))
      refine ⟨by rw [if_neg Bool.false_ne_true, t2, t3], R_iff.2 ⟨⟨C0, W0, P0, Y0, G0, qSC_swap hS (fun a h => hsc a (by omega) (by omega)) ?_ (fun q hq => ?_) (fun i hi => by rw [h205]) ⟨p1, ?_, by rw [h205]; exact p3⟩ ⟨y1, ?_, by rw [h205]; exact y3⟩, qGX_ag (fun a h1 h2 => hsc a (by omega) (by omega)) hG⟩, htp', ?_, hkp', hpz', hK'⟩⟩
      · rw [fo2 6 (by decide) (by decide), e3]
        exact fx.b fun k => decide_eq_true (by omega)
      · rw [e208 q hq, (ag13 208 q (decide_eq_true (by omega))).2]
      · have hp : ∀ a, 19 ≤ a → a ≤ 22 → ν.1 a = μ.1 a := fun a h1 h2 => hsc a (by omega) (by omega)
        unfold qPX at p2 ⊢
        simp (disch := omega) only [hp]
        exact p2
      · have hy : ∀ a, 23 ≤ a → a ≤ 26 → ν.1 a = μ.1 a := fun a h1 h2 => hsc a (by omega) (by omega)
        unfold qYX at y2 ⊢
        simp (disch := omega) only [hy]
        exact y2
      · show ν.1 0 11 = ν.1 203 15
        rw [h011, t4, if_neg Bool.false_ne_true, t1]
  unfold okI f_X10_town
  rw [rr.1, rr.2.1, rr.2.2, ea, Option.bind_some]
  cases b with
  | true =>
    dsimp only
    rw [if_pos rfl]
    have hex : ∃ C, qTWF C ∧ qTX C μ1 53 := by
      rcases hc1 with ⟨-, C, W, c, S, -, h1, h2, -⟩ | ⟨h, -⟩
      · exact ⟨C, h1, h2⟩
      · cases h
    refine T_call (T_all (A := fun C => qTWF C ∧ qTX C μ1 53) (P := fun C => BT C μ1) (fun C h => becomes_x (F := F) (by omega) h.1 h.2) hex) ?_
    intro μ2 h2
    obtain ⟨C, hC⟩ := hex
    exact fin μ2 (h2 C hC).1 (fun _ => h2) (fun h => by cases h)
  | false =>
    dsimp only
    rw [if_neg Bool.false_ne_true]
    exact fin μ1 (AgK.rf μ1) (fun h => by cases h) (fun _ => rfl)
