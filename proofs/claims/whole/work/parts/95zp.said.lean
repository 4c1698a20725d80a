/-- how many of the first n -/
def cB (b : Nat → Bool) (n : Nat) : Nat := cnt (fun k => bN (b k)) n
/-- the answer: the a'th of them, or how many -/
def pickB (b : Nat → Bool) (a : Int32) (n : Nat) : Nat → Int32
  | 0 => if a = -1 then nI (cB b n) else -1
  | d + 1 => if b (n - (d + 1)) = true ∧ nI (cB b (n - (d + 1))) = a then nI (n - (d + 1)) else pickB b a n d
theorem said_x {F n : Nat} {b : Nat → Bool} {a : Int32} {C P Y G : Nat → Nat → Nat} {S : Nat → Int32} {μ0 : aw_M} (hF : 1000 ≤ F) (w : SdW C P Y G) (x : SdX C P Y G S μ0) (h0 : 0 < Y 0 0) (hn : n = C 0 2) (hb : b = fun q => stf Y (lf C P Y G S q) (Y 0 0) 0) : ∀ (d : Nat) (μ : aw_M) (F' : Nat), d ≤ n → d < F' → AgK kSd μ0 μ → T (aw_loop (fun k s => f_X10_said_24 F 0 k s.1 s.2.1 s.2.2.1 s.2.2.2) F' (a, nI (cB b (n - d)), nI (n - d), μ)) fun r => AgK kSd μ0 r.2 ∧ r.1 = pickB b a n d := by
  have n9 := w.1.1.2.2.1
  have rr : aw_rf (aw_rf 0 1) 0 = 5 ∧ aw_rf (aw_rf 0 1) 2 = 23 ∧ aw_rf (aw_rf 0 1) 4 = 39 := by simp only [rf0, rf1, rf4, rf5, rf19, rf23, rf28, rf39, rf53, rf67, rf71, rf76, rf88, rf97, rf101, rf109, rf110, rf124, rf128, rf133, rf144, rf156, rf157, rf171, rf175, rf180, rf191, rf51, and_self]
  intro d
  induction d with
  | zero =>
    intro μ F' hd hF' ag
    obtain ⟨F', rfl⟩ : ∃ G, F' = G + 1 := ⟨F' - 1, by omega⟩
    rw [lp_1]
    have e3 : μ.1 5 3 = nI n := by rw [hn]; exact (SdX_ag (fun a h1 h2 h3 => ag.a fun k => decide_eq_true (by omega)) x).1.1.2.2.1
    show T (f_X10_said_24 F 0 _ a (nI (cB b (n - 0))) (nI (n - 0)) μ) _
    unfold f_X10_said_24 f_X10_said_75
    rw [rr.1, e3, if_pos (nI_le (by omega) (by omega)), Nat.sub_zero]
    by_cases c : a = -1
    · rw [if_pos c, T_some]
      exact ⟨ag, by unfold pickB; rw [if_pos c]⟩
    · rw [if_neg c, T_some]
      exact ⟨ag, by unfold pickB; rw [if_neg c]⟩
  | succ d ih =>
    intro μ F' hd hF' ag
    obtain ⟨F', rfl⟩ : ∃ G, F' = G + 1 := ⟨F' - 1, by omega⟩
    rw [lp_1]
    have e3 : μ.1 5 3 = nI n := by rw [hn]; exact (SdX_ag (fun a h1 h2 h3 => ag.a fun k => decide_eq_true (by omega)) x).1.1.2.2.1
    show T (f_X10_said_24 F 0 _ a (nI (cB b (n - (d + 1)))) (nI (n - (d + 1))) μ) _
    unfold f_X10_said_24 f_X10_said_69
    have es : n - (d + 1) + 1 = n - d := by omega
    have ec : cB b (n - d) = cB b (n - (d + 1)) + bN (b (n - (d + 1))) := by rw [← es]; rfl
    rw [rr.1, rr.2.1, rr.2.2, e3, if_neg (nI_ge (by omega) (by omega))]
    refine T_call (holds_x (by omega) w x ag (by omega) h0) ?_
    rintro ⟨rb, μ'⟩ ⟨ag', rfl⟩
    dsimp only at ag' ⊢
    have hbq : stf Y (lf C P Y G S (n - (d + 1))) (Y 0 0) 0 = b (n - (d + 1)) := by rw [hb]
    rw [hbq]
    have ih' := ih μ' F' (by omega) (by omega) ag'
    cases c : b (n - (d + 1)) with
    | false =>
      rw [if_neg Bool.false_ne_true, nI_1, es]
      rw [ec, c] at ih'
      refine T_mono ih' fun r hr => ⟨hr.1, hr.2.trans ?_⟩
      show _ = if b (n - (d + 1)) = true ∧ _ then _ else _
      rw [if_neg (fun h => by rw [c] at h; exact Bool.false_ne_true h.1)]
    | true =>
      rw [if_pos rfl]
      by_cases c2 : nI (cB b (n - (d + 1))) = a
      · rw [if_pos c2, T_some]
        refine ⟨ag', ?_⟩
        show _ = if b (n - (d + 1)) = true ∧ _ then _ else _
        rw [if_pos ⟨c, c2⟩]
      · rw [if_neg c2, nI_1, nI_1, es]
        rw [ec, c] at ih'
        refine T_mono ih' fun r hr => ⟨hr.1, hr.2.trans ?_⟩
        show _ = if b (n - (d + 1)) = true ∧ _ then _ else _
        rw [if_neg (fun h => c2 h.2)]
theorem said_m {F n : Nat} {b : Nat → Bool} {a : Int32} {C P Y G : Nat → Nat → Nat} {S : Nat → Int32} {μ0 : aw_M} (hF : 1000 ≤ F) (w : SdW C P Y G) (m : SdM C P Y G S) (e5 : μ0.1 205 = S) (h0 : 0 < Y 0 0) (hn : n = C 0 2) (hb : b = fun q => stf Y (lf C P Y G S q) (Y 0 0) 0) : ∀ (d : Nat) (μ : aw_M) (F' : Nat), d ≤ n → d < F' → AgK kSd μ0 μ → T (aw_loop (fun k s => f_X11_said_27 F 203 k s.1 s.2.1 s.2.2.1 s.2.2.2) F' (a, nI (cB b (n - d)), nI (n - d), μ)) fun r => AgK kSd μ0 r.2 ∧ r.1 = pickB b a n d := by
  have n9 := w.1.1.2.2.1
  have r6 : aw_rf 203 6 = 205 := rf203.2.1
  intro d
  induction d with
  | zero =>
    intro μ F' hd hF' ag
    obtain ⟨F', rfl⟩ : ∃ G, F' = G + 1 := ⟨F' - 1, by omega⟩
    rw [lp_1]
    have e3 : μ.1 205 2 = nI n := by rw [hn, ag.a (a := 205) fun k => decide_eq_true (by omega), e5]; exact m.1.1.2.2.1
    show T (f_X11_said_27 F 203 _ a (nI (cB b (n - 0))) (nI (n - 0)) μ) _
    unfold f_X11_said_27 f_X11_said_64
    rw [show aw_in 2 1155 = true by decide, pg_t, r6, show (2 : Int32).toNatClampNeg = 2 by decide, e3, if_pos (nI_le (by omega) (by omega)), Nat.sub_zero]
    by_cases c : a = -1
    · rw [if_pos c, T_some]
      exact ⟨ag, by unfold pickB; rw [if_pos c]⟩
    · rw [if_neg c, T_some]
      exact ⟨ag, by unfold pickB; rw [if_neg c]⟩
  | succ d ih =>
    intro μ F' hd hF' ag
    obtain ⟨F', rfl⟩ : ∃ G, F' = G + 1 := ⟨F' - 1, by omega⟩
    rw [lp_1]
    have e3 : μ.1 205 2 = nI n := by rw [hn, ag.a (a := 205) fun k => decide_eq_true (by omega), e5]; exact m.1.1.2.2.1
    show T (f_X11_said_27 F 203 _ a (nI (cB b (n - (d + 1)))) (nI (n - (d + 1))) μ) _
    unfold f_X11_said_27 f_X11_said_58
    have es : n - (d + 1) + 1 = n - d := by omega
    have ec : cB b (n - d) = cB b (n - (d + 1)) + bN (b (n - (d + 1))) := by rw [← es]; rfl
    rw [show aw_in 2 1155 = true by decide, pg_t, r6, show (2 : Int32).toNatClampNeg = 2 by decide, e3, if_neg (nI_ge (by omega) (by omega))]
    refine T_call (isSaid_m (by omega) w m e5 ag (by omega) h0) ?_
    rintro ⟨rb, μ'⟩ ⟨ag', rfl⟩
    dsimp only at ag' ⊢
    have hbq : stf Y (lf C P Y G S (n - (d + 1))) (Y 0 0) 0 = b (n - (d + 1)) := by rw [hb]
    rw [hbq]
    have ih' := ih μ' F' (by omega) (by omega) ag'
    cases c : b (n - (d + 1)) with
    | false =>
      rw [if_neg Bool.false_ne_true, nI_1, es]
      rw [ec, c] at ih'
      refine T_mono ih' fun r hr => ⟨hr.1, hr.2.trans ?_⟩
      show _ = if b (n - (d + 1)) = true ∧ _ then _ else _
      rw [if_neg (fun h => by rw [c] at h; exact Bool.false_ne_true h.1)]
    | true =>
      rw [if_pos rfl]
      by_cases c2 : nI (cB b (n - (d + 1))) = a
      · rw [if_pos c2, T_some]
        refine ⟨ag', ?_⟩
        show _ = if b (n - (d + 1)) = true ∧ _ then _ else _
        rw [if_pos ⟨c, c2⟩]
      · rw [if_neg c2, nI_1, nI_1, es]
        rw [ec, c] at ih'
        refine T_mono ih' fun r hr => ⟨hr.1, hr.2.trans ?_⟩
        show _ = if b (n - (d + 1)) = true ∧ _ then _ else _
        rw [if_neg (fun h => c2 h.2)]
theorem p_said : op_said R := by
  intro F hF a0 μ hR
  obtain ⟨⟨C, W, P, Y, G, hS, hG⟩, hr⟩ := R_iff.1 hR
  obtain ⟨⟨hwf, tx, tm⟩, -, ⟨pw, px, pm⟩, ⟨yw, yx, ym⟩, fw, fx, fm, fs⟩ := hS
  have w : SdW C P Y G := ⟨hwf, pw, fw, yw⟩
  have x : SdX C P Y G (μ.1 205) μ := ⟨tx, px, fx, hG, yx, fun q hq => fs.2.1 q hq⟩
  have m : SdM C P Y G (μ.1 205) := ⟨tm, pm, fm, ym⟩
  have rr : aw_rf (aw_rf 0 1) 2 = 23 := by simp only [rf0, rf1, rf4, rf5, rf19, rf23, rf28, rf39, rf53, rf67, rf71, rf76, rf88, rf97, rf101, rf109, rf110, rf124, rf128, rf133, rf144, rf156, rf157, rf171, rf175, rf180, rf191, rf51]
  have e23 : μ.1 23 1 = nI (Y 0 0) := yx.1
  have y40 := yw.1
  have fin : ∀ μ', AgK kSd μ μ' → R μ' := fun μ' h => R_ag (fun a k hk => h a k (by
    unfold keepF keepA at hk
    refine decide_eq_true ⟨?_, ?_, ?_⟩
    · rintro rfl
      revert hk
      simp
    · rintro rfl
      revert hk
      simp
    · by_cases e : a = 203
      · subst e
        refine .inr ?_
        rintro rfl
        revert hk
        simp
      · exact .inl e)) hR
  have r6 : aw_rf 203 6 = 205 := rf203.2.1
  have end1 : ∀ μ1, AgK kSd μ μ1 → (a0 < -1 ∨ Y 0 0 = 0) → T (f_X11_said F 203 a0 μ1) fun r2 => (-1 : Int32) = r2.1 ∧ R r2.2 := fun μ1 ag hc => by
    have ag2 : AgK kSd μ (aw_wI μ1 203 0 0) := ag.wI (decide_eq_false (by omega))
    have e974 : (aw_wI μ1 203 0 0).1 205 974 = nI (Y 0 0) := by rw [ag2.a (a := 205) fun k => decide_eq_true (by omega)]; exact ym.1
    unfold f_X11_said
    rw [plet, show aw_in 974 1155 = true by decide, pg_t, r6, show (974 : Int32).toNatClampNeg = 974 by decide, e974]
    by_cases c0 : Y 0 0 = 0
    · rw [c0, if_pos (show nI 0 = 0 from rfl), T_some]
      exact ⟨rfl, fin _ ag2⟩
    · rw [if_neg (show ¬ nI (Y 0 0) = 0 from fun h => c0 ((nI_eq (b := 0) (by omega) (by decide)).1 h)), if_neg (show ¬ (-1 : Int32) ≤ a0 from fun h => by rcases hc with h1 | h1; grind; omega), T_some]
      exact ⟨rfl, fin _ ag2⟩
  unfold okI f_X10_said
  by_cases ca : a0 < -1
  · rw [if_pos ca, T_some]
    exact end1 μ (AgK.rf μ) (.inl ca)
  · rw [if_neg ca, rr]
    unfold f_X3_isTold
    rw [e23]
    by_cases c0 : Y 0 0 = 0
    · rw [c0, if_pos (show nI 0 ≤ 0 by decide), Option.bind_some, if_neg Bool.false_ne_true, T_some]
      exact end1 μ (AgK.rf μ) (.inr c0)
    · rw [if_neg (show ¬ nI (Y 0 0) ≤ 0 from (show ¬ nI (Y 0 0) ≤ nI 0 from nI_ge (by omega) (by omega))), Option.bind_some, if_pos rfl]
      dsimp only
      have hx := said_x (n := C 0 2) (a := a0) (F := F) (by omega) w x (by omega) rfl rfl (C 0 2) μ F (Nat.le_refl _) (by have := hwf.1.2.2.1; omega) (AgK.rf μ)
      rw [Nat.sub_self] at hx
      refine T_mono hx ?_
      rintro ⟨r1, μ1⟩ ⟨ag1, rfl⟩
      dsimp only at ag1 ⊢
      have ag2 : AgK kSd μ (aw_wI μ1 203 0 0) := ag1.wI (decide_eq_false (by omega))
      have e974 : (aw_wI μ1 203 0 0).1 205 974 = nI (Y 0 0) := by rw [ag2.a (a := 205) fun k => decide_eq_true (by omega)]; exact ym.1
      unfold f_X11_said
      rw [plet, show aw_in 974 1155 = true by decide, pg_t, r6, show (974 : Int32).toNatClampNeg = 974 by decide, e974, if_neg (show ¬ nI (Y 0 0) = 0 from fun h => c0 ((nI_eq (b := 0) (by omega) (by decide)).1 h)), if_pos (show (-1 : Int32) ≤ a0 by grind)]
      have hm := said_m (n := C 0 2) (a := a0) (F := F) (by omega) w m rfl (by omega) rfl rfl (C 0 2) _ F (Nat.le_refl _) (by have := hwf.1.2.2.1; omega) ag2
      rw [Nat.sub_self] at hm
      refine T_mono hm ?_
      rintro ⟨r2, μ2⟩ ⟨ag3, rfl⟩
      exact ⟨rfl, fin _ ag3⟩
