/-! tokens: the class's step -/
def XT (B : Nat → Nat) (n lim p : Nat) (μ : aw_M) : Prop := μ.1 1 4 = nI (tN B n lim p) ∧ μ.1 1 5 = nI (tSt B n lim p) ∧ μ.1 1 6 = nI (tK B n lim p) ∧ (tK B n lim p = 1 → μ.2 1 8 = e27 (tW B n p) ∧ μ.1 1 9 = kx (tW B n p)) ∧ (tK B n lim p = 2 → μ.1 1 7 = nI (tVl B n p)) ∧ (tK B n lim p = 3 → μ.1 1 10 = nI (tVl B n p))
theorem isBlank_x {F b : Nat} {μ : aw_M} (hb : b < 256) : f_X6_isBlank F (nI b) μ = some (bnk b, μ) := by
  unfold f_X6_isBlank f_X6_isBlank_12 bnk
  by_cases h1 : b = 32
  · rw [if_pos (show nI b = 32 by rw [h1]; rfl), decide_eq_true (.inl h1)]
  · rw [if_neg (show ¬ nI b = 32 from fun h => h1 ((nI_eq (b := 32) (by omega) (by decide)).1 h))]
    by_cases h2 : b = 10
    · rw [if_pos (show nI b = 10 by rw [h2]; rfl), decide_eq_true (.inr h2)]
    · rw [if_neg (show ¬ nI b = 10 from fun h => h2 ((nI_eq (b := 10) (by omega) (by decide)).1 h)), decide_eq_false (by omega)]
theorem isSign_x {F b : Nat} {μ : aw_M} (hb : b < 256) : f_X6_isSign F (nI b) μ = some (sgn b, μ) := by
  have key : ∀ b, b < 256 → (if nI b = 59 then true else if nI b = 60 then true else if nI b = 61 then true else if nI b = 62 then true else if nI b = 40 then true else if nI b = 41 then true else false) = sgn b := by decide +kernel
  rw [← key b hb]
  unfold f_X6_isSign f_X6_isSign_36
  split
  · rfl
  · split
    · rfl
    · split
      · rfl
      · split
        · rfl
        · split
          · rfl
          · split
            · rfl
            · rfl
theorem keyOf_x {F n lim : Nat} {B : Nat → Nat} {w : List Nat} {μ : aw_M} (hF : 100 ≤ F) (xc : XC B n lim μ) (hw : wordok w) : f_X6_keyOf F 1 (e27 w) μ = some (kx w, μ) := by
  have r2 : aw_rf 1 2 = 3 := by simp only [rf0, rf1, rf4, rf5, rf19, rf23, rf28, rf39, rf53, rf67, rf71, rf76, rf88, rf97, rf101, rf109, rf110, rf124, rf128, rf133, rf144, rf156, rf157, rf171, rf175, rf180, rf191, rf51]
  have hk := xc.2.2.2.2
  unfold f_X6_keyOf
  have key : T (aw_loop (fun k s => f_X6_keyOf_2 F 1 k s.1 s.2.1 s.2.2) F (e27 w, 0, μ)) fun r => r = (kx w, μ) := by
    refine T_lp (fun i s => s = (e27 w, nI (if kwl.idxOf w < i then 0 else i), μ) ∧ ¬ kwl.idxOf w < i) 20 (by omega) ⟨by rw [if_neg (Nat.not_lt_zero _)]; rfl, Nat.not_lt_zero _⟩ ?_ ?_
    · rintro i hi _ ⟨rfl, hn⟩ k hk2
      rw [if_neg hn]
      show T (f_X6_keyOf_2 F 1 k (e27 w) (nI i) μ) _
      unfold f_X6_keyOf_2
      rw [if_neg (show ¬ (20 : Int32) ≤ nI i from (show ¬ nI 20 ≤ nI i from nI_ge hi (by decide))), pI_in_t (by omega) (by decide), pg_t, r2, nI_clamp (by omega), hk i hi]
      by_cases e : w = kw i
      · rw [if_pos ((lg_cmp_eq _ _).2 (by rw [e])), T_some]
        rw [(kx_is hi).2 e]
      · rw [if_neg fun h => e (e27_inj hw (kw_ok i hi) ((lg_cmp_eq _ _).1 h).symm), nI_1]
        have hn2 : ¬ kwl.idxOf w < i + 1 := fun h => by
          have h2 : kwl.idxOf w = i := by omega
          obtain ⟨j, hj, e2⟩ := kw_mem.1 (List.idxOf_lt_length_iff.1 (show kwl.idxOf w < 20 by omega))
          rw [← e2, kw_ix j hj] at h2
          rw [h2] at e2
          exact e e2.symm
        exact hk2 _ ⟨by rw [if_neg hn2], hn2⟩
    · rintro _ ⟨rfl, hn⟩ k
      rw [if_neg hn]
      show T (f_X6_keyOf_2 F 1 k (e27 w) (nI 20) μ) _
      unfold f_X6_keyOf_2
      rw [if_pos (show (20 : Int32) ≤ nI 20 by decide), T_some]
      unfold kx
      rw [if_neg hn]
  obtain ⟨r, h1, h2⟩ := key
  rw [h1, h2]
theorem wd_ok {B : Nat → Nat} {a e : Nat} (h : alf sml B a e = true) (h1 : a < e) (h7 : e ≤ a + 7) : wordok (wd B a (e - a)) := by
  have hl : (wd B a (e - a)).length = e - a := by
    unfold wd
    rw [List.length_map, List.length_range]
  refine ⟨fun hn => ?_, by omega, fun d hd => ?_⟩
  · rw [hn] at hl
    have : ([] : List Nat).length = 0 := rfl
    omega
  · unfold wd at hd
    obtain ⟨i, hi, rfl⟩ := List.mem_map.1 hd
    have hi2 := List.mem_range.1 hi
    have := of_decide_eq_true ((alf_t.1 h) (a + i) (by omega) (by omega))
    omega
theorem tA_p {B : Nat → Nat} {n p : Nat} (hp : p ≤ n) : p ≤ tA B n p ∧ tA B n p ≤ n ∧ (∀ i, p ≤ i → i < tA B n p → bnk (B i) = true) ∧ ¬ (tA B n p < n ∧ bnk (B (tA B n p)) = true) := ends_p (f := fun i => bnk (B i)) (n - p) p (Nat.le_refl _) hp
theorem tE_p {B : Nat → Nat} {n p : Nat} (hp : p ≤ n) : tA B n p ≤ tE B n p ∧ tE B n p ≤ n ∧ (∀ i, tA B n p ≤ i → i < tE B n p → (sml (B i) || dgt (B i)) = true) ∧ ¬ (tE B n p < n ∧ (sml (B (tE B n p)) || dgt (B (tE B n p))) = true) := ends_p (f := fun i => sml (B i) || dgt (B i)) (n - tA B n p) (tA B n p) (Nat.le_refl _) (tA_p hp).2.1
theorem step_x {F n lim p : Nat} {B : Nat → Nat} {μ : aw_M} (hF : 2000 ≤ F) (hl : lim ≤ 900) (xc : XC B n lim μ) (h4 : μ.1 1 4 = nI p) (hp : p ≤ n) : T (f_X6_step F 1 μ) fun μ' => AgK kXs μ μ' ∧ XT B n lim p μ' := by
  have n9 := xc.1
  have r0 : aw_rf 1 0 = 2 := by simp only [rf0, rf1, rf4, rf5, rf19, rf23, rf28, rf39, rf53, rf67, rf71, rf76, rf88, rf97, rf101, rf109, rf110, rf124, rf128, rf133, rf144, rf156, rf157, rf171, rf175, rf180, rf191, rf51]
  obtain ⟨a1, a2, a3, a4⟩ := tA_p (B := B) hp
  obtain ⟨e1, e2, e3, e4⟩ := tE_p (B := B) hp
  unfold f_X6_step
  refine T_lp (fun i μ' => AgK kXs μ μ' ∧ μ'.1 1 4 = nI (p + i)) (tA B n p - p) (by omega) ⟨AgK.rf μ, h4⟩ ?_ ?_
  · rintro i hi μ' ⟨ag, g4⟩ k hk
    have xc' : XC B n lim μ' := XC_ag ag (fun a k h => decide_eq_true (by omega)) xc
    obtain ⟨-, x1, -, x2, -⟩ := xc'
    obtain ⟨b1, b2⟩ := x2 (p + i) (by omega)
    have hb := a3 (p + i) (by omega) (by omega)
    show T (f_X6_step_0 F 1 k μ') _
    unfold f_X6_step_0
    rw [x1, g4, if_neg (nI_ge (by omega) (by omega)), pI_in_t (by omega) (by decide), pg_t, r0, nI_clamp (by omega), b2, isBlank_x b1, Option.bind_some]
    dsimp only
    rw [hb, if_pos rfl, plet]
    exact hk _ ⟨ag.wI (decide_eq_false (by omega)), by rw [rI_s, g4, nI_1]; rfl⟩
  rintro μ1 ⟨ag1, g4⟩ k
  have xc1 : XC B n lim μ1 := XC_ag ag1 (fun a k h => decide_eq_true (by omega)) xc
  rw [show p + (tA B n p - p) = tA B n p by omega] at g4
  have f39 : T (f_X6_step_39 F 1 μ1) fun μ' => AgK kXs μ μ' ∧ XT B n lim p μ' := by
    unfold f_X6_step_39
    rw [plet, plet]
    have ag2 : AgK kXs μ (aw_wI (aw_wI μ1 1 5 (μ1.1 1 4)) 1 9 (-1)) := (ag1.wI (decide_eq_false (by omega))).wI (decide_eq_false (by omega))
    have s4 : (aw_wI (aw_wI μ1 1 5 (μ1.1 1 4)) 1 9 (-1)).1 1 4 = nI (tA B n p) := by
      rw [rI_k (by decide), rI_k (by decide)]; exact g4
    have s5 : (aw_wI (aw_wI μ1 1 5 (μ1.1 1 4)) 1 9 (-1)).1 1 5 = nI (tA B n p) := by
      rw [rI_k (by decide), rI_s]; exact g4
    generalize aw_wI (aw_wI μ1 1 5 (μ1.1 1 4)) 1 9 (-1) = μ2 at ag2 s4 s5 ⊢
    have xc2 : XC B n lim μ2 := XC_ag ag2 (fun a k h => decide_eq_true (by omega)) xc
    obtain ⟨-, x1, x3, x2, -⟩ := id xc2
    have f90 : ¬ (lim < n ∧ lim ≤ tA B n p) → T (f_X6_step_90 F 1 μ2) fun μ' => AgK kXs μ μ' ∧ XT B n lim p μ' := fun hlim => by
      unfold f_X6_step_90
      rw [x1, s5]
      by_cases ha : tA B n p < n
      · rw [if_pos (nI_lt ha (by omega))]
        refine T_call (readRun_x hF xc2 s4 e1 e2 e3 e4) ?_
        rintro μ3 ⟨ag3, t4, t6, t8, t7⟩
        have xc3 : XC B n lim μ3 := XC_ag ag3 (fun a k h => decide_eq_true (by omega)) xc2
        have t5 : μ3.1 1 5 = nI (tA B n p) := by rw [(ag3 1 5 (decide_eq_true (by omega))).1]; exact s5
        have ag3' : AgK kXs μ μ3 := ag2.tr (ag3.sub fun a k h => decide_eq_true (by have := of_decide_eq_true h; omega))
        have hK : tE B n p ≠ tA B n p → tK B n lim p = tR B (tA B n p) (tE B n p) := fun h => by
          unfold tK
          rw [if_neg hlim, if_neg (by omega), if_neg h]
        have hS : tSt B n lim p = tA B n p := if_neg hlim
        have hV : tE B n p ≠ tA B n p → tVl B n p = nmv B (tA B n p) (tE B n p - tA B n p) := fun h => if_neg h
        by_cases ee : tE B n p = tA B n p
        · have hN : tN B n lim p = tA B n p + 1 := by
            unfold tN
            rw [if_neg hlim, if_neg (by omega), if_pos ee]
          have hK2 : tK B n lim p = if sgn (B (tA B n p)) = true then 3 else 5 := by
            unfold tK
            rw [if_neg hlim, if_neg (by omega), if_pos ee]
          have hV2 : tVl B n p = B (tA B n p) := if_pos ee
          obtain ⟨b1, b2⟩ := xc3.2.2.2.1 (tA B n p) ha
          rw [if_pos (by rw [t4, t5, ee]), t5, pI_in_t (by omega) (by decide), pg_t, plet, r0, nI_clamp (by omega), b2, rI_s, isSign_x b1, Option.bind_some]
          dsimp only
          have fin : ∀ v, nI v = nI (tK B n lim p) → T (f_X6_step_153 F 1 (nI v) (aw_wI μ3 1 10 (nI (B (tA B n p))))) fun μ' => AgK kXs μ μ' ∧ XT B n lim p μ' := fun v hv => by
            unfold f_X6_step_153
            rw [plet, plet, T_some]
            refine ⟨((ag3'.wI (decide_eq_false (by omega))).wI (decide_eq_false (by omega))).wI (decide_eq_false (by omega)), ?_, ?_, ?_, fun h => ?_, fun h => ?_, fun _ => ?_⟩
            · rw [rI_s, rI_k (by decide), rI_k (by decide), t4, ee, hN, nI_1]
            · rw [rI_k (by decide), rI_k (by decide), rI_k (by decide), t5, hS]
            · rw [rI_k (by decide), rI_s, hv]
            · rw [hK2] at h
              split at h <;> cases h
            · rw [hK2] at h
              split at h <;> cases h
            · rw [rI_k (by decide), rI_k (by decide), rI_s, hV2]
          by_cases hs : sgn (B (tA B n p)) = true
          · rw [if_pos hs]
            exact fin 3 (by rw [hK2, if_pos hs])
          · rw [if_neg hs]
            exact fin 5 (by rw [hK2, if_neg hs])
        · have hN : tN B n lim p = tE B n p := by
            unfold tN
            rw [if_neg hlim, if_neg (by omega), if_neg ee]
          have hR5 : tR B (tA B n p) (tE B n p) = 1 ∨ tR B (tA B n p) (tE B n p) = 2 ∨ tR B (tA B n p) (tE B n p) = 5 := by
            unfold tR
            split
            · exact .inl rfl
            · split
              · exact .inr (.inl rfl)
              · exact .inr (.inr rfl)
          rw [if_neg (show ¬ μ3.1 1 4 = μ3.1 1 5 by rw [t4, t5, nI_eq (by omega) (by omega)]; exact ee), t6]
          by_cases h1 : tR B (tA B n p) (tE B n p) = 1
          · have hall : alf sml B (tA B n p) (tE B n p) = true ∧ tE B n p ≤ tA B n p + 7 := by
              unfold tR at h1
              by_cases c : alf sml B (tA B n p) (tE B n p) = true ∧ tE B n p ≤ tA B n p + 7
              · exact c
              · rw [if_neg c] at h1
                split at h1 <;> cases h1
            have hw : wordok (tW B n p) := wd_ok hall.1 (by omega) hall.2
            rw [if_pos (show nI (tR B (tA B n p) (tE B n p)) = 1 by rw [h1]; rfl), t8 h1, show wd B (tA B n p) (tE B n p - tA B n p) = tW B n p from rfl, keyOf_x (by omega) xc3 hw, Option.bind_some, plet, T_some]
            refine ⟨ag3'.wI (decide_eq_false (by omega)), ?_, ?_, ?_, fun h => ⟨?_, rI_s⟩, fun h => ?_, fun h => ?_⟩
            · rw [rI_k (by decide), t4, hN]
            · rw [rI_k (by decide), t5, hS]
            · rw [rI_k (by decide), t6, hK ee]
            · rw [rI_2, t8 h1]
              rfl
            · rw [hK ee] at h
              omega
            · rw [hK ee] at h
              omega
          · rw [if_neg (show ¬ nI (tR B (tA B n p) (tE B n p)) = 1 from fun h => h1 ((nI_eq (b := 1) (by omega) (by decide)).1 h)), T_some]
            refine ⟨ag3', by rw [t4, hN], by rw [t5, hS], by rw [t6, hK ee], fun h => ?_, fun h => ?_, fun h => ?_⟩
            · rw [hK ee] at h
              omega
            · rw [hK ee] at h
              rw [t7 h, hV ee]
            · rw [hK ee] at h
              omega
      · have hK : tK B n lim p = 4 := by
          unfold tK
          rw [if_neg hlim, if_pos (by omega)]
        have hN : tN B n lim p = tA B n p := by
          unfold tN
          rw [if_neg hlim, if_pos (by omega)]
        have hS : tSt B n lim p = tA B n p := if_neg hlim
        rw [if_neg (nI_nlt (by omega) (by omega)), plet, T_some]
        refine ⟨ag2.wI (decide_eq_false (by omega)), ?_, ?_, ?_, fun h => by omega, fun h => by omega, fun h => by omega⟩
        · rw [rI_k (by decide), s4, hN]
        · rw [rI_k (by decide), s5, hS]
        · rw [rI_s, hK]; rfl
    rw [x1, x3, s5]
    by_cases c1 : n ≤ lim
    · rw [if_pos (nI_le c1 (by omega))]
      exact f90 (by omega)
    · rw [if_neg (nI_ge (by omega) (by omega))]
      by_cases c2 : tA B n p < lim
      · rw [if_pos (nI_lt c2 (by omega))]
        exact f90 (by omega)
      · have hlim : lim < n ∧ lim ≤ tA B n p := by omega
        have hK : tK B n lim p = 5 := if_pos hlim
        rw [if_neg (nI_nlt (by omega) (by omega)), plet, plet, T_some]
        refine ⟨(ag2.wI (decide_eq_false (by omega))).wI (decide_eq_false (by omega)), ?_, ?_, ?_, fun h => by omega, fun h => by omega, fun h => by omega⟩
        · rw [rI_k (by decide), rI_k (by decide), s4, show tN B n lim p = tA B n p from if_pos hlim]
        · rw [rI_k (by decide), rI_s, show tSt B n lim p = lim from if_pos hlim]
        · rw [rI_s, hK]; rfl
  show T (f_X6_step_0 F 1 k μ1) _
  unfold f_X6_step_0
  rw [xc1.2.1, g4]
  by_cases ha : tA B n p < n
  · obtain ⟨b1, b2⟩ := xc1.2.2.2.1 (tA B n p) ha
    have hb : bnk (B (tA B n p)) = false := by
      cases e : bnk (B (tA B n p)) with
      | false => rfl
      | true => exact absurd ⟨ha, e⟩ a4
    rw [if_neg (nI_ge ha (by omega)), pI_in_t (by omega) (by decide), pg_t, r0, nI_clamp (by omega), b2, isBlank_x b1, Option.bind_some]
    dsimp only
    rw [hb, if_neg Bool.false_ne_true]
    exact f39
  · rw [if_pos (nI_le (by omega) (by omega))]
    exact f39
