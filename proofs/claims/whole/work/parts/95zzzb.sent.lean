/-! sentences: an operand that is no bracket and no not -/
def leafK (B : Nat → Nat) (n p : Nat) : Int32 := if tK B n 200 p = 1 ∧ 12 ≤ kwl.idxOf (tW B n p) ∧ kwl.idxOf (tW B n p) < 20 then nI (kwl.idxOf (tW B n p) - 12) else -1
theorem leafOf_m {F n p : Nat} {B : Nat → Nat} {ν : aw_M} (pm : PMk B n 200 p ν) : f_X11_leafOf F 203 ν = some (leafK B n p, ν) := by
  have iw : ∀ i c, i < 20 → c = e8 (kw i) → f_X11_isWord F 203 c ν = some (isKw B n 200 p i, ν) := fun i c hi hc => isWord_m pm hi hc
  unfold f_X11_leafOf leafK
  rw [iw 12 112585746576499 (by decide) (by decide), Option.bind_some]
  dsimp only
  rw [iw 13 457135713907 (by decide) (by decide), Option.bind_some]
  dsimp only
  rw [iw 14 422776956275 (by decide) (by decide), Option.bind_some]
  dsimp only
  rw [iw 15 469786323827 (by decide) (by decide), Option.bind_some]
  dsimp only
  rw [iw 16 131320595244147 (by decide) (by decide), Option.bind_some]
  dsimp only
  rw [iw 17 6383981 (by decide) (by decide), Option.bind_some]
  dsimp only
  rw [iw 18 1936024947 (by decide) (by decide), Option.bind_some]
  dsimp only
  rw [iw 19 482854658917 (by decide) (by decide), Option.bind_some]
  dsimp only
  unfold isKw
  by_cases hK : tK B n 200 p = 1
  · generalize kwl.idxOf (tW B n p) = ix
    have e : ∀ i, decide (tK B n 200 p = 1 ∧ ix = i) = decide (ix = i) := fun i => by
      by_cases h : ix = i
      · rw [decide_eq_true h, decide_eq_true ⟨hK, h⟩]
      · rw [decide_eq_false h, decide_eq_false fun h2 => h h2.2]
    rw [e, e, e, e, e, e, e, e]
    have c8 : ix = 12 ∨ ix = 13 ∨ ix = 14 ∨ ix = 15 ∨ ix = 16 ∨ ix = 17 ∨ ix = 18 ∨ ix = 19 ∨ ¬ (12 ≤ ix ∧ ix < 20) := by omega
    rcases c8 with rfl | rfl | rfl | rfl | rfl | rfl | rfl | rfl | c8
    · rw [if_pos (show tK B n 200 p = 1 ∧ _ from ⟨hK, by decide⟩)]; rfl
    · rw [if_pos (show tK B n 200 p = 1 ∧ _ from ⟨hK, by decide⟩)]; rfl
    · rw [if_pos (show tK B n 200 p = 1 ∧ _ from ⟨hK, by decide⟩)]; rfl
    · rw [if_pos (show tK B n 200 p = 1 ∧ _ from ⟨hK, by decide⟩)]; rfl
    · rw [if_pos (show tK B n 200 p = 1 ∧ _ from ⟨hK, by decide⟩)]; rfl
    · rw [if_pos (show tK B n 200 p = 1 ∧ _ from ⟨hK, by decide⟩)]; rfl
    · rw [if_pos (show tK B n 200 p = 1 ∧ _ from ⟨hK, by decide⟩)]; rfl
    · rw [if_pos (show tK B n 200 p = 1 ∧ _ from ⟨hK, by decide⟩)]; rfl
    · rw [decide_eq_false (by omega), decide_eq_false (by omega), decide_eq_false (by omega), decide_eq_false (by omega), decide_eq_false (by omega), decide_eq_false (by omega), decide_eq_false (by omega), decide_eq_false (by omega), if_neg (show ¬ (tK B n 200 p = 1 ∧ _) from fun h => c8 h.2)]
      rfl
  · have e : ∀ i, decide (tK B n 200 p = 1 ∧ kwl.idxOf (tW B n p) = i) = false := fun i => decide_eq_false fun h => hK h.1
    rw [e, e, e, e, e, e, e, e, if_neg (show ¬ (tK B n 200 p = 1 ∧ _) from fun h => hK h.1)]
    rfl
def FLX (μ0 : aw_M) (v a : Nat) (μ : aw_M) : Prop := AgK kSX μ0 μ ∧ μ.1 1 11 = nI v ∧ μ.1 1 12 = nI a
theorem failS {n p o v : Nat} {F : Nat} {B : Nat → Nat} {E : List (Nat × Nat × Nat)} {μ0 μ : aw_M} (h : SX B n μ0 E o p μ) : T (f_X6_fail F 1 (nI v) μ) fun r => r.1 = false ∧ FLX μ0 v (tSt B n 200 p) r.2 := by
  refine T_mono (fail_x h.2.1) ?_
  rintro ⟨r, μ'⟩ ⟨h1, h2, h3, h4⟩
  exact ⟨h1, h.1.tr (h2.sub fun a k h => decide_eq_true (by have := of_decide_eq_true h; omega)), h3, h4⟩
theorem SX_71 {n p o o' : Nat} {B : Nat → Nat} {E : List (Nat × Nat × Nat)} {μ0 μ : aw_M} (h : SX B n μ0 E o p μ) : SX B n μ0 E o' p (aw_wI μ 71 0 (nI o')) := by
  obtain ⟨h1, h2, h3, h4⟩ := h
  refine ⟨h1.wI (decide_eq_false (by omega)), PXk_ag (K := fun a k => decide (¬ (a = 71 ∧ k = 0))) ((AgK.rf μ).wI (decide_eq_false (by omega))) (fun a k h => decide_eq_true (by omega)) h2, ?_, rI_s⟩
  unfold XE at h3 ⊢
  rw [rI_k (by decide), rI_a (by decide), rI_a (by decide), rI_a (by decide)]
  exact h3
theorem SX_add {F n p o a b c : Nat} {B : Nat → Nat} {E : List (Nat × Nat × Nat)} {μ0 μ : aw_M} {a' b' c' : Int32} (ea : a' = nI a) (eb : b' = nI b) (ec : c' = nI c) (hE : E.length < 40) (h : SX B n μ0 E o p μ) : T (f_X3_addStep F 71 a' b' c' μ) fun r => r.1 = true ∧ SX B n μ0 (E ++ [(a, b, c)]) o p r.2 := by
  obtain ⟨h1, h2, h3, h4⟩ := h
  refine T_mono (addStep_x ea eb ec hE h3) ?_
  rintro ⟨r, μ'⟩ ⟨g1, g2, g3⟩
  refine ⟨g1, h1.tr (g2.sub fun a k h => decide_eq_true (by have := of_decide_eq_true h; omega)), PXk_ag g2 (fun a k h => decide_eq_true (by omega)) h2, g3, ?_⟩
  show μ'.1 71 0 = _
  rw [(g2 71 0 (decide_eq_true (by omega))).1]
  exact h4
/-- the end of an operand on both sides -/
def OQ (B : Nat → Nat) (n nq : Nat) (μ0 ν0 : aw_M) (E : List (Nat × Nat × Nat)) (o d p : Nat) (st : List Nat) (r1 r2 : Bool × aw_M) : Prop :=
  (r1.1 = true ∧ r2.1 = true ∧ o < 20 ∧ ∃ p' s, p < p' ∧ 12 ≤ s.1 ∧ s.1 ≤ 19 ∧ (s.1 = 13 → s.2.2 < nq) ∧ (14 ≤ s.1 → 60 ≤ s.2.1 ∧ s.2.1 ≤ 62 ∧ s.2.2 ≤ 999) ∧ SX B n μ0 (E ++ [s]) (o + 1) p' r1.2 ∧ MS B n ν0 (E ++ [s]) (o + 1) d st 1 p' r2.2) ∨
  (r1.1 = false ∧ r2.1 = false ∧ ∃ v a, 1 ≤ v ∧ v ≤ 4 ∧ a ≤ n ∧ FLX μ0 v a r1.2 ∧ FLM ν0 v a r2.2)
theorem opr_t {F n nq p o d : Nat} {B : Nat → Nat} {W : Nat → List Nat} {E : List (Nat × Nat × Nat)} {st : List Nat} {μ0 ν0 μ ν : aw_M} {rc ro : Nat → Nat → Nat → Int32 → aw_M → Option (Bool × aw_M)} (hF : 2000 ≤ F) (nx : NmX nq W μ0) (nm : NmM nq W ν0) (hinj : ∀ q r, q < nq → r < nq → W q = W r → q = r) (hE0 : E.length ≤ 2 * o) (ho : o ≤ 20) (hd : d ≤ 20) (hno : ¬ (o < 20 ∧ d ≤ 8 ∧ (isKw B n 200 p 11 = true ∨ isSg B n 200 p 40 = true))) (sx : SX B n μ0 E o p μ) (ms : MS B n ν0 E o d st 0 p ν) : RT (g_X3_readOne F rc ro 71 1 5 (nI d) μ) (f_X11_operand F 203 ν) (OQ B n nq μ0 ν0 E o d p st) := by
  have px := sx.2.1
  have pm := ms.2.1
  have kx' := kk_is (tK_le B n 200 p)
  have bad : ∀ v p μ ν E' st' w o' d', 1 ≤ v ∧ v ≤ 4 → SX B n μ0 E' o' p μ → MS B n ν0 E' o' d' st' w p ν → RT ((f_X6_fail F 1 (nI v) μ).bind fun r => some (r.1, r.2)) ((f_X11_bad F 203 (nI v) ν).bind fun r => some (r.1, r.2)) (OQ B n nq μ0 ν0 E o d p st) := fun v p μ ν E' st' w o' d' hv sx ms => by
    refine RT_l (failS (v := v) sx) ?_
    rintro ⟨r1, μ'⟩ ⟨h1, h2⟩
    refine RT_r (badS (v := v) ms) ?_
    rintro ⟨r2, ν'⟩ ⟨g1, g2⟩
    rw [RT_some]
    exact .inr ⟨h1, g1, v, _, hv.1, hv.2, tS_le sx.2.1.1, h2, g2⟩
  have badp : ∀ v p2 μ ν E' st' w o' d', 1 ≤ v ∧ v ≤ 4 → SX B n μ0 E' o' p2 μ → MS B n ν0 E' o' d' st' w p2 ν → RT ((f_X6_fail F 1 (nI v) μ).bind fun r => some (r.1, r.2)) ((f_X11_bad F 203 (nI v) ν).bind fun r => some (r.1, r.2)) (OQ B n nq μ0 ν0 E o d p st) := fun v p2 μ ν E' st' w o' d' hv sx ms => by
    refine RT_l (failS (v := v) sx) ?_
    rintro ⟨r1, μ'⟩ ⟨h1, h2⟩
    refine RT_r (badS (v := v) ms) ?_
    rintro ⟨r2, ν'⟩ ⟨g1, g2⟩
    rw [RT_some]
    exact .inr ⟨h1, g1, v, _, hv.1, hv.2, tS_le sx.2.1.1, h2, g2⟩
  unfold g_X3_readOne f_X11_operand
  rw [show f_X6_atSign F 1 40 μ = some (isSg B n 200 p 40, μ) from atSign_x px (by decide), isWord_m (i := 11) pm (by decide) (by decide), Option.bind_some, Option.bind_some]
  dsimp only
  rw [show f_X11_isSign F 203 40 ν = some (isSg B n 200 p 40, ν) from isSign_m pm (by decide), Option.bind_some]
  dsimp only
  rw [leafOf_m pm, Option.bind_some]
  dsimp only
  -- a start that is well but one too many, or too deep
  have f4 : ¬ (o < 20 ∧ d ≤ 8) → RT (f_X3_readOne_36 F rc ro 71 1 5 (nI d) (isSg B n 200 p 40) μ) (f_X11_operand_38 F 203 (isKw B n 200 p 11) (isSg B n 200 p 40) (leafK B n p) ν) (OQ B n nq μ0 ν0 E o d p st) := fun h => by
    unfold f_X3_readOne_36 f_X11_operand_38
    rw [sx.2.2.2, ms.2.2.2.1, ms.2.2.2.2.2.2.1]
    unfold f_X3_readOne_51 f_X11_operand_56
    by_cases c : o < 20
    · rw [if_neg (show ¬ (20 : Int32) ≤ nI o from (show ¬ nI 20 ≤ nI o from nI_ge c (by decide))), if_neg (show ¬ nI d ≤ 8 from (show ¬ nI d ≤ nI 8 from nI_ge (by omega) (by omega))), if_neg (show ¬ nI o = 20 from fun h => by have := (nI_eq (b := 20) (by omega) (by decide)).1 h; omega), if_neg (show ¬ nI d ≤ 8 from (show ¬ nI d ≤ nI 8 from nI_ge (by omega) (by omega)))]
      exact bad 4 p μ ν E st 0 o d (by decide) sx ms
    · rw [if_pos (show (20 : Int32) ≤ nI o from (show nI 20 ≤ nI o from nI_le (by omega) (by omega))), if_pos (show nI o = 20 by rw [show o = 20 by omega]; rfl)]
      exact bad 4 p μ ν E st 0 o d (by decide) sx ms
  by_cases hop : isSg B n 200 p 40 = true
  · have h38 : ¬ (o < 20 ∧ d ≤ 8) := fun h => hno ⟨h.1, h.2, .inr hop⟩
    have hkF : isKw B n 200 p 11 = false := decide_eq_false fun h => by have := (of_decide_eq_true hop).1; omega
    rw [if_pos hop, if_neg (by rw [hkF]; decide), if_pos hop]
    exact f4 h38
  · have hopF : isSg B n 200 p 40 = false := by
      cases e : isSg B n 200 p 40 with
      | false => rfl
      | true => exact absurd e hop
    rw [if_neg hop, if_neg hop, px.2.2.2.2.2.1]
    by_cases hK : tK B n 200 p = 1
    rotate_left
    · have hkF : isKw B n 200 p 11 = false := decide_eq_false fun h => hK h.1
      have hlF : leafK B n p = -1 := if_neg fun h => hK h.1
      rw [if_neg fun h => hK (kx'.1.1 h), if_neg (by rw [hkF]; decide), hlF, if_neg (show ¬ (0 : Int32) ≤ -1 by decide)]
      unfold f_X3_readOne_30
      exact bad 1 p μ ν E st 0 o d (by decide) sx ms
    rw [if_pos (kx'.1.2 hK), (px.2.2.2.2.2.2.1 hK).2]
    by_cases h11 : isKw B n 200 p 11 = true
    · have h38 : ¬ (o < 20 ∧ d ≤ 8) := fun h => hno ⟨h.1, h.2, .inl h11⟩
      have hx : kx (tW B n p) = nI 11 := (kx_is (by decide)).2 ((ix_is (by decide)).1 (of_decide_eq_true h11).2)
      rw [if_pos h11, hx, if_pos (show (11 : Int32) ≤ nI 11 by decide)]
      exact f4 h38
    · rw [if_neg h11]
      have hix11 : kwl.idxOf (tW B n p) ≠ 11 := fun h => h11 (decide_eq_true ⟨hK, h⟩)
      by_cases hlf : 12 ≤ kwl.idxOf (tW B n p) ∧ kwl.idxOf (tW B n p) < 20
      rotate_left
      · have hlF : leafK B n p = -1 := if_neg fun h => hlf h.2
        have hx : ¬ (11 : Int32) ≤ kx (tW B n p) := by
          unfold kx
          by_cases c : kwl.idxOf (tW B n p) < 20
          · rw [if_pos c]
            exact (show ¬ nI 11 ≤ nI (kwl.idxOf (tW B n p)) from nI_ge (by omega) (by decide))
          · rw [if_neg c]
            decide
        rw [if_neg hx, hlF, if_neg (show ¬ (0 : Int32) ≤ -1 by decide)]
        unfold f_X3_readOne_30
        exact bad 1 p μ ν E st 0 o d (by decide) sx ms
      obtain ⟨l1, l2⟩ := hlf
      have hlT : leafK B n p = nI (kwl.idxOf (tW B n p) - 12) := if_pos ⟨hK, l1, l2⟩
      have hx : kx (tW B n p) = nI (kwl.idxOf (tW B n p)) := by
        unfold kx
        rw [if_pos l2]
      rw [hx, if_pos (show (11 : Int32) ≤ nI (kwl.idxOf (tW B n p)) from (show nI 11 ≤ nI (kwl.idxOf (tW B n p)) from nI_le (by omega) (by omega))), hlT, if_pos (nI_pos' (by omega))]
      by_cases h38 : o < 20 ∧ d ≤ 8
      rotate_left
      · have := f4 h38
        rw [hlT] at this
        exact this
      have hE : E.length < 40 := by omega
      unfold f_X3_readOne_36 f_X11_operand_38
      rw [sx.2.2.2, ms.2.2.2.1, ms.2.2.2.2.2.2.1, if_neg (show ¬ (20 : Int32) ≤ nI o from (show ¬ nI 20 ≤ nI o from nI_ge h38.1 (by decide))), if_pos (show nI d ≤ 8 from (show nI d ≤ nI 8 from nI_le h38.2 (by decide))), plet, if_neg (show ¬ nI o = 20 from fun h => by have := (nI_eq (b := 20) (by omega) (by decide)).1 h; omega), if_pos (show nI d ≤ 8 from (show nI d ≤ nI 8 from nI_le h38.2 (by decide))), plet, nI_1, rI_a (by decide), (px.2.2.2.2.2.2.1 hK).2, plet, hx]
      refine RT_l (SX_step hF (SX_71 (o' := o + 1) sx) (by rw [hK]; decide)) ?_
      rintro μ1 ⟨hp1, sx1⟩
      refine RT_r (MS_step hF (MS_44 (o' := o + 1) ms) (by rw [hK]; decide)) ?_
      intro ν1 ms1'
      have ms1 := MS_47 (w' := 1) ms1'
      rw [if_neg hop, if_neg h11, if_neg hop, plet]
      generalize kwl.idxOf (tW B n p) = ix at l1 l2
      generalize tN B n 200 p = p1 at hp1 sx1 ms1
      rw [show (1 : Int32) = nI 1 from rfl]
      generalize aw_wI ν1 203 47 (nI 1) = ν2 at ms1 ⊢
      have px1 := sx1.2.1
      have pm1 := ms1.2.1
      rw [if_neg (show ¬ nI ix = 11 from fun h => by have := (nI_eq (b := 11) (by omega) (by decide)).1 h; omega)]
      by_cases c12 : ix = 12
      · subst c12
        rw [if_pos (show nI 12 = 12 from rfl), if_pos (show nI (12 - 12) = 0 from rfl)]
        refine RT_l (SX_add (a := 12) (b := 0) (c := 0) rfl rfl rfl hE sx1) ?_
        rintro ⟨r1, μ3⟩ ⟨t1, sx3⟩
        refine RT_r (MS_code (a := 12) (b := 0) (c := 0) rfl rfl rfl (by omega) ms1) ?_
        intro ν3 ms3
        rw [RT_some]
        exact .inl ⟨t1, rfl, h38.1, p1, (12, 0, 0), hp1, (show (12 : Nat) ≤ 12 by decide), (show (12 : Nat) ≤ 19 by decide), fun h => absurd h (show ¬ (12 : Nat) = 13 by decide), fun h => absurd h (show ¬ (14 : Nat) ≤ 12 by decide), sx3, ms3⟩
      rw [if_neg (show ¬ nI ix = 12 from fun h => c12 ((nI_eq (b := 12) (by omega) (by decide)).1 h)), if_neg (show ¬ nI (ix - 12) = 0 from fun h => by have := (nI_eq (b := 0) (by omega) (by decide)).1 h; omega)]
      by_cases c13 : ix = 13
      · subst c13
        rw [if_pos (show nI 13 = 13 from rfl), if_pos (show nI (13 - 12) = nI 1 from rfl)]
        unfold f_X3_readJoins
        rw [atName_x px1, isName_m (by omega) pm1, Option.bind_some, Option.bind_some]
        dsimp only
        by_cases hN : isNm B n 200 p1 = true
        rotate_left
        · rw [if_neg hN, if_neg hN, bind_eta]
          exact badp 1 p1 μ1 ν2 _ _ _ _ _ (by decide) sx1 ms1
        rw [if_pos hN, if_pos hN]
        have hK1 : tK B n 200 p1 = 1 := (of_decide_eq_true hN).1
        have hw := tW_ok px1.1 hK1
        have nx1 : NmX nq W μ1 := NmX_ag sx1.1 (fun a k h => decide_eq_true (by omega)) nx
        have nm1 : NmM nq W ν2 := NmM_ag ms1.1 (fun a k h => decide_eq_true (by omega)) nm
        have r6 : aw_rf 203 6 = 205 := rf203.2.1
        have r5 : aw_rf 5 5 = 5 + 1 := by simp only [rf0, rf1, rf4, rf5, rf19, rf23, rf28, rf39, rf53, rf67, rf71, rf76, rf88, rf97, rf101, rf109, rf110, rf124, rf128, rf133, rf144, rf156, rf157, rf171, rf175, rf180, rf191, rf51]
        have n9 := nx1.1
        rw [(px1.2.2.2.2.2.2.1 hK1).1, show aw_in 2 1155 = true by decide, pg_t, r6, show (2 : Int32).toNatClampNeg = 2 by decide, nm1.1, Option.bind_assoc]
        refine RT_l (named_x (by omega) r5 n9 nx1.2.1 nx1.2.2 hw) ?_
        rintro ⟨k1, μa⟩ ⟨ea, h1⟩
        have ea : μ1 = μa := ea.symm
        subst ea
        refine RT_r (find_m (f := 0) (by omega) n9 (by omega) (pm1.2.2.2.2.2.2.1 hK1) (fun q hq => by rw [Nat.zero_add]; exact nm1.2 q hq) hw) ?_
        rintro ⟨k2, νa⟩ ⟨ea, h2⟩
        have ea : ν2 = νa := ea.symm
        subst ea
        dsimp only at h1 h2 ⊢
        rcases h1 with ⟨q, hq, hWq, rfl⟩ | ⟨rfl, h1⟩
        · obtain rfl : k2 = nI q := by
            rcases h2 with ⟨q', hq', hWq', rfl⟩ | ⟨-, h2⟩
            · rw [hinj q' q hq' hq (hWq'.trans hWq.symm)]
            · exact absurd hWq (h2 q hq)
          rw [if_neg (show ¬ nI q = -1 from fun h => by have := nI_pos' (n := q) (by omega); rw [h] at this; exact absurd this (by decide)), if_pos (nI_pos' (by omega)), Option.bind_assoc]
          refine RT_l (SX_step hF sx1 (by rw [hK1]; decide)) ?_
          rintro μ3 ⟨hp3, sx3⟩
          rw [Option.bind_assoc]
          refine RT_l (SX_add (a := 13) (b := 0) (c := q) rfl rfl rfl hE sx3) ?_
          rintro ⟨r1, μ4⟩ ⟨t1, sx4⟩
          refine RT_r (MS_code (a := 13) (b := 0) (c := q) rfl rfl rfl (by omega) ms1) ?_
          intro ν4 ms4
          refine RT_r (MS_step hF ms4 (by rw [hK1]; decide)) ?_
          intro ν5 ms5
          rw [Option.bind_some, RT_some]
          exact .inl ⟨t1, rfl, h38.1, _, (13, 0, q), by omega, (show (12 : Nat) ≤ 13 by decide), (show (13 : Nat) ≤ 19 by decide), fun _ => hq, fun h => absurd h (show ¬ (14 : Nat) ≤ 13 by decide), sx4, ms5⟩
        · obtain rfl : k2 = -1 := by
            rcases h2 with ⟨q', hq', hWq', -⟩ | ⟨h2, -⟩
            · exact absurd hWq' (h1 q' hq')
            · exact h2
          rw [if_pos rfl, if_neg (show ¬ (0 : Int32) ≤ -1 by decide), bind_eta]
          exact badp 3 p1 μ1 ν2 _ _ _ _ _ (by decide) sx1 ms1
      rw [if_neg (show ¬ nI ix = 13 from fun h => c13 ((nI_eq (b := 13) (by omega) (by decide)).1 h)), if_neg (show ¬ nI (ix - 12) = nI 1 from fun h => by have := (nI_eq (by omega) (by decide)).1 h; omega)]
      have kx1 := kk_is (tK_le B n 200 p1)
      have km1 := km_is (tK_le B n 200 p1)
      rw [pm1.2.2.2.2.2.1]
      -- a comparison and a number
      have f33 : tK B n 200 p1 = 3 → 60 ≤ tVl B n p1 → tVl B n p1 ≤ 62 → RT (f_X3_readMeasure_33 F 71 1 (nI ix) μ1) (aw_let (nI (tVl B n p1)) fun v36 => (f_X11_next F 203 ν2).bind fun r37 => if r37.1 203 11 = 2 then (f_X11_code F 203 (nI (ix - 12)) v36 (r37.1 203 14) r37).bind fun r38 => (f_X11_next F 203 r38).bind fun r39 => some (true, r39) else (f_X11_bad F 203 (nI 1) r37).bind fun r40 => some (r40.1, r40.2)) (OQ B n nq μ0 ν0 E o d p st) := fun hK3 v1 v2 => by
        unfold f_X3_readMeasure_33
        rw [plet, plet, px1.2.2.2.2.2.2.2.2 hK3]
        refine RT_l (SX_step hF sx1 (by rw [hK3]; decide)) ?_
        rintro μ3 ⟨hp3, sx3⟩
        refine RT_r (MS_step hF ms1 (by rw [hK3]; decide)) ?_
        intro ν3 ms3
        generalize tN B n 200 p1 = p3 at hp3 sx3 ms3
        have kx3 := kk_is (tK_le B n 200 p3)
        have km3 := km_is (tK_le B n 200 p3)
        rw [sx3.2.1.2.2.2.2.2.1, ms3.2.1.2.2.2.2.2.1]
        by_cases hK5 : tK B n 200 p3 = 2
        · have hv := tV_lt sx3.2.1.1 hK5
          rw [if_pos (kx3.2.1.2 hK5), if_pos (km3.2.1.2 hK5), sx3.2.1.2.2.2.2.2.2.2.1 hK5, ms3.2.1.2.2.2.2.2.2.2 (.inl hK5)]
          refine RT_l (SX_add (a := ix) (b := tVl B n p1) (c := tVl B n p3) rfl rfl rfl hE sx3) ?_
          rintro ⟨r1, μ4⟩ ⟨t1, sx4⟩
          refine RT_r (MS_code (a := ix) (b := tVl B n p1) (c := tVl B n p3) (by unfold ycode; rw [if_neg (by omega), if_neg (by omega), if_neg (by omega)]) rfl rfl (by omega) ms3) ?_
          intro ν4 ms4
          refine RT_l (SX_step hF sx4 (by rw [hK5]; decide)) ?_
          rintro μ5 ⟨hp5, sx5⟩
          refine RT_r (MS_step hF ms4 (by rw [hK5]; decide)) ?_
          intro ν5 ms5
          rw [RT_some]
          exact .inl ⟨rfl, rfl, h38.1, _, (ix, tVl B n p1, tVl B n p3), by omega, l1, by show ix ≤ 19; omega, fun h => absurd h c13, fun _ => ⟨v1, v2, by show tVl B n p3 ≤ 999; omega⟩, sx5, ms5⟩
        · rw [if_neg fun h => hK5 (kx3.2.1.1 h), if_neg fun h => hK5 (km3.2.1.1 h)]
          exact badp 1 p3 μ3 ν3 _ _ _ _ _ (by decide) sx3 ms3
      unfold f_X3_readMeasure f_X11_operand_226
      rw [show f_X6_atSign F 1 60 μ1 = some (isSg B n 200 p1 60, μ1) from atSign_x px1 (by decide), Option.bind_some]
      dsimp only
      rw [show f_X6_atSign F 1 61 μ1 = some (isSg B n 200 p1 61, μ1) from atSign_x px1 (by decide), Option.bind_some]
      dsimp only
      rw [show f_X6_atSign F 1 62 μ1 = some (isSg B n 200 p1 62, μ1) from atSign_x px1 (by decide), Option.bind_some]
      dsimp only
      by_cases hK3 : tK B n 200 p1 = 3
      · have hv62 := sgn_lt (tV_sg hK3)
        rw [if_pos (km1.2.2.1.2 hK3), pm1.2.2.2.2.2.2.2 (.inr hK3)]
        have eSg : ∀ c, isSg B n 200 p1 c = decide (tVl B n p1 = c) := fun c => by
          unfold isSg
          by_cases h : tVl B n p1 = c
          · rw [decide_eq_true h, decide_eq_true ⟨hK3, h⟩]
          · rw [decide_eq_false h, decide_eq_false fun h2 => h h2.2]
        rw [eSg, eSg, eSg]
        by_cases hv60 : tVl B n p1 < 60
        · rw [decide_eq_false (by omega), decide_eq_false (by omega), decide_eq_false (by omega), if_neg Bool.false_ne_true, if_neg Bool.false_ne_true, if_neg Bool.false_ne_true, if_pos (show nI (tVl B n p1) < 60 from (show nI (tVl B n p1) < nI 60 from nI_lt hv60 (by decide))), bind_eta]
          exact badp 1 p1 μ1 ν2 _ _ _ _ _ (by decide) sx1 ms1
        · rw [if_neg (show ¬ nI (tVl B n p1) < 60 from (show ¬ nI (tVl B n p1) < nI 60 from nI_nlt (by omega) (by omega))), if_pos (show nI (tVl B n p1) ≤ 62 from (show nI (tVl B n p1) ≤ nI 62 from nI_le (by omega) (by decide)))]
          have key := f33 hK3 (by omega) (by omega)
          by_cases c60 : tVl B n p1 = 60
          · rw [decide_eq_true c60, if_pos rfl, bind_eta]
            exact key
          · rw [decide_eq_false c60, if_neg Bool.false_ne_true]
            by_cases c61 : tVl B n p1 = 61
            · rw [decide_eq_true c61, if_pos rfl, bind_eta]
              exact key
            · rw [decide_eq_false c61, if_neg Bool.false_ne_true, decide_eq_true (show tVl B n p1 = 62 by omega), if_pos rfl, bind_eta]
              exact key
      · have eSg : ∀ c, isSg B n 200 p1 c = false := fun c => decide_eq_false fun h => hK3 h.1
        rw [if_neg fun h => hK3 (km1.2.2.1.1 h), eSg, eSg, eSg, if_neg Bool.false_ne_true, if_neg Bool.false_ne_true, if_neg Bool.false_ne_true, bind_eta]
        exact badp 1 p1 μ1 ν2 _ _ _ _ _ (by decide) sx1 ms1
