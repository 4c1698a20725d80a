/-! words of the reference; keys -/
theorem shl8_I (x : Nat) : Int64.ofNat x <<< (8 : Int64) = Int64.ofNat (x * 256) := by
  apply Int64.toBitVec_inj.1
  apply BitVec.eq_of_toNat_eq
  rw [Int64.toBitVec_shiftLeft]
  have h8 : ((8 : Int64).toBitVec.smod 64) = 8#64 := by decide
  rw [h8]
  show ((BitVec.ofNat 64 x) <<< (8#64)).toNat = (BitVec.ofNat 64 (x * 256)).toNat
  rw [BitVec.shiftLeft_eq', BitVec.toNat_shiftLeft, Nat.shiftLeft_eq]
  simp only [BitVec.toNat_ofNat]
  rw [show (8 % 2 ^ 64 : Nat) = 8 by decide]
  omega
theorem or256 {x b : Nat} (hb : b < 256) : x * 256 ||| b = x * 256 + b := by
  have := Nat.two_pow_add_eq_or_of_lt (i := 8) (b := b) hb x
  rw [show 2 ^ 8 * x = x * 256 by omega] at this
  exact this.symm
theorem e8_v {w : List Nat} : (∀ d, d ∈ w → d ≤ 26) → e8 w = Int64.ofNat (v8 w) := by
  refine rev_ind (P := fun w => (∀ d, d ∈ w → d ≤ 26) → e8 w = Int64.ofNat (v8 w)) (fun _ => rfl) (fun w d h h2 => ?_) w.length w rfl
  have h4 := h2 d (List.mem_append_right _ List.mem_cons_self)
  rw [e8_s, v8_s, h fun x hx => h2 x (List.mem_append_left _ hx), shl8_I, orL_I, or256 (by omega)]
theorem v8_inj : ∀ (n : Nat) (w w' : List Nat), w.length ≤ n → (∀ d, d ∈ w → 1 ≤ d ∧ d ≤ 26) → (∀ d, d ∈ w' → 1 ≤ d ∧ d ≤ 26) → v8 w = v8 w' → w = w' := by
  intro n
  induction n with
  | zero =>
    intro w w' hl h1 h2 he
    have : w = [] := List.eq_nil_of_length_eq_zero (by omega)
    subst this
    by_cases e : w' = []
    · rw [e]
    · have e2 : w' = w'.dropLast ++ [w'.getLast e] := (List.dropLast_concat_getLast _).symm
      rw [e2, v8_s] at he
      have h0 : v8 [] = 0 := rfl
      omega
  | succ n ih =>
    intro w w' hl h1 h2 he
    by_cases e : w = []
    · by_cases e' : w' = []
      · rw [e, e']
      · have e2 : w' = w'.dropLast ++ [w'.getLast e'] := (List.dropLast_concat_getLast _).symm
        rw [e2, e, v8_s] at he
        have h0 : v8 [] = 0 := rfl
        omega
    · have e1 : w = w.dropLast ++ [w.getLast e] := (List.dropLast_concat_getLast _).symm
      by_cases e' : w' = []
      · rw [e1, e', v8_s] at he
        have h0 : v8 [] = 0 := rfl
        omega
      · have e2 : w' = w'.dropLast ++ [w'.getLast e'] := (List.dropLast_concat_getLast _).symm
        have hx := h1 _ (List.getLast_mem e)
        have hy := h2 _ (List.getLast_mem e')
        rw [e1, e2, v8_s, v8_s] at he
        have hd : w.getLast e = w'.getLast e' := by omega
        have hv : v8 w.dropLast = v8 w'.dropLast := by omega
        have := ih w.dropLast w'.dropLast (by rw [List.length_dropLast]; omega) (fun d hd => h1 d ((List.dropLast_sublist _).subset hd)) (fun d hd => h2 d ((List.dropLast_sublist _).subset hd)) hv
        rw [e1, e2, this, hd]
theorem e8_inj {w w' : List Nat} (h : wordok w) (h' : wordok w') (e : e8 w = e8 w') : w = w' := by
  have b : ∀ w, wordok w → v8 w < 2 ^ 63 := fun w h => by
    have h1 := v8_lt w fun d hd => (h.2.2 d hd).2
    have h2 : 256 ^ w.length ≤ 256 ^ 7 := Nat.pow_le_pow_right (by decide) h.2.1
    have h3 : (256 : Nat) ^ 7 = 72057594037927936 := by decide
    omega
  rw [e8_v fun d hd => (h.2.2 d hd).2, e8_v fun d hd => (h'.2.2 d hd).2] at e
  exact v8_inj w.length w w' (Nat.le_refl _) h.2.2 h'.2.2 (i64_ofNat_inj (b w h) (b w' h') e)
theorem kw_ok : ∀ i, i < 20 → wordok (kw i) := by
  have : ∀ i, i < 20 → kw i ≠ [] ∧ (kw i).length ≤ 7 ∧ ∀ d ∈ kw i, 1 ≤ d ∧ d ≤ 26 := by decide
  exact this
theorem kw_ix : ∀ i, i < 20 → kwl.idxOf (kw i) = i := by decide
theorem kw_mem {w : List Nat} : w ∈ kwl ↔ ∃ i, i < 20 ∧ kw i = w := by
  constructor
  · intro h
    obtain ⟨i, hi, e⟩ := List.getElem_of_mem h
    refine ⟨i, hi, ?_⟩
    unfold kw
    rw [List.getD_eq_getElem?_getD, List.getElem?_eq_getElem hi, e]
    rfl
  · rintro ⟨i, hi, rfl⟩
    unfold kw
    rw [List.getD_eq_getElem?_getD, List.getElem?_eq_getElem (show i < kwl.length from hi)]
    exact List.getElem_mem _
theorem kx_is {w : List Nat} {i : Nat} (hi : i < 20) : kx w = nI i ↔ w = kw i := by
  unfold kx
  by_cases h : w ∈ kwl
  · obtain ⟨j, hj, rfl⟩ := kw_mem.1 h
    rw [kw_ix j hj, if_pos hj, nI_eq (by omega) (by omega)]
    constructor
    · intro e; rw [e]
    · intro e
      have := congrArg kwl.idxOf e
      rw [kw_ix j hj, kw_ix i hi] at this
      exact this
  · have hl : ¬ kwl.idxOf w < 20 := fun h2 => h (List.idxOf_lt_length_iff.1 h2)
    rw [if_neg hl]
    constructor
    · intro e
      have : ∀ i, i < 20 → ¬ (-1 : Int32) = nI i := by decide
      exact absurd e (this i hi)
    · intro e
      exact absurd (kw_mem.2 ⟨i, hi, e.symm⟩) h
theorem kx_no {w : List Nat} : kx w = -1 ↔ ∀ i, i < 20 → w ≠ kw i := by
  constructor
  · intro h i hi e
    have h2 := (kx_is hi).2 e
    rw [h] at h2
    have : ∀ i, i < 20 → ¬ (-1 : Int32) = nI i := by decide
    exact absurd h2 (this i hi)
  · intro h
    unfold kx
    rw [if_neg fun h2 => ?_]
    obtain ⟨i, hi, e⟩ := kw_mem.1 (List.idxOf_lt_length_iff.1 h2)
    exact h i hi e.symm
/-! tokens: the class -/
def XC (B : Nat → Nat) (n lim : Nat) (μ : aw_M) : Prop := n ≤ 940 ∧ μ.1 1 1 = nI n ∧ μ.1 1 3 = nI lim ∧ (∀ i, i < n → B i < 256 ∧ μ.1 2 i = nI (B i)) ∧ ∀ i, i < 20 → μ.2 3 i = e27 (kw i)
def kXs (a k : Nat) : Bool := decide (¬ (a = 1 ∧ 4 ≤ k ∧ k ≤ 10))
theorem XC_ag {B : Nat → Nat} {n lim : Nat} {μ μ' : aw_M} {K : Nat → Nat → Bool} (ag : AgK K μ μ') (hK : ∀ a k, (a = 1 ∧ (k = 1 ∨ k = 3)) ∨ a = 2 ∨ a = 3 → K a k = true) (h : XC B n lim μ) : XC B n lim μ' := by
  obtain ⟨h1, h2, h3, h4, h5⟩ := h
  refine ⟨h1, ?_, ?_, fun i hi => ⟨(h4 i hi).1, ?_⟩, fun i hi => ?_⟩
  · rw [(ag 1 1 (hK 1 1 (by omega))).1]; exact h2
  · rw [(ag 1 3 (hK 1 3 (by omega))).1]; exact h3
  · rw [(ag 2 i (hK 2 i (by omega))).1]; exact (h4 i hi).2
  · rw [(ag 3 i (hK 3 i (by omega))).2]; exact h5 i hi
theorem i32_64 : ∀ b, b < 256 → (nI b).toInt64 = Int64.ofNat b := by decide +kernel
theorem b96 {b : Nat} (h : 97 ≤ b) (h2 : b ≤ 122) : ((nI b - 97) + 1 : Int32).toInt64 = Int64.ofNat (b - 96) := by
  rw [show nI b - 97 + 1 = nI (b - 96) by
    rw [show (97 : Int32) = nI 97 from rfl, nI_sub h, nI_1]
    exact congrArg nI (by omega), i32_64 _ (by omega)]
theorem readRun_x {F a e n lim : Nat} {B : Nat → Nat} {μ : aw_M} (hF : 2000 ≤ F) (xc : XC B n lim μ) (h4 : μ.1 1 4 = nI a) (h1 : a ≤ e) (h2 : e ≤ n) (h3 : ∀ i, a ≤ i → i < e → (sml (B i) || dgt (B i)) = true) (he : ¬ (e < n ∧ (sml (B e) || dgt (B e)) = true)) : T (f_X6_readRun F 1 μ) fun μ' => AgK (fun a k => decide (¬ (a = 1 ∧ (k = 4 ∨ k = 6 ∨ k = 7 ∨ k = 8)))) μ μ' ∧ μ'.1 1 4 = nI e ∧ μ'.1 1 6 = nI (tR B a e) ∧ (tR B a e = 1 → μ'.2 1 8 = e27 (wd B a (e - a))) ∧ (tR B a e = 2 → μ'.1 1 7 = nI (nmv B a (e - a))) := by
  have n9 := xc.1
  have r0 : aw_rf 1 0 = 2 := by simp only [rf0, rf1, rf4, rf5, rf19, rf23, rf28, rf39, rf53, rf67, rf71, rf76, rf88, rf97, rf101, rf109, rf110, rf124, rf128, rf133, rf144, rf156, rf157, rf171, rf175, rf180, rf191, rf51]
  unfold f_X6_readRun
  rw [plet, plet]
  refine T_lp (fun i s => ∃ L D μ', s = (nI L, nI D, μ') ∧ AgK (fun a k => decide (¬ (a = 1 ∧ (k = 4 ∨ k = 6 ∨ k = 7 ∨ k = 8)))) μ μ' ∧ μ'.1 1 4 = nI (a + i) ∧ L + D = i ∧ (D = 0 ↔ alf sml B a (a + i) = true) ∧ (L = 0 ↔ alf dgt B a (a + i) = true) ∧ (D = 0 → L ≤ 7 → μ'.2 1 8 = e27 (wd B a i)) ∧ (L = 0 → D ≤ 3 → μ'.1 1 7 = nI (nmv B a i))) (e - a) (by omega) ⟨0, 0, _, rfl, ((AgK.rf μ).wL (decide_eq_false (by omega))).wI (decide_eq_false (by omega)), ?_, rfl, ⟨fun _ => alf_0, fun _ => rfl⟩, ⟨fun _ => alf_0, fun _ => rfl⟩, fun _ _ => ?_, fun _ _ => rI_s⟩ ?_ ?_
  · rw [rI_k (by decide), rL_1]; exact h4
  · rw [rI_2, rL_s]; rfl
  · rintro i hi _ ⟨L, D, μ', rfl, ag, g4, gs, gD, gL, gw, gn⟩ k hk
    have xc' : XC B n lim μ' := XC_ag ag (fun a k h => decide_eq_true (by omega)) xc
    obtain ⟨-, x1, -, x2, -⟩ := xc'
    obtain ⟨b1, b2⟩ := x2 (a + i) (by omega)
    have h3' := h3 (a + i) (by omega) (by omega)
    show T (f_X6_readRun_14 F 1 k (nI L) (nI D) μ') _
    unfold f_X6_readRun_14
    rw [x1, g4, if_neg (nI_ge (by omega) (by omega)), pI_in_t (by omega) (by decide), pg_t, plet, r0, nI_clamp (by omega), b2]
    by_cases hd : dgt (B (a + i)) = true
    · have hd2 := of_decide_eq_true hd
      have hs : ¬ sml (B (a + i)) = true := fun h => by have := of_decide_eq_true h; omega
      rw [if_neg (show ¬ nI (B (a + i)) < 48 from (show ¬ nI (B (a + i)) < nI 48 from nI_nlt hd2.1 (by omega))), if_neg (show ¬ (57 : Int32) < nI (B (a + i)) from (show ¬ nI 57 < nI (B (a + i)) from nI_nlt hd2.2 (by omega)))]
      have fin : ∀ z, (L = 0 → D + 1 ≤ 3 → z = nI (nmv B a (i + 1))) → T (f_X6_readRun_75 F 1 k (nI L) (nI D + 1) z μ') fun μ' => AgK (fun a k => decide (¬ (a = 1 ∧ (k = 4 ∨ k = 6 ∨ k = 7 ∨ k = 8)))) μ μ' ∧ μ'.1 1 4 = nI e ∧ μ'.1 1 6 = nI (tR B a e) ∧ (tR B a e = 1 → μ'.2 1 8 = e27 (wd B a (e - a))) ∧ (tR B a e = 2 → μ'.1 1 7 = nI (nmv B a (e - a))) := fun z hz => by
        unfold f_X6_readRun_75 f_X6_readRun_129
        rw [plet, plet, nI_1]
        refine hk _ ⟨L, D + 1, _, rfl, (ag.wI (decide_eq_false (by omega))).wI (decide_eq_false (by omega)), ?_, by omega, ⟨fun h => by omega, fun h => ?_⟩, ?_, fun h => by omega, fun hl hd => ?_⟩
        · rw [rI_s, rI_k (by decide), g4, nI_1]
          rfl
        · exact absurd ((alf_s (q := a + i) (Nat.le_add_right a i)).1 h).2 hs
        · rw [gL]
          exact ⟨fun h => (alf_s (q := a + i) (Nat.le_add_right a i)).2 ⟨h, hd⟩, fun h => ((alf_s (q := a + i) (Nat.le_add_right a i)).1 h).1⟩
        · rw [rI_k (by decide), rI_s]
          exact hz hl hd
      by_cases c : D + 1 ≤ 3
      · rw [if_pos (show nI D + 1 ≤ 3 from (by rw [nI_1]; exact (show nI (D + 1) ≤ nI 3 from nI_le c (by decide))))]
        refine fin _ fun hl _ => ?_
        have h5 := gn hl (by omega)
        rw [h5]
        show nI (nmv B a i) * 10 + (nI (B (a + i)) - nI 48) = nI (nmv B a i * 10 + (B (a + i) - 48))
        rw [nI_sub hd2.1, show nI (nmv B a i) * 10 = nI (nmv B a i * 10) from pk_mul _ _, nI_add]
      · rw [if_neg (show ¬ nI D + 1 ≤ 3 from (by rw [nI_1]; exact (show ¬ nI (D + 1) ≤ nI 3 from nI_ge (by omega) (by omega))))]
        exact fin _ fun _ h => absurd h c
    · have hs : sml (B (a + i)) = true := by
        cases e : sml (B (a + i)) with
        | true => rfl
        | false =>
          rw [e, Bool.false_or] at h3'
          exact absurd h3' hd
      have hs2 := of_decide_eq_true hs
      rw [if_neg (show ¬ nI (B (a + i)) < 48 from (show ¬ nI (B (a + i)) < nI 48 from nI_nlt (by omega) (by omega))), if_pos (show (57 : Int32) < nI (B (a + i)) from (show nI 57 < nI (B (a + i)) from nI_lt (by omega) (by omega)))]
      unfold f_X6_readRun_81
      rw [if_neg (show ¬ nI (B (a + i)) < 97 from (show ¬ nI (B (a + i)) < nI 97 from nI_nlt hs2.1 (by omega))), if_neg (show ¬ (122 : Int32) < nI (B (a + i)) from (show ¬ nI 122 < nI (B (a + i)) from nI_nlt hs2.2 (by omega)))]
      have fin : ∀ z, (D = 0 → L + 1 ≤ 7 → z = e27 (wd B a (i + 1))) → T (f_X6_readRun_126 F 1 k (nI L + 1) (nI D) z μ') fun μ' => AgK (fun a k => decide (¬ (a = 1 ∧ (k = 4 ∨ k = 6 ∨ k = 7 ∨ k = 8)))) μ μ' ∧ μ'.1 1 4 = nI e ∧ μ'.1 1 6 = nI (tR B a e) ∧ (tR B a e = 1 → μ'.2 1 8 = e27 (wd B a (e - a))) ∧ (tR B a e = 2 → μ'.1 1 7 = nI (nmv B a (e - a))) := fun z hz => by
        unfold f_X6_readRun_126 f_X6_readRun_129
        rw [plet, plet, nI_1]
        refine hk _ ⟨L + 1, D, _, rfl, (ag.wL (decide_eq_false (by omega))).wI (decide_eq_false (by omega)), ?_, by omega, ?_, ⟨fun h => by omega, fun h => ?_⟩, fun hd hl => ?_, fun h => by omega⟩
        · rw [rI_s, rL_1, g4, nI_1]
          rfl
        · rw [gD]
          exact ⟨fun h => (alf_s (q := a + i) (Nat.le_add_right a i)).2 ⟨h, hs⟩, fun h => ((alf_s (q := a + i) (Nat.le_add_right a i)).1 h).1⟩
        · exact absurd ((alf_s (q := a + i) (Nat.le_add_right a i)).1 h).2 hd
        · rw [rI_2, rL_s]
          exact hz hd hl
      by_cases c : L + 1 ≤ 7
      · rw [if_pos (show nI L + 1 ≤ 7 from (by rw [nI_1]; exact (show nI (L + 1) ≤ nI 7 from nI_le c (by decide))))]
        refine fin _ fun hd0 _ => ?_
        rw [gw hd0 (by omega), b96 hs2.1 hs2.2, wd_s, e27_s]
      · rw [if_neg (show ¬ nI L + 1 ≤ 7 from (by rw [nI_1]; exact (show ¬ nI (L + 1) ≤ nI 7 from nI_ge (by omega) (by omega))))]
        exact fin _ fun _ h => absurd h c
  · rintro _ ⟨L, D, μ', rfl, ag, g4, gs, gD, gL, gw, gn⟩ k
    have xc' : XC B n lim μ' := XC_ag ag (fun a k h => decide_eq_true (by omega)) xc
    obtain ⟨-, x1, -, x2, -⟩ := xc'
    rw [show a + (e - a) = e by omega] at g4 gD gL
    have fin : T (f_X6_readRun_142 F 1 (nI L) (nI D) μ') fun μ' => AgK (fun a k => decide (¬ (a = 1 ∧ (k = 4 ∨ k = 6 ∨ k = 7 ∨ k = 8)))) μ μ' ∧ μ'.1 1 4 = nI e ∧ μ'.1 1 6 = nI (tR B a e) ∧ (tR B a e = 1 → μ'.2 1 8 = e27 (wd B a (e - a))) ∧ (tR B a e = 2 → μ'.1 1 7 = nI (nmv B a (e - a))) := by
      have wr : ∀ v, v = tR B a e → (v = 1 → D = 0 ∧ L ≤ 7) → (v = 2 → L = 0 ∧ D ≤ 3) → T (some (aw_wI μ' 1 6 (nI v))) fun μ' => AgK (fun a k => decide (¬ (a = 1 ∧ (k = 4 ∨ k = 6 ∨ k = 7 ∨ k = 8)))) μ μ' ∧ μ'.1 1 4 = nI e ∧ μ'.1 1 6 = nI (tR B a e) ∧ (tR B a e = 1 → μ'.2 1 8 = e27 (wd B a (e - a))) ∧ (tR B a e = 2 → μ'.1 1 7 = nI (nmv B a (e - a))) := fun v hv c1 c2 => by
        rw [T_some, ← hv]
        refine ⟨ag.wI (decide_eq_false (by omega)), ?_, rI_s, fun h => ?_, fun h => ?_⟩
        · rw [rI_k (by decide)]; exact g4
        · rw [rI_2]; exact gw (c1 h).1 (c1 h).2
        · rw [rI_k (by decide)]; exact gn (c2 h).1 (c2 h).2
      have w160 : ¬ (D = 0 ∧ L ≤ 7) → T (f_X6_readRun_160 F 1 (nI L) (nI D) μ') fun μ' => AgK (fun a k => decide (¬ (a = 1 ∧ (k = 4 ∨ k = 6 ∨ k = 7 ∨ k = 8)))) μ μ' ∧ μ'.1 1 4 = nI e ∧ μ'.1 1 6 = nI (tR B a e) ∧ (tR B a e = 1 → μ'.2 1 8 = e27 (wd B a (e - a))) ∧ (tR B a e = 2 → μ'.1 1 7 = nI (nmv B a (e - a))) := fun hn => by
        have hn1 : ¬ (alf sml B a e = true ∧ e ≤ a + 7) := fun h => hn ⟨gD.2 h.1, by omega⟩
        unfold f_X6_readRun_160
        by_cases c0 : L = 0
        · rw [if_pos (by rw [c0]; rfl)]
          by_cases c1 : D ≤ 3
          · rw [if_neg (show ¬ (3 : Int32) < nI D from (show ¬ nI 3 < nI D from nI_nlt c1 (by omega))), plet]
            exact wr 2 (by unfold tR; rw [if_neg hn1, if_pos ⟨gL.1 c0, by omega⟩]) (fun h => by omega) (fun _ => ⟨c0, c1⟩)
          · rw [if_pos (show (3 : Int32) < nI D from (show nI 3 < nI D from nI_lt (by omega) (by omega))), plet]
            exact wr 5 (by unfold tR; rw [if_neg hn1, if_neg (by omega)]) (fun h => by omega) (fun h => by omega)
        · rw [if_neg (show ¬ nI L = 0 from fun h => c0 ((nI_eq (b := 0) (by omega) (by decide)).1 h)), plet]
          exact wr 5 (by unfold tR; rw [if_neg hn1, if_neg (fun h => c0 (gL.2 h.1))]) (fun h => by omega) (fun h => by omega)
      unfold f_X6_readRun_142
      by_cases c0 : D = 0
      · rw [if_pos (by rw [c0]; rfl)]
        by_cases c1 : L ≤ 7
        · rw [if_neg (show ¬ (7 : Int32) < nI L from (show ¬ nI 7 < nI L from nI_nlt c1 (by omega))), plet]
          exact wr 1 (by unfold tR; rw [if_pos ⟨gD.1 c0, by omega⟩]) (fun _ => ⟨c0, c1⟩) (fun h => by omega)
        · rw [if_pos (show (7 : Int32) < nI L from (show nI 7 < nI L from nI_lt (by omega) (by omega)))]
          exact w160 fun h => c1 h.2
      · rw [if_neg (show ¬ nI D = 0 from fun h => c0 ((nI_eq (b := 0) (by omega) (by decide)).1 h))]
        exact w160 fun h => c0 h.1
    show T (f_X6_readRun_14 F 1 k (nI L) (nI D) μ') _
    unfold f_X6_readRun_14
    rw [x1, g4]
    by_cases hen : e < n
    · obtain ⟨b1, b2⟩ := x2 e hen
      have hno : ¬ (sml (B e) || dgt (B e)) = true := fun h => he ⟨hen, h⟩
      rw [Bool.or_eq_true] at hno
      have hs : ¬ (97 ≤ B e ∧ B e ≤ 122) := fun h => hno (.inl (decide_eq_true h))
      have hd : ¬ (48 ≤ B e ∧ B e ≤ 57) := fun h => hno (.inr (decide_eq_true h))
      rw [if_neg (nI_ge hen (by omega)), pI_in_t (by omega) (by decide), pg_t, plet, r0, nI_clamp (by omega), b2]
      have f81 : T (f_X6_readRun_81 F 1 k (nI L) (nI D) (nI (B e)) μ') fun μ' => AgK (fun a k => decide (¬ (a = 1 ∧ (k = 4 ∨ k = 6 ∨ k = 7 ∨ k = 8)))) μ μ' ∧ μ'.1 1 4 = nI e ∧ μ'.1 1 6 = nI (tR B a e) ∧ (tR B a e = 1 → μ'.2 1 8 = e27 (wd B a (e - a))) ∧ (tR B a e = 2 → μ'.1 1 7 = nI (nmv B a (e - a))) := by
        unfold f_X6_readRun_81
        by_cases c : B e < 97
        · rw [if_pos (show nI (B e) < 97 from (show nI (B e) < nI 97 from nI_lt c (by decide)))]
          exact fin
        · rw [if_neg (show ¬ nI (B e) < 97 from (show ¬ nI (B e) < nI 97 from nI_nlt (by omega) (by omega))), if_pos (show (122 : Int32) < nI (B e) from (show nI 122 < nI (B e) from nI_lt (by omega) (by omega)))]
          exact fin
      by_cases c : B e < 48
      · rw [if_pos (show nI (B e) < 48 from (show nI (B e) < nI 48 from nI_lt c (by decide)))]
        exact f81
      · rw [if_neg (show ¬ nI (B e) < 48 from (show ¬ nI (B e) < nI 48 from nI_nlt (by omega) (by omega))), if_pos (show (57 : Int32) < nI (B e) from (show nI 57 < nI (B e) from nI_lt (by omega) (by omega)))]
        exact f81
    · rw [if_pos (nI_le (by omega) (by omega))]
      exact fin
