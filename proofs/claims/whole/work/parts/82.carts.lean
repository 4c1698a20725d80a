/-! what the carts throw back -/
def sBk (T : Nat → Nat → Nat) (m c : Nat) (S : Nat → Int32) : Nat → Int32 := if ther T c m = true ∧ ¬ S (674 + c) = 0 then (match prey T c with
  | none => S
  | some q => upd (upd (upd (upd S (674 + c) (S (674 + c) - 1)) 915 (S 915 + 1)) (714 + T 1 q) (S (714 + T 1 q) + 2)) (476 + q) (S (476 + q) + (3 - nI (dst (T 1 q) (T 6 c) / 2)))) else S
def sFold (T : Nat → Nat → Nat) (m : Nat) (l : List Nat) (S : Nat → Int32) : Nat → Int32 := l.foldl (fun S c => sBk T m c S) S
theorem sFold_app {T : Nat → Nat → Nat} {m c : Nat} {l : List Nat} {S : Nat → Int32} : sFold T m (l ++ [c]) S = sBk T m c (sFold T m l S) := by
  unfold sFold
  rw [List.foldl_append]
  rfl
theorem am_lt {d : Nat → Nat} {p : Nat → Bool} : ∀ n b, am d p n = some b → b < n ∧ p b = true
  | 0, b, h => by cases h
  | n + 1, b, h => by
    unfold am at h
    cases hx : am d p n with
    | none =>
      rw [hx] at h
      by_cases k : p n = true
      · rw [if_pos k] at h
        cases h
        exact ⟨Nat.lt_succ_self _, k⟩
      · rw [if_neg k] at h; cases h
    | some a =>
      rw [hx] at h
      have h : (if p n = true ∧ d n < d a then some n else some a) = some b := h
      by_cases k : p n = true ∧ d n < d a
      · rw [if_pos k] at h
        cases h
        exact ⟨Nat.lt_succ_self _, k.1⟩
      · rw [if_neg k] at h
        cases h
        obtain ⟨h1, h2⟩ := am_lt n _ hx
        exact ⟨Nat.lt_succ_of_lt h1, h2⟩
theorem inB_2 {x : Int32} {B : Nat} (h : inB x B) : inB (x + 2) (B + 2) := by
  obtain ⟨b, hb, rfl⟩ := h
  exact ⟨b + 2, by omega, nI_add b 2⟩
theorem sBk_k {T P : Nat → Nat → Nat} {d m n b c : Nat} {S : Nat → Int32} (ok : sOK T P S) (hs : SW T d m n b S) (hc : c < T 0 3) : SW T d m n (b + 2) (sBk T m c S) ∧ (∀ k, k < 476 ∨ (485 ≤ k ∧ k < 674) ∨ (694 ≤ k ∧ k < 714) ∨ (814 ≤ k ∧ k < 915) ∨ 916 ≤ k → sBk T m c S k = S k) := by
  have hw := ok.1
  have h1 := hw.1
  unfold sBk
  split
  · rename_i k
    cases hp : prey T c with
    | none => exact ⟨hs.mono (by omega), fun k hk => rfl⟩
    | some q =>
      have hq := (am_lt _ _ hp).1
      have g1 := ok.cell (hw.2.1 q hq).1
      obtain ⟨l, hl, hl2⟩ := hs.2.2.1 c hc
      have l0 : l ≠ 0 := fun h => k.2 (by rw [hl2, h]; rfl)
      refine ⟨SW_uo hw (by omega) (SW_up hw (by omega) (inB_2 (hs.2.2.2 _ g1).1) ((SW_uo hw (by omega) (SW_ub hw (by omega) ⟨l - 1, by omega, ?_⟩ hs)).mono (by omega))), fun k hk => ?_⟩
      · rw [hl2]
        exact nI_sub (b := 1) (by omega)
      · show upd (upd (upd (upd S (674 + c) _) 915 _) (714 + T 1 q) _) (476 + q) _ k = S k
        rw [pk_un (by omega), pk_un (by omega), pk_un (by omega), pk_un (by omega)]
  · exact ⟨hs.mono (by omega), fun k hk => rfl⟩
theorem sFold_k {T P : Nat → Nat → Nat} {d m n : Nat} : ∀ (l : List Nat) (b : Nat) (S : Nat → Int32), sOK T P S → SW T d m n b S → (∀ c, c ∈ l → c < T 0 3) → SW T d m n (b + 2 * l.length) (sFold T m l S) ∧ (∀ k, k < 476 ∨ (485 ≤ k ∧ k < 674) ∨ (694 ≤ k ∧ k < 714) ∨ (814 ≤ k ∧ k < 915) ∨ 916 ≤ k → sFold T m l S k = S k)
  | [], b, S, ok, hs, hl => ⟨hs, fun k hk => rfl⟩
  | c :: l, b, S, ok, hs, hl => by
    obtain ⟨h1, h2⟩ := sBk_k ok hs (hl c List.mem_cons_self)
    obtain ⟨h3, h4⟩ := sFold_k l (b + 2) (sBk T m c S) (ok.ext fun k hk => h2 k (by omega)) h1 (fun c' hc' => hl c' (List.mem_cons_of_mem _ hc'))
    have e : sFold T m (c :: l) S = sFold T m l (sBk T m c S) := rfl
    rw [e]
    refine ⟨h3.mono (by rw [List.length_cons]; omega), fun k hk => by rw [h4 k hk, h2 k hk]⟩
theorem fold_vis {T : Nat → Nat → Nat} {m : Nat} {S : Nat → Int32} : ∀ n, sFold T m (List.range n) S = sFold T m ((List.range n).filter (fun c => ther T c m)) S
  | 0 => rfl
  | n + 1 => by
    rw [List.range_succ, List.filter_append, sFold_app, fold_vis n]
    cases h : ther T n m with
    | true =>
      have : [n].filter (fun c => ther T c m) = [n] := by simp [h]
      rw [this, sFold_app]
    | false =>
      have : [n].filter (fun c => ther T c m) = [] := by simp [h]
      rw [this, List.append_nil]
      have h2 : ¬ (ther T n m = true ∧ ¬ sFold T m ((List.range n).filter (fun c => ther T c m)) S (674 + n) = 0) := fun h3 => by rw [h] at h3; cases h3.1
      show sBk T m n _ = _
      unfold sBk
      rw [if_neg h2]
theorem carts_m {F m d n b : Nat} {T P : Nat → Nat → Nat} {S : Nat → Int32} {μ : aw_M} (hF : 100 ≤ F) (ok : sOK T P S) (hs : SW T d m n b S) (hm : m < 240) : aw_loop (fun k s => f_X11_minute_58 F 203 k s.1 s.2) F (0, aset μ 205 S) = f_X11_minute_301 F 203 (aset μ 205 (sFold T m (List.range (T 0 3)) S)) := by
  have hw := ok.1
  have hnq := hw.1.2.2.1
  have hnc := hw.1.2.2.2
  have i2 : aw_in 2 1155 = true := by decide
  have c2 : (2 : Int32).toNatClampNeg = 2 := by decide
  have i3 : aw_in 3 1155 = true := by decide
  have c3 : (3 : Int32).toNatClampNeg = 3 := by decide
  have i456 : aw_in 456 1155 = true := by decide
  have c456 : (456 : Int32).toNatClampNeg = 456 := by decide
  have i915 : aw_in 915 1155 = true := by decide
  have c915 : (915 : Int32).toNatClampNeg = 915 := by decide
  refine lp_u (fun i => (nI i, aset μ 205 (sFold T m (List.range i) S))) (T 0 3) rfl ?_ ?_ (by omega)
  · intro c hc k
    obtain ⟨h2, h4⟩ := sFold_k (List.range c) b S ok hs (fun c' hc' => by have := List.mem_range.1 hc'; omega)
    have ok' : sOK T P (sFold T m (List.range c) S) := ok.ext fun k hk => h4 k (by omega)
    show f_X11_minute_58 F 203 k (nI c) (aset μ 205 (sFold T m (List.range c) S)) = k (nI (c + 1), aset μ 205 (sFold T m (List.range (c + 1)) S))
    rw [List.range_succ, sFold_app]
    generalize sFold T m (List.range c) S = X at h2 h4 ok' ⊢
    have h6 := ok'.cell (hw.2.2.2.1 c hc).2.1
    obtain ⟨t5, t6, -⟩ := ok'.2.2.1.2.2.2.2.2.1 c hc
    have ht : (decide (T 5 c ≤ m ∧ m < T 5 c + 4)) = ther T c m := by
      unfold ther
      rw [decide_eq_true hm, Bool.and_true, Bool.decide_and]
    obtain ⟨l, hl, hl2⟩ := h2.2.2.1 c hc
    have e674 : (674 : Int32) + nI c = nI (674 + c) := nI_add 674 c
    have e67 : (67 : Int32) + nI c = nI (67 + c) := nI_add 67 c
    have e11 : ∀ q, (11 : Int32) + nI q = nI (11 + q) := fun q => nI_add 11 q
    have hin : ∀ j, j < 1155 → aw_in (nI j) 1155 = true := fun j hj => pI_in_t hj (by decide)
    have hcl : ∀ j, j < 1155 → (nI j).toNatClampNeg = j := fun j hj => nI_clamp (by omega)
    unfold f_X11_minute_58 f_X11_minute_295
    rw [i3, pg_t, c3, rf203.2.1, rA_s, ok'.2.2.1.1.2.2.2, if_neg (nI_ge hc (by omega)), i456, pg_t, c456, h2.1.2.1, mThere (by omega) (hw.2.2.2.1 c hc).1 (by omega) (by rw [rA_s]; exact t5), Option.bind_some, ht, nI_1]
    unfold sBk
    cases hth : ther T c m with
    | false => rw [if_neg Bool.false_ne_true, if_neg (fun h => Bool.false_ne_true h.1)]
    | true =>
      rw [if_pos rfl, e674, hin _ (by omega), pg_t, hcl _ (by omega), rA_s]
      by_cases k0 : X (674 + c) = 0
      · rw [if_pos k0, if_neg (show ¬ (true = true ∧ ¬ X (674 + c) = 0) from fun h => h.2 k0)]
      · rw [if_neg k0, if_pos (show true = true ∧ ¬ X (674 + c) = 0 from ⟨rfl, k0⟩)]
        have hd : ∀ q, q < T 0 2 → T 1 q < 100 ∧ dst (T 1 q) (T 6 c) ≤ 18 ∧ X (11 + q) = nI (T 1 q) := fun q hq => by
          have h1 := ok'.cell (hw.2.1 q hq).1
          exact ⟨h1, dst_le h1 h6, (ok'.2.2.1.2.2.2.1 q hq).1⟩
        refine lp_u (fun i => (nI c, oI (am (fun q => dst (T 1 q) (T 6 c)) (fun q => decide (dst (T 1 q) (T 6 c) ≤ 6)) i), nI i, aset μ 205 X)) (T 0 2) rfl ?_ ?_ (by omega)
        · intro q hq k'
          show f_X11_minute_105 F 203 k' k (nI c) (oI (am (fun q => dst (T 1 q) (T 6 c)) (fun q => decide (dst (T 1 q) (T 6 c) ≤ 6)) q)) (nI q) (aset μ 205 X) = k' (nI c, oI (am (fun q => dst (T 1 q) (T 6 c)) (fun q => decide (dst (T 1 q) (T 6 c) ≤ 6)) (q + 1)), nI (q + 1), aset μ 205 X)
          obtain ⟨d1, d2, d3⟩ := hd q hq
          have es : am (fun q => dst (T 1 q) (T 6 c)) (fun q => decide (dst (T 1 q) (T 6 c) ≤ 6)) (q + 1) = match am (fun q => dst (T 1 q) (T 6 c)) (fun q => decide (dst (T 1 q) (T 6 c) ≤ 6)) q with
            | none => if decide (dst (T 1 q) (T 6 c) ≤ 6) = true then some q else none
            | some b => if decide (dst (T 1 q) (T 6 c) ≤ 6) = true ∧ dst (T 1 q) (T 6 c) < dst (T 1 b) (T 6 c) then some q else some b := rfl
          rw [es]
          have e6 : (6 : Int32) = nI 6 := rfl
          unfold f_X11_minute_105 f_X11_minute_196 f_X11_minute_193 f_X11_minute_196
          rw [i2, pg_t, c2, rf203.2.1, rA_s, ok'.2.2.1.1.2.2.1, if_neg (nI_ge hq (by omega)), e11, e67, hin _ (by omega), pg_t, hin _ (by omega), pg_t, hcl _ (by omega), hcl _ (by omega), d3, t6, apart_eq (by omega) (by omega), Option.bind_some, nI_1, e6]
          by_cases k1 : dst (T 1 q) (T 6 c) ≤ 6
          · rw [if_neg (nI_nlt (by omega) (by omega))]
            cases ham : am (fun q => dst (T 1 q) (T 6 c)) (fun q => decide (dst (T 1 q) (T 6 c) ≤ 6)) q with
            | none =>
              rw [if_pos (show oI none < 0 by decide)]
              show _ = k' (nI c, oI (if decide (dst (T 1 q) (T 6 c) ≤ 6) = true then some q else none), nI (q + 1), aset μ 205 X)
              rw [if_pos (decide_eq_true k1)]
              rfl
            | some a =>
              have ha := (am_lt _ _ ham).1
              obtain ⟨a1, a2, a3⟩ := hd a (by omega)
              have eo : oI (some a) = nI a := rfl
              rw [eo, if_neg (nI_pos (by omega))]
              show (aw_g true (aw_g true ((f_X11_apart F ((aset μ 205 X).1 205 (11 + q)) ((aset μ 205 X).1 205 (67 + c)) (aset μ 205 X)).bind _))) = k' (nI c, oI (if decide (dst (T 1 q) (T 6 c) ≤ 6) = true ∧ dst (T 1 q) (T 6 c) < dst (T 1 a) (T 6 c) then some q else some a), nI (q + 1), aset μ 205 X)
              rw [pg_t, pg_t, rA_s, d3, t6, apart_eq (by omega) (by omega), Option.bind_some, e11, hin _ (by omega), pg_t, pg_t, hcl _ (by omega)]
              show ((f_X11_apart F ((aset μ 205 X).1 205 (11 + a)) ((aset μ 205 X).1 205 (67 + c)) (aset μ 205 X)).bind _) = _
              rw [rA_s, a3, t6, apart_eq (by omega) (by omega), Option.bind_some]
              by_cases k2 : dst (T 1 q) (T 6 c) < dst (T 1 a) (T 6 c)
              · rw [if_neg (nI_ge k2 (by omega)), if_pos ⟨decide_eq_true k1, k2⟩]
                rfl
              · rw [if_pos (nI_le (by omega) (by omega)), if_neg (fun h => k2 h.2)]
                rfl
          · rw [if_pos (nI_lt (by omega) (by omega))]
            cases ham : am (fun q => dst (T 1 q) (T 6 c)) (fun q => decide (dst (T 1 q) (T 6 c) ≤ 6)) q with
            | none =>
              show _ = k' (nI c, oI (if decide (dst (T 1 q) (T 6 c) ≤ 6) = true then some q else none), nI (q + 1), aset μ 205 X)
              rw [if_neg (fun h => k1 (of_decide_eq_true h))]
            | some a =>
              show _ = k' (nI c, oI (if decide (dst (T 1 q) (T 6 c) ≤ 6) = true ∧ dst (T 1 q) (T 6 c) < dst (T 1 a) (T 6 c) then some q else some a), nI (q + 1), aset μ 205 X)
              rw [if_neg (fun h => k1 (of_decide_eq_true h.1))]
        · intro k'
          show f_X11_minute_105 F 203 k' k (nI c) (oI (prey T c)) (nI (T 0 2)) (aset μ 205 X) = _
          unfold f_X11_minute_105 f_X11_minute_202 f_X11_minute_295
          rw [i2, pg_t, c2, rf203.2.1, rA_s, ok'.2.2.1.1.2.2.1, if_pos (nI_le (Nat.le_refl _) (by omega)), nI_1]
          cases hp : prey T c with
          | none =>
            rw [if_neg (show ¬ 0 ≤ oI none by decide)]
          | some q =>
            have hq := (am_lt _ _ hp).1
            obtain ⟨d1, d2, d3⟩ := hd q hq
            have eo : oI (some q) = nI q := rfl
            have e714 : (714 : Int32) + nI (T 1 q) = nI (714 + T 1 q) := nI_add 714 _
            have e476 : (476 : Int32) + nI q = nI (476 + q) := nI_add 476 _
            have eh : nI (dst (T 1 q) (T 6 c)) / 2 = nI (dst (T 1 q) (T 6 c) / 2) := nI_div (b := 2) (by omega) (by decide)
            rw [eo, if_pos (nI_pos' (by omega))]
            simp (disch := omega) only [e674, hin, pg_t, hcl, plet, wI_wA, i915, c915, rA_s, pk_un, e11, d3, e714, e67, e476, t6, apart_eq, Option.bind_some, eh]
  · intro k
    obtain ⟨h2, h4⟩ := sFold_k (List.range (T 0 3)) b S ok hs (fun c' hc' => List.mem_range.1 hc')
    have ok' : sOK T P (sFold T m (List.range (T 0 3)) S) := ok.ext fun k hk => h4 k (by omega)
    show f_X11_minute_58 F 203 k (nI (T 0 3)) (aset μ 205 (sFold T m (List.range (T 0 3)) S)) = _
    unfold f_X11_minute_58
    rw [i3, pg_t, c3, rf203.2.1, rA_s, ok'.2.2.1.1.2.2.2, if_pos (nI_le (Nat.le_refl _) (by omega))]
theorem throwBack_x {F f d m n b c : Nat} {C P : Nat → Nat → Nat} {S : Nat → Int32} {μ : aw_M} (hf : f = 39 ∨ f = 76) (hwf : qTWF C) (ok : sOK C P S) (ev : env C P μ) (hx : XS C f μ S) (hs : SW C d m n b S) (hc : c < C 0 3) (hth : ther C c m = true) : T (f_X0_throwBack F f (nI c) μ) fun μ' => XS C f μ' (sBk C m c S) ∧ AgK (kNF f) μ μ' := by
  obtain ⟨r0, r1, r2, r8, r9, r10, r11, r12, r13, r14, r15, r16, r17, r19⟩ := rfF hf
  have hw := ok.1
  have hnq := hwf.1.2.2.1
  have hnc := hwf.1.2.2.2
  have s3 : aw_rf 28 3 = 32 := by simp only [rf0, rf1, rf4, rf5, rf19, rf23, rf28, rf39, rf53, rf67, rf71, rf76, rf88, rf97, rf101, rf109, rf110, rf124, rf128, rf133, rf144, rf156, rf157, rf171, rf175, rf180, rf191, rf51]
  have s0 : aw_rf 28 0 = 29 := by simp only [rf0, rf1, rf4, rf5, rf19, rf23, rf28, rf39, rf53, rf67, rf71, rf76, rf88, rf97, rf101, rf109, rf110, rf124, rf128, rf133, rf144, rf156, rf157, rf171, rf175, rf180, rf191, rf51]
  have s6 : aw_rf 5 6 = 7 := by simp only [rf0, rf1, rf4, rf5, rf19, rf23, rf28, rf39, rf53, rf67, rf71, rf76, rf88, rf97, rf101, rf109, rf110, rf124, rf128, rf133, rf144, rf156, rf157, rf171, rf175, rf180, rf191, rf51]
  have h6 := ok.cell (hw.2.2.2.1 c hc).2.1
  have e32 : μ.1 32 c = oI (prey C c) := (ev.2.2.2.1 c hc).2
  have eL : μ.1 (f + 7) c = S (674 + c) := (hx.2.2.2.2.1 c hc).1
  have e7 : μ.1 f 7 = S 915 := hx.1.2.2.2.2.1
  have i20 : aw_in (nI c) 20 = true := pI_in_t (by omega) (by decide)
  have cc : (nI c).toNatClampNeg = c := nI_clamp (by omega)
  obtain ⟨l, hl, hl2⟩ := hs.2.2.1 c hc
  unfold f_X0_throwBack sBk
  rw [i20, pg_t, plet, pg_t, r2, s3, r14, cc, e32, eL]
  by_cases k0 : S (674 + c) = 0
  · rw [if_pos (by rw [k0]; decide), if_neg (show ¬ (ther C c m = true ∧ ¬ S (674 + c) = 0) from fun h => h.2 k0), T_some]
    exact ⟨hx, AgK.rf μ⟩
  · have l0 : l ≠ 0 := fun h => k0 (by rw [hl2, h]; rfl)
    rw [if_neg (by rw [hl2]; exact nI_nle (by omega) (by omega)), if_pos (show ther C c m = true ∧ ¬ S (674 + c) = 0 from ⟨hth, k0⟩)]
    cases hp : prey C c with
    | none =>
      rw [if_pos (show oI none = -1 from rfl), T_some]
      exact ⟨hx, AgK.rf μ⟩
    | some q =>
      have hq := (am_lt _ _ hp).1
      have g1 := ok.cell (hw.2.1 q hq).1
      have hd := dst_le g1 h6
      have eo : oI (some q) = nI q := rfl
      have n1 : ¬ nI q = -1 := by
        have := nI_pos' (n := q) (by omega)
        grind
      have hpl : pl C q = C 1 q := by unfold pl; rw [if_pos (by omega)]
      have ea : μ.1 29 (20 * q + c) = nI (dst (C 1 q) (C 6 c)) := by
        have := (ev.2.2.1 q (by omega) (by rw [Nat.mod_eq_of_lt (by omega)]; exact hq)).1 c hc
        rw [hpl] at this
        exact this
      have t1 : μ.1 7 q = nI (C 1 q) := (ev.1.2.1 q hq).1
      have e20 : nI q * 20 + nI c = nI (20 * q + c) := by
        have : nI q * 20 + nI c = 20 * nI q + nI c := by grind
        rw [this]
        simp (disch := omega) only [pI_lit, nI_add, nI_clamp, nI_leI, nI_ltI, nI_eq, pk_mul]
      have eh : nI (dst (C 1 q) (C 6 c)) / 2 = nI (dst (C 1 q) (C 6 c) / 2) := nI_div (b := 2) (by omega) (by decide)
      have hx1 := hx.w (a := f + 7) (i := c) (k := 674 + c) (v := S (674 + c) - 1) hw (.l (by omega) rfl)
      have hx2 := hx1.w (a := f) (i := 7) (k := 915) (v := S 915 + 1) hw .m7
      have hx3 := hx2.w (a := f + 9) (i := C 1 q) (k := 714 + C 1 q) (v := S (714 + C 1 q) + 2) hw (.p g1 rfl)
      have hx4 := hx3.w (a := f + 4) (i := q) (k := 476 + q) (v := S (476 + q) + (3 - nI (dst (C 1 q) (C 6 c) / 2))) hw (.w (by omega) rfl)
      have p3 : μ.1 (f + 9) (C 1 q) = S (714 + C 1 q) := (hx.2.2.2.2.2.1 _ g1).1
      have p4 : μ.1 (f + 4) q = S (476 + q) := (hx.2.2.1 q hq).2.2.1
      have q1 : (7 : Nat) ≠ f := by omega
      have q2 : (7 : Nat) ≠ f + 7 := by omega
      have q3 : (29 : Nat) ≠ f := by omega
      have q4 : (29 : Nat) ≠ f + 7 := by omega
      have q5 : (29 : Nat) ≠ f + 9 := by omega
      rw [eo, if_neg n1]
      simp (disch := omega) only [pg_t, plet, rI_a, e7, pI_in_t, r0, s6, nI_clamp, t1, r16, p3, e20, r11, r2, s0, ea, eh, p4, T_some]
      exact ⟨hx4, ((((AgK.rf μ).wI (kNF_f (by omega) (by omega))).wI (kNF_f (by omega) (by omega))).wI (kNF_f (by omega) (by omega))).wI (kNF_f (by omega) (by omega))⟩
theorem carts_x {F f d m n b : Nat} {C P : Nat → Nat → Nat} {S : Nat → Int32} {μ : aw_M} (hF : 100 ≤ F) (hf : f = 39 ∨ f = 76) (hwf : qTWF C) (ok : sOK C P S) (ev : env C P μ) (hx : XS C f μ S) (hs : SW C d m n b S) (hm : m < 240) (hv : vis C m ≠ []) : T (f_X0_playMinute_66 F f (nI (nbz C m)) μ) fun μ' => XS C f μ' (sFold C m (List.range (C 0 3)) S) ∧ AgK (kNF f) μ μ' := by
  obtain ⟨r0, r1, r2, -⟩ := rfF hf
  have hnc := hwf.1.2.2.2
  have s10 : aw_rf 28 10 = 37 := by simp only [rf0, rf1, rf4, rf5, rf19, rf23, rf28, rf39, rf53, rf67, rf71, rf76, rf88, rf97, rf101, rf109, rf110, rf124, rf128, rf133, rf144, rf156, rf157, rf171, rf175, rf180, rf191, rf51]
  have s11 : aw_rf 28 11 = 38 := by simp only [rf0, rf1, rf4, rf5, rf19, rf23, rf28, rf39, rf53, rf67, rf71, rf76, rf88, rf97, rf101, rf109, rf110, rf124, rf128, rf133, rf144, rf156, rf157, rf171, rf175, rf180, rf191, rf51]
  have b1 := nbz_le C (m + 1)
  have b2 := cntv_le C (m + 1)
  have b3 := cntv_succ C m
  have b4 : nbz C (m + 1) = nbz C m + 1 := by
    show nbz C m + bN (!(vis C m).isEmpty) = _
    cases hx : vis C m with
    | nil => exact absurd hx hv
    | cons a l => rfl
  have hG : ∀ μ', env C P μ' → μ'.1 37 (nbz C m) = nI (cntv C m) ∧ μ'.1 37 (nbz C m + 1) = nI (cntv C (m + 1)) ∧ ∀ j, j < (vis C m).length → μ'.1 38 (cntv C m + j) = nI ((vis C m).getD j 0) := fun μ' ev' => by
    obtain ⟨g1, g2, g3, g4, g5⟩ := (ev'.2.2.2.2.2.2 m hm).2 hv
    exact ⟨g3, g4, g5⟩
  have hlt : ∀ c, c ∈ vis C m → c < C 0 3 := fun c hc => by
    unfold vis at hc
    exact List.mem_range.1 (List.mem_filter.1 hc).1
  unfold f_X0_playMinute_66
  rw [pI_in_t (by omega) (by decide), pg_t, plet, r2, s10, nI_clamp (by omega), (hG μ ev).1, fold_vis]
  refine T_lp (fun j s => ∃ μ', s = (nI (nbz C m), nI (cntv C m + j), μ') ∧ XS C f μ' (sFold C m ((vis C m).take j) S) ∧ AgK (kNF f) μ μ') (vis C m).length (by omega) ⟨μ, rfl, hx, AgK.rf μ⟩ ?_ ?_
  · rintro j hj _ ⟨μ', rfl, hx', ag⟩ k hk
    have ev' := ev.ag hf ag
    obtain ⟨h2, h4⟩ := sFold_k ((vis C m).take j) b S ok hs (fun c hc => hlt c (List.mem_of_mem_take hc))
    have ok' : sOK C P (sFold C m ((vis C m).take j) S) := ok.ext fun k hk => h4 k (by omega)
    have et : (vis C m).take (j + 1) = (vis C m).take j ++ [(vis C m).getD j 0] := by
      rw [List.take_succ, List.getD_eq_getElem?_getD, List.getElem?_eq_getElem (by omega)]
      rfl
    have hk : ∀ μ2, XS C f μ2 (sBk C m ((vis C m).getD j 0) (sFold C m ((vis C m).take j) S)) → AgK (kNF f) μ μ2 → T (k (nI (nbz C m), nI (cntv C m + j + 1), μ2)) _ := fun μ2 g1 g2 => hk _ ⟨μ2, rfl, by rw [et, sFold_app]; exact g1, g2⟩
    generalize sFold C m ((vis C m).take j) S = X at hk h2 h4 ok' hx'
    have hmem : (vis C m).getD j 0 ∈ vis C m := by
      rw [List.getD_eq_getElem?_getD, List.getElem?_eq_getElem hj]
      exact List.getElem_mem hj
    have hth : ther C ((vis C m).getD j 0) m = true := (List.mem_filter.1 hmem).2
    show T (f_X0_playMinute_76 F f k (nI (nbz C m)) (nI (cntv C m + j)) μ') _
    unfold f_X0_playMinute_76
    rw [nI_1, pI_in_t (by omega) (by decide), pg_t, r2, s10, nI_clamp (by omega), (hG μ' ev').2.1, b3, if_neg (nI_ge (by omega) (by omega)), pI_in_t (by omega) (by decide), pg_t, s11, nI_clamp (by omega), (hG μ' ev').2.2 j hj, nI_1]
    exact T_call (throwBack_x hf hwf ok' ev' hx' h2 (hlt _ hmem) hth) fun μ2 h => hk μ2 h.1 (ag.tr h.2)
  · rintro _ ⟨μ', rfl, hx', ag⟩ k
    have ev' := ev.ag hf ag
    show T (f_X0_playMinute_76 F f k (nI (nbz C m)) (nI (cntv C m + (vis C m).length)) μ') _
    unfold f_X0_playMinute_76
    rw [nI_1, pI_in_t (by omega) (by decide), pg_t, r2, s10, nI_clamp (by omega), (hG μ' ev').2.1, b3, if_pos (nI_le (Nat.le_refl _) (by omega)), T_some]
    rw [List.take_length] at hx'
    exact ⟨hx', ag⟩
