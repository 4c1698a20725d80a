/-! minutes one by one, and many at once where no cart is there -/
def sMinS (T P : Nat → Nat → Nat) (S : Nat → Int32) : Nat → Int32 := sMin T P false (cl (S 455) 3) (cl (S 456) 240) S
def sIt (T P : Nat → Nat → Nat) : Nat → (Nat → Int32) → Nat → Int32
  | 0, S => S
  | i + 1, S => sMinS T P (sIt T P i S)
def dayS (S : Nat → Int32) : Nat := cl (S 455) 3
def fin (T P : Nat → Nat → Nat) (i N : Nat) (S : Nat → Int32) : Prop := (i = N ∨ dayS (sIt T P i S) = 3) ∧ i ≤ N ∧ ∀ j, j < i → dayS (sIt T P j S) ≠ 3
theorem fin_uniq {T P : Nat → Nat → Nat} {i i' N : Nat} {S : Nat → Int32} (h : fin T P i N S) (h' : fin T P i' N S) : i = i' := by
  rcases Nat.lt_trichotomy i i' with g | g | g
  · rcases h.1 with e | e
    · have := h'.2.1; omega
    · exact absurd e (h'.2.2 i g)
  · exact g
  · rcases h'.1 with e | e
    · have := h.2.1; omega
    · exact absurd e (h.2.2 i' g)
theorem sIt_add {T P : Nat → Nat → Nat} {S : Nat → Int32} (i : Nat) : ∀ k, sIt T P (i + k) S = sIt T P k (sIt T P i S)
  | 0 => rfl
  | k + 1 => by
    show sMinS T P (sIt T P (i + k) S) = sMinS T P (sIt T P k (sIt T P i S))
    rw [sIt_add i k]
theorem dm_of {T : Nat → Nat → Nat} {d m n b : Nat} {S : Nat → Int32} (h : SW T d m n b S) (hd : dmn d m n) : cl (S 455) 3 = d ∧ cl (S 456) 240 = m ∧ cl (S 919) 9 = n := by
  rw [h.1.1, h.1.2.1, h.1.2.2]
  exact ⟨cl_nI hd.1 (by decide), cl_nI hd.2.1 (by decide), cl_nI hd.2.2.2 (by decide)⟩
theorem it_k {T P : Nat → Nat → Nat} {d m n : Nat} {S : Nat → Int32} (ok : sOK T P S) (hs : SW T d m n (60 * m) S) (hd : dmn d m n) : ∀ i, (∀ j, j < i → dayS (sIt T P j S) ≠ 3) → ∃ d' m' n', SW T d' m' n' (60 * m') (sIt T P i S) ∧ dmn d' m' n' ∧ (∀ k, k < 455 ∨ 974 ≤ k ∨ (814 ≤ k ∧ k < 914) → sIt T P i S k = S k)
  | 0, _ => ⟨d, m, n, hs, hd, fun k _ => rfl⟩
  | i + 1, h => by
    obtain ⟨d', m', n', g1, g2, g3⟩ := it_k ok hs hd i (fun j hj => h j (by omega))
    obtain ⟨e1, e2, e3⟩ := dm_of g1 g2
    have hday : d' ≠ 3 := fun e => h i (by omega) (by show cl _ 3 = 3; rw [e1, e])
    have ok' : sOK T P (sIt T P i S) := ok.ext fun k hk => g3 k (by omega)
    obtain ⟨d1, d2, d3, d4⟩ := g2
    obtain ⟨n2, t1, t2, t3⟩ := sMin_k (su := false) ok' (by omega) (by omega) g1
    refine ⟨_, _, n2, ?_, t2, fun k hk => ?_⟩
    · show SW T _ _ n2 _ (sMinS T P (sIt T P i S))
      unfold sMinS
      rw [e1, e2]
      exact t1
    · show sMinS T P (sIt T P i S) k = S k
      unfold sMinS
      rw [e1, e2, t3 k hk, g3 k hk]
theorem sPlay_idle {T P : Nat → Nat → Nat} {su : Bool} {m : Nat} {S : Nat → Int32} (h0 : S 919 = 0) (hv : vis T m = []) : sPlay T P su m S = S := by
  have hq : ∀ i, sQs T P su m i S = S := fun i => by
    induction i with
    | zero => rfl
    | succ i ih =>
      show sQ1 T P su m i (sQs T P su m i S) = S
      rw [ih]
      have : sAim T P S i m = none := by
        unfold sAim
        have : aimo T P (gS S) i m (T 0 3) = (vis T m).foldl (stp T P (gS S) i) none := rfl
        rw [this, hv]
        split
        · rfl
        · split <;> rfl
      unfold sQ1
      rw [this]
  have e : cl (S 919) 9 = 0 := by rw [h0]; exact cl_nI (b := 0) (by decide) (by decide)
  unfold sPlay
  rw [hq, e, fold_vis]
  have : (List.range (T 0 3)).filter (fun c => ther T c m) = [] := hv
  rw [this]
  rfl
theorem upd_upd {S : Nat → Int32} {i : Nat} {v w : Int32} : upd (upd S i v) i w = upd S i w := by
  funext k
  by_cases e : k = i
  · subst e; rw [pk_us, pk_us]
  · rw [pk_un e, pk_un e, pk_un e]
theorem sTick_456 {d m : Nat} {v : Int32} {S : Nat → Int32} : sTick d m (upd S 456 v) = sTick d m S := by
  unfold sTick
  rw [upd_upd]
theorem idle_it {T P : Nat → Nat → Nat} {d m n b : Nat} {S : Nat → Int32} (hd : d < 3) (hs : SW T d m n b S) : ∀ k, m + (k + 1) ≤ 240 → (∀ j, j < k + 1 → vis T (m + j) = []) → sIt T P (k + 1) S = sTick d (m + k) (sDre (upd S 919 0) (fun a => (k + 1) * drn T a))
  | 0, hm, hv => by
    have e1 : cl (S 455) 3 = d := by rw [hs.1.1, cl_nI (by omega) (by decide)]
    have e2 : cl (S 456) 240 = m := by rw [hs.1.2.1, cl_nI (by omega) (by decide)]
    show sMinS T P S = _
    unfold sMinS sMin
    rw [e1, e2, sPlay_idle pk_us (show vis T m = [] from hv 0 (by omega))]
    have : sDre (upd S 919 0) (drn T) = sDre (upd S 919 0) (fun a => (0 + 1) * drn T a) := sDre_ext fun a _ => by omega
    rw [this]
    rfl
  | k + 1, hm, hv => by
    have ih := idle_it (P := P) hd hs k (by omega) (fun j hj => hv j (by omega))
    have et : sTick d (m + k) (sDre (upd S 919 0) (fun a => (k + 1) * drn T a)) = upd (sDre (upd S 919 0) (fun a => (k + 1) * drn T a)) 456 (nI (m + k + 1)) := if_pos (by omega)
    rw [et] at ih
    show sMinS T P (sIt T P (k + 1) S) = _
    rw [ih]
    have e1 : cl (upd (sDre (upd S 919 0) (fun a => (k + 1) * drn T a)) 456 (nI (m + k + 1)) 455) 3 = d := by
      rw [pk_un (by omega), sDre_o (by omega), pk_un (by omega), hs.1.1, cl_nI (by omega) (by decide)]
    have e2 : cl (upd (sDre (upd S 919 0) (fun a => (k + 1) * drn T a)) 456 (nI (m + k + 1)) 456) 240 = m + k + 1 := by
      rw [pk_us, cl_nI (by omega) (by decide)]
    unfold sMinS sMin
    rw [e1, e2, sPlay_idle pk_us (show vis T (m + k + 1) = [] from hv (k + 1) (by omega))]
    have ez : sDre (upd (upd (sDre (upd S 919 0) (fun a => (k + 1) * drn T a)) 456 (nI (m + k + 1))) 919 0) (drn T) = upd (sDre (upd S 919 0) (fun a => (k + 1 + 1) * drn T a)) 456 (nI (m + k + 1)) := by
      funext j
      by_cases hj : 714 ≤ j ∧ j < 814
      · obtain ⟨a, rfl⟩ : ∃ a, j = 714 + a := ⟨j - 714, by omega⟩
        have ha : a < 100 := by omega
        rw [sDre_p ha, pk_un (by omega), pk_un (by omega), sDre_p ha, pk_un (by omega), pk_un (by omega), sDre_p ha, pk_un (by omega)]
        have : (S (714 + a)).toNatClampNeg < 2 ^ 31 := by
          have h1 := Int32.toInt_lt (S (714 + a))
          show (S (714 + a)).toInt.toNat < 2 ^ 31
          omega
        rw [nI_clamp (by omega), Nat.sub_sub]
        congr 2
        rw [Nat.add_mul (k + 1) 1, Nat.one_mul]
      · rw [sDre_o (by omega)]
        by_cases h9 : j = 919
        · subst h9
          rw [pk_us, pk_un (by omega), sDre_o (by omega), pk_us]
        · rw [pk_un h9]
          by_cases h4 : j = 456
          · subst h4; rw [pk_us, pk_us]
          · rw [pk_un h4, pk_un h4, sDre_o (by omega), sDre_o (by omega)]
    rw [ez, sTick_456]
    rfl
theorem XS_919 {T : Nat → Nat → Nat} {f : Nat} {μ : aw_M} {S : Nat → Int32} (hw : qT0 T) (h : XS T f μ S) : XS T f (aw_wI μ f 18 0) (upd S 919 0) := by
  have hw := hw.1
  have key : ∀ b j k, (b ≠ f ∨ j ≠ 18) → k ≠ 919 → μ.1 b j = S k → (aw_wI μ f 18 0).1 b j = upd S 919 0 k := fun b j k h1 h2 h3 => by
    rw [pk_un h2, ← h3]
    by_cases e : b = f
    · subst e
      exact rI_k (by omega)
    · rw [rI_a e]
  obtain ⟨⟨x1, x2, x3, x4, x5, x6⟩, ⟨x7, x8, x9⟩, x10, x11, x12, x13, x14⟩ := h
  refine ⟨⟨key _ _ _ (by omega) (by omega) x1, key _ _ _ (by omega) (by omega) x2, key _ _ _ (by omega) (by omega) x3, key _ _ _ (by omega) (by omega) x4, key _ _ _ (by omega) (by omega) x5, by rw [rI_s, pk_us]⟩, ⟨key _ _ _ (by omega) (by omega) x7, key _ _ _ (by omega) (by omega) x8, key _ _ _ (by omega) (by omega) x9⟩, fun q hq => ⟨key _ _ _ (by omega) (by omega) (x10 q hq).1, key _ _ _ (by omega) (by omega) (x10 q hq).2.1, key _ _ _ (by omega) (by omega) (x10 q hq).2.2.1, key _ _ _ (by omega) (by omega) (x10 q hq).2.2.2⟩, fun q c hq hc => key _ _ _ (by omega) (by omega) (x11 q c hq hc), fun c hc => ⟨key _ _ _ (by omega) (by omega) (x12 c hc).1, key _ _ _ (by omega) (by omega) (x12 c hc).2⟩, fun a' ha => ⟨key _ _ _ (by omega) (by omega) (x13 a' ha).1, key _ _ _ (by omega) (by omega) (x13 a' ha).2⟩, fun n hn e k hk j hj => ?_⟩
  rw [pk_us, ← nI_0, nI_eq (by omega) (by omega)] at e
  omega
theorem idleFrom_x {F m w : Nat} {C : Nat → Nat → Nat} {μ : aw_M} (hF : 1000 ≤ F) (hG : qGX C μ 28) (hw : w ≤ 720) (hm : m ≤ 240) (hc : C 0 3 ≤ 20) : T (f_X1_idleFrom F 28 (nI m) (nI w) μ) fun r => ∃ k, r = (nI k, μ) ∧ k ≤ w ∧ m + k ≤ 240 ∧ (∀ j, j < k → vis C (m + j) = []) ∧ (k = 0 → w = 0 ∨ m = 240 ∨ vis C m ≠ []) := by
  have r8 : aw_rf 28 8 = 35 := by simp only [rf0, rf1, rf4, rf5, rf19, rf23, rf28, rf39, rf53, rf67, rf71, rf76, rf88, rf97, rf101, rf109, rf110, rf124, rf128, rf133, rf144, rf156, rf157, rf171, rf175, rf180, rf191, rf51]
  unfold f_X1_idleFrom
  refine T_lp (fun i s => s = (nI m, nI w, nI i, μ) ∧ m + i ≤ 240 ∧ ∀ j, j < i → vis C (m + j) = []) w (by omega) ⟨rfl, hm, fun j hj => absurd hj (Nat.not_lt_zero _)⟩ ?_ ?_
  · rintro i hi _ ⟨rfl, h1, h2⟩ k hk
    show T (f_X1_idleFrom_2 F 28 k (nI m) (nI w) (nI i) μ) _
    unfold f_X1_idleFrom_2
    rw [if_neg (nI_ge hi (by omega)), nI_add]
    by_cases h3 : m + i = 240
    · rw [if_pos (show (240 : Int32) ≤ nI (m + i) from nI_le (a := 240) (by omega) (by omega)), T_some]
      exact ⟨i, rfl, by omega, h1, h2, fun e => .inr (.inl (by omega))⟩
    · rw [if_neg (show ¬ (240 : Int32) ≤ nI (m + i) from nI_ge (b := 240) (by omega) (by decide)), pI_in_t (by omega) (by decide), pg_t, r8, nI_clamp (by omega)]
      obtain ⟨g1, g2⟩ := hG.2.2.2.2 (m + i) (by omega)
      by_cases hv : vis C (m + i) = []
      · rw [if_pos (show μ.1 35 (m + i) = -1 from g1 hv), nI_1]
        refine hk _ ⟨rfl, by omega, fun j hj => ?_⟩
        by_cases e : j = i
        · rw [e]; exact hv
        · exact h2 j (by omega)
      · have e := (g2 hv).1
        have e : μ.1 35 (m + i) = nI (nbz C (m + i)) := e
        have b1 := nbz_le C (m + i)
        have b2 := cntv_le C (m + i)
        have hn : nI (nbz C (m + i)) ≠ -1 := by
          have := nI_pos' (n := nbz C (m + i)) (by omega)
          grind
        rw [e, if_neg hn, T_some]
        exact ⟨i, rfl, by omega, h1, h2, fun e => .inr (.inr (by subst e; exact hv))⟩
  · rintro _ ⟨rfl, h1, h2⟩ k
    show T (f_X1_idleFrom_2 F 28 k (nI m) (nI w) (nI w) μ) _
    unfold f_X1_idleFrom_2
    rw [if_pos (nI_le (Nat.le_refl _) (by omega)), T_some]
    exact ⟨w, rfl, Nat.le_refl _, h1, h2, fun e => .inl e⟩
theorem pass_x {F f d m n N : Nat} {C P : Nat → Nat → Nat} {S : Nat → Int32} {μ : aw_M} (hF : 2000 ≤ F) (hf : f = 39 ∨ f = 76) (hwf : qTWF C) (ok : sOK C P S) (ev : env C P μ) (hx : XS C f μ S) (hs : SW C d m n (60 * m) S) (hd : dmn d m n) (hN : N ≤ 720) : T (f_X0_pass F f (nI N) μ) fun r => ∃ i, r.1 = nI i ∧ fin C P i N S ∧ XS C f r.2 (sIt C P i S) ∧ AgK (kNF f) μ r.2 := by
  obtain ⟨r0, r1, r2, -⟩ := rfF hf
  have hnc := hwf.1.2.2.2
  have s8 : aw_rf 28 8 = 35 := by simp only [rf0, rf1, rf4, rf5, rf19, rf23, rf28, rf39, rf53, rf67, rf71, rf76, rf88, rf97, rf101, rf109, rf110, rf124, rf128, rf133, rf144, rf156, rf157, rf171, rf175, rf180, rf191, rf51]
  unfold f_X0_pass
  refine T_lm (fun s => ∃ i μ', s = (nI N, nI i, μ') ∧ i ≤ N ∧ (∀ j, j < i → dayS (sIt C P j S) ≠ 3) ∧ XS C f μ' (sIt C P i S) ∧ AgK (kNF f) μ μ') (fun s => N - s.2.1.toNatClampNeg) ?_ (by show N - _ < F; omega) ⟨0, μ, rfl, Nat.zero_le _, fun j hj => absurd hj (Nat.not_lt_zero _), hx, AgK.rf μ⟩
  rintro _ ⟨i, μ', rfl, hi, hday, hx', ag⟩ k hk
  show T (f_X0_pass_2 F f k (nI N) (nI i) μ') _
  have ev' := ev.ag hf ag
  obtain ⟨d', m', n', g1, g2, g3⟩ := it_k ok hs hd i hday
  obtain ⟨e1, e2, e3⟩ := dm_of g1 g2
  have ok' : sOK C P (sIt C P i S) := ok.ext fun k hk => g3 k (by omega)
  have hk : ∀ k' μ2, 1 ≤ k' → i + k' ≤ N → (∀ j, j < i + k' → dayS (sIt C P j S) ≠ 3) → XS C f μ2 (sIt C P (i + k') S) → AgK (kNF f) μ μ2 → T (k (nI N, nI (i + k'), μ2)) fun r => ∃ i, r.1 = nI i ∧ fin C P i N S ∧ XS C f r.2 (sIt C P i S) ∧ AgK (kNF f) μ r.2 := fun k' μ2 h1 h2 h3 h4 h5 => hk _ ⟨i + k', μ2, rfl, h2, h3, h4, h5⟩ (by
    show N - (nI (i + k')).toNatClampNeg < N - (nI i).toNatClampNeg
    rw [nI_clamp (by omega), nI_clamp (by omega)]
    omega)
  have x3 : μ'.1 f 3 = nI d' := hx'.1.1.trans g1.1.1
  have x4 : μ'.1 f 4 = nI m' := hx'.1.2.1.trans g1.1.2.1
  obtain ⟨d1, d2, d3, d4⟩ := g2
  unfold f_X0_pass_2
  rw [x3, x4]
  by_cases hiN : i = N
  · rw [if_pos (by rw [hiN]; exact nI_le (Nat.le_refl _) (by omega)), T_some]
    exact ⟨i, rfl, ⟨.inl hiN, hi, hday⟩, hx', ag⟩
  rw [if_neg (nI_ge (by omega) (by omega))]
  by_cases h3 : d' = 3
  · rw [if_pos (by rw [h3]; decide), T_some]
    exact ⟨i, rfl, ⟨.inr (by show cl _ 3 = 3; rw [e1, h3]), hi, hday⟩, hx', ag⟩
  rw [if_neg (show ¬ (3 : Int32) ≤ nI d' from nI_ge (b := 3) (by omega) (by decide)), nI_sub (by omega), r2]
  have hm' : m' < 240 := by omega
  have hdi : dayS (sIt C P i S) ≠ 3 := fun e => h3 (e1.symm.trans e)
  refine T_call (idleFrom_x (by omega) ev'.2.2 (w := N - i) (by omega) (by omega) hnc) ?_
  rintro _ ⟨w, rfl, w1, w2, w3, w4⟩
  have hx0 := XS_919 ok.1 hx'
  have hs0 := SW_919 ok.1 g1
  have ok0 : sOK C P (upd (sIt C P i S) 919 0) := ok'.ext fun k hk => pk_un (by omega)
  have ag0 : AgK (kNF f) μ (aw_wI μ' f 18 0) := ag.wI (kNF_f (by omega) (by omega))
  have ev0 := ev.ag hf ag0
  show T (aw_let (aw_wI μ' f 18 0) fun μ18 => if nI w = 0 then _ else _) _
  rw [plet]
  rcases Nat.eq_zero_or_pos w with hw0 | hw0
  · subst hw0
    have hv : vis C m' ≠ [] := by
      rcases w4 rfl with h | h | h
      · omega
      · omega
      · exact h
    have e35 : (aw_wI μ' f 18 0).1 35 m' = nI (nbz C m') := ((ev0.2.2.2.2.2.2 m' hm').2 hv).1
    rw [if_pos (show nI 0 = 0 from rfl), rI_k (show 4 ≠ 18 by decide), x4, pI_in_t hm' (by decide), pg_t, s8, nI_clamp (by omega), e35]
    obtain ⟨n2, p0, p1, p2⟩ := sPlay_k (su := false) ok0 hs0
    refine T_call (play_x (n := 0) (by omega) hf hwf ok0 ev0 hx0 hs0 hm' hv) fun μ3 h => ?_
    have okp : sOK C P (sPlay C P false m' (upd (sIt C P i S) 919 0)) := ok0.ext fun k hk => p2 k (by omega)
    refine tick_x (n := n2) (d := d') (m := m') (b := 60 * m' + 49) hF hf okp (ev0.ag hf h.2) h.1 p1 (ag0.tr h.2) (by omega) (by omega) (by omega) fun μ4 h4 ag4 => ?_
    refine hk 1 μ4 (Nat.le_refl _) (by omega) (fun j hj => ?_) ?_ ag4
    · by_cases e : j = i
      · rw [e]; exact hdi
      · exact hday j (by omega)
    · have : sIt C P (i + 1) S = sTick d' (m' + max 0 1 - 1) (sDre (sPlay C P false m' (upd (sIt C P i S) 919 0)) (fun a => max 0 1 * drn C a)) := by
        show sMinS C P (sIt C P i S) = _
        unfold sMinS sMin
        rw [e1, e2]
        have : sDre (sPlay C P false m' (upd (sIt C P i S) 919 0)) (drn C) = sDre (sPlay C P false m' (upd (sIt C P i S) 919 0)) (fun a => max 0 1 * drn C a) := sDre_ext fun a _ => by
          show drn C a = 1 * drn C a
          omega
        rw [this]
        rfl
      rw [this]
      exact h4
  · rw [if_neg (nI_ne0 hw0 (by omega))]
    have emx : max w 1 = w := by omega
    refine tick_x (n := 0) (d := d') (m := m') (b := 60 * m') hF hf ok0 ev0 hx0 hs0 ag0 (by omega) (by omega) (by omega) fun μ4 h4 ag4 => ?_
    rw [emx] at h4 ⊢
    have hit : ∀ j, j < w → sIt C P (i + (j + 1)) S = sTick d' (m' + j) (sDre (upd (sIt C P i S) 919 0) (fun a => (j + 1) * drn C a)) := fun j hj => by
      rw [sIt_add]
      exact idle_it (by omega) g1 j (by omega) (fun j' hj' => w3 j' (by omega))
    refine hk w μ4 hw0 (by omega) (fun j hj => ?_) ?_ ag4
    · rcases Nat.lt_trichotomy j i with e | e | e
      · exact hday j e
      · rw [e]; exact hdi
      · obtain ⟨j', rfl⟩ : ∃ j', j = i + (j' + 1) := ⟨j - i - 1, by omega⟩
        rw [hit j' (by omega)]
        show cl _ 3 ≠ 3
        unfold sTick
        rw [if_pos (by omega), pk_un (by omega), sDre_o (by omega), pk_un (by omega), g1.1.1, cl_nI (by omega) (by decide)]
        exact h3
    · obtain ⟨j, rfl⟩ : ∃ j, w = j + 1 := ⟨w - 1, by omega⟩
      rw [hit j (by omega)]
      exact h4
theorem on_m {F d m n N : Nat} {C P : Nat → Nat → Nat} {S : Nat → Int32} {μ : aw_M} (hF : 2000 ≤ F) (ok : sOK C P S) (hs : SW C d m n (60 * m) S) (hd : dmn d m n) (hN : N ≤ 720) : T (aw_loop (fun k s => f_X11_on_20 F 203 k s.1 s.2.1 s.2.2) F (nI N, 0, aset μ 205 S)) fun r => ∃ i, fin C P i N S ∧ r = (nI i, aset μ 205 (sIt C P i S)) := by
  have i455 : aw_in 455 1155 = true := by decide
  have c455 : (455 : Int32).toNatClampNeg = 455 := by decide
  refine T_lp (fun i s => s = (nI N, nI i, aset μ 205 (sIt C P i S)) ∧ ∀ j, j < i → dayS (sIt C P j S) ≠ 3) N (by omega) ⟨rfl, fun j hj => absurd hj (Nat.not_lt_zero _)⟩ ?_ ?_
  · rintro i hi _ ⟨rfl, hday⟩ k hk
    obtain ⟨d', m', n', g1, g2, g3⟩ := it_k ok hs hd i hday
    obtain ⟨e1, e2, e3⟩ := dm_of g1 g2
    have ok' : sOK C P (sIt C P i S) := ok.ext fun k hk => g3 k (by omega)
    obtain ⟨d1, d2, d3, d4⟩ := g2
    show T (f_X11_on_20 F 203 k (nI N) (nI i) (aset μ 205 (sIt C P i S))) _
    unfold f_X11_on_20
    rw [if_neg (nI_ge hi (by omega)), i455, pg_t, c455, rf203.2.1, rA_s, g1.1.1]
    by_cases h3 : d' = 3
    · rw [if_pos (by rw [h3]; decide), T_some]
      exact ⟨i, ⟨.inr (by show cl _ 3 = 3; rw [e1, h3]), by omega, hday⟩, rfl⟩
    rw [if_neg (show ¬ (3 : Int32) ≤ nI d' from nI_ge (b := 3) (by omega) (by decide)), show (0 : Int32) = aw_b false from rfl, minute_m (by omega) ok' (by omega) (by omega) (by omega) g1, Option.bind_some, nI_1]
    have e : sIt C P (i + 1) S = sMin C P false d' m' (sIt C P i S) := by
      show sMinS C P (sIt C P i S) = _
      unfold sMinS
      rw [e1, e2]
    rw [← e]
    refine hk _ ⟨rfl, fun j hj => ?_⟩
    by_cases ej : j = i
    · rw [ej]; exact fun e => h3 (e1.symm.trans e)
    · exact hday j (by omega)
  · rintro _ ⟨rfl, hday⟩ k
    show T (f_X11_on_20 F 203 k (nI N) (nI N) (aset μ 205 (sIt C P N S))) _
    unfold f_X11_on_20
    rw [if_pos (nI_le (Nat.le_refl _) (by omega)), T_some]
    exact ⟨N, ⟨.inl rfl, Nat.le_refl _, hday⟩, rfl⟩
theorem p_on : op_on R := by
  intro F hF a0 μ hR
  have hR' := R_th (v := 0) hR
  obtain ⟨⟨C, W, P, Y, G, hS, hG⟩, hr⟩ := R_iff.1 hR
  have hS' := hS
  obtain ⟨⟨hwf, tx, tm⟩, -, ⟨pw, px, pm⟩, -, fw, fx, fm, fs⟩ := hS'
  obtain ⟨hx, hw, hd⟩ := of_fight (f := 39) ⟨fw, fx, fm, fs⟩
  have ok : sOK C P (μ.1 205) := ⟨hwf.t0, pw, tm, pm⟩
  have ev : env C P μ := ⟨tx, px, hG⟩
  have r : aw_rf (aw_rf 0 1) 4 = 39 := by simp only [rf0, rf1, rf4, rf5, rf19, rf23, rf28, rf39, rf53, rf67, rf71, rf76, rf88, rf97, rf101, rf109, rf110, rf124, rf128, rf133, rf144, rf156, rf157, rf171, rf175, rf180, rf191, rf51]
  unfold okI f_X10_on f_X10_on_12 f_X11_on
  by_cases h0 : 1 ≤ a0 ∧ a0 ≤ 720
  · obtain ⟨N, hN, rfl⟩ : ∃ N, N ≤ 720 ∧ a0 = nI N := by
      obtain ⟨j, hj, e⟩ := nI_of2 (x := a0) (M := 720) (n := 720) (by decide) (by grind) h0.2
      exact ⟨j, hj, e⟩
    rw [if_neg (by grind), if_pos h0.2, r]
    obtain ⟨r1, g1, i, g2, g3, g4, g5⟩ := pass_x (F := F) (by omega) (.inl rfl) hwf ok ev hx hw hd hN
    refine ⟨(r1.1, r1.2), by rw [g1]; rfl, ?_⟩
    show T (aw_let (aw_wI r1.2 203 0 0) _) _
    have e205 : (aw_wI r1.2 203 0 0).1 205 = μ.1 205 := by
      rw [rI_a (by decide)]
      exact g5.a (fun k => decide_eq_true (by omega))
    rw [plet, isIn_eq, Option.bind_some, decide_eq_true h0, if_pos rfl]
    have ea : aw_wI r1.2 203 0 0 = aset (aw_wI r1.2 203 0 0) 205 (μ.1 205) := by
      rw [← e205, aset_self]
    show T (aw_loop _ F (nI N, 0, aw_wI r1.2 203 0 0)) _
    rw [ea]
    refine T_mono (on_m (by omega) ok hw hd hN) ?_
    rintro _ ⟨i', f1, rfl⟩
    have := fin_uniq g3 f1
    subst this
    refine ⟨g2, ?_⟩
    show R (aset (aw_wI r1.2 203 0 0) 205 (sIt C P i (μ.1 205)))
    obtain ⟨d', m', n', q1, q2, q3⟩ := it_k ok hw hd i f1.2.2
    refine R_fight hR ⟨hS, hG⟩ (d := d') (m := m') (n := n') ?_ ?_ ?_ ?_ q2
    · refine ((g5.sub fun a k h => ?_).wI (kOF_n rfl)).wA (fun k hk => by rw [kOF_5] at hk; cases hk)
      refine decide_eq_true ?_
      by_cases c : 39 ≤ a ∧ a ≤ 50
      · rw [kOF_f c.1 c.2] at h; cases h
      · omega
    · intro k hk
      rw [rA_s]
      exact q3 k (by omega)
    · rw [rA_s]
      have rd : ∀ b, 39 ≤ b → b ≤ 50 → (aset (aw_wI r1.2 203 0 0) 205 (sIt C P i (μ.1 205))).1 b = r1.2.1 b := fun b h1 h2 => by rw [rA_a (by omega), rI_a (by omega)]
      unfold XS at g4 ⊢
      simp (disch := decide) only [Nat.reduceAdd, rd] at g4 ⊢
      exact g4
    · rw [rA_s]; exact q1
  · have hx1 : (if a0 < 1 then some ((-1 : Int32), μ) else if a0 ≤ 720 then (f_X0_pass F (aw_rf (aw_rf 0 1) 4) a0 μ).bind fun r2 => some (r2.1, r2.2) else some (-1, μ)) = some (-1, μ) := by
      by_cases c : a0 < 1
      · rw [if_pos c]
      · rw [if_neg c, if_neg (by grind)]
    rw [hx1]
    refine ⟨_, rfl, ?_⟩
    show T (aw_let (aw_wI μ 203 0 0) _) _
    rw [plet, isIn_eq, Option.bind_some, decide_eq_false h0, if_neg Bool.false_ne_true]
    exact ⟨_, rfl, rfl, hR'⟩
