/-! orders: the reference's walk -/
theorem gdL {pre l : List Nat} {i : Nat} (h : i < pre.length) : (pre ++ l).getD i 0 = pre.getD i 0 := by
  rw [List.getD_eq_getElem?_getD, List.getElem?_append_left h, ← List.getD_eq_getElem?_getD]
theorem gdR {pre l : List Nat} {i : Nat} (h : pre.length ≤ i) : (pre ++ l).getD i 0 = l.getD (i - pre.length) 0 := by
  rw [List.getD_eq_getElem?_getD, List.getElem?_append_right h, ← List.getD_eq_getElem?_getD]
theorem gdS {c : Nat} {l : List Nat} {i : Nat} : (c :: l).getD (i + 1) 0 = l.getD i 0 := by
  rw [List.getD_eq_getElem?_getD, List.getElem?_cons_succ, ← List.getD_eq_getElem?_getD]
theorem gdV {l : List Nat} {i : Nat} (h : i < l.length) : l.reverse.getD i 0 = l.getD (l.length - 1 - i) 0 := by
  rw [List.getD_eq_getElem?_getD, List.getElem?_reverse h, ← List.getD_eq_getElem?_getD]
theorem pw_lt {t : List Nat} (h : t.Pairwise (fun a b => b < a)) {i j : Nat} (hij : i < j) (hj : j < t.length) : t.getD j 0 < t.getD i 0 := by
  have := List.pairwise_iff_getElem.1 h i j (by omega) hj hij
  rw [List.getD_eq_getElem?_getD, List.getD_eq_getElem?_getD, List.getElem?_eq_getElem hj, List.getElem?_eq_getElem (by omega)]
  exact this
theorem NX_idx {p p' : List Nat} {n : Nat} (hl : p.length = n) (h : NX p p') : ∃ m j, m < j ∧ j < n ∧ (∀ i, m < i → i + 1 < n → p.getD (i + 1) 0 < p.getD i 0) ∧ p.getD m 0 ≤ p.getD (m + 1) 0 ∧ p.getD m 0 < p.getD j 0 ∧ (∀ i, j < i → i < n → p.getD i 0 < p.getD m 0) ∧ (∀ i, i < m → p'.getD i 0 = p.getD i 0) ∧ p'.getD m 0 = p.getD j 0 ∧ ∀ i, m < i → i < n → p'.getD i 0 = if n + m - i = j then p.getD m 0 else p.getD (n + m - i) 0 := by
  obtain ⟨pre, c, u, d, v, rfl, rfl, hp, hcd, hv⟩ := h
  have hl : pre.length + (u.length + (v.length + 1) + 1) = n := by
    rw [← hl]
    simp only [List.length_append, List.length_cons]
  have gm : ∀ x (l : List Nat), (pre ++ x :: l).getD pre.length 0 = x := fun x l => by
    rw [gdR (Nat.le_refl _), Nat.sub_self]
    rfl
  have gt : ∀ x (l : List Nat) i, pre.length < i → (pre ++ x :: l).getD i 0 = l.getD (i - pre.length - 1) 0 := fun x l i hi => by
    rw [gdR (by omega), show i - pre.length = (i - pre.length - 1) + 1 by omega, gdS]
    exact congrArg (fun k => l.getD k 0) (by omega)
  have gd : (u ++ d :: v).getD u.length 0 = d := by
    rw [gdR (Nat.le_refl _), Nat.sub_self]
    rfl
  have tl : (u ++ d :: v).length = u.length + (v.length + 1) := by simp only [List.length_append, List.length_cons]
  have tl2 : (u ++ c :: v).length = u.length + (v.length + 1) := by simp only [List.length_append, List.length_cons]
  have hv2 : ∀ i, u.length < i → i < u.length + (v.length + 1) → (u ++ d :: v).getD i 0 < c := fun i h1 h2 => by
    rw [gdR (by omega), show i - u.length = (i - u.length - 1) + 1 by omega, gdS]
    refine hv _ ?_
    rw [List.getD_eq_getElem?_getD, List.getElem?_eq_getElem (by omega)]
    exact List.getElem_mem _
  refine ⟨pre.length, pre.length + 1 + u.length, by omega, by omega, fun i h1 h2 => ?_, ?_, ?_, fun i h1 h2 => ?_, fun i h1 => ?_, ?_, fun i h1 h2 => ?_⟩
  · rw [gt _ _ _ (by omega), gt _ _ _ h1]
    exact pw_lt hp (by omega) (by rw [tl]; omega)
  · rw [gm, gt _ _ _ (by omega), show pre.length + 1 - pre.length - 1 = 0 by omega]
    by_cases e : u.length = 0
    · rw [e] at gd
      rw [gd]
      omega
    · have := pw_lt hp (i := 0) (j := u.length) (by omega) (by rw [tl]; omega)
      rw [gd] at this
      omega
  · rw [gm, gt _ _ _ (by omega), show pre.length + 1 + u.length - pre.length - 1 = u.length by omega, gd]
    exact hcd
  · rw [gm, gt _ _ _ (by omega)]
    exact hv2 _ (by omega) (by omega)
  · rw [gdL h1, gdL h1]
  · rw [gm, gt _ _ _ (by omega), show pre.length + 1 + u.length - pre.length - 1 = u.length by omega, gd]
  · rw [gm, gt _ _ _ h1, gdV (by rw [tl2]; omega), tl2, gt _ _ _ (by omega)]
    by_cases e : n + pre.length - i = pre.length + 1 + u.length
    · rw [if_pos e, show u.length + (v.length + 1) - 1 - (i - pre.length - 1) = u.length by omega, gdR (Nat.le_refl _), Nat.sub_self]
      rfl
    · rw [if_neg e, show u.length + (v.length + 1) - 1 - (i - pre.length - 1) = n + pre.length - i - pre.length - 1 by omega]
      by_cases e2 : n + pre.length - i - pre.length - 1 < u.length
      · rw [gdL e2, gdL e2]
      · rw [gdR (by omega), gdR (by omega), show n + pre.length - i - pre.length - 1 - u.length = (n + pre.length - i - pre.length - 1 - u.length - 1) + 1 by omega, gdS, gdS]
theorem NX_len {p p' : List Nat} (h : NX p p') : p'.length = p.length := by
  obtain ⟨pre, c, u, d, v, rfl, rfl, -⟩ := h
  simp only [List.length_append, List.length_cons, List.length_reverse]
/-- what the reference knows while it walks the orders -/
def CM (n nq : Nat) (rc : Nat → Nat → Bool) (μ0 : aw_M) (a : List Nat) (b : Nat × List Nat) (μ : aw_M) : Prop :=
  AgK kOm μ0 μ ∧ (∀ i, i < n → μ.1 218 i = nI (a.getD i 0)) ∧ (∀ q, q < nq → μ.1 220 q = nI (mk (fun c => rc c q) n)) ∧ b.1 ≤ 1000000000 ∧ (b.1 < 1000000000 → ∀ i, i < n → μ.1 219 i = nI (b.2.getD i 0))
theorem chain_m {F n nq : Nat} {rc : Nat → Nat → Bool} {ms : Nat → Bool} {z : List Nat} {μ0 : aw_M} (hF : 1000 ≤ F) (hn1 : 1 ≤ n) (hn : n ≤ 8) (hq : nq ≤ 9) (h2 : μ0.1 205 2 = nI nq) (hms : ∀ q, q < nq → (ms q = true ↔ ∃ c, c < n ∧ rc c q = true)) (hmq : ∀ q, nq ≤ q → ms q = false) (hz : z.Pairwise (fun a b => b < a)) : ∀ (L : List (List Nat)) (G : Nat) (a : List Nat) (b : Nat × List Nat) (μ : aw_M), L.length < G → Gon a z L → (∀ p, p ∈ L → p.length = n ∧ ∀ x, x ∈ p → x < n) → CM n nq rc μ0 a b μ → T (aw_loop (fun k s => f_X11_order_135 F 203 k s.1 s.2.1 s.2.2.1 s.2.2.2) G (nI n, nI b.1, true, μ)) fun r => AgK kOm μ0 r.2 ∧ r.1 = nI (L.foldl (stO (Wt rc ms)) b).1 ∧ r.2.1 203 35 = nI n ∧ ((L.foldl (stO (Wt rc ms)) b).1 < 1000000000 → ∀ i, i < n → r.2.1 219 i = nI ((L.foldl (stO (Wt rc ms)) b).2.getD i 0)) := by
  have r35 : aw_rf 203 32 = 218 ∧ aw_rf 203 33 = 219 := by simp only [rf203, rf203b, and_self]
  intro L
  induction L with
  | nil => intro G a b μ _ hg; exact hg.elim
  | cons x L ih =>
    intro G a b μ hG hg hL cm
    obtain ⟨G, rfl⟩ : ∃ g, G = g + 1 := ⟨G - 1, by have : L.length + 1 < G := hG; omega⟩
    have hG : L.length < G := Nat.lt_of_succ_lt_succ hG
    obtain ⟨hxa, hnext⟩ := hg
    subst hxa
    obtain ⟨hlen, hmem⟩ := hL x List.mem_cons_self
    have hxi : ∀ i, i < n → x.getD i 0 < n := fun i hi => by
      rw [List.getD_eq_getElem?_getD, List.getElem?_eq_getElem (by omega)]
      exact hmem _ (List.getElem_mem _)
    show T (aw_loop _ (G + 1) _) fun (r : Int32 × aw_M) => AgK kOm μ0 r.2 ∧ r.1 = nI (L.foldl (stO (Wt rc ms)) (stO (Wt rc ms) b x)).1 ∧ r.2.1 203 35 = nI n ∧ ((L.foldl (stO (Wt rc ms)) (stO (Wt rc ms) b x)).1 < 1000000000 → ∀ i, i < n → r.2.1 219 i = nI ((L.foldl (stO (Wt rc ms)) (stO (Wt rc ms) b x)).2.getD i 0))
    rw [lp_1]
    have fin : ∀ (b : Nat × List Nat) (μ : aw_M), CM n nq rc μ0 x b μ → T (f_X11_order_184 F 203 (aw_loop (fun k s => f_X11_order_135 F 203 k s.1 s.2.1 s.2.2.1 s.2.2.2) G) (nI n) (nI b.1) μ) fun r => AgK kOm μ0 r.2 ∧ r.1 = nI (L.foldl (stO (Wt rc ms)) b).1 ∧ r.2.1 203 35 = nI n ∧ ((L.foldl (stO (Wt rc ms)) b).1 < 1000000000 → ∀ i, i < n → r.2.1 219 i = nI ((L.foldl (stO (Wt rc ms)) b).2.getD i 0)) := fun b μ cm => by
      obtain ⟨ag, e8, e20, eb, e19⟩ := cm
      unfold f_X11_order_184
      rcases hnext with ⟨rfl, rfl⟩ | ⟨y, hy, hgy⟩
      · refine T_call (turnsE_m (a := fun i => x.getD i 0) (by omega) hn hn1 e8 (fun i hi => by have := hxi i hi; omega) fun i hi => pw_lt hz (Nat.lt_succ_self i) (by omega)) ?_
        rintro _ rfl
        obtain ⟨G, rfl⟩ : ∃ g, G = g + 1 := ⟨G - 1, by have : 0 < G := hG; omega⟩
        rw [lp_1]
        show T (f_X11_order_135 F 203 _ (nI n) (nI b.1) false μ) _
        unfold f_X11_order_135
        rw [if_neg Bool.false_ne_true, plet, T_some]
        refine ⟨ag.wI (decide_eq_false (by omega)), rfl, rI_s, fun h i hi => ?_⟩
        show (aw_wI μ 203 35 (nI n)).1 219 i = _
        rw [rI_a (by decide)]
        exact e19 h i hi
      · obtain ⟨m, j, m1, m2, m3, m4, m5, m6, m7, m8, m9⟩ := NX_idx hlen hy
        refine T_call (turns_m (a := fun i => x.getD i 0) (by omega) hn m1 m2 e8 (fun i hi => by have := hxi i hi; omega) m3 m4 m5 m6) ?_
        rintro ⟨r1, μ1⟩ ⟨g0, g1, g2, g3, g4⟩
        dsimp only at g0 g1 g2 g3 g4 ⊢
        subst g0
        have f1 : ∀ a, a ≠ 218 → μ1.1 a = μ.1 a := fun a h => g1.a fun k => decide_eq_true h
        refine ih G y b μ1 hG hgy (fun p hp => hL p (List.mem_cons_of_mem _ hp)) ⟨ag.tr (g1.sub fun a k h => decide_eq_true (by have := of_decide_eq_true h; omega)), fun i hi => ?_, fun q hq => ?_, eb, fun h i hi => ?_⟩
        · rcases Nat.lt_trichotomy i m with h | h | h
          · rw [g2 i h, m7 i h]
          · rw [h, g3, m8]
          · rw [g4 i h hi, m9 i h hi]
        · rw [f1 _ (by decide)]; exact e20 q hq
        · rw [f1 _ (by decide)]; exact e19 h i hi
    show T (f_X11_order_135 F 203 (aw_loop (fun k s => f_X11_order_135 F 203 k s.1 s.2.1 s.2.2.1 s.2.2.2) G) (nI n) (nI b.1) true μ) _
    obtain ⟨ag, e8, e20, eb, e19⟩ := id cm
    have e2 : μ.1 205 2 = nI nq := by rw [(ag 205 2 (decide_eq_true (by omega))).1]; exact h2
    have hW : Wt rc ms x ≤ 8 := Wt_le.2 fun k q hk _ _ => by
      have := rn_le rc q (x.take k)
      rw [List.length_take] at this
      omega
    unfold f_X11_order_135
    rw [if_pos rfl, longest_m (by omega) hn hlen hmem hq e2 e8 e20 hms, LG_Wt hlen hq hmq, Option.bind_some]
    dsimp only
    by_cases c : b.1 ≤ Wt rc ms x
    · rw [if_pos (nI_le c (by omega))]
      have es : stO (Wt rc ms) b x = b := by unfold stO; rw [if_neg (by omega)]
      rw [es]
      exact fin b μ cm
    · rw [if_neg (nI_ge (by omega) (by omega))]
      have es : stO (Wt rc ms) b x = (Wt rc ms x, x) := by unfold stO; rw [if_pos (by omega)]
      rw [es]
      refine T_lp (fun i s => ∃ μ', s = (nI n, nI (Wt rc ms x), nI i, μ') ∧ AgK kOm μ0 μ' ∧ (∀ i, i < n → μ'.1 218 i = nI (x.getD i 0)) ∧ (∀ q, q < nq → μ'.1 220 q = nI (mk (fun c => rc c q) n)) ∧ ∀ k, k < i → μ'.1 219 k = nI (x.getD k 0)) n (by omega) ⟨μ, rfl, ag, e8, e20, fun k hk => absurd hk (Nat.not_lt_zero _)⟩ ?_ ?_
      · rintro i hi _ ⟨μ', rfl, a1, a2, a3, a4⟩ k hk
        show T (f_X11_order_158 F 203 k _ (nI n) (nI (Wt rc ms x)) (nI i) μ') _
        unfold f_X11_order_158
        rw [if_neg (nI_ge hi (by omega)), pI_in_t (by omega) (by decide), pg_t, pg_t, plet, r35.1, r35.2, nI_clamp (by omega), a2 i hi, nI_1]
        refine hk _ ⟨_, rfl, a1.wI (decide_eq_false (by omega)), fun k hk => ?_, fun q hq => ?_, fun k hk => ?_⟩
        · rw [rI_a (by decide)]; exact a2 k hk
        · rw [rI_a (by decide)]; exact a3 q hq
        · by_cases e : k = i
          · rw [e, rI_s]
          · rw [rI_k e]; exact a4 k (by omega)
      · rintro _ ⟨μ', rfl, a1, a2, a3, a4⟩ k
        show T (f_X11_order_158 F 203 k _ (nI n) (nI (Wt rc ms x)) (nI n) μ') _
        unfold f_X11_order_158
        rw [if_pos (nI_le (Nat.le_refl _) (by omega))]
        exact fin (Wt rc ms x, x) μ' ⟨a1, a2, a3, by show Wt rc ms x ≤ 1000000000; omega, fun _ => a4⟩
theorem order_m {F : Nat} {C : Nat → Nat → Nat} {μ0 : aw_M} (hF : 100000 ≤ F) (hwf : qTWF C) (tm : qTM C (μ0.1 205)) (h1 : 1 ≤ C 0 3) (h8 : C 0 3 ≤ 8) : T (f_X11_order F 203 μ0) fun r => AgK kOm μ0 r.2 ∧ r.1 = nI ((PL (C 0 3) (List.range (C 0 3))).foldl (stO (Wt (rcO C) (msO C (C 0 3)))) (1000000000, [])).1 ∧ r.2.1 203 35 = nI (C 0 3) ∧ (((PL (C 0 3) (List.range (C 0 3))).foldl (stO (Wt (rcO C) (msO C (C 0 3)))) (1000000000, [])).1 < 1000000000 → ∀ i, i < C 0 3 → r.2.1 219 i = nI (((PL (C 0 3) (List.range (C 0 3))).foldl (stO (Wt (rcO C) (msO C (C 0 3)))) (1000000000, [])).2.getD i 0)) := by
  have n9 := hwf.1.2.2.1
  have r6 : aw_rf 203 6 = 205 := rf203.2.1
  have r34 : aw_rf 203 34 = 220 ∧ aw_rf 203 32 = 218 := by simp only [rf203, rf203b, and_self]
  have s5 : ∀ {μ}, AgK kOm μ0 μ → μ.1 205 = μ0.1 205 := fun ag => ag.a fun k => decide_eq_true (by omega)
  have a0 : AgK kOm μ0 (aw_wI μ0 203 0 0) := (AgK.rf μ0).wI (decide_eq_false (by omega))
  unfold f_X11_order
  rw [plet]
  generalize aw_wI μ0 203 0 0 = μ at a0 ⊢
  rw [show aw_in 3 1155 = true by decide, pg_t, r6, show (3 : Int32).toNatClampNeg = 3 by decide, s5 a0, tm.1.2.2.2, plet, isIn_eq, Option.bind_some]
  dsimp only
  rw [if_pos (decide_eq_true ⟨(show nI 1 ≤ nI (C 0 3) from nI_le h1 (by omega)), (show nI (C 0 3) ≤ nI 8 from nI_le h8 (by decide))⟩)]
  refine T_lp (fun q s => ∃ μ', s = (nI (C 0 3), nI q, μ') ∧ AgK kOm μ0 μ' ∧ ∀ q', q' < q → q' < C 0 2 → μ'.1 220 q' = nI (mk (fun c => rcO C c q') (C 0 3))) 9 (by omega) ⟨μ, rfl, a0, fun q h => absurd h (Nat.not_lt_zero _)⟩ ?_ ?_
  · rintro q hq _ ⟨μ1, rfl, ag1, w1⟩ k hk
    show T (f_X11_order_26 F 203 k (nI (C 0 3)) (nI q) μ1) _
    unfold f_X11_order_26
    rw [if_neg (show ¬ (9 : Int32) ≤ nI q from (show ¬ nI 9 ≤ nI q from nI_ge hq (by decide))), pI_in_t (by omega) (by decide), pg_t, plet, r34.1, nI_clamp (by omega)]
    by_cases hqn : q < C 0 2
    · refine T_lp (fun c s => ∃ μ', s = (nI (C 0 3), nI q, nI c, μ') ∧ AgK kOm μ0 μ' ∧ (∀ q', q' < q → q' < C 0 2 → μ'.1 220 q' = nI (mk (fun c => rcO C c q') (C 0 3))) ∧ μ'.1 220 q = nI (mk (fun c => rcO C c q) c)) (C 0 3) (by omega) ⟨_, rfl, ag1.wI (decide_eq_false (by omega)), fun q' h1 h2 => by rw [rI_k (by omega)]; exact w1 q' h1 h2, rI_s⟩ ?_ ?_
      · rintro c hc _ ⟨μ2, rfl, ag2, w2, v2⟩ k2 hk2
        show T (f_X11_order_41 F 203 k2 k (nI (C 0 3)) (nI q) (nI c) μ2) _
        have c1 : C 1 q < 100 := by have := (hwf.2.1 q hqn).1; have := hwf.1; unfold cellok at *; omega
        have c6 : C 6 c < 100 := by have := (hwf.2.2.2.1 c hc).2.1; have := hwf.1; unfold cellok at *; omega
        have hd := dst_le c1 c6
        have hr : rcO C c q = decide (dst (C 1 q) (C 6 c) ≤ 3) := by
          unfold rcO
          rw [decide_eq_true hqn, Bool.true_and]
        have hm : mk (fun c => rcO C c q) (c + 1) = mk (fun c => rcO C c q) c ||| (if rcO C c q = true then 2 ^ c else 0) := rfl
        have fin : ∀ z, z = nI (if rcO C c q = true then 2 ^ c else 0) → T (f_X11_order_95 F 203 k k2 (nI (C 0 3)) (nI q) (nI c) z (μ2.1 220 q) (nI q) μ2) fun r => AgK kOm μ0 r.2 ∧ r.1 = nI ((PL (C 0 3) (List.range (C 0 3))).foldl (stO (Wt (rcO C) (msO C (C 0 3)))) (1000000000, [])).1 ∧ r.2.1 203 35 = nI (C 0 3) ∧ (((PL (C 0 3) (List.range (C 0 3))).foldl (stO (Wt (rcO C) (msO C (C 0 3)))) (1000000000, [])).1 < 1000000000 → ∀ i, i < C 0 3 → r.2.1 219 i = nI (((PL (C 0 3) (List.range (C 0 3))).foldl (stO (Wt (rcO C) (msO C (C 0 3)))) (1000000000, [])).2.getD i 0)) := fun z hz => by
          unfold f_X11_order_95
          rw [pI_in_t (by omega) (by decide), pg_t, plet, r34.1, nI_clamp (by omega), v2, hz, orN_I, nI_1]
          refine hk2 _ ⟨_, rfl, ag2.wI (decide_eq_false (by omega)), fun q' h1 h2 => ?_, ?_⟩
          · rw [rI_k (by omega)]; exact w2 q' h1 h2
          · rw [rI_s, hm]
        unfold f_X11_order_41
        rw [if_neg (nI_ge hc (by omega)), show aw_in 2 1155 = true by decide, pg_t, r6, show (2 : Int32).toNatClampNeg = 2 by decide, s5 ag2, tm.1.2.2.1, if_neg (nI_ge hqn (by omega)), pI_in_t (by omega) (by decide), pg_t, show (11 : Int32) + nI q = nI (11 + q) from nI_add 11 q, show (67 : Int32) + nI c = nI (67 + c) from nI_add 67 c, pI_in_t (by omega) (by decide), pg_t, pI_in_t (by omega) (by decide), pg_t, nI_clamp (by omega), nI_clamp (by omega), (tm.2.2.2.1 q hqn).1, (tm.2.2.2.2.2.1 c hc).2.1, apart_eq (by omega) (by omega), Option.bind_some, r34.1, nI_clamp (by omega)]
        dsimp only
        by_cases hh : dst (C 1 q) (C 6 c) ≤ 3
        · rw [if_neg (show ¬ (3 : Int32) < nI (dst (C 1 q) (C 6 c)) from (show ¬ nI 3 < nI (dst (C 1 q) (C 6 c)) from nI_nlt hh (by omega))), shl_I c (by omega)]
          exact fin _ (by rw [if_pos (by rw [hr]; exact decide_eq_true hh)])
        · rw [if_pos (show (3 : Int32) < nI (dst (C 1 q) (C 6 c)) from (show nI 3 < nI (dst (C 1 q) (C 6 c)) from nI_lt (by omega) (by omega)))]
          exact fin _ (by rw [if_neg (by rw [hr, decide_eq_true_eq]; exact hh)]; rfl)
      · rintro _ ⟨μ2, rfl, ag2, w2, v2⟩ k2
        show T (f_X11_order_41 F 203 k2 k (nI (C 0 3)) (nI q) (nI (C 0 3)) μ2) _
        unfold f_X11_order_41 f_X11_order_103
        rw [if_pos (nI_le (Nat.le_refl _) (by omega)), nI_1]
        refine hk _ ⟨_, rfl, ag2, fun q' h1 h2 => ?_⟩
        by_cases e : q' = q
        · rw [e]; exact v2
        · exact w2 q' (by omega) h2
    · obtain ⟨F2, hF2⟩ : ∃ g, F = g + 1 := ⟨F - 1, by omega⟩
      have ag1' : AgK kOm μ0 (aw_wI μ1 220 q 0) := ag1.wI (decide_eq_false (by omega))
      have w1' : ∀ q', q' < q + 1 → q' < C 0 2 → (aw_wI μ1 220 q 0).1 220 q' = nI (mk (fun c => rcO C c q') (C 0 3)) := fun q' h1 h2 => by
        rw [rI_k (by omega)]
        exact w1 q' (by omega) h2
      generalize aw_wI μ1 220 q 0 = μ2 at ag1' w1' ⊢
      have key : ∀ kk, T (f_X11_order_41 F 203 kk k (nI (C 0 3)) (nI q) 0 μ2) fun r => AgK kOm μ0 r.2 ∧ r.1 = nI ((PL (C 0 3) (List.range (C 0 3))).foldl (stO (Wt (rcO C) (msO C (C 0 3)))) (1000000000, [])).1 ∧ r.2.1 203 35 = nI (C 0 3) ∧ (((PL (C 0 3) (List.range (C 0 3))).foldl (stO (Wt (rcO C) (msO C (C 0 3)))) (1000000000, [])).1 < 1000000000 → ∀ i, i < C 0 3 → r.2.1 219 i = nI (((PL (C 0 3) (List.range (C 0 3))).foldl (stO (Wt (rcO C) (msO C (C 0 3)))) (1000000000, [])).2.getD i 0)) := fun kk => by
        unfold f_X11_order_41 f_X11_order_103
        rw [if_neg (show ¬ nI (C 0 3) ≤ 0 from (show ¬ nI (C 0 3) ≤ nI 0 from nI_ge (by omega) (by omega))), show aw_in 2 1155 = true by decide, pg_t, r6, show (2 : Int32).toNatClampNeg = 2 by decide, s5 ag1', tm.1.2.2.1, if_pos (nI_le (by omega) (by omega)), nI_1]
        exact hk _ ⟨μ2, rfl, ag1', w1'⟩
      refine T_lm (fun s => s = (nI (C 0 3), nI q, 0, μ2)) (fun _ => 0) ?_ (by omega) rfl
      rintro _ rfl kk _
      exact key kk
  · rintro _ ⟨μ1, rfl, ag1, w1⟩ k
    show T (f_X11_order_26 F 203 k (nI (C 0 3)) (nI 9) μ1) _
    unfold f_X11_order_26 f_X11_order_109
    rw [if_pos (show (9 : Int32) ≤ nI 9 by decide)]
    refine T_lp (fun i s => ∃ μ', s = (nI (C 0 3), nI i, μ') ∧ AgK kOm μ0 μ' ∧ (∀ q', q' < C 0 2 → μ'.1 220 q' = nI (mk (fun c => rcO C c q') (C 0 3))) ∧ ∀ k, k < i → μ'.1 218 k = nI k) (C 0 3) (by omega) ⟨μ1, rfl, ag1, fun q hq => w1 q (by omega) hq, fun k hk => absurd hk (Nat.not_lt_zero _)⟩ ?_ ?_
    · rintro i hi _ ⟨μ2, rfl, ag2, w2, v2⟩ k hk
      show T (f_X11_order_111 F 203 k (nI (C 0 3)) (nI i) μ2) _
      unfold f_X11_order_111
      rw [if_neg (nI_ge hi (by omega)), pI_in_t (by omega) (by decide), pg_t, plet, r34.2, nI_clamp (by omega), nI_1]
      refine hk _ ⟨_, rfl, ag2.wI (decide_eq_false (by omega)), fun q hq => ?_, fun k hk => ?_⟩
      · rw [rI_a (by decide)]; exact w2 q hq
      · by_cases e : k = i
        · rw [e, rI_s]
        · rw [rI_k e]; exact v2 k (by omega)
    · rintro _ ⟨μ2, rfl, ag2, w2, v2⟩ k
      show T (f_X11_order_111 F 203 k (nI (C 0 3)) (nI (C 0 3)) μ2) _
      unfold f_X11_order_111 f_X11_order_129
      rw [if_pos (nI_le (Nat.le_refl _) (by omega))]
      have hg := PL_go (C 0 3) (List.range (C 0 3)) List.length_range List.pairwise_lt_range
      obtain ⟨pc1, pc2⟩ := PL_p (C 0 3) (List.range (C 0 3)) List.length_range
      have hfc := fct_8 _ h8
      refine chain_m (F := F) (n := C 0 3) (nq := C 0 2) (b := (1000000000, [])) (by omega) h1 h8 n9 tm.1.2.2.1 (fun q hq => msO_t) (fun q hq => ?_) (asc_rev List.pairwise_lt_range) _ F (List.range (C 0 3)) μ2 (by omega) hg (fun p hp => ⟨PL_len _ _ p List.length_range hp, fun x hx => List.mem_range.1 (pc2 p hp x hx)⟩) ⟨ag2, fun i hi => ?_, w2, Nat.le_refl _, fun h => absurd h (Nat.lt_irrefl _)⟩
      · cases e : msO C (C 0 3) q with
        | false => rfl
        | true =>
          obtain ⟨c, -, c2⟩ := msO_t.1 e
          unfold rcO at c2
          rw [decide_eq_false (by omega), Bool.false_and] at c2
          cases c2
      · rw [v2 i hi, List.getD_eq_getElem?_getD, List.getElem?_range hi]
        rfl
