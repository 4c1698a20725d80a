/-! a sure minute of the reference, by rows: throws -/
theorem throw_true {T P : Nat → Nat → Nat} {m n q c : Nat} {S : Nat → Int32} : sThrow T P true m n q c S = if rBar T (rD T q) c = true then sTell n q c 0 0 (upd S 917 (S 917 + 1)) else if P 2 q = 1 ∧ m % 2 = 1 then sTell n q c 2 0 (upd (upd S (485 + q) 2) 918 (S 918 + 1)) else sHitE T n q c S := by
  have e : sBar T q c = rBar T (rD T q) c := rfl
  unfold sThrow sThr2
  rw [e]
  by_cases k : rBar T (rD T q) c = true
  · rw [if_pos k, if_pos k]
  · rw [if_neg k, if_neg k, if_neg (fun h => Bool.noConfusion h.1)]
theorem rIn.ext {T : Nat → Nat → Nat} {q : Nat} {s : rS} {S S' : Nat → Int32} (h : rIn T q s S) (h1 : S' (458 + q) = S (458 + q)) (h2 : S' (485 + q) = S (485 + q)) (h3 : ∀ c, c < T 0 3 → S' (494 + 20 * q + c) = S (494 + 20 * q + c)) : rIn T q s S' :=
  ⟨h1.trans h.1, h2.trans h.2.1, fun c hc => (h3 c hc).trans (h.2.2 c hc)⟩
def aimQ (T P : Nat → Nat → Nat) (m : Nat) (st : Nat → rS) (q : Nat) : Option Nat := rAim T (rD T q) (rW T P q) m (st q)
def evQ (T P : Nat → Nat → Nat) (m : Nat) (st : Nat → rS) (q : Nat) : Option Nat := rEv T (rD T q) (rW T P q) m (st q)
def nth (T P : Nat → Nat → Nat) (m : Nat) (st : Nat → rS) (i : Nat) : Nat := cnt (fun q => bN (aimQ T P m st q).isSome) i
def kdQ (T P : Nat → Nat → Nat) (m q c : Nat) : Int32 := if rBar T (rD T q) c = true then 0 else if P 2 q = 1 ∧ m % 2 = 1 then 2 else if rD T q c ≤ 2 then 3 else 4
def caQ (T : Nat → Nat → Nat) (m j : Nat) : Nat := (vis T m).getD j 0
def QI (T P : Nat → Nat → Nat) (m : Nat) (st : Nat → rS) (S0 : Nat → Int32) (i : Nat) (X : Nat → Int32) : Prop :=
  (∀ q, q < T 0 2 → rIn T q (if q < i then rNx T (rD T q) (rW T P q) m (st q) else st q) X) ∧
  (∀ q, q < T 0 2 → X (467 + q) = S0 (467 + q)) ∧ X 919 = nI (nth T P m st i) ∧
  (∀ q, q < i → ∀ j, aimQ T P m st q = some j → X (920 + 6 * nth T P m st q) = nI q ∧ X (920 + 6 * nth T P m st q + 1) = nI (caQ T m j) ∧ X (920 + 6 * nth T P m st q + 2) = kdQ T P m q (caQ T m j) ∧ (evQ T P m st q = some j → X (920 + 6 * nth T P m st q + 3) = nI (rHit T (rD T q) (rW T P q) (caQ T m j) (st q).2.1)))
theorem nth_le (T P : Nat → Nat → Nat) (m : Nat) (st : Nat → rS) (i : Nat) : nth T P m st i ≤ i := cnt_le (fun k => by show bN _ ≤ 1; cases (aimQ T P m st k).isSome <;> decide) i
theorem cnt_up (f : Nat → Nat) (a : Nat) : ∀ d, cnt f a ≤ cnt f (a + d)
  | 0 => Nat.le_refl _
  | d + 1 => by
    have := cnt_up f a d
    have e : cnt f (a + (d + 1)) = cnt f (a + d) + f (a + d) := rfl
    omega
theorem nth_lt {T P : Nat → Nat → Nat} {m q i j : Nat} {st : Nat → rS} (h : q < i) (ha : aimQ T P m st q = some j) : nth T P m st q < nth T P m st i := by
  have h1 : nth T P m st (q + 1) = nth T P m st q + bN (aimQ T P m st q).isSome := rfl
  have h2 := cnt_up (fun q => bN (aimQ T P m st q).isSome) (q + 1) (i - (q + 1))
  have e : q + 1 + (i - (q + 1)) = i := by omega
  rw [e] at h2
  have h3 : nth T P m st (q + 1) ≤ nth T P m st i := h2
  rw [ha] at h1
  have h4 : bN (some j).isSome = 1 := rfl
  omega
theorem quarters_r {T P : Nat → Nat → Nat} {d m b : Nat} {st : Nat → rS} {S : Nat → Int32} (ok : sOK T P S) (hs : SW T d m 0 b S) (hst : ∀ q, (st q).2.1 ≤ 2 ∧ ∀ c, (st q).2.2 c + (st q).1 ≤ 400) (hr : ∀ q, q < T 0 2 → rIn T q (st q) S) : ∀ i, i ≤ T 0 2 → QI T P m st S i (sQs T P true m i S)
  | 0, _ => by
    refine ⟨fun q hq => ?_, fun q hq => rfl, hs.1.2.2, fun q hq => absurd hq (Nat.not_lt_zero _)⟩
    rw [if_neg (Nat.not_lt_zero _)]
    exact hr q hq
  | i + 1, hi => by
    have hnq := ok.1.1.2.2.1
    have hnc := ok.1.1.2.2.2
    obtain ⟨q1, q2, q3, q4⟩ := quarters_r ok hs hst hr i (by omega)
    obtain ⟨n, h1, h2, h3, h4⟩ := sQs_k (su := true) ok hs i (by omega)
    have en : n = nth T P m st i := by
      have := nth_le T P m st i
      exact (nI_eq (by omega) (by omega)).1 (h2.1.2.2.symm.trans q3)
    have ok' : sOK T P (sQs T P true m i S) := ok.ext fun k hk => h4 k (by omega)
    show QI T P m st S (i + 1) (sQ1 T P true m i (sQs T P true m i S))
    generalize sQs T P true m i S = X at q1 q2 q3 q4 h2 h3 h4 ok' ⊢
    have hri := q1 i (by omega)
    rw [if_neg (Nat.lt_irrefl _)] at hri
    have ha := sAim_r (P := P) (m := m) (by omega) hri (hst i).1 (hst i).2
    have ha : sAim T P X i m = (aimQ T P m st i).map (fun k => (vis T m).getD k 0) := ha
    have hn1 : nth T P m st (i + 1) = nth T P m st i + bN (aimQ T P m st i).isSome := rfl
    have hcl : cl (X 919) 9 = n := by rw [h2.1.2.2, cl_nI (by omega) (by decide)]
    unfold sQ1
    cases hq : aimQ T P m st i with
    | none =>
      rw [ha, hq]
      show QI T P m st S (i + 1) X
      rw [hq] at hn1
      have hn1 : nth T P m st (i + 1) = nth T P m st i := hn1
      refine ⟨fun q hq' => ?_, q2, by rw [hn1]; exact q3, fun q hq' j hj => ?_⟩
      · have := q1 q hq'
        by_cases e : q < i
        · rw [if_pos e] at this
          rw [if_pos (by omega)]
          exact this
        · rw [if_neg e] at this
          by_cases e2 : q = i
          · subst e2
            rw [if_pos (by omega), rNx_none hq]
            exact this
          · rw [if_neg (by omega)]
            exact this
      · by_cases e : q = i
        · subst e
          rw [hq] at hj
          cases hj
        · exact q4 q (by omega) j hj
    | some j =>
      rw [ha, hq]
      obtain ⟨a1, a2, a3, a4⟩ := rAim_lt hq
      show QI T P m st S (i + 1) (sThrow T P true m (cl (X 919) 9) i (caQ T m j) X)
      rw [hcl, throw_true]
      rw [hq] at hn1
      have hn1 : nth T P m st (i + 1) = n + 1 := by rw [en]; exact hn1
      have hc : caQ T m j < T 0 3 := a4
      have g6 := ok'.cell (ok'.1.2.2.2.1 _ hc).2.1
      have hw2 : (rW T P i) 3 = P 2 i := rfl
      -- what each kind does
      have fin : ∀ (X' : Nat → Int32) (k h : Int32), k = kdQ T P m i (caQ T m j) → (evQ T P m st i = some j → h = nI (rHit T (rD T i) (rW T P i) (caQ T m j) (st i).2.1)) → (∀ q, q < T 0 2 → X' (467 + q) = X (467 + q)) → (∀ k, 920 ≤ k → X' k = X k) → (∀ q, q < T 0 2 → q ≠ i → X' (458 + q) = X (458 + q) ∧ X' (485 + q) = X (485 + q) ∧ ∀ c, c < T 0 3 → X' (494 + 20 * q + c) = X (494 + 20 * q + c)) → rIn T i (rNx T (rD T i) (rW T P i) m (st i)) X' → QI T P m st S (i + 1) (sTell n i (caQ T m j) k h X') := fun X' k h hk hh b1 b2 b3 b4 => by
        obtain ⟨f1, f2, f3, f4, f5, f6, -⟩ := sTell_f (n := n) (q := i) (c := caQ T m j) (k := k) (h := h) (S := X') (by omega)
        refine ⟨fun q hq' => ?_, fun q hq' => ?_, by rw [f2, hn1], fun q hq' j' hj' => ?_⟩
        · have := q1 q hq'
          by_cases e2 : q = i
          · subst e2
            rw [if_pos (by omega)]
            refine b4.ext ?_ ?_ fun c hc => ?_
            · rw [f1 _ (by omega) (by omega)]
            · rw [f1 _ (by omega) (by omega)]
            · rw [f1 _ (by omega) (by omega)]
          · obtain ⟨c1, c2, c3⟩ := b3 q hq' e2
            have e3 : (if q < i + 1 then rNx T (rD T q) (rW T P q) m (st q) else st q) = (if q < i then rNx T (rD T q) (rW T P q) m (st q) else st q) := by
              by_cases e : q < i
              · rw [if_pos e, if_pos (by omega)]
              · rw [if_neg e, if_neg (by omega)]
            rw [e3]
            refine this.ext ?_ ?_ fun c hc => ?_
            · rw [f1 _ (by omega) (by omega)]; exact c1
            · rw [f1 _ (by omega) (by omega)]; exact c2
            · rw [f1 _ (by omega) (by omega)]; exact c3 c hc
        · rw [f1 _ (by omega) (by omega), b1 q hq', q2 q hq']
        · by_cases e : q = i
          · subst e
            rw [hq] at hj'
            cases hj'
            rw [← en]
            exact ⟨f3, f4, f5.trans hk, fun hev => f6.trans (hh hev)⟩
          · have hlt := nth_lt (show q < i by omega) hj'
            obtain ⟨c1, c2, c3, c4⟩ := q4 q (by omega) j' hj'
            refine ⟨?_, ?_, ?_, fun hev => ?_⟩
            · rw [f1 _ (by omega) (by omega), b2 _ (by omega)]; exact c1
            · rw [f1 _ (by omega) (by omega), b2 _ (by omega)]; exact c2
            · rw [f1 _ (by omega) (by omega), b2 _ (by omega)]; exact c3
            · rw [f1 _ (by omega) (by omega), b2 _ (by omega)]; exact c4 hev
      have hnx := rNx_some (show rAim T (rD T i) (rW T P i) m (st i) = some j from hq)
      have hev := rEv_some (show rAim T (rD T i) (rW T P i) m (st i) = some j from hq)
      rw [hw2] at hnx hev
      by_cases k1 : rBar T (rD T i) (caQ T m j) = true
      · rw [if_pos k1]
        have k1' : rBar T (rD T i) ((vis T m).getD j 0) = true := k1
        rw [if_pos k1'] at hnx hev
        refine fin _ _ _ ?_ ?_ (fun q hq' => pk_un (by omega)) (fun k hk => pk_un (by omega)) (fun q hq' e => ⟨pk_un (by omega), pk_un (by omega), fun c hc => pk_un (by omega)⟩) ?_
        · unfold kdQ
          rw [if_pos k1]
        · intro h
          have h : rEv T (rD T i) (rW T P i) m (st i) = some j := h
          rw [hev] at h
          cases h
        · rw [hnx]
          exact hri.ext (pk_un (by omega)) (pk_un (by omega)) fun c hc => pk_un (by omega)
      · rw [if_neg k1]
        have k1' : ¬ rBar T (rD T i) ((vis T m).getD j 0) = true := k1
        rw [if_neg k1'] at hnx hev
        by_cases k2 : P 2 i = 1 ∧ m % 2 = 1
        · rw [if_pos k2]
          rw [if_pos k2] at hnx hev
          refine fin _ _ _ ?_ ?_ (fun q hq' => ?_) (fun k hk => ?_) (fun q hq' e => ⟨?_, ?_, fun c hc => ?_⟩) ?_
          · unfold kdQ
            rw [if_neg k1, if_pos k2]
          · intro h
            have h : rEv T (rD T i) (rW T P i) m (st i) = some j := h
            rw [hev] at h
            cases h
          · rw [pk_un (by omega), pk_un (by omega)]
          · rw [pk_un (by omega), pk_un (by omega)]
          · rw [pk_un (by omega), pk_un (by omega)]
          · rw [pk_un (by omega), pk_un (by omega)]
          · rw [pk_un (by omega), pk_un (by omega)]
          · rw [hnx]
            refine ⟨?_, ?_, fun c hc => ?_⟩
            · rw [pk_un (by omega), pk_un (by omega)]; exact hri.1
            · rw [pk_un (by omega), pk_us]; rfl
            · rw [pk_un (by omega), pk_un (by omega)]; exact hri.2.2 c hc
        · rw [if_neg k2]
          rw [if_neg k2] at hnx hev
          unfold sHitE
          refine fin _ _ _ ?_ ?_ (fun q hq' => ?_) (fun k hk => ?_) (fun q hq' e => ⟨?_, ?_, fun c hc => ?_⟩) ?_
          · unfold kdQ
            rw [if_neg k1, if_neg k2]
            rfl
          · intro h
            have := (hri.g (hst i).1 (hst i).2).2.1
            unfold sHit hitN rHit
            rw [this]
            rfl
          · rw [pk_un (by omega), pk_un (by omega), sUse_o (by omega) (by omega) (by omega), pk_un (by omega)]
          · rw [pk_un (by omega), pk_un (by omega), sUse_o (by omega) (by omega) (by omega), pk_un (by omega)]
          · rw [pk_un (by omega), pk_un (by omega), sUse_o (by omega) (by omega) (by omega), pk_un (by omega)]
          · rw [pk_un (by omega), pk_un (by omega), sUse_o (by omega) (by omega) (by omega), pk_un (by omega)]
          · rw [pk_un (by omega), pk_un (by omega), sUse_o (by omega) (by omega) (by omega), pk_un (by omega)]
          · rw [hnx]
            refine ⟨?_, ?_, fun c hc' => ?_⟩
            · rw [pk_un (by omega), pk_un (by omega)]
              unfold sUse
              rw [pk_un (by omega), pk_un (by omega), pk_us, pk_un (by omega), hri.1]
              exact nI_sub (b := 1) (by omega)
            · rw [pk_un (by omega), pk_un (by omega), sUse_o (by omega) (by omega) (by omega), pk_us]; rfl
            · rw [pk_un (by omega), pk_un (by omega)]
              show _ = nI ((st i).2.2 c + (if c = caQ T m j then 1 else 0))
              by_cases e : c = caQ T m j
              · rw [if_pos e, ← e]
                unfold sUse
                rw [pk_un (by omega), pk_us, pk_un (by omega), hri.2.2 c hc', nI_1]
              · rw [if_neg e, sUse_o (by omega) (by omega) (by omega), pk_un (by omega), hri.2.2 c hc', Nat.add_zero]
