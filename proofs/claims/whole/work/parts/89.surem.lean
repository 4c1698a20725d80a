/-! a sure minute of the reference, by rows: marks; the sure day -/
theorem cnt_re (f : Nat → Nat) (has : Nat → Bool) : ∀ i, cnt f (cnt (fun q => bN (has q)) i) = cnt (fun q => if has q = true then f (cnt (fun q => bN (has q)) q) else 0) i
  | 0 => rfl
  | i + 1 => by
    show cnt f (cnt (fun q => bN (has q)) i + bN (has i)) = cnt (fun q => if has q = true then f (cnt (fun q => bN (has q)) q) else 0) i + (if has i = true then f (cnt (fun q => bN (has q)) i) else 0)
    rw [← cnt_re f has i]
    cases has i with
    | true => rw [if_pos rfl]; rfl
    | false => rw [if_neg Bool.false_ne_true]; rfl
def evC (T P : Nat → Nat → Nat) (m : Nat) (st : Nat → rS) (q : Nat) : Option Nat := (evQ T P m st q).map (caQ T m)
def vJ (T P : Nat → Nat → Nat) (m : Nat) (st : Nat → rS) (c : Nat) : Nat := cnt (fun q => if evC T P m st q = some c then 1 else 0) (T 0 2)
def mkQ (T P : Nat → Nat → Nat) (m : Nat) (st : Nat → rS) (L : Nat → Int32) (q : Nat) : Int32 := match evQ T P m st q with
  | none => 0
  | some j => (L 7 * nI (rHit T (rD T q) (rW T P q) (caQ T m j) (st q).2.1) + (if rD T q (caQ T m j) ≤ 2 then 2 * L 8 else 0) + L 9 * nI (vJ T P m st (caQ T m j) - 1) - (if nI (rHit T (rD T q) (rW T P q) (caQ T m j) (st q).2.1) < 7 then 0 else L 10)) * nI (jsee T (T 1 q))
theorem mkQ_none {T P : Nat → Nat → Nat} {m q : Nat} {st : Nat → rS} {L : Nat → Int32} (h : evQ T P m st q = none) : mkQ T P m st L q = 0 := by
  unfold mkQ
  rw [h]
theorem mkQ_some {T P : Nat → Nat → Nat} {m q j : Nat} {st : Nat → rS} {L : Nat → Int32} (h : evQ T P m st q = some j) : mkQ T P m st L q = (L 7 * nI (rHit T (rD T q) (rW T P q) (caQ T m j) (st q).2.1) + (if rD T q (caQ T m j) ≤ 2 then 2 * L 8 else 0) + L 9 * nI (vJ T P m st (caQ T m j) - 1) - (if nI (rHit T (rD T q) (rW T P q) (caQ T m j) (st q).2.1) < 7 then 0 else L 10)) * nI (jsee T (T 1 q)) := by
  unfold mkQ
  rw [h]
theorem kd_ev {T P : Nat → Nat → Nat} {m q j : Nat} {st : Nat → rS} (ha : aimQ T P m st q = some j) : (evQ T P m st q = some j ∧ kdQ T P m q (caQ T m j) = (if rD T q (caQ T m j) ≤ 2 then 3 else 4)) ∨ (evQ T P m st q = none ∧ ¬ 3 ≤ kdQ T P m q (caQ T m j)) := by
  have hev := rEv_some (show rAim T (rD T q) (rW T P q) m (st q) = some j from ha)
  have hw2 : (rW T P q) 3 = P 2 q := rfl
  have hc : (vis T m).getD j 0 = caQ T m j := rfl
  rw [hw2, hc] at hev
  have e : evQ T P m st q = rEv T (rD T q) (rW T P q) m (st q) := rfl
  rw [e, hev]
  unfold kdQ
  by_cases k1 : rBar T (rD T q) (caQ T m j) = true
  · rw [if_pos k1, if_pos k1]
    exact .inr ⟨rfl, by decide⟩
  · rw [if_neg k1, if_neg k1]
    by_cases k2 : P 2 q = 1 ∧ m % 2 = 1
    · rw [if_pos k2, if_pos k2]
      exact .inr ⟨rfl, by decide⟩
    · rw [if_neg k2, if_neg k2]
      exact .inl ⟨rfl, rfl⟩
theorem sMks_e {T P : Nat → Nat → Nat} {d m n b : Nat} {S : Nat → Int32} (ok : sOK T P S) (hn : n ≤ 9) (hs : SW T d m n b S) (ht : TL T n S) : ∀ i, i ≤ n → ∀ k, k < n → ∀ r, r < 4 → sMks T n i S (920 + 6 * k + r) = S (920 + 6 * k + r)
  | 0, _, k, _, r, _ => rfl
  | i + 1, hi, k, hk, r, hr => by
    obtain ⟨h2, h3, h4⟩ := sMks_k ok hn hs ht i (by omega)
    have ih := sMks_e ok hn hs ht i (by omega) k hk r hr
    have h1 := ok.1.1
    show sMark T n i (sMks T n i S) (920 + 6 * k + r) = _
    generalize sMks T n i S = X at h2 h3 h4 ih ⊢
    obtain ⟨hq, hq2⟩ := sQof_lt ok.1 h3 (show i < n by omega)
    unfold sMark
    split
    · rw [pk_un (by omega), pk_un (by omega), pk_un (by omega)]; exact ih
    · exact ih
theorem i32_0 (x : Int32) : x + 0 = x := by grind
theorem marks_r {T P : Nat → Nat → Nat} {d m n b : Nat} {st : Nat → rS} {S Y : Nat → Int32} (ok : sOK T P Y) (hs : SW T d m n b Y) (ht : TL T n Y) (hq : QI T P m st S (T 0 2) Y) (hL : ∀ k, k < 455 → Y k = S k) (hst : ∀ q, (st q).2.1 ≤ 2) (hn : n ≤ 9) : ∀ i, i ≤ T 0 2 → nth T P m st i ≤ n ∧ ∀ q, q < T 0 2 → sMks T n (nth T P m st i) Y (467 + q) = S (467 + q) + (if q < i then mkQ T P m st S q else 0)
  | 0, _ => by
    refine ⟨Nat.zero_le _, fun q hq' => ?_⟩
    rw [if_neg (Nat.not_lt_zero _), i32_0]
    exact hq.2.1 q hq'
  | i + 1, hi => by
    have h1 := ok.1.1
    obtain ⟨g1, g2⟩ := marks_r ok hs ht hq hL hst hn i (by omega)
    obtain ⟨q1, q2, q3, q4⟩ := hq
    have en : n = nth T P m st (T 0 2) := by
      have := nth_le T P m st (T 0 2)
      exact (nI_eq (by omega) (by omega)).1 (hs.1.2.2.symm.trans q3)
    have hn1 : nth T P m st (i + 1) = nth T P m st i + bN (aimQ T P m st i).isSome := rfl
    have hoth : ∀ q (v : Int32), q ≠ i → (if q < i + 1 then v else 0) = (if q < i then v else 0) := fun q v e => by
      by_cases k : q < i
      · rw [if_pos k, if_pos (by omega)]
      · rw [if_neg k, if_neg (by omega)]
    cases ha : aimQ T P m st i with
    | none =>
      rw [ha] at hn1
      have hn1 : nth T P m st (i + 1) = nth T P m st i := hn1
      rw [hn1]
      refine ⟨g1, fun q hq' => ?_⟩
      rw [g2 q hq']
      by_cases e : q = i
      · subst e
        rw [if_neg (Nat.lt_irrefl _), if_pos (Nat.lt_succ_self _), mkQ_none (rEv_none ha)]
      · rw [hoth q _ e]
    | some j =>
      have hlt := nth_lt (show i < T 0 2 by omega) ha
      rw [ha] at hn1
      have hn1 : nth T P m st (i + 1) = nth T P m st i + 1 := hn1
      rw [hn1]
      refine ⟨by omega, fun q hq' => ?_⟩
      have hme := sMks_e ok hn hs ht (nth T P m st i) (by omega)
      obtain ⟨p1, p2, p3⟩ := sMks_k ok hn hs ht (nth T P m st i) (by omega)
      show sMark T n (nth T P m st i) (sMks T n (nth T P m st i) Y) (467 + q) = _
      obtain ⟨c1, c2, c3, c4⟩ := q4 i (by omega) j ha
      have x0 := (hme (nth T P m st i) (by omega) 0 (by omega)).trans c1
      have x1 := (hme (nth T P m st i) (by omega) 1 (by omega)).trans c2
      have x2 := (hme (nth T P m st i) (by omega) 2 (by omega)).trans c3
      have x3 := fun h => (hme (nth T P m st i) (by omega) 3 (by omega)).trans (c4 h)
      have hsum : ∀ c, cnt (sJf (sMks T n (nth T P m st i) Y) (nI c)) n = vJ T P m st c ∨ ¬ c < T 0 3 := fun c => by
        by_cases hc : c < T 0 3
        · left
          have hre := cnt_re (sJf (sMks T n (nth T P m st i) Y) (nI c)) (fun q => (aimQ T P m st q).isSome) (T 0 2)
          have en' : cnt (fun q => bN (aimQ T P m st q).isSome) (T 0 2) = n := en.symm
          rw [en'] at hre
          rw [hre]
          refine cnt_ext (T 0 2) fun q hq'' => ?_
          show (if (aimQ T P m st q).isSome = true then sJf (sMks T n (nth T P m st i) Y) (nI c) (nth T P m st q) else 0) = if evC T P m st q = some c then 1 else 0
          cases ha' : aimQ T P m st q with
          | none =>
            have : evC T P m st q = none := by unfold evC; rw [show evQ T P m st q = none from rEv_none ha']; rfl
            rw [this, if_neg (fun h => by cases h), if_neg (fun h => by cases h)]
          | some j' =>
            rw [if_pos (show (some j').isSome = true from rfl)]
            obtain ⟨b1, b2, b3, -⟩ := q4 q hq'' j' ha'
            have hl' := nth_lt hq'' ha'
            have y1 := (hme (nth T P m st q) (by omega) 1 (by omega)).trans b2
            have y2 := (hme (nth T P m st q) (by omega) 2 (by omega)).trans b3
            have hc' : caQ T m j' < T 0 3 := (rAim_lt ha').2.2.2
            unfold sJf
            rw [y1, y2]
            rcases kd_ev ha' with ⟨e1, e2⟩ | ⟨e1, e2⟩
            · have h3 : 3 ≤ kdQ T P m q (caQ T m j') := by
                rw [e2]
                split <;> decide
              have : evC T P m st q = some (caQ T m j') := by unfold evC; rw [e1]; rfl
              rw [this]
              by_cases e3 : caQ T m j' = c
              · rw [if_pos ⟨h3, by rw [e3]⟩, if_pos (by rw [e3])]
              · rw [if_neg (fun h => e3 ((nI_eq (by omega) (by omega)).1 h.2)), if_neg (fun h => e3 (Option.some.inj h))]
            · have : evC T P m st q = none := by unfold evC; rw [e1]; rfl
              rw [this, if_neg (fun h => e2 h.1), if_neg (fun h => by cases h)]
        · exact .inr hc
      have hX7 : ∀ k, k < 455 → sMks T n (nth T P m st i) Y k = S k := fun k hk => by rw [p3 k (by omega), hL k hk]
      have g2i := g2
      generalize sMks T n (nth T P m st i) Y = X at x0 x1 x2 x3 hsum hX7 p1 p2 p3 g2i ⊢
      have hqo : sQof X (nth T P m st i) = i := by
        unfold sQof
        rw [show X (920 + 6 * nth T P m st i) = nI i from x0, nI_clamp (by omega)]
      have hca : caQ T m j < T 0 3 := (rAim_lt ha).2.2.2
      have hsj := (hsum (caQ T m j)).resolve_right (fun h => h hca)
      unfold sMark
      rcases kd_ev ha with ⟨e1, e2⟩ | ⟨e1, e2⟩
      · have h3 : 3 ≤ X (920 + 6 * nth T P m st i + 2) := by
          rw [x2, e2]
          split <;> decide
        rw [if_pos h3, hqo]
        have hval : sVal T n (nth T P m st i) X = mkQ T P m st S i := by
          rw [mkQ_some e1]
          unfold sVal sJn
          rw [hqo, x3 e1, x2, x1, hsj, hX7 7 (by omega), hX7 8 (by omega), hX7 9 (by omega), hX7 10 (by omega), e2]
          by_cases k : rD T i (caQ T m j) ≤ 2
          · rw [if_pos k, if_pos k, if_pos rfl]
          · rw [if_neg k, if_neg k, if_neg (by decide)]
        rw [hval]
        by_cases e : q = i
        · subst e
          rw [pk_us, if_pos (Nat.lt_succ_self _), g2i q hq', if_neg (Nat.lt_irrefl _), i32_0]
        · rw [pk_un (by omega), pk_un (by omega), pk_un (by omega), g2i q hq', hoth q _ e]
      · rw [if_neg (show ¬ 3 ≤ X (920 + 6 * nth T P m st i + 2) by rw [x2]; exact e2), g2i q hq']
        by_cases e : q = i
        · subst e
          rw [if_neg (Nat.lt_irrefl _), if_pos (Nat.lt_succ_self _), mkQ_none e1]
        · rw [hoth q _ e]
theorem play_r {T P : Nat → Nat → Nat} {d m b : Nat} {st : Nat → rS} {S : Nat → Int32} (ok : sOK T P S) (hs : SW T d m 0 b S) (hst : ∀ q, (st q).2.1 ≤ 2 ∧ ∀ c, (st q).2.2 c + (st q).1 ≤ 400) (hr : ∀ q, q < T 0 2 → rIn T q (st q) S) : ∀ q, q < T 0 2 → rIn T q (rNx T (rD T q) (rW T P q) m (st q)) (sPlay T P true m S) ∧ sPlay T P true m S (467 + q) = S (467 + q) + mkQ T P m st S q := by
  intro q hq
  have hnq := ok.1.1.2.2.1
  have hnc := ok.1.1.2.2.2
  have hqi := quarters_r ok hs hst hr (T 0 2) (Nat.le_refl _)
  obtain ⟨n, h1, h2, h3, h4⟩ := sQs_k (su := true) ok hs (T 0 2) (Nat.le_refl _)
  have e : cl (sQs T P true m (T 0 2) S 919) 9 = n := by rw [h2.1.2.2, cl_nI (by omega) (by decide)]
  unfold sPlay
  rw [e]
  generalize sQs T P true m (T 0 2) S = Y at hqi h2 h3 h4
  have ok1 : sOK T P Y := ok.ext fun k hk => h4 k (by omega)
  have hm := marks_r ok1 h2 h3 hqi (fun k hk => h4 k (by omega)) (fun q => (hst q).1) (by omega) (T 0 2) (Nat.le_refl _)
  have en : nth T P m st (T 0 2) = n := by
    have := nth_le T P m st (T 0 2)
    exact ((nI_eq (by omega) (by omega)).1 (h2.1.2.2.symm.trans hqi.2.2.1)).symm
  rw [en] at hm
  obtain ⟨g1, g2, g3⟩ := sMks_k ok1 (by omega) h2 h3 n (Nat.le_refl _)
  have hri := hqi.1 q hq
  rw [if_pos hq] at hri
  have hm2 := hm.2 q hq
  rw [if_pos hq] at hm2
  have hri2 : rIn T q (rNx T (rD T q) (rW T P q) m (st q)) (sMks T n n Y) := hri.ext (g3 _ (by omega)) (g3 _ (by omega)) fun c hc => g3 _ (by omega)
  generalize sMks T n n Y = Z at g1 g2 g3 hri2 hm2
  have ok2 : sOK T P Z := ok1.ext fun k hk => g3 k (by omega)
  obtain ⟨f1, f2⟩ := sFold_k (List.range (T 0 3)) (b + T 0 2) Z ok2 g1 (fun c hc => List.mem_range.1 hc)
  refine ⟨hri2.ext (f2 _ (by omega)) (f2 _ (by omega)) fun c hc => f2 _ (by omega), ?_⟩
  rw [f2 _ (by omega)]
  exact hm2
/-- the sure day, minute by minute -/
def sSd (T P : Nat → Nat → Nat) (S : Nat → Int32) : Nat → Nat → Int32
  | 0 => sBegin (T 0 2) 0 S
  | m + 1 => sMin T P true 0 m (sSd T P S m)
def stB (T P : Nat → Nat → Nat) (i : Nat) : Nat → rS := fun q => rB T (rD T q) (rW T P q) i
def mkD (T P : Nat → Nat → Nat) (L : Nat → Int32) (q i : Nat) : Int32 := mkQ T P (bzm T i) (stB T P i) L q
theorem sure_r {T P : Nat → Nat → Nat} {S : Nat → Int32} (ok : sOK T P S) (hb : SW T 0 0 0 0 (sBegin (T 0 2) 0 S)) : ∀ m, m < 240 → ∃ n, SW T 0 m n (60 * m) (sSd T P S m) ∧ n ≤ 9 ∧ (∀ k, k < 455 ∨ 974 ≤ k ∨ (814 ≤ k ∧ k < 914) → sSd T P S m k = S k) ∧ ∀ q, q < T 0 2 → rIn T q (rB T (rD T q) (rW T P q) (nbz T m)) (sSd T P S m) ∧ sSd T P S m (467 + q) = sumr (mkD T P S q) (nbz T m)
  | 0, _ => by
    have hw := ok.1
    have hnq := hw.1.2.2.1
    have hnc := hw.1.2.2.2
    obtain ⟨b1, b2, b3, b4, b5, b6, b7⟩ := sBegin_f (v := 0) (S := S) hnq
    refine ⟨0, hb, Nat.zero_le _, fun k hk => ?_, fun q hq => ⟨⟨?_, ?_, fun c hc => ?_⟩, ?_⟩⟩
    · show sBegin (T 0 2) 0 S k = S k
      rcases hk with h | h | h
      · exact b1 k (by omega)
      · exact b1 k (by omega)
      · obtain ⟨a, rfl⟩ : ∃ a, k = 814 + a := ⟨k - 814, by omega⟩
        exact b6 a (by omega)
    · show sBegin (T 0 2) 0 S (458 + q) = nI (T 2 q)
      rw [b3 q hq]
      exact (ok.2.2.1.2.2.2.1 q hq).2.1
    · show sBegin (T 0 2) 0 S (485 + q) = nI 0
      rw [b7 _ (by omega)]
      rfl
    · show sBegin (T 0 2) 0 S (494 + 20 * q + c) = nI 0
      rw [Nat.add_assoc, b4 _ (by omega)]
      rfl
    · show sBegin (T 0 2) 0 S (467 + q) = 0
      rw [b7 _ (by omega)]
  | m + 1, hm => by
    have hw := ok.1
    have hnq := hw.1.2.2.1
    have hnc := hw.1.2.2.2
    obtain ⟨n, h1, h2, h3, h4⟩ := sure_r ok hb m (by omega)
    have ok' : sOK T P (sSd T P S m) := ok.ext fun k hk => h3 k (by omega)
    obtain ⟨n', t1, t2, t3⟩ := sMin_k (su := true) ok' (by omega) (by omega) h1
    have ex : nxd 0 m = 0 := if_pos (by omega)
    have em : nxm 0 m = m + 1 := if_pos (by omega)
    rw [ex, em] at t1 t2
    refine ⟨n', t1, t2.2.2.2, fun k hk => (t3 k hk).trans (h3 k hk), fun q hq => ?_⟩
    show rIn T q _ (sMin T P true 0 m (sSd T P S m)) ∧ sMin T P true 0 m (sSd T P S m) (467 + q) = _
    have hL : ∀ k, k < 455 → sSd T P S m k = S k := fun k hk => h3 k (by omega)
    generalize sSd T P S m = X at h1 h3 h4 ok' t1 t3 hL ⊢
    unfold sMin
    have ett : ∀ Z, sTick 0 m Z = upd Z 456 (nI (m + 1)) := fun Z => if_pos (by omega)
    rw [ett]
    have ok0 : sOK T P (upd X 919 0) := ok'.ext fun k hk => pk_un (by omega)
    by_cases hv : vis T m = []
    · rw [sPlay_idle pk_us hv, nbz_i hv]
      obtain ⟨g1, g2⟩ := h4 q hq
      refine ⟨g1.ext ?_ ?_ fun c hc => ?_, ?_⟩
      · rw [pk_un (by omega), sDre_o (by omega), pk_un (by omega)]
      · rw [pk_un (by omega), sDre_o (by omega), pk_un (by omega)]
      · rw [pk_un (by omega), sDre_o (by omega), pk_un (by omega)]
      · rw [pk_un (by omega), sDre_o (by omega), pk_un (by omega)]
        exact g2
    · rw [nbz_s hv]
      have hbd : ∀ q', T 2 q' ≤ 400 ∨ ¬ q' < T 0 2 := fun q' => by
        by_cases e : q' < T 0 2
        · exact .inl (hw.2.1 q' e).2.1
        · exact .inr e
      let st : Nat → rS := fun q' => if q' < T 0 2 then stB T P (nbz T m) q' else (0, 0, fun _ => 0)
      have hst : ∀ q', (st q').2.1 ≤ 2 ∧ ∀ c, (st q').2.2 c + (st q').1 ≤ 400 := fun q' => by
        show (if q' < T 0 2 then stB T P (nbz T m) q' else ((0, 0, fun _ => 0) : rS)).2.1 ≤ 2 ∧ ∀ c, (if q' < T 0 2 then stB T P (nbz T m) q' else ((0, 0, fun _ => 0) : rS)).2.2 c + (if q' < T 0 2 then stB T P (nbz T m) q' else ((0, 0, fun _ => 0) : rS)).1 ≤ 400
        by_cases e : q' < T 0 2
        · rw [if_pos e]
          obtain ⟨l1, l2⟩ := rB_le (T := T) (D := rD T q') (w := rW T P q') (nbz T m)
          refine ⟨l1, fun c => Nat.le_trans (l2 c) ?_⟩
          exact (hw.2.1 q' e).2.1
        · rw [if_neg e]
          exact ⟨Nat.zero_le _, fun c => Nat.zero_le _⟩
      have hse : ∀ q', q' < T 0 2 → st q' = stB T P (nbz T m) q' := fun q' e => if_pos e
      have hp := play_r (st := st) ok0 (SW_919 hw h1) hst (fun q' hq' => by
        rw [hse q' hq']
        exact (h4 q' hq').1.ext (pk_un (by omega)) (pk_un (by omega)) fun c hc => pk_un (by omega)) q hq
      rw [hse q hq] at hp
      have emk : mkQ T P m st (upd X 919 0) q = mkD T P S q (nbz T m) := by
        have e1 : ∀ q', q' < T 0 2 → evQ T P m st q' = evQ T P m (stB T P (nbz T m)) q' := fun q' hq' => by
          unfold evQ
          rw [hse q' hq']
        have e2 : ∀ c, vJ T P m st c = vJ T P m (stB T P (nbz T m)) c := fun c => by
          unfold vJ
          refine cnt_ext _ fun q' hq' => ?_
          unfold evC
          rw [e1 q' hq']
        unfold mkD
        rw [bzm_at (by omega) hv]
        cases he : evQ T P m (stB T P (nbz T m)) q with
        | none => rw [mkQ_none ((e1 q hq).trans he), mkQ_none he]
        | some j =>
          rw [mkQ_some ((e1 q hq).trans he), mkQ_some he, e2, hse q hq]
          have l7 : upd X 919 0 7 = S 7 := by rw [pk_un (by omega)]; exact hL 7 (by omega)
          have l8 : upd X 919 0 8 = S 8 := by rw [pk_un (by omega)]; exact hL 8 (by omega)
          have l9 : upd X 919 0 9 = S 9 := by rw [pk_un (by omega)]; exact hL 9 (by omega)
          have l10 : upd X 919 0 10 = S 10 := by rw [pk_un (by omega)]; exact hL 10 (by omega)
          rw [l7, l8, l9, l10]
      have erb : rB T (rD T q) (rW T P q) (nbz T m + 1) = rNx T (rD T q) (rW T P q) m (stB T P (nbz T m) q) := by
        show rNx T (rD T q) (rW T P q) (bzm T (nbz T m)) _ = _
        rw [bzm_at (by omega) hv]
        rfl
      refine ⟨?_, ?_⟩
      · rw [erb]
        refine hp.1.ext ?_ ?_ fun c hc => ?_
        · rw [pk_un (by omega), sDre_o (by omega)]
        · rw [pk_un (by omega), sDre_o (by omega)]
        · rw [pk_un (by omega), sDre_o (by omega)]
      · rw [pk_un (by omega), sDre_o (by omega), hp.2, emk, pk_un (by omega), (h4 q hq).2]
        rfl
