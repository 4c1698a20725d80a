/-! the reference's whole sure day: its marks, and nothing else but what it notes -/
theorem SW_begin0 {C : Nat → Nat → Nat} {v : Int32} {S : Nat → Int32} (hw : qT0 C) (tm : qTM C S) (hsd : ∀ a, a < 100 → inB (S (814 + a)) 1) : SW C 0 0 0 0 (sBegin (C 0 2) v S) := by
  obtain ⟨b1, b2, b3, b4, b5, b6, b7⟩ := sBegin_f (v := v) (S := S) hw.1.2.2.1
  have hn := hw.1.2.2.1
  have hc := hw.1.2.2.2
  refine ⟨⟨b7 _ (by omega), b7 _ (by omega), b7 _ (by omega)⟩, fun q hq => ⟨?_, ?_, fun c hc => ?_⟩, fun c hc => ?_, fun a ha => ⟨?_, ?_⟩⟩
  · rw [b3 q hq, (tm.2.2.2.1 q hq).2.1]
    exact inB_nI (hw.2.1 q hq).2.1
  · rw [b7 _ (by omega)]; exact inB_0
  · rw [Nat.add_assoc, b4 _ (by omega)]; exact inB_0
  · rw [b5 c (by omega), (tm.2.2.2.2.2.1 c hc).2.2.1]
    exact inB_nI (hw.2.2.2.1 c hc).2.2.1
  · rw [b7 _ (by omega)]; exact inB_0
  · rw [b6 a ha]
    exact hsd a ha
theorem stepq_r {T P : Nat → Nat → Nat} {S X : Nat → Int32} {m n : Nat} (ok : sOK T P S) (hm : m < 240) (h1 : SW T 0 m n (60 * m) X) (h3 : ∀ k, k < 455 ∨ 974 ≤ k ∨ (814 ≤ k ∧ k < 914) → X k = S k) (h4 : ∀ q, q < T 0 2 → rIn T q (rB T (rD T q) (rW T P q) (nbz T m)) X ∧ X (467 + q) = sumr (mkD T P S q) (nbz T m)) : ∀ q, q < T 0 2 → sPlay T P true m (upd X 919 0) (467 + q) = sumr (mkD T P S q) (nbz T (m + 1)) := by
  intro q hq
  have hw := ok.1
  have hnq := hw.1.2.2.1
  have hnc := hw.1.2.2.2
  have hL : ∀ k, k < 455 → X k = S k := fun k hk => h3 k (by omega)
  have ok' : sOK T P X := ok.ext hL
  have ok0 : sOK T P (upd X 919 0) := ok'.ext fun k hk => pk_un (by omega)
  by_cases hv : vis T m = []
  · rw [sPlay_idle pk_us hv, nbz_i hv, pk_un (by omega)]
    exact (h4 q hq).2
  · rw [nbz_s hv]
    let st : Nat → rS := fun q' => if q' < T 0 2 then stB T P (nbz T m) q' else (0, 0, fun _ => 0)
    have hst : ∀ q', (st q').2.1 ≤ 2 ∧ ∀ c, (st q').2.2 c + (st q').1 ≤ 400 := fun q' => by
      show (if q' < T 0 2 then stB T P (nbz T m) q' else ((0, 0, fun _ => 0) : rS)).2.1 ≤ 2 ∧ ∀ c, (if q' < T 0 2 then stB T P (nbz T m) q' else ((0, 0, fun _ => 0) : rS)).2.2 c + (if q' < T 0 2 then stB T P (nbz T m) q' else ((0, 0, fun _ => 0) : rS)).1 ≤ 400
      by_cases e : q' < T 0 2
      · rw [if_pos e]
        obtain ⟨l1, l2⟩ := rB_le (T := T) (D := rD T q') (w := rW T P q') (nbz T m)
        refine ⟨l1, fun c => Nat.le_trans (l2 c) ?_⟩
        exact (hw.2.1 q' e).2.1
      · rw [if_neg e]
        exact ⟨Nat.zero_le _, fun c => Nat.zero_le _⟩
    have hse : ∀ q', q' < T 0 2 → st q' = stB T P (nbz T m) q' := fun q' e => if_pos e
    have hp := play_r (st := st) ok0 (SW_919 hw h1) hst (fun q' hq' => by
      rw [hse q' hq']
      exact (h4 q' hq').1.ext (pk_un (by omega)) (pk_un (by omega)) fun c hc => pk_un (by omega)) q hq
    rw [hse q hq] at hp
    have emk : mkQ T P m st (upd X 919 0) q = mkD T P S q (nbz T m) := by
      have e1 : ∀ q', q' < T 0 2 → evQ T P m st q' = evQ T P m (stB T P (nbz T m)) q' := fun q' hq' => by
        unfold evQ
        rw [hse q' hq']
      have e2 : ∀ c, vJ T P m st c = vJ T P m (stB T P (nbz T m)) c := fun c => by
        unfold vJ
        refine cnt_ext _ fun q' hq' => ?_
        unfold evC
        rw [e1 q' hq']
      unfold mkD
      rw [bzm_at hm hv]
      cases he : evQ T P m (stB T P (nbz T m)) q with
      | none => rw [mkQ_none ((e1 q hq).trans he), mkQ_none he]
      | some j =>
        rw [mkQ_some ((e1 q hq).trans he), mkQ_some he, e2, hse q hq]
        have l7 : upd X 919 0 7 = S 7 := by rw [pk_un (by omega)]; exact hL 7 (by omega)
        have l8 : upd X 919 0 8 = S 8 := by rw [pk_un (by omega)]; exact hL 8 (by omega)
        have l9 : upd X 919 0 9 = S 9 := by rw [pk_un (by omega)]; exact hL 9 (by omega)
        have l10 : upd X 919 0 10 = S 10 := by rw [pk_un (by omega)]; exact hL 10 (by omega)
        rw [l7, l8, l9, l10]
    rw [hp.2, emk, pk_un (by omega), (h4 q hq).2]
    rfl
theorem sure_end {T P : Nat → Nat → Nat} {S : Nat → Int32} (ok : sOK T P S) (hb : SW T 0 0 0 0 (sBegin (T 0 2) 0 S)) : (∀ q, q < T 0 2 → sSd T P S 240 (467 + q) = sumr (mkD T P S q) (nbz T 240)) ∧ sSd T P S 240 455 = 1 ∧ (∀ k, k < 455 ∨ 974 ≤ k → sSd T P S 240 k = S k) := by
  have hnq := ok.1.1.2.2.1
  obtain ⟨n, h1, h2, h3, h4⟩ := sure_r ok hb 239 (by omega)
  have hs := stepq_r ok (by omega) h1 h3 h4
  have ok' : sOK T P (sSd T P S 239) := ok.ext fun k hk => h3 k (by omega)
  obtain ⟨n', t1, t2, t3⟩ := sMin_k (su := true) ok' (by omega) (by omega) h1
  have e1 : nxd 0 239 = 1 := rfl
  refine ⟨fun q hq => ?_, ?_, fun k hk => ?_⟩
  · show sMin T P true 0 239 (sSd T P S 239) (467 + q) = _
    rw [← hs q hq]
    unfold sMin
    show sDay0 (wr (upd (upd (upd _ 456 _) 455 _) 456 0) 714 100 (fun _ => 0)) (467 + q) = _
    rw [sDay0_f.1 _ (by omega), wr_out (by omega), pk_un (by omega), pk_un (by omega), pk_un (by omega), sDre_o (by omega)]
  · show sMin T P true 0 239 (sSd T P S 239) 455 = 1
    rw [t1.1.1, e1]
    rfl
  · show sMin T P true 0 239 (sSd T P S 239) k = _
    rw [t3 k (by omega), h3 k (by omega)]
theorem sureDay_m {F : Nat} {C P : Nat → Nat → Nat} {μ : aw_M} (hF : 2000 ≤ F) (ok : sOK C P (μ.1 205)) (hsd : ∀ a, a < 100 → inB (μ.1 205 (814 + a)) 1) : T (f_X11_sureDay F 203 μ) fun μ' => (∀ a, a ≠ 210 → a ≠ 211 → μ'.1 a = μ.1 a) ∧ μ'.2 = μ.2 ∧ ∀ q, q < C 0 2 → μ'.1 211 q = sumr (mkD C P (μ.1 205) q) (nbz C 240) := by
  have hnq := ok.1.1.2.2.1
  have hb := SW_begin0 (v := 0) ok.1 ok.2.2.1 hsd
  obtain ⟨e1, e2, e3⟩ := sure_end ok hb
  have sr := sure_r ok hb
  generalize hS : μ.1 205 = S at ok hsd hb e1 e2 e3 sr
  have i455 : aw_in 455 1155 = true := by decide
  have c455 : (455 : Int32).toNatClampNeg = 455 := by decide
  have r22 : aw_rf 203 22 = 210 := by simp only [rf203, rf203b]
  have r23 : aw_rf 203 23 = 211 := by simp only [rf203, rf203b]
  unfold f_X11_sureDay
  have h1 : f_X11_tries F 203 μ = some (aset μ 210 (wr (μ.1 210) 0 519 (fun k => S (455 + k)))) := by
    unfold f_X11_tries
    refine lp_u (fun i => (nI i, aset μ 210 (wr (μ.1 210) 0 i (fun k => S (455 + k))))) 519 (by rw [wr_0, aset_self]; rfl) ?_ ?_ (by omega)
    · intro i hi k
      show f_X11_tries_2 F 203 k (nI i) (aset μ 210 _) = k (nI (i + 1), aset μ 210 _)
      unfold f_X11_tries_2
      rw [if_neg (show ¬ (519 : Int32) ≤ nI i from nI_ge (b := 519) hi (by decide)), show (455 : Int32) + nI i = nI (455 + i) from nI_add 455 i, pI_in_t (by omega) (by decide), pg_t, pI_in_t hi (by decide), pg_t, plet, r22, rf203.2.1, nI_clamp (by omega), nI_clamp (by omega), rA_a (by decide), hS, wI_wA, nI_1]
      have := wr_s (S := μ.1 210) (b := 0) (i := i) (g := fun k => S (455 + k))
      rw [Nat.zero_add] at this
      rw [this]
    · intro k
      show f_X11_tries_2 F 203 k (nI 519) (aset μ 210 _) = _
      unfold f_X11_tries_2
      rw [if_pos (show (519 : Int32) ≤ nI 519 by decide)]
  generalize hg : wr (μ.1 210) 0 519 (fun k => S (455 + k)) = g at h1
  have hg2 : ∀ k, k < 519 → g k = S (455 + k) := fun k hk => by rw [← hg]; exact wr0 hk
  have h2 : aset μ 210 g = aset (aset μ 210 g) 205 S := by
    have : (aset μ 210 g).1 205 = S := by rw [rA_a (by decide)]; exact hS
    rw [← this, aset_self]
  rw [h1, Option.bind_some, h2, begins_m (by omega) hnq ok.2.2.1.1.2.2.1, Option.bind_some]
  have h3 : aw_loop (fun k s => f_X11_sureDay_9 F 203 k s) F (aset (aset μ 210 g) 205 (sBegin (C 0 2) 0 S)) = f_X11_sureDay_28 F 203 (aset (aset μ 210 g) 205 (sSd C P S 240)) := by
    refine lp_u (fun m => aset (aset μ 210 g) 205 (sSd C P S m)) 240 rfl ?_ ?_ (by omega)
    · intro m hm k
      obtain ⟨n, s1, s2, s3, s4⟩ := sr m hm
      have ok' : sOK C P (sSd C P S m) := ok.ext fun k hk => s3 k (by omega)
      show f_X11_sureDay_9 F 203 k (aset (aset μ 210 g) 205 (sSd C P S m)) = k (aset (aset μ 210 g) 205 (sMin C P true 0 m (sSd C P S m)))
      unfold f_X11_sureDay_9
      rw [i455, pg_t, c455, rf203.2.1, rA_s, s1.1.1, if_pos (show nI 0 = 0 from rfl), show (1 : Int32) = aw_b true from rfl, minute_m (by omega) ok' (by omega) hm (by omega) s1, Option.bind_some]
    · intro k
      show f_X11_sureDay_9 F 203 k (aset (aset μ 210 g) 205 (sSd C P S 240)) = _
      unfold f_X11_sureDay_9
      rw [i455, pg_t, c455, rf203.2.1, rA_s, e2, if_neg (by decide)]
  rw [h3]
  generalize sSd C P S 240 = Z at e1 e2 e3
  unfold f_X11_sureDay_28
  have h4 : aw_loop (fun k s => f_X11_sureDay_30 F 203 k s.1 s.2) F (0, aset (aset μ 210 g) 205 Z) = f_X11_sureDay_58 F 203 (aset (aset (aset μ 210 g) 205 Z) 211 (wr (μ.1 211) 0 9 (fun q => Z (467 + q)))) := by
    refine lp_u (fun i => (nI i, aset (aset (aset μ 210 g) 205 Z) 211 (wr (μ.1 211) 0 i (fun q => Z (467 + q))))) 9 ?_ ?_ ?_ (by omega)
    · rw [wr_0]
      have : μ.1 211 = (aset (aset μ 210 g) 205 Z).1 211 := by rw [rA_a (by decide), rA_a (by decide)]
      rw [this, aset_self]
      rfl
    · intro i hi k
      show f_X11_sureDay_30 F 203 k (nI i) (aset (aset (aset μ 210 g) 205 Z) 211 _) = k (nI (i + 1), aset (aset (aset μ 210 g) 205 Z) 211 _)
      unfold f_X11_sureDay_30
      rw [if_neg (show ¬ (9 : Int32) ≤ nI i from nI_ge (b := 9) hi (by decide)), show (467 : Int32) + nI i = nI (467 + i) from nI_add 467 i, pI_in_t (by omega) (by decide), pg_t, pI_in_t hi (by decide), pg_t, plet, r23, rf203.2.1, nI_clamp (by omega), nI_clamp (by omega), rA_a (by decide), rA_s, wI_wA, nI_1]
      have := wr_s (S := μ.1 211) (b := 0) (i := i) (g := fun q => Z (467 + q))
      rw [Nat.zero_add] at this
      rw [this]
    · intro k
      show f_X11_sureDay_30 F 203 k (nI 9) _ = _
      unfold f_X11_sureDay_30
      rw [if_pos (show (9 : Int32) ≤ nI 9 by decide)]
  rw [h4]
  unfold f_X11_sureDay_58 f_X11_back
  generalize hh : wr (μ.1 211) 0 9 (fun q => Z (467 + q)) = h
  have hh2 : ∀ q, q < 9 → h q = Z (467 + q) := fun q hq => by rw [← hh]; exact wr0 hq
  have h5 : aset (aset (aset μ 210 g) 205 Z) 211 h = aset (aset (aset μ 210 g) 211 h) 205 Z := aset_comm (by decide)
  rw [h5]
  have h6 : aw_loop (fun k s => f_X11_back_2 F 203 k s.1 s.2) F (0, aset (aset (aset μ 210 g) 211 h) 205 Z) = some (aset (aset (aset μ 210 g) 211 h) 205 (wr Z 455 519 (fun k => S (455 + k)))) := by
    refine lp_u (fun i => (nI i, aset (aset (aset μ 210 g) 211 h) 205 (wr Z 455 i (fun k => S (455 + k))))) 519 (by rw [wr_0]; rfl) ?_ ?_ (by omega)
    · intro i hi k
      show f_X11_back_2 F 203 k (nI i) (aset (aset (aset μ 210 g) 211 h) 205 _) = k (nI (i + 1), aset (aset (aset μ 210 g) 211 h) 205 _)
      unfold f_X11_back_2
      rw [if_neg (show ¬ (519 : Int32) ≤ nI i from nI_ge (b := 519) hi (by decide)), show (455 : Int32) + nI i = nI (455 + i) from nI_add 455 i, pI_in_t hi (by decide), pg_t, pI_in_t (by omega) (by decide), pg_t, plet, r22, rf203.2.1, nI_clamp (by omega), nI_clamp (by omega), rA_a (by decide), rA_a (by decide), rA_s, hg2 i hi, wI_wA, nI_1]
      rw [show S (455 + i) = (fun k => S (455 + k)) i from rfl, wr_s]
    · intro k
      show f_X11_back_2 F 203 k (nI 519) _ = _
      unfold f_X11_back_2
      rw [if_pos (show (519 : Int32) ≤ nI 519 by decide)]
  rw [h6, Option.bind_some, T_some]
  have hz : wr Z 455 519 (fun k => S (455 + k)) = S := by
    funext k
    by_cases hk : 455 ≤ k ∧ k < 974
    · rw [wr_in hk.1 (by omega)]
      have : 455 + (k - 455) = k := by omega
      show S (455 + (k - 455)) = S k
      rw [this]
    · rw [wr_out (by omega)]
      exact e3 k (by omega)
  rw [hz]
  refine ⟨fun a h1 h2 => ?_, rfl, fun q hq => ?_⟩
  · by_cases e : a = 205
    · subst e
      rw [rA_s]
      exact hS.symm
    · rw [rA_a e, rA_a h2, rA_a h1]
  · rw [rA_a (by decide), rA_s, hh2 q (by omega), e1 q hq]
