/-! a throw, as the reference's row S shows it -/
theorem qTM_ext {T : Nat → Nat → Nat} {S S' : Nat → Int32} (hw : qT0 T) (h3 : ∀ k, k < 427 → S' k = S k) (h : qTM T S) : qTM T S' := by
  have h1 := hw.1
  obtain ⟨g1, g2, g3, g4, g5, g6, g7⟩ := h
  refine ⟨?_, fun i hi => ?_, fun i hi => ?_, fun q hq => ?_, fun q hq => ?_, fun c hc => ?_, fun a ha => ?_⟩
  · rw [h3 _ (by omega), h3 _ (by omega), h3 _ (by omega), h3 _ (by omega)]; exact g1
  · rw [h3 _ (by omega)]; exact g2 i hi
  · rw [h3 _ (by omega)]; exact g3 i hi
  · rw [h3 _ (by omega), h3 _ (by omega), h3 _ (by omega)]; exact g4 q hq
  · rw [h3 _ (by omega)]; exact g5 q hq
  · rw [h3 _ (by omega), h3 _ (by omega), h3 _ (by omega), h3 _ (by omega)]; exact g6 c hc
  · rw [h3 _ (by omega), h3 _ (by omega), h3 _ (by omega)]; exact g7 a ha
theorem qPM_ext {P : Nat → Nat → Nat} {S S' : Nat → Int32} (h3 : ∀ k, 427 ≤ k → k < 455 → S' k = S k) (h : qPM P S) : qPM P S' := by
  refine ⟨?_, fun q hq => ?_⟩
  · rw [h3 _ (by omega) (by omega)]; exact h.1
  · rw [h3 _ (by omega) (by omega), h3 _ (by omega) (by omega), h3 _ (by omega) (by omega)]; exact h.2 q hq
def sOK (T P : Nat → Nat → Nat) (S : Nat → Int32) : Prop := qT0 T ∧ qPWF P (T 0 2) ∧ qTM T S ∧ qPM P S
theorem sOK.ext {T P : Nat → Nat → Nat} {S S' : Nat → Int32} (h : sOK T P S) (h3 : ∀ k, k < 455 → S' k = S k) : sOK T P S' :=
  ⟨h.1, h.2.1, qTM_ext h.1 (fun k hk => h3 k (by omega)) h.2.2.1, qPM_ext (fun k _ hk => h3 k hk) h.2.2.2⟩
theorem sOK.cell {T P : Nat → Nat → Nat} {S : Nat → Int32} (h : sOK T P S) {a : Nat} (ha : cellok T a) : a < 100 := by
  have := h.1.1
  unfold cellok at ha
  omega
theorem SW_0 {T : Nat → Nat → Nat} {d m n b : Nat} {S : Nat → Int32} (h : SW T d m n b S) : qF0 (gS S) ∧ qM0 T (gS S) S := by
  refine ⟨⟨trivial, fun q => ⟨cl_le _ _, cl_le _ _⟩, fun i => cl_le _ _, trivial⟩, trivial, fun q hq => ?_, trivial⟩
  obtain ⟨g1, g2, g3⟩ := h.2.1 q hq
  refine ⟨g1.eq (by decide), g2.eq (by decide), fun c hc => ?_⟩
  show S (494 + 20 * q + c) = nI (cl (S (494 + (20 * q + c))) 400)
  rw [← Nat.add_assoc]
  exact (g3 c hc).eq (by decide)
def sBar (T : Nat → Nat → Nat) (q c : Nat) : Bool := decide (3 ≤ dst (T 1 q) (T 6 c)) && decide (0 < nbr T 9 (T 6 c))
def sSeed (x : Int32) : Int32 := x * 1103515245 + 12345
def sDrw (x : Int32) : Int32 := (x.toUInt32 >>> ((8 : Int32).toUInt32 &&& Int32.toUInt32 31)).toInt32 - (x.toUInt32 >>> ((8 : Int32).toUInt32 &&& Int32.toUInt32 31)).toInt32 / 40 * 40
def sTell (n q c : Nat) (k h : Int32) (S : Nat → Int32) : Nat → Int32 := upd (upd (upd (upd (upd (upd (upd S (920 + 6 * n) (nI q)) (920 + 6 * n + 1) (nI c)) (920 + 6 * n + 2) k) (920 + 6 * n + 3) h) (920 + 6 * n + 4) 0) (920 + 6 * n + 5) 0) 919 (nI (n + 1))
def sUse (q c : Nat) (S : Nat → Int32) : Nat → Int32 := upd (upd (upd S (458 + q) (S (458 + q) - 1)) (494 + 20 * q + c) (S (494 + 20 * q + c) + 1)) 914 (S 914 + 1)
def sHit (T : Nat → Nat → Nat) (q c : Nat) (S : Nat → Int32) : Nat := hitN T (gS S) q c (dst (T 1 q) (T 6 c))
def sHitE (T : Nat → Nat → Nat) (n q c : Nat) (S : Nat → Int32) : Nat → Int32 := sTell n q c (if dst (T 1 q) (T 6 c) ≤ 2 then 3 else 4) (nI (sHit T q c S)) (upd (upd (sUse q c (upd S (485 + q) 0)) (714 + T 6 c) (S (714 + T 6 c) + 1)) (694 + c) (S (694 + c) + nI (sHit T q c S)))
def sThr2 (T P : Nat → Nat → Nat) (m n q c : Nat) (S : Nat → Int32) : Nat → Int32 := if P 2 q = 1 ∧ m % 2 = 1 then sTell n q c 2 0 (upd (upd S (485 + q) 2) 918 (S 918 + 1)) else sHitE T n q c S
def sSlip (T : Nat → Nat → Nat) (n q c : Nat) (S : Nat → Int32) : Nat → Int32 := sTell n q c 1 0 (upd (upd (sUse q c S) 916 (S 916 + 1)) (714 + T 1 q) (S (714 + T 1 q) + 1))
def sThrow (T P : Nat → Nat → Nat) (su : Bool) (m n q c : Nat) (S : Nat → Int32) : Nat → Int32 :=
  if sBar T q c = true then sTell n q c 0 0 (upd S 917 (S 917 + 1))
  else if su = false ∧ S (814 + T 1 q) = 0 then
    (if S (714 + T 1 q) ≤ sDrw (sSeed (S 457)) then sThr2 T P m n q c (upd S 457 (sSeed (S 457))) else sSlip T n q c (upd S 457 (sSeed (S 457))))
  else sThr2 T P m n q c S
theorem sUse_o {q c k : Nat} {S : Nat → Int32} (h1 : k ≠ 458 + q) (h2 : k ≠ 494 + 20 * q + c) (h3 : k ≠ 914) : sUse q c S k = S k := by
  unfold sUse
  rw [pk_un h3, pk_un h2, pk_un h1]
theorem tell_m {F n q c : Nat} {k h : Int32} {μ : aw_M} {S : Nat → Int32} (hn : n ≤ 8) (e : S 919 = nI n) : f_X11_throwsAt_265 F 203 (nI q) (nI c) k h (aset μ 205 S) = some (aset μ 205 (sTell n q c k h S)) := by
  unfold f_X11_throwsAt_265 sTell
  have i9 : aw_in 919 1155 = true := by decide
  have c9 : (919 : Int32).toNatClampNeg = 919 := by decide
  have e0 : (920 : Int32) + 6 * nI n = nI (920 + 6 * n) := by simp (disch := omega) only [pI_lit, nI_add, nI_clamp, nI_leI, nI_ltI, nI_eq, pk_mul]
  have e1 : nI (920 + 6 * n) + 1 = nI (920 + 6 * n + 1) := nI_add _ 1
  have e2 : nI (920 + 6 * n) + 2 = nI (920 + 6 * n + 2) := nI_add _ 2
  have e3 : nI (920 + 6 * n) + 3 = nI (920 + 6 * n + 3) := nI_add _ 3
  have e4 : nI (920 + 6 * n) + 4 = nI (920 + 6 * n + 4) := nI_add _ 4
  have e5 : nI (920 + 6 * n) + 5 = nI (920 + 6 * n + 5) := nI_add _ 5
  simp (disch := omega) only [i9, pg_t, plet, rf203.2.1, c9, rA_s, e, e0, e1, e2, e3, e4, e5, pI_in_t, nI_clamp, wI_wA, pk_un, nI_1]
theorem uses_m {F q c : Nat} {μ : aw_M} {S : Nat → Int32} (hq : q < 9) (hc : c < 20) : f_X11_uses F 203 (nI q) (nI c) (aset μ 205 S) = some (aset μ 205 (sUse q c S)) := by
  unfold f_X11_uses sUse
  have i9 : aw_in 914 1155 = true := by decide
  have c9 : (914 : Int32).toNatClampNeg = 914 := by decide
  have e0 : (494 : Int32) + 20 * nI q + nI c = nI (494 + 20 * q + c) := by simp (disch := omega) only [pI_lit, nI_add, nI_clamp, nI_leI, nI_ltI, nI_eq, pk_mul]
  have e1 : (458 : Int32) + nI q = nI (458 + q) := nI_add 458 q
  simp (disch := omega) only [i9, pg_t, plet, rf203.2.1, c9, rA_s, e0, e1, pI_in_t, nI_clamp, wI_wA, pk_un]
theorem draw_m {F : Nat} {μ : aw_M} {S : Nat → Int32} : f_X11_draw F 203 40 (aset μ 205 S) = some (sDrw (sSeed (S 457)), aset μ 205 (upd S 457 (sSeed (S 457)))) := by
  unfold f_X11_draw sDrw sSeed
  have i9 : aw_in 457 1155 = true := by decide
  have i0 : aw_nz 40 = true := by decide
  have c9 : (457 : Int32).toNatClampNeg = 457 := by decide
  simp only [i9, i0, pg_t, plet, rf203.2.1, c9, rA_s, wI_wA, pk_us]
theorem hitE_m {F q c d m n b : Nat} {T P : Nat → Nat → Nat} {μ : aw_M} {S : Nat → Int32} (ok : sOK T P S) (hw : SW T d m n b S) (hn : n ≤ 8) (hq : q < T 0 2) (hc : c < T 0 3) : f_X11_throwsAt_178 F 203 (nI q) (nI c) (nI (T 1 q)) (aset μ 205 S) = some (aset μ 205 (sHitE T n q c S)) := by
  have hnq := ok.1.1.2.2.1
  have hnc := ok.1.1.2.2.2
  have h1 := ok.cell (ok.1.2.1 q hq).1
  have h6 := ok.cell (ok.1.2.2.2.1 c hc).2.1
  have hd := dst_le h1 h6
  obtain ⟨w1, w2⟩ := SW_0 hw
  have tm' : qTM T ((aset μ 205 S).1 205) := by rw [rA_s]; exact ok.2.2.1
  have w2' : qM0 T (gS S) ((aset μ 205 S).1 205) := by rw [rA_s]; exact w2
  have t6 := (ok.2.2.1.2.2.2.2.2.1 c hc).2.1
  have e67 : (67 : Int32) + nI c = nI (67 + c) := nI_add 67 c
  have e485 : (485 : Int32) + nI q = nI (485 + q) := nI_add 485 q
  have e694 : (694 : Int32) + nI c = nI (694 + c) := nI_add 694 c
  have e714 : (714 : Int32) + nI (T 6 c) = nI (714 + T 6 c) := nI_add 714 _
  have e919 := hw.1.2.2
  have e2 : (2 : Int32) = nI 2 := rfl
  have key : ∀ z : Int32, f_X11_throwsAt_201 F 203 (nI q) (nI c) z (aset μ 205 S) = some (aset μ 205 (sTell n q c z (nI (sHit T q c S)) (upd (upd (sUse q c (upd S (485 + q) 0)) (714 + T 6 c) (S (714 + T 6 c) + 1)) (694 + c) (S (694 + c) + nI (sHit T q c S))))) := fun z => by
    unfold f_X11_throwsAt_201 sHit
    rw [hitOf_m0 ok.1 w1 tm' w2' hq hc]
    simp (disch := omega) only [Option.bind_some, e485, e67, pI_in_t, pg_t, plet, rf203.2.1, nI_clamp, wI_wA, uses_m, rA_s, sUse_o, pk_un, t6, e714, e694]
    rw [tell_m hn (by simp (disch := omega) only [pk_un, sUse_o]; exact e919)]
  unfold f_X11_throwsAt_178 sHitE
  rw [e67, pI_in_t (by omega) (by decide), pg_t, rf203.2.1, nI_clamp (by omega), rA_s, t6, apart_eq (by omega) (by omega), Option.bind_some, e2]
  by_cases k : 2 < dst (T 1 q) (T 6 c)
  · rw [if_pos (nI_lt k (by omega)), if_neg (by omega), key]
  · rw [if_neg (nI_nlt (by omega) (by omega)), if_pos (by omega), key]
theorem thr2_m {F q c d m n b : Nat} {T P : Nat → Nat → Nat} {μ : aw_M} {S : Nat → Int32} (ok : sOK T P S) (hw : SW T d m n b S) (hm : m ≤ 240) (hn : n ≤ 8) (hq : q < T 0 2) (hc : c < T 0 3) : f_X11_throwsAt_121 F 203 (nI q) (nI c) false (nI (T 1 q)) (aset μ 205 S) = some (aset μ 205 (sThr2 T P m n q c S)) := by
  have hnq := ok.1.1.2.2.1
  have p2 := (ok.2.2.2.2 q (by omega)).2.2
  have hp := (ok.2.1 q).2.2.1
  have e445 : (445 : Int32) + nI q = nI (445 + q) := nI_add 445 q
  have e485 : (485 : Int32) + nI q = nI (485 + q) := nI_add 485 q
  have i456 : aw_in 456 1155 = true := by decide
  have c456 : (456 : Int32).toNatClampNeg = 456 := by decide
  have i918 : aw_in 918 1155 = true := by decide
  have c918 : (918 : Int32).toNatClampNeg = 918 := by decide
  have hb : aw_b false = 0 := rfl
  have e2 : (2 : Int32) = nI 2 := rfl
  have e1 : (1 : Int32) = nI 1 := rfl
  unfold f_X11_throwsAt_121 sThr2
  rw [e445, pI_in_t (by omega) (by decide), pg_t, rf203.2.1, nI_clamp (by omega), rA_s, p2]
  by_cases k : P 2 q = 1
  · rw [if_pos (show nI (P 2 q) = 1 by rw [k]; decide), i456, pg_t, c456, hw.1.2.1]
    have hmod : nI m - nI m / 2 * 2 = nI (m % 2) := by rw [e2, nI_mod (by omega) (by decide)]
    rw [hmod]
    by_cases k2 : m % 2 = 1
    · rw [if_pos (show nI (m % 2) = 1 by rw [k2]; decide), if_pos ⟨k, k2⟩, e485, pI_in_t (by omega) (by decide), pg_t, plet, i918, pg_t, pg_t, plet, nI_clamp (by omega), c918, wI_wA, rA_s, wI_wA, pk_un (by omega), hb, tell_m hn (by simp (disch := omega) only [pk_un]; exact hw.1.2.2)]
    · rw [if_neg (show ¬ nI (m % 2) = 1 by rw [e1, nI_eq (by omega) (by decide)]; exact k2), if_neg (fun h => k2 h.2), hitE_m ok hw hn hq hc]
  · rw [if_neg (show ¬ nI (P 2 q) = 1 by rw [e1, nI_eq (by omega) (by decide)]; exact k), if_neg (fun h => k h.1), hitE_m ok hw hn hq hc]
theorem SW_457 {T : Nat → Nat → Nat} {d m n b : Nat} {v : Int32} {S : Nat → Int32} (h : SW T d m n b S) (hw : qT0 T) : SW T d m n b (upd S 457 v) := by
  have h1 := hw.1
  obtain ⟨⟨g1, g2, g3⟩, g4, g5, g6⟩ := h
  refine ⟨⟨?_, ?_, ?_⟩, fun q hq => ⟨?_, ?_, fun c hc => ?_⟩, fun c hc => ?_, fun a ha => ⟨?_, ?_⟩⟩
  · rw [pk_un (by omega)]; exact g1
  · rw [pk_un (by omega)]; exact g2
  · rw [pk_un (by omega)]; exact g3
  · rw [pk_un (by omega)]; exact (g4 q hq).1
  · rw [pk_un (by omega)]; exact (g4 q hq).2.1
  · rw [pk_un (by omega)]; exact (g4 q hq).2.2 c hc
  · rw [pk_un (by omega)]; exact g5 c hc
  · rw [pk_un (by omega)]; exact (g6 a ha).1
  · rw [pk_un (by omega)]; exact (g6 a ha).2
theorem throwsAt_m {F q c d m n b : Nat} {su : Bool} {T P : Nat → Nat → Nat} {μ : aw_M} {S : Nat → Int32} (hF : 100 ≤ F) (ok : sOK T P S) (hw : SW T d m n b S) (hm : m ≤ 240) (hn : n ≤ 8) (hq : q < T 0 2) (hc : c < T 0 3) : f_X11_throwsAt F 203 (nI q) (nI c) (aw_b su) (aset μ 205 S) = some (aset μ 205 (sThrow T P su m n q c S)) := by
  have hnq := ok.1.1.2.2.1
  have hnc := ok.1.1.2.2.2
  have h1 := ok.cell (ok.1.2.1 q hq).1
  have tm' : qTM T ((aset μ 205 S).1 205) := by rw [rA_s]; exact ok.2.2.1
  have t1 := (ok.2.2.1.2.2.2.1 q hq).1
  have e11 : (11 : Int32) + nI q = nI (11 + q) := nI_add 11 q
  have e814 : (814 : Int32) + nI (T 1 q) = nI (814 + T 1 q) := nI_add 814 _
  have e714 : (714 : Int32) + nI (T 1 q) = nI (714 + T 1 q) := nI_add 714 _
  have i917 : aw_in 917 1155 = true := by decide
  have c917 : (917 : Int32).toNatClampNeg = 917 := by decide
  have i916 : aw_in 916 1155 = true := by decide
  have c916 : (916 : Int32).toNatClampNeg = 916 := by decide
  unfold f_X11_throwsAt sThrow
  rw [e11, pI_in_t (by omega) (by decide), pg_t, plet, rf203.2.1, nI_clamp (by omega), isBarred_m0 hF ok.1 tm' hq hc, rA_s, t1, Option.bind_some]
  by_cases k : sBar T q c = true
  · have k' : (decide (3 ≤ dst (T 1 q) (T 6 c)) && decide (0 < nbr T 9 (T 6 c))) = true := k
    rw [if_pos k', if_pos k, i917, pg_t, pg_t, plet, c917, wI_wA, rA_s, ← nI_0, tell_m hn (by simp (disch := omega) only [pk_un]; exact hw.1.2.2)]
  · have k' : ¬ (decide (3 ≤ dst (T 1 q) (T 6 c)) && decide (0 < nbr T 9 (T 6 c))) = true := k
    rw [if_neg k', if_neg k]
    cases su with
    | true =>
      rw [if_neg (show ¬ aw_b true = 0 by decide), if_neg (fun h => Bool.noConfusion h.1), thr2_m ok hw hm hn hq hc]
    | false =>
      rw [if_pos (show aw_b false = 0 by decide), e814, pI_in_t (by omega) (by decide), pg_t, nI_clamp (by omega), rA_s]
      by_cases k2 : S (814 + T 1 q) = 0
      · rw [if_pos k2, if_pos ⟨rfl, k2⟩, draw_m, Option.bind_some, e714, pI_in_t (by omega) (by decide), pg_t, nI_clamp (by omega), rA_s, pk_un (by omega)]
        have ok' : sOK T P (upd S 457 (sSeed (S 457))) := ok.ext fun k hk => pk_un (by omega)
        by_cases k3 : S (714 + T 1 q) ≤ sDrw (sSeed (S 457))
        · rw [if_pos k3, if_pos k3, thr2_m ok' (SW_457 hw ok.1) hm hn hq hc]
        · rw [if_neg k3, if_neg k3]
          unfold sSlip
          simp (disch := omega) only [uses_m, Option.bind_some, i916, pg_t, plet, c916, wI_wA, rA_s, sUse_o, pk_un, pI_in_t, nI_clamp]
          rw [tell_m hn (by simp (disch := omega) only [pk_un, sUse_o]; exact hw.1.2.2)]
      · rw [if_neg k2, if_neg (fun h => k2 h.2), thr2_m ok hw hm hn hq hc]
