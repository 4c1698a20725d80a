/-! what a throw keeps -/
theorem SW_upd {T : Nat → Nat → Nat} {d m n b k : Nat} {v : Int32} {S : Nat → Int32} (hw : qT0 T) (h : SW T d m n b S) (hv : (k = 455 → v = nI d) ∧ (k = 456 → v = nI m) ∧ (k = 919 → v = nI n) ∧ (458 ≤ k → k < 467 → inB v 400) ∧ (485 ≤ k → k < 494 → inB v 2) ∧ (494 ≤ k → k < 694 → inB v 400) ∧ (714 ≤ k → k < 814 → inB v b) ∧ (814 ≤ k → k < 914 → inB v 1)) : SW T d m n b (upd S k v) := by
  have h1 := hw.1
  obtain ⟨⟨g1, g2, g3⟩, g4, g5, g6⟩ := h
  obtain ⟨v1, v2, v3, v4, v5, v6, v7, v8⟩ := hv
  have key : ∀ (j : Nat) (X : Int32 → Prop), X (S j) → (k = j → X v) → X (upd S k v j) := fun j X hx hv => by
    by_cases e : j = k
    · subst e; rw [pk_us]; exact hv rfl
    · rw [pk_un e]; exact hx
  refine ⟨⟨key 455 (fun x => x = nI d) g1 v1, key 456 (fun x => x = nI m) g2 v2, key 919 (fun x => x = nI n) g3 v3⟩, fun q hq => ⟨key _ (fun x => inB x 400) (g4 q hq).1 fun e => v4 (by omega) (by omega), key _ (fun x => inB x 2) (g4 q hq).2.1 fun e => v5 (by omega) (by omega), fun c hc => key _ (fun x => inB x 400) ((g4 q hq).2.2 c hc) fun e => v6 (by omega) (by omega)⟩, fun c hc => key _ (fun x => inB x 400) (g5 c hc) fun e => v6 (by omega) (by omega), fun a ha => ⟨key _ (fun x => inB x b) (g6 a ha).1 fun e => v7 (by omega) (by omega), key _ (fun x => inB x 1) (g6 a ha).2 fun e => v8 (by omega) (by omega)⟩⟩
theorem SW_uo {T : Nat → Nat → Nat} {d m n b k : Nat} {v : Int32} {S : Nat → Int32} (hw : qT0 T) (hk : k < 455 ∨ k = 457 ∨ (467 ≤ k ∧ k < 485) ∨ (694 ≤ k ∧ k < 714) ∨ (914 ≤ k ∧ k < 919) ∨ 920 ≤ k) (h : SW T d m n b S) : SW T d m n b (upd S k v) :=
  SW_upd hw h ⟨fun e => absurd e (by omega), fun e => absurd e (by omega), fun e => absurd e (by omega), fun e e2 => absurd e (by omega), fun e e2 => absurd e (by omega), fun e e2 => absurd e (by omega), fun e e2 => absurd e (by omega), fun e e2 => absurd e (by omega)⟩
theorem SW_ub {T : Nat → Nat → Nat} {d m n b k : Nat} {v : Int32} {S : Nat → Int32} (hw : qT0 T) (hk : (458 ≤ k ∧ k < 467) ∨ (494 ≤ k ∧ k < 694)) (hv : inB v 400) (h : SW T d m n b S) : SW T d m n b (upd S k v) :=
  SW_upd hw h ⟨fun e => absurd e (by omega), fun e => absurd e (by omega), fun e => absurd e (by omega), fun e e2 => hv, fun e e2 => absurd e (by omega), fun e e2 => hv, fun e e2 => absurd e (by omega), fun e e2 => absurd e (by omega)⟩
theorem SW_um {T : Nat → Nat → Nat} {d m n b k : Nat} {v : Int32} {S : Nat → Int32} (hw : qT0 T) (hk : 485 ≤ k ∧ k < 494) (hv : inB v 2) (h : SW T d m n b S) : SW T d m n b (upd S k v) :=
  SW_upd hw h ⟨fun e => absurd e (by omega), fun e => absurd e (by omega), fun e => absurd e (by omega), fun e e2 => absurd e (by omega), fun e e2 => hv, fun e e2 => absurd e (by omega), fun e e2 => absurd e (by omega), fun e e2 => absurd e (by omega)⟩
theorem SW_up {T : Nat → Nat → Nat} {d m n b k : Nat} {v : Int32} {S : Nat → Int32} (hw : qT0 T) (hk : 714 ≤ k ∧ k < 814) (hv : inB v b) (h : SW T d m n b S) : SW T d m n b (upd S k v) :=
  SW_upd hw h ⟨fun e => absurd e (by omega), fun e => absurd e (by omega), fun e => absurd e (by omega), fun e e2 => absurd e (by omega), fun e e2 => absurd e (by omega), fun e e2 => absurd e (by omega), fun e e2 => hv, fun e e2 => absurd e (by omega)⟩
theorem SW.mono {T : Nat → Nat → Nat} {d m n b b' : Nat} {S : Nat → Int32} (h : SW T d m n b S) (hb : b ≤ b') : SW T d m n b' S :=
  ⟨h.1, h.2.1, h.2.2.1, fun a ha => ⟨(h.2.2.2 a ha).1.mono hb, (h.2.2.2 a ha).2⟩⟩
theorem SW_un {T : Nat → Nat → Nat} {d m n n' b : Nat} {S : Nat → Int32} (hw : qT0 T) (h : SW T d m n b S) : SW T d m n' b (upd S 919 (nI n')) := by
  have h1 := hw.1
  obtain ⟨⟨g1, g2, g3⟩, g4, g5, g6⟩ := h
  refine ⟨⟨?_, ?_, pk_us⟩, fun q hq => ⟨?_, ?_, fun c hc => ?_⟩, fun c hc => ?_, fun a ha => ⟨?_, ?_⟩⟩
  · rw [pk_un (by omega)]; exact g1
  · rw [pk_un (by omega)]; exact g2
  · rw [pk_un (by omega)]; exact (g4 q hq).1
  · rw [pk_un (by omega)]; exact (g4 q hq).2.1
  · rw [pk_un (by omega)]; exact (g4 q hq).2.2 c hc
  · rw [pk_un (by omega)]; exact g5 c hc
  · rw [pk_un (by omega)]; exact (g6 a ha).1
  · rw [pk_un (by omega)]; exact (g6 a ha).2
/-- the throws told so far -/
def TL (T : Nat → Nat → Nat) (n : Nat) (S : Nat → Int32) : Prop := ∀ k, k < n → ∃ q c, q < T 0 2 ∧ c < T 0 3 ∧ S (920 + 6 * k) = nI q ∧ S (920 + 6 * k + 1) = nI c ∧ inB (S (920 + 6 * k + 2)) 4 ∧ inB (S (920 + 6 * k + 3)) 30
theorem TL.ext {T : Nat → Nat → Nat} {n : Nat} {S S' : Nat → Int32} (hn : n ≤ 9) (h : TL T n S) (e : ∀ k, 920 ≤ k → k < 974 → S' k = S k) : TL T n S' := by
  intro k hk
  obtain ⟨q, c, h1, h2, h3, h4, h5, h6⟩ := h k hk
  refine ⟨q, c, h1, h2, ?_, ?_, ?_, ?_⟩
  · rw [e _ (by omega) (by omega)]; exact h3
  · rw [e _ (by omega) (by omega)]; exact h4
  · rw [e _ (by omega) (by omega)]; exact h5
  · rw [e _ (by omega) (by omega)]; exact h6
theorem sTell_f {n q c : Nat} {k h : Int32} {S : Nat → Int32} (hn : n ≤ 8) : (∀ j, j ≠ 919 → (j < 920 + 6 * n ∨ 920 + 6 * n + 6 ≤ j) → sTell n q c k h S j = S j) ∧ sTell n q c k h S 919 = nI (n + 1) ∧ sTell n q c k h S (920 + 6 * n) = nI q ∧ sTell n q c k h S (920 + 6 * n + 1) = nI c ∧ sTell n q c k h S (920 + 6 * n + 2) = k ∧ sTell n q c k h S (920 + 6 * n + 3) = h ∧ sTell n q c k h S (920 + 6 * n + 4) = 0 ∧ sTell n q c k h S (920 + 6 * n + 5) = 0 := by
  unfold sTell
  refine ⟨fun j h1 h2 => ?_, pk_us, ?_, ?_, ?_, ?_, ?_, ?_⟩ <;> simp (disch := omega) only [pk_un, pk_us]
theorem tell_k {T : Nat → Nat → Nat} {d m n b q c : Nat} {k h : Int32} {S : Nat → Int32} (hw : qT0 T) (hn : n ≤ 8) (hs : SW T d m n b S) (ht : TL T n S) (hq : q < T 0 2) (hc : c < T 0 3) (hk : inB k 4) (hh : inB h 30) : SW T d m (n + 1) b (sTell n q c k h S) ∧ TL T (n + 1) (sTell n q c k h S) := by
  obtain ⟨f1, f2, f3, f4, f5, f6, -⟩ := sTell_f (n := n) (q := q) (c := c) (k := k) (h := h) (S := S) hn
  constructor
  · unfold sTell
    exact SW_un hw (SW_uo hw (by omega) (SW_uo hw (by omega) (SW_uo hw (by omega) (SW_uo hw (by omega) (SW_uo hw (by omega) (SW_uo hw (by omega) hs))))))
  · intro j hj
    by_cases e : j = n
    · subst e
      exact ⟨q, c, hq, hc, f3, f4, by rw [f5]; exact hk, by rw [f6]; exact hh⟩
    · obtain ⟨q, c, h1, h2, h3, h4, h5, h6⟩ := ht j (by omega)
      refine ⟨q, c, h1, h2, ?_, ?_, ?_, ?_⟩
      · rw [f1 _ (by omega) (by omega)]; exact h3
      · rw [f1 _ (by omega) (by omega)]; exact h4
      · rw [f1 _ (by omega) (by omega)]; exact h5
      · rw [f1 _ (by omega) (by omega)]; exact h6
theorem inB_s {x : Int32} {B : Nat} (h : inB x B) : inB (x + 1) (B + 1) := by
  obtain ⟨b, hb, rfl⟩ := h
  rw [nI_1]
  exact ⟨b + 1, by omega, rfl⟩
/-- may the quarter throw at the cart: it has a box, and has not used all there -/
def may (q c : Nat) (S : Nat → Int32) : Prop := (∃ b, 1 ≤ b ∧ b ≤ 400 ∧ S (458 + q) = nI b) ∧ inB (S (494 + 20 * q + c)) 399
theorem may.ext {q c : Nat} {S S' : Nat → Int32} (h : may q c S) (h1 : S' (458 + q) = S (458 + q)) (h2 : S' (494 + 20 * q + c) = S (494 + 20 * q + c)) : may q c S' := by
  unfold may
  rw [h1, h2]
  exact h
theorem use_k {T : Nat → Nat → Nat} {d m n b q c : Nat} {S : Nat → Int32} (hw : qT0 T) (hs : SW T d m n b S) (hq : q < T 0 2) (hc : c < T 0 3) (hy : may q c S) : SW T d m n b (sUse q c S) := by
  have h1 := hw.1
  obtain ⟨⟨x, x1, x2, x3⟩, y⟩ := hy
  unfold sUse
  refine SW_uo hw (by omega) (SW_ub hw (by omega) (inB_s y) (SW_ub hw (by omega) ⟨x - 1, by omega, ?_⟩ hs))
  rw [x3]
  exact nI_sub (b := 1) x1
theorem hit_le {T : Nat → Nat → Nat} {q c : Nat} {S : Nat → Int32} (hw : qT0 T) (hq : q < T 0 2) : sHit T q c S ≤ 30 := by
  have h3 := (hw.2.1 q hq).2.2.2.1
  have h6 : gS S 6 q ≤ 2 := cl_le _ _
  unfold sHit hitN
  split <;> omega
theorem throw_k {T P : Nat → Nat → Nat} {su : Bool} {d m n b q c : Nat} {S : Nat → Int32} (ok : sOK T P S) (hn : n ≤ 8) (hs : SW T d m n b S) (ht : TL T n S) (hq : q < T 0 2) (hc : c < T 0 3) (hy : may q c S) : SW T d m (n + 1) (b + 1) (sThrow T P su m n q c S) ∧ TL T (n + 1) (sThrow T P su m n q c S) := by
  have hw := ok.1
  have h1 := hw.1
  have g1 := ok.cell (ok.1.2.1 q hq).1
  have g6 := ok.cell (ok.1.2.2.2.1 c hc).2.1
  have b0 : inB 0 4 := inB_0
  have b0' : inB 0 30 := inB_0
  have b1 : inB 1 4 := ⟨1, by decide, rfl⟩
  have b2 : inB 2 4 := ⟨2, by decide, rfl⟩
  have b2' : inB 2 2 := ⟨2, by decide, rfl⟩
  have b3 : inB (if dst (T 1 q) (T 6 c) ≤ 2 then 3 else 4) 4 := by
    split
    · exact ⟨3, by decide, rfl⟩
    · exact ⟨4, by decide, rfl⟩
  have hit : ∀ S0, SW T d m n b S0 → TL T n S0 → may q c S0 → SW T d m (n + 1) (b + 1) (sHitE T n q c S0) ∧ TL T (n + 1) (sHitE T n q c S0) := fun S0 hs ht hy => by
    unfold sHitE
    refine tell_k hw hn ?_ ?_ hq hc b3 (inB_nI (hit_le hw hq))
    · refine SW_uo hw (by omega) (SW_up hw (by omega) (inB_s (hs.2.2.2 _ g6).1) ((use_k hw (SW_um hw (by omega) inB_0 hs) hq hc ?_).mono (by omega)))
      exact hy.ext (pk_un (by omega)) (pk_un (by omega))
    · refine ht.ext (by omega) fun k h1 h2 => ?_
      simp (disch := omega) only [pk_un, sUse_o]
  have thr2 : ∀ S0, SW T d m n b S0 → TL T n S0 → may q c S0 → SW T d m (n + 1) (b + 1) (sThr2 T P m n q c S0) ∧ TL T (n + 1) (sThr2 T P m n q c S0) := fun S0 hs ht hy => by
    unfold sThr2
    split
    · refine tell_k hw hn ?_ ?_ hq hc b2 b0'
      · exact (SW_uo hw (by omega) (SW_um hw (by omega) b2' hs)).mono (by omega)
      · exact ht.ext (by omega) fun k h1 h2 => by simp (disch := omega) only [pk_un]
    · exact hit S0 hs ht hy
  unfold sThrow
  split
  · refine tell_k hw hn ((SW_uo hw (by omega) hs).mono (by omega)) ?_ hq hc b0 b0'
    exact ht.ext (by omega) fun k h1 h2 => by simp (disch := omega) only [pk_un]
  · split
    · have hs' := SW_457 (v := sSeed (S 457)) hs hw
      have ht' : TL T n (upd S 457 (sSeed (S 457))) := ht.ext (by omega) fun k h1 h2 => pk_un (by omega)
      have hy' : may q c (upd S 457 (sSeed (S 457))) := hy.ext (pk_un (by omega)) (pk_un (by omega))
      split
      · exact thr2 _ hs' ht' hy'
      · unfold sSlip
        refine tell_k hw hn ?_ ?_ hq hc b1 b0'
        · exact SW_up hw (by omega) (inB_s (hs'.2.2.2 _ g1).1) ((SW_uo hw (by omega) (use_k hw hs' hq hc hy')).mono (by omega))
        · exact ht'.ext (by omega) fun k h1 h2 => by simp (disch := omega) only [pk_un, sUse_o]
    · exact thr2 _ hs ht hy
theorem throw_o {T P : Nat → Nat → Nat} {su : Bool} {m n q c k : Nat} {S : Nat → Int32} (ok : sOK T P S) (hn : n ≤ 8) (hq : q < T 0 2) (hc : c < T 0 3) (hk : k < 457 ∨ 974 ≤ k ∨ (814 ≤ k ∧ k < 914)) : sThrow T P su m n q c S k = S k := by
  have h1 := ok.1.1
  have g1 := ok.cell (ok.1.2.1 q hq).1
  have g6 := ok.cell (ok.1.2.2.2.1 c hc).2.1
  unfold sThrow sThr2 sHitE sSlip
  split
  · rw [(sTell_f hn).1 _ (by omega) (by omega), pk_un (by omega)]
  · split
    · split
      · split
        · rw [(sTell_f hn).1 _ (by omega) (by omega), pk_un (by omega), pk_un (by omega), pk_un (by omega)]
        · rw [(sTell_f hn).1 _ (by omega) (by omega), pk_un (by omega), pk_un (by omega), sUse_o (by omega) (by omega) (by omega), pk_un (by omega), pk_un (by omega)]
      · rw [(sTell_f hn).1 _ (by omega) (by omega), pk_un (by omega), pk_un (by omega), sUse_o (by omega) (by omega) (by omega), pk_un (by omega)]
    · split
      · rw [(sTell_f hn).1 _ (by omega) (by omega), pk_un (by omega), pk_un (by omega)]
      · rw [(sTell_f hn).1 _ (by omega) (by omega), pk_un (by omega), pk_un (by omega), sUse_o (by omega) (by omega) (by omega), pk_un (by omega)]
