/-! a whole minute of the reference -/
def sTick (d m : Nat) (S : Nat → Int32) : Nat → Int32 := if m + 1 < 240 then upd S 456 (nI (m + 1)) else if d + 1 = 3 then upd (upd S 456 (nI (m + 1))) 455 (nI (d + 1)) else sDay0 (wr (upd (upd (upd S 456 (nI (m + 1))) 455 (nI (d + 1))) 456 0) 714 100 (fun _ => 0))
def sPlay (T P : Nat → Nat → Nat) (su : Bool) (m : Nat) (S : Nat → Int32) : Nat → Int32 := sFold T m (List.range (T 0 3)) (sMks T (cl (sQs T P su m (T 0 2) S 919) 9) (cl (sQs T P su m (T 0 2) S 919) 9) (sQs T P su m (T 0 2) S))
def sMin (T P : Nat → Nat → Nat) (su : Bool) (d m : Nat) (S : Nat → Int32) : Nat → Int32 := sTick d m (sDre (sPlay T P su m (upd S 919 0)) (drn T))
theorem sPlay_k {T P : Nat → Nat → Nat} {su : Bool} {d m b : Nat} {S : Nat → Int32} (ok : sOK T P S) (hs : SW T d m 0 b S) : ∃ n, n ≤ 9 ∧ SW T d m n (b + 49) (sPlay T P su m S) ∧ (∀ k, k < 457 ∨ 974 ≤ k ∨ (814 ≤ k ∧ k < 914) → sPlay T P su m S k = S k) := by
  have hnq := ok.1.1.2.2.1
  have hnc := ok.1.1.2.2.2
  obtain ⟨n, h1, h2, h3, h4⟩ := sQs_k (su := su) ok hs (T 0 2) (Nat.le_refl _)
  have e : cl (sQs T P su m (T 0 2) S 919) 9 = n := by rw [h2.1.2.2, cl_nI (by omega) (by decide)]
  unfold sPlay
  rw [e]
  generalize sQs T P su m (T 0 2) S = X at h2 h3 h4
  have ok1 : sOK T P X := ok.ext fun k hk => h4 k (by omega)
  obtain ⟨g1, g2, g3⟩ := sMks_k ok1 (by omega) h2 h3 n (Nat.le_refl _)
  generalize sMks T n n X = Y at g1 g2 g3
  have ok2 : sOK T P Y := ok1.ext fun k hk => g3 k (by omega)
  obtain ⟨f1, f2⟩ := sFold_k (List.range (T 0 3)) (b + T 0 2) Y ok2 g1 (fun c hc => List.mem_range.1 hc)
  rw [List.length_range] at f1
  exact ⟨n, by omega, f1.mono (by omega), fun k hk => by rw [f2 k (by omega), g3 k (by omega), h4 k (by omega)]⟩
theorem SW_dre {T : Nat → Nat → Nat} {d m n b : Nat} {e : Nat → Nat} {S : Nat → Int32} (hw : qT0 T) (hb : b < 2 ^ 31) (h : SW T d m n b S) : SW T d m n b (sDre S e) := by
  have h1 := hw.1
  obtain ⟨⟨g1, g2, g3⟩, g4, g5, g6⟩ := h
  refine ⟨⟨?_, ?_, ?_⟩, fun q hq => ⟨?_, ?_, fun c hc => ?_⟩, fun c hc => ?_, fun a ha => ⟨?_, ?_⟩⟩
  · rw [sDre_o (by omega)]; exact g1
  · rw [sDre_o (by omega)]; exact g2
  · rw [sDre_o (by omega)]; exact g3
  · rw [sDre_o (by omega)]; exact (g4 q hq).1
  · rw [sDre_o (by omega)]; exact (g4 q hq).2.1
  · rw [sDre_o (by omega)]; exact (g4 q hq).2.2 c hc
  · rw [sDre_o (by omega)]; exact g5 c hc
  · obtain ⟨p, hp, e1⟩ := (g6 a ha).1
    rw [sDre_p ha, e1, nI_clamp (by omega)]
    exact inB_nI (by omega)
  · rw [sDre_o (by omega)]; exact (g6 a ha).2
def nxd (d m : Nat) : Nat := if m + 1 < 240 then d else d + 1
def nxm (d m : Nat) : Nat := if m + 1 < 240 then m + 1 else if d + 1 = 3 then 240 else 0
theorem sDay0_f {S : Nat → Int32} : (∀ k, (k < 494 ∨ 694 ≤ k) → sDay0 S k = S k) ∧ (∀ k, k < 180 → sDay0 S (494 + k) = 0) ∧ (∀ c, c < 20 → sDay0 S (674 + c) = S (87 + c)) := by
  unfold sDay0
  refine ⟨fun k hk => ?_, fun k hk => ?_, fun c hc => ?_⟩
  · rw [wr_out (by omega), wr_out (by omega)]
  · rw [wr_at hk]
  · rw [wr_out (by omega), wr_at hc]
theorem tick_k {T P : Nat → Nat → Nat} {d m n b : Nat} {S : Nat → Int32} (ok : sOK T P S) (hd : d < 3) (hm : m < 240) (hn : n ≤ 9) (h : SW T d m n b S) (hb : b ≤ 60 * (m + 1)) : SW T (nxd d m) (nxm d m) n (60 * nxm d m) (sTick d m S) ∧ dmn (nxd d m) (nxm d m) n ∧ (∀ k, k < 455 ∨ 974 ≤ k ∨ (814 ≤ k ∧ k < 914) → sTick d m S k = S k) := by
  have hw := ok.1
  have h1 := hw.1
  have tm := ok.2.2.1
  obtain ⟨⟨g1, g2, g3⟩, g4, g5, g6⟩ := h
  unfold sTick nxd nxm dmn
  by_cases k1 : m + 1 < 240
  · simp only [if_pos k1]
    refine ⟨⟨⟨?_, pk_us, ?_⟩, fun q hq => ⟨?_, ?_, fun c hc => ?_⟩, fun c hc => ?_, fun a ha => ⟨?_, ?_⟩⟩, ?_, fun k hk => pk_un (by omega)⟩
    · rw [pk_un (by omega)]; exact g1
    · rw [pk_un (by omega)]; exact g3
    · rw [pk_un (by omega)]; exact (g4 q hq).1
    · rw [pk_un (by omega)]; exact (g4 q hq).2.1
    · rw [pk_un (by omega)]; exact (g4 q hq).2.2 c hc
    · rw [pk_un (by omega)]; exact g5 c hc
    · rw [pk_un (by omega)]; exact (g6 a ha).1.mono hb
    · rw [pk_un (by omega)]; exact (g6 a ha).2
    · omega
  · simp only [if_neg k1]
    by_cases k2 : d + 1 = 3
    · simp only [if_pos k2]
      have em : m + 1 = 240 := by omega
      refine ⟨⟨⟨pk_us, ?_, ?_⟩, fun q hq => ⟨?_, ?_, fun c hc => ?_⟩, fun c hc => ?_, fun a ha => ⟨?_, ?_⟩⟩, ?_, fun k hk => ?_⟩
      · rw [pk_un (by omega), pk_us, em]
      · rw [pk_un (by omega), pk_un (by omega)]; exact g3
      · rw [pk_un (by omega), pk_un (by omega)]; exact (g4 q hq).1
      · rw [pk_un (by omega), pk_un (by omega)]; exact (g4 q hq).2.1
      · rw [pk_un (by omega), pk_un (by omega)]; exact (g4 q hq).2.2 c hc
      · rw [pk_un (by omega), pk_un (by omega)]; exact g5 c hc
      · rw [pk_un (by omega), pk_un (by omega)]; exact (g6 a ha).1.mono (by omega)
      · rw [pk_un (by omega), pk_un (by omega)]; exact (g6 a ha).2
      · exact ⟨by omega, by omega, ⟨fun _ => k2, fun _ => trivial⟩, hn⟩
      · rw [pk_un (by omega), pk_un (by omega)]
    · simp only [if_neg k2]
      obtain ⟨z1, z2, z3⟩ := sDay0_f (S := wr (upd (upd (upd S 456 (nI (m + 1))) 455 (nI (d + 1))) 456 0) 714 100 (fun _ => 0))
      refine ⟨⟨⟨?_, ?_, ?_⟩, fun q hq => ⟨?_, ?_, fun c hc => ?_⟩, fun c hc => ?_, fun a ha => ⟨?_, ?_⟩⟩, ?_, fun k hk => ?_⟩
      · rw [z1 _ (by omega), wr_out (by omega), pk_un (by omega), pk_us]
      · rw [z1 _ (by omega), wr_out (by omega), pk_us]; rfl
      · rw [z1 _ (by omega), wr_out (by omega), pk_un (by omega), pk_un (by omega), pk_un (by omega)]; exact g3
      · rw [z1 _ (by omega), wr_out (by omega), pk_un (by omega), pk_un (by omega), pk_un (by omega)]; exact (g4 q hq).1
      · rw [z1 _ (by omega), wr_out (by omega), pk_un (by omega), pk_un (by omega), pk_un (by omega)]; exact (g4 q hq).2.1
      · rw [Nat.add_assoc, z2 _ (by omega)]; exact inB_0
      · rw [z3 _ (by omega), wr_out (by omega), pk_un (by omega), pk_un (by omega), pk_un (by omega), (tm.2.2.2.2.2.1 c hc).2.2.1]
        exact inB_nI (hw.2.2.2.1 c hc).2.2.1
      · rw [z1 _ (by omega), wr_at ha]; exact inB_0
      · rw [z1 _ (by omega), wr_out (by omega), pk_un (by omega), pk_un (by omega), pk_un (by omega)]; exact (g6 a ha).2
      · omega
      · rw [z1 _ (by omega), wr_out (by omega), pk_un (by omega), pk_un (by omega), pk_un (by omega)]
theorem tick_m {F d m n b : Nat} {T : Nat → Nat → Nat} {S : Nat → Int32} {μ : aw_M} (hF : 1000 ≤ F) (hd : d < 3) (hm : m < 240) (h : SW T d m n b S) : f_X11_minute_368 F 203 (aset μ 205 S) = some (aset μ 205 (sTick d m S)) := by
  have i456 : aw_in 456 1155 = true := by decide
  have c456 : (456 : Int32).toNatClampNeg = 456 := by decide
  have i455 : aw_in 455 1155 = true := by decide
  have c455 : (455 : Int32).toNatClampNeg = 455 := by decide
  unfold f_X11_minute_368 sTick
  rw [i456, pg_t, pg_t, plet, c456, rf203.2.1, rA_s, h.1.2.1, wI_wA, nI_1, pg_t, rA_s, pk_us]
  by_cases k1 : m + 1 < 240
  · rw [if_neg (show ¬ (240 : Int32) ≤ nI (m + 1) from nI_ge (b := 240) k1 (by decide)), if_pos k1]
  · rw [if_pos (show (240 : Int32) ≤ nI (m + 1) from nI_le (a := 240) (by omega) (by omega)), if_neg k1, i455, pg_t, pg_t, plet, c455, pk_un (by omega), h.1.1, nI_1, wI_wA, pg_t, rA_s, pk_us]
    by_cases k2 : d + 1 = 3
    · rw [if_pos (show nI (d + 1) = 3 by rw [k2]; rfl), if_pos k2]
    · rw [if_neg (show ¬ nI (d + 1) = 3 from fun e => k2 ((nI_eq (b := 3) (by omega) (by decide)).1 e)), if_neg k2, pg_t, plet, wI_wA]
      refine lp_u (fun i => (nI i, aset μ 205 (wr (upd (upd (upd S 456 (nI (m + 1))) 455 (nI (d + 1))) 456 0) 714 i (fun _ => 0)))) 100 (by rw [wr_0]; rfl) ?_ ?_ (by omega)
      · intro i hi k
        show f_X11_minute_431 F 203 k (nI i) (aset μ 205 _) = k (nI (i + 1), aset μ 205 _)
        unfold f_X11_minute_431
        rw [if_neg (show ¬ (100 : Int32) ≤ nI i from nI_ge (b := 100) hi (by decide)), show (714 : Int32) + nI i = nI (714 + i) from nI_add 714 i, pI_in_t (by omega) (by decide), pg_t, plet, rf203.2.1, nI_clamp (by omega), wI_wA, nI_1]
        rw [show (0 : Int32) = (fun _ : Nat => (0 : Int32)) i from rfl, wr_s]
      · intro k
        show f_X11_minute_431 F 203 k (nI 100) (aset μ 205 _) = _
        unfold f_X11_minute_431 f_X11_minute_454
        rw [if_pos (show (100 : Int32) ≤ nI 100 by decide), newDay_m hF]
        rfl
theorem SW_919 {T : Nat → Nat → Nat} {d m n b : Nat} {S : Nat → Int32} (hw : qT0 T) (h : SW T d m n b S) : SW T d m 0 b (upd S 919 0) := SW_un (n' := 0) hw h
theorem minute_m {F d m n b : Nat} {su : Bool} {T P : Nat → Nat → Nat} {S : Nat → Int32} {μ : aw_M} (hF : 1000 ≤ F) (ok : sOK T P S) (hd : d < 3) (hm : m < 240) (hb : b < 100000) (h : SW T d m n b S) : f_X11_minute F 203 (aw_b su) (aset μ 205 S) = some (aset μ 205 (sMin T P su d m S)) := by
  have hnq := ok.1.1.2.2.1
  have i919 : aw_in 919 1155 = true := by decide
  have c919 : (919 : Int32).toNatClampNeg = 919 := by decide
  have ok0 : sOK T P (upd S 919 0) := ok.ext fun k hk => pk_un (by omega)
  have h0 := SW_919 ok.1 h
  obtain ⟨n', g0, g1, g2⟩ := sPlay_k (su := su) ok0 h0
  unfold f_X11_minute sMin
  rw [i919, pg_t, plet, c919, rf203.2.1, wI_wA, quarters_m (by omega) ok0 h0 hm]
  unfold sPlay at g1 g2 ⊢
  obtain ⟨n, h1, h2, h3, h4⟩ := sQs_k (su := su) ok0 h0 (T 0 2) (Nat.le_refl _)
  have e : cl (sQs T P su m (T 0 2) (upd S 919 0) 919) 9 = n := by rw [h2.1.2.2, cl_nI (by omega) (by decide)]
  rw [e] at g1 g2 ⊢
  generalize sQs T P su m (T 0 2) (upd S 919 0) = X at h2 h3 h4 g1 g2 ⊢
  have ok1 : sOK T P X := ok0.ext fun k hk => h4 k (by omega)
  obtain ⟨p1, p2, p3⟩ := sMks_k ok1 (by omega) h2 h3 n (Nat.le_refl _)
  unfold f_X11_minute_52
  rw [marked_m (by omega) ok1 (by omega) h2 h3, Option.bind_some]
  generalize sMks T n n X = Y at p1 p2 p3 g1 g2 ⊢
  have ok2 : sOK T P Y := ok1.ext fun k hk => p3 k (by omega)
  rw [carts_m (by omega) ok2 p1 hm]
  generalize sFold T m (List.range (T 0 3)) Y = Z at g1 g2 ⊢
  have ok3 : sOK T P Z := ok0.ext fun k hk => g2 k (by omega)
  unfold f_X11_minute_301
  have ez := sDre_0 (S := Z) (b := b + 49) (by omega) (fun a ha => (g1.2.2.2 a ha).1)
  rw [show aset μ 205 Z = aset μ 205 (sDre Z (fun _ => 0)) by rw [ez], drainAll_m (by omega) ok3, sDre_ext (fun a ha => dEv_sum ok.1 ha)]
  exact tick_m hF hd hm (SW_dre ok.1 (by omega) g1)
theorem sMin_k {T P : Nat → Nat → Nat} {su : Bool} {d m n : Nat} {S : Nat → Int32} (ok : sOK T P S) (hd : d < 3) (hm : m < 240) (h : SW T d m n (60 * m) S) : ∃ n', SW T (nxd d m) (nxm d m) n' (60 * nxm d m) (sMin T P su d m S) ∧ dmn (nxd d m) (nxm d m) n' ∧ (∀ k, k < 455 ∨ 974 ≤ k ∨ (814 ≤ k ∧ k < 914) → sMin T P su d m S k = S k) := by
  have ok0 : sOK T P (upd S 919 0) := ok.ext fun k hk => pk_un (by omega)
  obtain ⟨n', g0, g1, g2⟩ := sPlay_k (su := su) ok0 (SW_919 ok.1 h)
  unfold sMin
  generalize sPlay T P su m (upd S 919 0) = Z at g1 g2 ⊢
  have ok3 : sOK T P (sDre Z (drn T)) := ok0.ext fun k hk => by rw [sDre_o (by omega)]; exact g2 k (by omega)
  obtain ⟨t1, t2, t3⟩ := tick_k ok3 hd hm g0 (SW_dre (e := drn T) ok.1 (by omega) g1) (by omega)
  exact ⟨n', t1, t2, fun k hk => by rw [t3 k hk, sDre_o (by omega), g2 k (by omega), pk_un (by omega)]⟩
