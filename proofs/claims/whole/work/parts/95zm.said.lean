/-! a sentence of a quarter: both run its steps over a row of truths -/
def aQ (C P G : Nat → Nat → Nat) (q : Nat) : Int32 := if G 5 1 = 240 then -1 else if P 0 q = 0 then -1 else if G 0 q = 0 then -1 else oI (aimo C P G q (G 5 1) (C 0 3))
def mV (C G : Nat → Nat → Nat) (S : Nat → Int32) (q k : Nat) : Int32 := if k = 14 then nI (G 0 q) else if k = 15 then S (467 + q) else if k = 16 then S (476 + q) else if k = 17 then nI (C 3 q) else if k = 18 then nI (jsee C (C 1 q)) else nI q
def lf (C P Y G : Nat → Nat → Nat) (S : Nat → Int32) (q i : Nat) : Bool := if Y 1 i = 12 then decide (P 2 q = 1) else if Y 1 i = 13 then (decide (q ≠ Y 3 i) && (decide (aQ C P G q ≠ -1) && decide (aQ C P G q = aQ C P G (Y 3 i)))) else if Y 2 i = 60 then decide (mV C G S q (Y 1 i) < nI (Y 3 i)) else if Y 2 i = 62 then decide (nI (Y 3 i) < mV C G S q (Y 1 i)) else decide (mV C G S q (Y 1 i) = nI (Y 3 i))
def stf (Y : Nat → Nat → Nat) (B : Nat → Bool) : Nat → Nat → Bool
  | 0 => fun _ => false
  | i + 1 => fun k => if Y 1 i = 11 then (if k = yh Y i - 1 then !(stf Y B i k) else stf Y B i k) else if Y 1 i = 10 then (if k = yh Y i - 2 then stf Y B i k && stf Y B i (k + 1) else stf Y B i k) else if Y 1 i = 9 then (if k = yh Y i - 2 then stf Y B i k || stf Y B i (k + 1) else stf Y B i k) else if k = yh Y i then B i else stf Y B i k
def stk (Y : Nat → Nat → Nat) (B : Nat → Bool) (i : Nat) (f : Nat → Int32) : Prop := ∀ k, k < yh Y i → f k = nI (bN (stf Y B i k))
theorem yh_s (Y : Nat → Nat → Nat) (i : Nat) : yh Y (i + 1) = if Y 1 i = 11 then yh Y i else if Y 1 i ≤ 10 then yh Y i - 1 else yh Y i + 1 := rfl
theorem stk_11 {Y : Nat → Nat → Nat} {B : Nat → Bool} {i : Nat} {f f' : Nat → Int32} (h : stk Y B i f) (e : Y 1 i = 11) (hs : f' (yh Y i - 1) = nI (bN (!(stf Y B i (yh Y i - 1))))) (ho : ∀ k, k ≠ yh Y i - 1 → f' k = f k) : yh Y (i + 1) = yh Y i ∧ stk Y B (i + 1) f' := by
  have eh : yh Y (i + 1) = yh Y i := by rw [yh_s, if_pos e]
  refine ⟨eh, fun k hk => ?_⟩
  rw [eh] at hk
  show _ = nI (bN (if Y 1 i = 11 then (if k = yh Y i - 1 then !(stf Y B i k) else stf Y B i k) else _))
  rw [if_pos e]
  by_cases e2 : k = yh Y i - 1
  · rw [if_pos e2, e2, hs]
  · rw [if_neg e2, ho k e2]
    exact h k hk
theorem stk_10 {Y : Nat → Nat → Nat} {B : Nat → Bool} {i : Nat} {f f' : Nat → Int32} (h : stk Y B i f) (e : Y 1 i = 10) (h2 : 2 ≤ yh Y i) (hs : f' (yh Y i - 2) = nI (bN (stf Y B i (yh Y i - 2) && stf Y B i (yh Y i - 1)))) (ho : ∀ k, k ≠ yh Y i - 2 → f' k = f k) : yh Y (i + 1) = yh Y i - 1 ∧ stk Y B (i + 1) f' := by
  have eh : yh Y (i + 1) = yh Y i - 1 := by rw [yh_s, if_neg (by omega), if_pos (by omega)]
  refine ⟨eh, fun k hk => ?_⟩
  rw [eh] at hk
  show _ = nI (bN (if Y 1 i = 11 then _ else if Y 1 i = 10 then (if k = yh Y i - 2 then stf Y B i k && stf Y B i (k + 1) else stf Y B i k) else _))
  rw [if_neg (by omega), if_pos e]
  by_cases e2 : k = yh Y i - 2
  · rw [if_pos e2, e2, hs, show yh Y i - 2 + 1 = yh Y i - 1 by omega]
  · rw [if_neg e2, ho k e2]
    exact h k (by omega)
theorem stk_9 {Y : Nat → Nat → Nat} {B : Nat → Bool} {i : Nat} {f f' : Nat → Int32} (h : stk Y B i f) (e : Y 1 i = 9) (h2 : 2 ≤ yh Y i) (hs : f' (yh Y i - 2) = nI (bN (stf Y B i (yh Y i - 2) || stf Y B i (yh Y i - 1)))) (ho : ∀ k, k ≠ yh Y i - 2 → f' k = f k) : yh Y (i + 1) = yh Y i - 1 ∧ stk Y B (i + 1) f' := by
  have eh : yh Y (i + 1) = yh Y i - 1 := by rw [yh_s, if_neg (by omega), if_pos (by omega)]
  refine ⟨eh, fun k hk => ?_⟩
  rw [eh] at hk
  show _ = nI (bN (if Y 1 i = 11 then _ else if Y 1 i = 10 then _ else if Y 1 i = 9 then (if k = yh Y i - 2 then stf Y B i k || stf Y B i (k + 1) else stf Y B i k) else _))
  rw [if_neg (by omega), if_neg (by omega), if_pos e]
  by_cases e2 : k = yh Y i - 2
  · rw [if_pos e2, e2, hs, show yh Y i - 2 + 1 = yh Y i - 1 by omega]
  · rw [if_neg e2, ho k e2]
    exact h k (by omega)
theorem stk_l {Y : Nat → Nat → Nat} {B : Nat → Bool} {i : Nat} {f f' : Nat → Int32} (h : stk Y B i f) (e : 12 ≤ Y 1 i) (hs : f' (yh Y i) = nI (bN (B i))) (ho : ∀ k, k ≠ yh Y i → f' k = f k) : yh Y (i + 1) = yh Y i + 1 ∧ stk Y B (i + 1) f' := by
  have eh : yh Y (i + 1) = yh Y i + 1 := by rw [yh_s, if_neg (by omega), if_neg (by omega)]
  refine ⟨eh, fun k hk => ?_⟩
  rw [eh] at hk
  show _ = nI (bN (if Y 1 i = 11 then _ else if Y 1 i = 10 then _ else if Y 1 i = 9 then _ else if k = yh Y i then B i else stf Y B i k))
  rw [if_neg (by omega), if_neg (by omega), if_neg (by omega)]
  by_cases e2 : k = yh Y i
  · rw [if_pos e2, e2, hs]
  · rw [if_neg e2, ho k e2]
    exact h k (by omega)
/-- what a sentence needs: the class's state, and the reference's -/
def SdW (C P Y G : Nat → Nat → Nat) : Prop := qTWF C ∧ qPWF P (C 0 2) ∧ qFWF C G ∧ qYWF Y (C 0 2)
def SdX (C P Y G : Nat → Nat → Nat) (S : Nat → Int32) (μ : aw_M) : Prop := qTX C μ 5 ∧ qPX P μ 19 ∧ qFX C G μ 39 ∧ qGX C μ 28 ∧ qYX Y μ 23 ∧ ∀ q, q < C 0 2 → μ.1 42 q = S (467 + q) ∧ μ.1 43 q = S (476 + q)
theorem SdX_ag {C P Y G : Nat → Nat → Nat} {S : Nat → Int32} {μ μ' : aw_M} (h1 : ∀ a, 5 ≤ a → a ≤ 50 → a ≠ 27 → μ'.1 a = μ.1 a) (h : SdX C P Y G S μ) : SdX C P Y G S μ' := by
  unfold SdX qTX qPX qFX qGX qYX at h ⊢
  simp (disch := omega) only [h1]
  exact h
def SdM (C P Y G : Nat → Nat → Nat) (S : Nat → Int32) : Prop := qTM C S ∧ qPM P S ∧ qFM C G S ∧ qYM Y S
theorem aQ_x {F q : Nat} {C P Y G : Nat → Nat → Nat} {S : Nat → Int32} {μ : aw_M} (hF : 300 ≤ F) (w : SdW C P Y G) (x : SdX C P Y G S μ) (hq : q < C 0 2) : f_X0_aimedAt F 39 (nI q) (nI (G 5 1)) μ = some (aQ C P G q, μ) := by
  obtain ⟨hwf, pw, fw, yw⟩ := w
  obtain ⟨tx, px, fx, hG, yx, xs⟩ := x
  have g1 := fw.1.2.1
  unfold aQ
  by_cases h : G 5 1 = 240
  · rw [if_pos h, h]
    unfold f_X0_aimedAt
    rw [if_neg (nI_pos (by decide)), if_pos (show (240 : Int32) ≤ nI 240 by decide)]
  · rw [if_neg h]
    exact aimedAt_x (by omega) hwf pw fw px fx hG hq (by omega)
theorem oI_n1 {o : Option Nat} (h : ∀ b, o = some b → b < 2 ^ 31) : (oI o < 0 ↔ oI o = -1) := by
  cases o with
  | none => exact ⟨fun _ => rfl, fun _ => (by decide)⟩
  | some b =>
    have h1 := nI_pos (n := b) (h b rfl)
    have h2 := nI_pos' (n := b) (h b rfl)
    exact ⟨fun h3 => absurd h3 h1, fun h3 => by rw [show oI (some b) = nI b from rfl] at h3; rw [h3] at h2; exact absurd h2 (by decide)⟩
theorem aQ_neg {C P G : Nat → Nat → Nat} {q : Nat} (hw : C 0 3 ≤ 20) : (aQ C P G q < 0 ↔ aQ C P G q = -1) := by
  unfold aQ
  split
  · decide
  · split
    · decide
    · split
      · decide
      · exact oI_n1 fun b hb => by have := aimo_lt _ _ hb; omega
