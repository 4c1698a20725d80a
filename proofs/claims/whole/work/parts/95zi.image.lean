/-! a scene taken from another: from a to b -/
def tSh (t : Nat) : Prop := (aw_sh (t + 2)).2 = 9 ∧ (aw_sh (t + 3)).2 = 9 ∧ (aw_sh (t + 4)).2 = 9 ∧ (aw_sh (t + 5)).2 = 9 ∧ (aw_sh (t + 6)).2 = 20 ∧ (aw_sh (t + 7)).2 = 20 ∧ (aw_sh (t + 8)).2 = 20 ∧ (aw_sh (t + 9)).2 = 20 ∧ (aw_sh (t + 10)).2 = 4 ∧ (aw_sh (t + 11)).2 = 100 ∧ (aw_sh (t + 12)).2 = 100 ∧ (aw_sh (t + 13)).2 = 4
def pRf (p : Nat) : Prop := aw_rf p 1 = p + 1 ∧ aw_rf p 2 = p + 2 ∧ aw_rf p 3 = p + 3
def pSh (p : Nat) : Prop := (aw_sh (p + 1)).2 = 9 ∧ (aw_sh (p + 2)).2 = 9 ∧ (aw_sh (p + 3)).2 = 9
def yRf (y : Nat) : Prop := aw_rf y 2 = y + 1 ∧ aw_rf y 3 = y + 2 ∧ aw_rf y 4 = y + 3
def ySh (y : Nat) : Prop := (aw_sh (y + 1)).2 = 40 ∧ (aw_sh (y + 2)).2 = 40 ∧ (aw_sh (y + 3)).2 = 40
def fRf (f : Nat) : Prop := aw_rf f 8 = f + 1 ∧ aw_rf f 9 = f + 2 ∧ aw_rf f 10 = f + 3 ∧ aw_rf f 11 = f + 4 ∧ aw_rf f 12 = f + 5 ∧ aw_rf f 13 = f + 6 ∧ aw_rf f 14 = f + 7 ∧ aw_rf f 15 = f + 8 ∧ aw_rf f 16 = f + 9 ∧ aw_rf f 17 = f + 10 ∧ aw_rf f 19 = f + 11
def fSh (f : Nat) : Prop := (aw_sh (f + 1)).2 = 5 ∧ (aw_sh (f + 2)).2 = 9 ∧ (aw_sh (f + 3)).2 = 9 ∧ (aw_sh (f + 4)).2 = 9 ∧ (aw_sh (f + 5)).2 = 9 ∧ (aw_sh (f + 6)).2 = 180 ∧ (aw_sh (f + 7)).2 = 20 ∧ (aw_sh (f + 8)).2 = 20 ∧ (aw_sh (f + 9)).2 = 100 ∧ (aw_sh (f + 10)).2 = 100 ∧ (aw_sh (f + 11)).2 = 54
/-- one row after another: what of a lies at b by now -/
def CPr (w a b : Nat) (v : Nat → Int32) (l : Nat → Nat → Int64) (μ0 μ : aw_M) (L : List (Nat × Nat)) : Prop := (∀ x, x ∈ L → ∀ k, k < x.2 → μ.1 (b + x.1) k = μ0.1 (a + x.1) k) ∧ (∀ c, (∀ k, k ≤ w → c ≠ b + k) → μ.1 c = μ0.1 c) ∧ μ.1 b = v ∧ μ.2 = l
theorem CPr.at {w a b : Nat} {v : Nat → Int32} {l : Nat → Nat → Int64} {μ0 μ : aw_M} {L : List (Nat × Nat)} (h : CPr w a b v l μ0 μ L) (i n : Nat) (hx : (i, n) ∈ L) : ∀ k, k < n → μ.1 (b + i) k = μ0.1 (a + i) k := h.1 (i, n) hx
theorem cpr {F w a b i n : Nat} {v : Nat → Int32} {l : Nat → Nat → Int64} {μ0 μ : aw_M} {L : List (Nat × Nat)} {Q : aw_M → Prop} {f : aw_M → Option aw_M} (h : CPr w a b v l μ0 μ L) (hw : w ≤ 13) (hab : a + 13 < b ∨ b + 13 < a) (hi1 : 1 ≤ i) (hi : i ≤ w) (hL : ∀ x, x ∈ L → x.1 ≠ i) (ra : (aw_sh (a + i)).2 = n) (rb : (aw_sh (b + i)).2 = n) (hn : n < 2000) (hf : ∀ μ', CPr w a b v l μ0 μ' ((i, n) :: L) → T (f μ') Q) : T ((f_X10_copyRow F (a + i) (b + i) μ).bind f) Q := by
  rw [copyRow_eq ra rb hn, Option.bind_some]
  refine hf _ ⟨fun x hx k hk => ?_, fun c hc => ?_, ?_, h.2.2.2⟩
  · rcases List.mem_cons.1 hx with rfl | hx
    · rw [rA_s, wr0 hk, h.2.1 _ (fun k hk => by omega)]
    · rw [rA_a (by have := hL x hx; omega)]
      exact h.1 x hx k hk
  · rw [rA_a (hc i hi)]
    exact h.2.1 c hc
  · rw [rA_a (by omega)]
    exact h.2.2.1
/-- one number after another -/
def FPr (a b : Nat) (μ0 μ : aw_M) (L : List Nat) : Prop := (∀ k, k ∈ L → μ.1 b k = μ0.1 a k) ∧ (∀ c, c ≠ b → μ.1 c = μ0.1 c) ∧ μ.2 = μ0.2
theorem fpr {a b k : Nat} {μ0 μ : aw_M} {L : List Nat} {Q : aw_M → Prop} {f : aw_M → Option aw_M} (h : FPr a b μ0 μ L) (hab : a ≠ b) (hf : ∀ μ', FPr a b μ0 μ' (k :: L) → T (f μ') Q) : T (aw_let (aw_wI μ b k (μ.1 a k)) f) Q := by
  refine hf _ ⟨fun j hj => ?_, fun c hc => ?_, h.2.2⟩
  · by_cases e : j = k
    · rw [e, rI_s, h.2.1 a hab]
    · rw [rI_k e]
      rcases List.mem_cons.1 hj with e2 | e2
      · exact absurd e2 e
      · exact h.1 j e2
  · rw [rI_a hc]
    exact h.2.1 c hc
theorem cpL_2 {μ : aw_M} {a b : Nat} : (aw_cpL μ a b 0 0 9).1 = μ.1 ∧ (∀ c, c ≠ b → (aw_cpL μ a b 0 0 9).2 c = μ.2 c) ∧ ∀ k, k < 9 → (aw_cpL μ a b 0 0 9).2 b k = μ.2 a k := by
  refine ⟨rfl, fun c hc => va_up_ne _ _ hc, fun k hk => ?_⟩
  show va_up μ.2 b (va_cpy (μ.2 a) (μ.2 b) 0 0 9) b k = _
  rw [va_up_self]
  unfold va_cpy
  rw [if_pos (by omega), Nat.zero_add, Nat.sub_zero]
theorem mem4 {k : Nat} (h1 : 1 ≤ k) (h2 : k ≤ 4) : k ∈ [4, 3, 2, 1] := by
  have : k = 1 ∨ k = 2 ∨ k = 3 ∨ k = 4 := by omega
  rcases this with rfl | rfl | rfl | rfl <;> decide
theorem mem6 {k : Nat} (h1 : (3 ≤ k ∧ k ≤ 7) ∨ k = 18) : k ∈ [18, 7, 6, 5, 4, 3] := by
  have : k = 3 ∨ k = 4 ∨ k = 5 ∨ k = 6 ∨ k = 7 ∨ k = 18 := by omega
  rcases this with rfl | rfl | rfl | rfl | rfl | rfl <;> decide
/-- what a town takes -/
def cpT (a b : Nat) (μ μ' : aw_M) : Prop := (∀ k, 1 ≤ k → k ≤ 4 → μ'.1 b k = μ.1 a k) ∧ (∀ i n, (i, n) ∈ [(13, 4), (12, 100), (11, 100), (10, 4), (9, 20), (8, 20), (7, 20), (6, 20), (5, 9), (4, 9), (3, 9), (2, 9)] → ∀ k, k < n → μ'.1 (b + i) k = μ.1 (a + i) k)
theorem takeT {F a b : Nat} {μ : aw_M} (hab : a + 13 < b ∨ b + 13 < a) (ra : tRf a) (rb : tRf b) (sa : tSh a) (sb : tSh b) : T (f_X8_takeFrom F b a μ) fun μ' => cpT a b μ μ' ∧ (∀ k, k < 9 → μ'.2 (b + 1) k = μ.2 (a + 1) k) ∧ (∀ c, c ≠ b + 1 → μ'.2 c = μ.2 c) ∧ ∀ c, (∀ k, k ≤ 13 → c ≠ b + k) → μ'.1 c = μ.1 c := by
  obtain ⟨ra5, ra6, ra7, ra8, ra9, ra10, ra11, ra12, ra13, ra14, ra15, ra16, ra17⟩ := ra
  obtain ⟨rb5, rb6, rb7, rb8, rb9, rb10, rb11, rb12, rb13, rb14, rb15, rb16, rb17⟩ := rb
  obtain ⟨sa2, sa3, sa4, sa5, sa6, sa7, sa8, sa9, sa10, sa11, sa12, sa13⟩ := sa
  obtain ⟨sb2, sb3, sb4, sb5, sb6, sb7, sb8, sb9, sb10, sb11, sb12, sb13⟩ := sb
  unfold f_X8_takeFrom
  rw [ra5, ra6, ra7, ra8, ra9, ra10, ra11, ra12, ra13, ra14, ra15, ra16, ra17, rb5, rb6, rb7, rb8, rb9, rb10, rb11, rb12, rb13, rb14, rb15, rb16, rb17]
  have hne : a ≠ b := by omega
  refine fpr (⟨fun k h => absurd h List.not_mem_nil, fun _ _ => rfl, rfl⟩ : FPr a b μ μ []) hne fun μ1 h => ?_
  refine fpr h hne fun μ2 h => ?_
  refine fpr h hne fun μ3 h => ?_
  refine fpr h hne fun μ4 h => ?_
  obtain ⟨m3, m1, m2⟩ := h
  rw [show aw_cok 0 0 9 9 9 = true by decide, pg_t, plet, show (0 : Int32).toNatClampNeg = 0 by decide, show (9 : Int32).toNatClampNeg = 9 by decide]
  obtain ⟨l1, l2, l3⟩ := cpL_2 (μ := μ4) (a := a + 1) (b := b + 1)
  generalize aw_cpL μ4 (a + 1) (b + 1) 0 0 9 = μ5 at l1 l2 l3 ⊢
  have h0 : CPr 13 a b (μ4.1 b) μ5.2 μ μ5 [] := ⟨fun x hx => absurd hx (List.not_mem_nil), fun c hc => by rw [l1]; exact m1 c (hc 0 (by omega)), by rw [l1], rfl⟩
  refine cpr h0 (by decide) hab (by decide) (by decide) (by decide) sa2 sb2 (by decide) fun μ' h => ?_
  refine cpr h (by decide) hab (by decide) (by decide) (by decide) sa3 sb3 (by decide) fun μ' h => ?_
  refine cpr h (by decide) hab (by decide) (by decide) (by decide) sa4 sb4 (by decide) fun μ' h => ?_
  refine cpr h (by decide) hab (by decide) (by decide) (by decide) sa5 sb5 (by decide) fun μ' h => ?_
  refine cpr h (by decide) hab (by decide) (by decide) (by decide) sa6 sb6 (by decide) fun μ' h => ?_
  refine cpr h (by decide) hab (by decide) (by decide) (by decide) sa7 sb7 (by decide) fun μ' h => ?_
  refine cpr h (by decide) hab (by decide) (by decide) (by decide) sa8 sb8 (by decide) fun μ' h => ?_
  refine cpr h (by decide) hab (by decide) (by decide) (by decide) sa9 sb9 (by decide) fun μ' h => ?_
  refine cpr h (by decide) hab (by decide) (by decide) (by decide) sa10 sb10 (by decide) fun μ' h => ?_
  refine cpr h (by decide) hab (by decide) (by decide) (by decide) sa11 sb11 (by decide) fun μ' h => ?_
  refine cpr h (by decide) hab (by decide) (by decide) (by decide) sa12 sb12 (by decide) fun μ' h => ?_
  refine cpr h (by decide) hab (by decide) (by decide) (by decide) sa13 sb13 (by decide) fun μ' h => ?_
  rw [T_some]
  refine ⟨⟨fun k h1 h2 => by rw [h.2.2.1]; exact m3 k (mem4 h1 h2), fun i n hx => h.1 (i, n) hx⟩, fun k hk => by rw [h.2.2.2, l3 k hk, m2], fun c hc => by rw [h.2.2.2, l2 c hc, m2], h.2.1⟩
theorem takeP {F a b : Nat} {μ : aw_M} (hab : a + 13 < b ∨ b + 13 < a) (ra : pRf a) (rb : pRf b) (sa : pSh a) (sb : pSh b) : T (f_X2_takeFrom F b a μ) fun μ' => (μ'.1 b 0 = μ.1 a 0 ∧ ∀ i n, (i, n) ∈ [(3, 9), (2, 9), (1, 9)] → ∀ k, k < n → μ'.1 (b + i) k = μ.1 (a + i) k) ∧ μ'.2 = μ.2 ∧ ∀ c, (∀ k, k ≤ 3 → c ≠ b + k) → μ'.1 c = μ.1 c := by
  obtain ⟨ra1, ra2, ra3⟩ := ra
  obtain ⟨rb1, rb2, rb3⟩ := rb
  obtain ⟨sa1, sa2, sa3⟩ := sa
  obtain ⟨sb1, sb2, sb3⟩ := sb
  unfold f_X2_takeFrom
  rw [ra1, ra2, ra3, rb1, rb2, rb3, plet]
  rw [copyRow_eq sa1 sb1 (by decide), Option.bind_some, copyRow_eq sa2 sb2 (by decide), Option.bind_some, copyRow_eq sa3 sb3 (by decide), Option.bind_some, T_some]
  simp (disch := omega) only [rA_s, rA_a, rI_a, rI_s]
  refine ⟨⟨trivial, fun i n hx k hk => ?_⟩, rfl, fun c hc => ?_⟩
  · simp only [List.mem_cons, Prod.mk.injEq, List.not_mem_nil, or_false] at hx
    rcases hx with ⟨rfl, rfl⟩ | ⟨rfl, rfl⟩ | ⟨rfl, rfl⟩
    · rw [rA_s, wr0 hk]
    · rw [rA_a (by omega), rA_s, wr0 hk]
    · rw [rA_a (by omega), rA_a (by omega), rA_s, wr0 hk]
  · rw [rA_a (hc 3 (by omega)), rA_a (hc 2 (by omega)), rA_a (hc 1 (by omega)), rI_a (show c ≠ b from hc 0 (by omega))]
theorem takeY {F a b : Nat} {μ : aw_M} (hab : a + 13 < b ∨ b + 13 < a) (ra : yRf a) (rb : yRf b) (sa : ySh a) (sb : ySh b) : T (f_X3_takeFrom F b a μ) fun μ' => (μ'.1 b 1 = μ.1 a 1 ∧ ∀ i n, (i, n) ∈ [(3, 40), (2, 40), (1, 40)] → ∀ k, k < n → μ'.1 (b + i) k = μ.1 (a + i) k) ∧ μ'.2 = μ.2 ∧ ∀ c, (∀ k, k ≤ 3 → c ≠ b + k) → μ'.1 c = μ.1 c := by
  obtain ⟨ra1, ra2, ra3⟩ := ra
  obtain ⟨rb1, rb2, rb3⟩ := rb
  obtain ⟨sa1, sa2, sa3⟩ := sa
  obtain ⟨sb1, sb2, sb3⟩ := sb
  unfold f_X3_takeFrom
  rw [ra1, ra2, ra3, rb1, rb2, rb3, plet, plet]
  rw [copyRow_eq sa1 sb1 (by decide), Option.bind_some, copyRow_eq sa2 sb2 (by decide), Option.bind_some, copyRow_eq sa3 sb3 (by decide), Option.bind_some, T_some]
  simp (disch := omega) only [rA_s, rA_a, rI_a, rI_s]
  refine ⟨⟨trivial, fun i n hx k hk => ?_⟩, rfl, fun c hc => ?_⟩
  · simp only [List.mem_cons, Prod.mk.injEq, List.not_mem_nil, or_false] at hx
    rcases hx with ⟨rfl, rfl⟩ | ⟨rfl, rfl⟩ | ⟨rfl, rfl⟩
    · rw [rA_s, wr0 hk]
    · rw [rA_a (by omega), rA_s, wr0 hk]
    · rw [rA_a (by omega), rA_a (by omega), rA_s, wr0 hk]
  · rw [rA_a (hc 3 (by omega)), rA_a (hc 2 (by omega)), rA_a (hc 1 (by omega)), rI_a (show c ≠ b from hc 0 (by omega)), rI_a (show c ≠ b from hc 0 (by omega))]
theorem takeF {F a b : Nat} {μ : aw_M} (hab : a + 13 < b ∨ b + 13 < a) (ra : fRf a) (rb : fRf b) (sa : fSh a) (sb : fSh b) : T (f_X0_takeFrom F b a μ) fun μ' => ((∀ k, (3 ≤ k ∧ k ≤ 7) ∨ k = 18 → μ'.1 b k = μ.1 a k) ∧ ∀ i n, (i, n) ∈ [(10, 100), (11, 54), (9, 100), (8, 20), (7, 20), (6, 180), (5, 9), (4, 9), (3, 9), (2, 9), (1, 5)] → ∀ k, k < n → μ'.1 (b + i) k = μ.1 (a + i) k) ∧ μ'.2 = μ.2 ∧ ∀ c, (∀ k, k ≤ 11 → c ≠ b + k) → μ'.1 c = μ.1 c := by
  obtain ⟨ra8, ra9, ra10, ra11, ra12, ra13, ra14, ra15, ra16, ra17, ra19⟩ := ra
  obtain ⟨rb8, rb9, rb10, rb11, rb12, rb13, rb14, rb15, rb16, rb17, rb19⟩ := rb
  obtain ⟨sa1, sa2, sa3, sa4, sa5, sa6, sa7, sa8, sa9, sa10, sa11⟩ := sa
  obtain ⟨sb1, sb2, sb3, sb4, sb5, sb6, sb7, sb8, sb9, sb10, sb11⟩ := sb
  unfold f_X0_takeFrom f_X0_takeSand
  rw [ra8, ra9, ra10, ra11, ra12, ra13, ra14, ra15, ra16, ra17, ra19, rb8, rb9, rb10, rb11, rb12, rb13, rb14, rb15, rb16, rb17, rb19]
  have hne : a ≠ b := by omega
  refine fpr (⟨fun k h => absurd h List.not_mem_nil, fun _ _ => rfl, rfl⟩ : FPr a b μ μ []) hne fun μ1 h => ?_
  refine fpr h hne fun μ2 h => ?_
  refine fpr h hne fun μ3 h => ?_
  refine fpr h hne fun μ5 h => ?_
  refine fpr h hne fun μ6 h => ?_
  refine fpr h hne fun μ4 h => ?_
  obtain ⟨m3, m1, m2⟩ := h
  have h0 : CPr 11 a b (μ4.1 b) μ4.2 μ μ4 [] := ⟨fun x hx => absurd hx (List.not_mem_nil), fun c hc => m1 c (hc 0 (by omega)), rfl, rfl⟩
  refine cpr h0 (by decide) hab (by decide) (by decide) (by decide) sa1 sb1 (by decide) fun μ' h => ?_
  refine cpr h (by decide) hab (by decide) (by decide) (by decide) sa2 sb2 (by decide) fun μ' h => ?_
  refine cpr h (by decide) hab (by decide) (by decide) (by decide) sa3 sb3 (by decide) fun μ' h => ?_
  refine cpr h (by decide) hab (by decide) (by decide) (by decide) sa4 sb4 (by decide) fun μ' h => ?_
  refine cpr h (by decide) hab (by decide) (by decide) (by decide) sa5 sb5 (by decide) fun μ' h => ?_
  refine cpr h (by decide) hab (by decide) (by decide) (by decide) sa6 sb6 (by decide) fun μ' h => ?_
  refine cpr h (by decide) hab (by decide) (by decide) (by decide) sa7 sb7 (by decide) fun μ' h => ?_
  refine cpr h (by decide) hab (by decide) (by decide) (by decide) sa8 sb8 (by decide) fun μ' h => ?_
  refine cpr h (by decide) hab (by decide) (by decide) (by decide) sa9 sb9 (by decide) fun μ' h => ?_
  refine cpr h (by decide) hab (by decide) (by decide) (by decide) sa11 sb11 (by decide) fun μ' h => ?_
  rw [T_bind]
  refine cpr h (by decide) hab (by decide) (by decide) (by decide) sa10 sb10 (by decide) fun μ' h => ?_
  rw [T_some, T_some]
  exact ⟨⟨fun k h1 => by rw [h.2.2.1]; exact m3 k (mem6 h1), fun i n hx => h.1 (i, n) hx⟩, by rw [h.2.2.2, m2], h.2.1⟩
