/-! plans each against each -/
theorem oct_I : ∀ b, b < 256 → (nI b).toInt8.toInt32 &&& 255 = nI b := by decide +kernel
theorem octet_m {F i : Nat} {B : Nat → Nat} {μ : aw_M} (hi : i < 940) (hb : B i < 256) (e : μ.1 204 i = (nI (B i)).toInt8.toInt32) : f_X11_octet F 203 (nI i) μ = some (nI (B i), μ) := by
  have r1 : aw_rf 203 1 = 204 := by simp only [rf203, rf203b]
  unfold f_X11_octet
  rw [pI_in_t hi (by decide), pg_t, r1, nI_clamp (by omega), e, oct_I _ hb]
/-- what a state needs but the tape and what was asked -/
def kB (a k : Nat) : Bool := kSc a k || kFa a k || kKp a k || kK a k
theorem R_parts {μ μ' : aw_M} (h : AgK kB μ μ') (ht : Rtp μ') (hp : qPz μ') (hR : R μ) : R μ' := by
  obtain ⟨h1, h2, h3, h4, h5, h6⟩ := R_iff.1 hR
  refine R_iff.2 ⟨Rsc_ag (h.sub fun a k hk => ?_) h1, ht, Rfa_ag (h.sub fun a k hk => ?_) h3, Rkp_ag (h.sub fun a k hk => ?_) h4, hp, qK_ag (h.sub fun a k hk => ?_) h6⟩
  · unfold kB; rw [hk]; rfl
  · unfold kB; rw [hk]; cases kSc a k <;> rfl
  · unfold kB; rw [hk]; cases kSc a k <;> cases kFa a k <;> rfl
  · unfold kB; rw [hk]; cases kSc a k <;> cases kFa a k <;> cases kKp a k <;> rfl
theorem Rtp_0 {μ : aw_M} (h1 : μ.1 1 1 = 0) (h2 : μ.1 203 2 = 0) : Rtp μ := ⟨0, fun _ => 0, Nat.zero_le _, h1, h2, fun i hi => absurd hi (Nat.not_lt_zero _)⟩
/-- tells which cells do not matter to kB -/
theorem kB_f {a k : Nat} (h : ((51 ≤ a ∧ a ≤ 108) ∧ a ≠ 52 ∧ a ≠ 99) ∨ (203 ≤ a ∧ a ≤ 226 ∧ a ≠ 205 ∧ a ≠ 208 ∧ a ≠ 209 ∧ (a ≠ 203 ∨ k ≠ 15)) ∨ a = 1 ∨ a = 2 ∨ a = 4 ∨ a = 27 ∨ a = 230) : kB a k = false := by
  unfold kB kSc kFa kKp kK
  rw [decide_eq_false (by omega), decide_eq_false (by omega), decide_eq_false (by omega), decide_eq_false (by omega)]
  rfl
/-- where the two sides' answers of other questions lie -/
theorem qPz_tab {μ μ' : aw_M} (h : qPz μ) (hA : AgK (fun a k => kPz a k && !decide (a = 96 ∨ a = 223 ∨ (a = 203 ∧ k = 41) ∨ (a = 88 ∧ k = 10))) μ μ') (ht : ∃ n : Nat, n ≤ 6 ∧ μ'.1 88 10 = nI n ∧ μ'.1 203 41 = nI n ∧ ∀ i j w, i < n → j < n → w < 2 → μ'.1 96 (12 * i + 2 * j + w) = μ'.1 223 (12 * i + 2 * j + w)) : qPz μ' := by
  obtain ⟨⟨n1, a1, a2, a3⟩, ⟨n2, b1, b2, b3, b4⟩, ⟨n3, c1, c2, c3, c4⟩, ⟨n4, d1, d2, d3, d4⟩, -⟩ := h
  have g : ∀ a k, (a = 98 ∨ a = 212 ∨ a = 100 ∨ a = 217 ∨ a = 102 ∨ a = 219 ∨ a = 222) → μ'.1 a k = μ.1 a k := fun a k h => (hA a k (by
    rcases h with rfl | rfl | rfl | rfl | rfl | rfl | rfl <;> rfl)).1
  refine ⟨⟨n1, a1, (hA 203 26 rfl).1.trans a2, fun d hd => ?_⟩, ⟨n2, b1, (hA 97 2 rfl).1.trans b2, (hA 203 31 rfl).1.trans b3, fun i hi => ?_⟩, ⟨n3, c1, (hA 101 0 rfl).1.trans c2, (hA 203 35 rfl).1.trans c3, fun i hi => ?_⟩, ⟨n4, d1, (hA 101 8 rfl).1.trans d2, (hA 203 38 rfl).1.trans d3, fun i hi => ?_⟩, ht⟩
  · rw [g 98 d (by omega), g 212 d (by omega)]; exact a3 d hd
  · rw [g 100 i (by omega), g 217 i (by omega)]; exact b4 i hi
  · rw [g 102 i (by omega), g 219 i (by omega)]; exact c4 i hi
  · rw [g 222 i (by omega), (hA 101 9 rfl).2]; exact d4 i hi
def tP (P : Nat → Nat → Nat) (B : Nat → Nat) (i j : Nat) : Nat → Nat → Nat := fun f k => if k < 2 ∧ f < 3 then (if f = 0 then B (2 * (if k = 0 then i else j)) + 1 else if f = 1 then B (2 * (if k = 0 then i else j) + 1) else 0) else P f k
theorem tP_ne {P : Nat → Nat → Nat} {B : Nat → Nat} {i j f k : Nat} (h : 2 ≤ k ∨ 3 ≤ f) : tP P B i j f k = P f k := if_neg (by omega)
theorem tP_0 {P : Nat → Nat → Nat} {B : Nat → Nat} {i j : Nat} : tP P B i j 0 0 = B (2 * i) + 1 ∧ tP P B i j 1 0 = B (2 * i + 1) ∧ tP P B i j 2 0 = 0 ∧ tP P B i j 0 1 = B (2 * j) + 1 ∧ tP P B i j 1 1 = B (2 * j + 1) ∧ tP P B i j 2 1 = 0 := ⟨rfl, rfl, rfl, rfl, rfl, rfl⟩
theorem rW_tP {C P : Nat → Nat → Nat} {B : Nat → Nat} {i j k : Nat} (h : 2 ≤ k) : rW C (tP P B i j) k = rW C P k := by
  funext m
  unfold rW
  rw [tP_ne (.inl h), tP_ne (.inl h), tP_ne (.inl h)]
def plOK (B : Nat → Nat) (i : Nat) : Prop := B (2 * i) ≤ 18 ∧ B (2 * i + 1) ≤ 99
theorem tP_wf {P : Nat → Nat → Nat} {B : Nat → Nat} {i j nq : Nat} (pw : qPWF P nq) (hn : 2 ≤ nq) (hi : plOK B i) (hj : plOK B j) : qPWF (tP P B i j) nq := by
  obtain ⟨h1, h2⟩ := hi
  obtain ⟨h3, h4⟩ := hj
  obtain ⟨t1, t2, t3, t4, t5, t6⟩ := tP_0 (P := P) (B := B) (i := i) (j := j)
  intro k
  have h := pw k
  have hk : k = 0 ∨ k = 1 ∨ 2 ≤ k := by omega
  rcases hk with rfl | rfl | hk
  · rw [t1, t2, t3]; omega
  · rw [t4, t5, t6]; omega
  · rw [tP_ne (.inl hk), tP_ne (.inl hk), tP_ne (.inl hk)]
    exact h
def tS (S : Nat → Int32) (x0 y0 x1 y1 : Int32) : Nat → Int32 := upd (upd (upd (upd (upd (upd S 445 0) 446 0) 427 x0) 436 y0) 428 x1) 437 y1
theorem tS_o {S : Nat → Int32} {x0 y0 x1 y1 : Int32} {k : Nat} (h : k ≠ 445 ∧ k ≠ 446 ∧ k ≠ 427 ∧ k ≠ 436 ∧ k ≠ 428 ∧ k ≠ 437) : tS S x0 y0 x1 y1 k = S k := by
  unfold tS
  rw [pk_un (by omega), pk_un (by omega), pk_un (by omega), pk_un (by omega), pk_un (by omega), pk_un (by omega)]
theorem tS_pm {P : Nat → Nat → Nat} {S : Nat → Int32} {B : Nat → Nat} {i j : Nat} (pm : qPM P S) : qPM (tP P B i j) (tS S (nI (B (2 * i) + 1)) (nI (B (2 * i + 1))) (nI (B (2 * j) + 1)) (nI (B (2 * j + 1)))) := by
  obtain ⟨t1, t2, t3, t4, t5, t6⟩ := tP_0 (P := P) (B := B) (i := i) (j := j)
  refine ⟨?_, fun k hk => ?_⟩
  · rw [tS_o (by omega), tP_ne (.inr (by omega))]
    exact pm.1
  · have hk' : k = 0 ∨ k = 1 ∨ 2 ≤ k := by omega
    rcases hk' with rfl | rfl | h
    · rw [t1, t2, t3]
      unfold tS
      refine ⟨?_, ?_, ?_⟩
      · rw [pk_un (by omega), pk_un (by omega), pk_un (by omega), pk_us]
      · rw [pk_un (by omega), pk_un (by omega), pk_us]
      · rw [pk_un (by omega), pk_un (by omega), pk_un (by omega), pk_un (by omega), pk_un (by omega), pk_us]; rfl
    · rw [t4, t5, t6]
      unfold tS
      refine ⟨?_, ?_, ?_⟩
      · rw [pk_un (by omega), pk_us]
      · rw [pk_us]
      · rw [pk_un (by omega), pk_un (by omega), pk_un (by omega), pk_un (by omega), pk_us]; rfl
    · rw [tP_ne (.inl h), tP_ne (.inl h), tP_ne (.inl h), tS_o (by omega), tS_o (by omega), tS_o (by omega)]
      exact pm.2 k hk
/-- marks of the first with plan i, of the second with plan j -/
def tV (C P : Nat → Nat → Nat) (S : Nat → Int32) (B : Nat → Nat) (i j w : Nat) : Int32 := tv C S (fun q => q) (rW C (tP P B i j)) w
theorem isTable_x {F n : Nat} {B : Nat → Nat} {C P : Nat → Nat → Nat} {μ : aw_M} (hF : 100 ≤ F) (hc : ctx C P μ) (hn : n ≤ 940) (e1 : μ.1 1 1 = nI n) (hB : ∀ i, i < n → B i < 256 ∧ μ.1 2 i = nI (B i)) : T (f_X5_isTable F 88 1 μ) fun r => r.2 = μ ∧ (r.1 = true ↔ (2 ≤ C 0 2 ∧ 2 ≤ n ∧ n ≤ 12 ∧ n % 2 = 0 ∧ ∀ i, i < n / 2 → plOK B i)) := by
  have hnq := hc.1.1.2.2.1
  have r0 : aw_rf 88 0 = 5 := by simp only [rf0, rf1, rf4, rf5, rf19, rf23, rf28, rf39, rf53, rf67, rf71, rf76, rf88, rf97, rf101, rf109, rf110, rf124, rf128, rf133, rf144, rf156, rf157, rf171, rf175, rf180, rf191, rf51]
  have r10 : aw_rf 1 0 = 2 := by simp only [rf0, rf1, rf4, rf5, rf19, rf23, rf28, rf39, rf53, rf67, rf71, rf76, rf88, rf97, rf101, rf109, rf110, rf124, rf128, rf133, rf144, rf156, rf157, rf171, rf175, rf180, rf191, rf51]
  have x3 : μ.1 5 3 = nI (C 0 2) := hc.2.2.1.1.1.2.2.1
  have e2 : (2 : Int32) = nI 2 := rfl
  have e12 : (12 : Int32) = nI 12 := rfl
  have hmod : nI n - nI n / 2 * 2 = nI (n % 2) := by rw [e2, nI_mod (by omega) (by decide)]
  unfold f_X5_isTable
  rw [r0, x3, e1, hmod]
  by_cases h1 : C 0 2 < 2
  · rw [if_pos (by rw [e2]; exact nI_lt h1 (by decide)), T_some]
    exact ⟨rfl, fun h => absurd h Bool.false_ne_true, fun h => by omega⟩
  rw [if_neg (by rw [e2]; exact nI_nlt (by omega) (by omega))]
  by_cases h2 : n < 2
  · rw [if_pos (by rw [e2]; exact nI_lt h2 (by decide)), T_some]
    exact ⟨rfl, fun h => absurd h Bool.false_ne_true, fun h => by omega⟩
  rw [if_neg (by rw [e2]; exact nI_nlt (by omega) (by omega))]
  by_cases h3 : 12 < n
  · rw [if_pos (by rw [e12]; exact nI_lt h3 (by omega)), T_some]
    exact ⟨rfl, fun h => absurd h Bool.false_ne_true, fun h => by omega⟩
  rw [if_neg (by rw [e12]; exact nI_nlt (by omega) (by decide))]
  by_cases h4 : n % 2 = 0
  · rw [if_pos (by rw [h4]; rfl)]
    refine T_lp (fun i s => s = (nI (2 * i), μ) ∧ ∀ i', i' < i → plOK B i') (n / 2) (by omega) ⟨rfl, fun i' h => absurd h (Nat.not_lt_zero _)⟩ ?_ ?_
    · rintro i hi _ ⟨rfl, h⟩ k hk
      obtain ⟨b1, b2⟩ := hB (2 * i) (by omega)
      obtain ⟨b3, b4⟩ := hB (2 * i + 1) (by omega)
      show T (f_X5_isTable_41 F 88 1 k (nI (2 * i)) μ) _
      unfold f_X5_isTable_41
      rw [e1, if_neg (nI_ge (by omega) (by omega)), nI_1, pI_in_t (by omega) (by decide), pg_t, pI_in_t (by omega) (by decide), pg_t, r10, nI_clamp (by omega), nI_clamp (by omega), b2, b4, isPlan_x, Option.bind_some]
      have hpl : ((0 ≤ nI (B (2 * i)) ∧ nI (B (2 * i)) ≤ 18) ∧ 0 ≤ nI (B (2 * i + 1)) ∧ nI (B (2 * i + 1)) ≤ 99) ↔ plOK B i := by
        have h18 : nI (B (2 * i)) ≤ 18 ↔ B (2 * i) ≤ 18 := nI_leI (b := 18) (by omega) (by decide)
        have h99 : nI (B (2 * i + 1)) ≤ 99 ↔ B (2 * i + 1) ≤ 99 := nI_leI (b := 99) (by omega) (by decide)
        rw [h18, h99]
        exact ⟨fun h => ⟨h.1.2, h.2.2⟩, fun h => ⟨⟨nI_pos' (by omega), h.1⟩, nI_pos' (by omega), h.2⟩⟩
      have e22 : nI (2 * i) + 2 = nI (2 * (i + 1)) := nI_add (2 * i) 2
      by_cases hp : plOK B i
      · rw [decide_eq_true (hpl.2 hp), if_pos rfl, e22]
        refine hk _ ⟨rfl, fun i' hi' => ?_⟩
        by_cases e : i' = i
        · rw [e]; exact hp
        · exact h i' (by omega)
      · rw [decide_eq_false (fun h => hp (hpl.1 h)), if_neg Bool.false_ne_true, T_some]
        exact ⟨rfl, fun h => absurd h Bool.false_ne_true, fun h => absurd (h.2.2.2.2 i hi) hp⟩
    · rintro _ ⟨rfl, h⟩ k
      have e : 2 * (n / 2) = n := by omega
      show T (f_X5_isTable_41 F 88 1 k (nI (2 * (n / 2))) μ) _
      unfold f_X5_isTable_41
      rw [e, e1, if_pos (nI_le (Nat.le_refl _) (by omega)), T_some]
      exact ⟨rfl, fun _ => ⟨by omega, by omega, by omega, h4, h⟩, fun _ => rfl⟩
  · rw [if_neg (nI_ne0 (by omega) (by omega)), T_some]
    exact ⟨rfl, fun h => absurd h Bool.false_ne_true, fun h => absurd h.2.2.2.1 h4⟩
