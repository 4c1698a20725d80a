/-! arrays written in a row; a number within a bound -/
def wr (S : Nat → Int32) (b n : Nat) (g : Nat → Int32) : Nat → Int32 := fun k => if b ≤ k ∧ k < b + n then g (k - b) else S k
theorem wr_0 {S : Nat → Int32} {b : Nat} {g : Nat → Int32} : wr S b 0 g = S := by
  funext k
  unfold wr
  rw [if_neg (by omega)]
theorem wr_s {S : Nat → Int32} {b i : Nat} {g : Nat → Int32} : upd (wr S b i g) (b + i) (g i) = wr S b (i + 1) g := by
  funext k
  by_cases e : k = b + i
  · subst e
    rw [pk_us]
    unfold wr
    rw [if_pos (by omega)]
    congr 1
    omega
  · rw [pk_un e]
    unfold wr
    by_cases e2 : b ≤ k ∧ k < b + i
    · rw [if_pos e2, if_pos (by omega)]
    · rw [if_neg e2, if_neg (by omega)]
theorem wr_in {S : Nat → Int32} {b n k : Nat} {g : Nat → Int32} (h : b ≤ k) (h2 : k < b + n) : wr S b n g k = g (k - b) := if_pos ⟨h, h2⟩
theorem wr_at {S : Nat → Int32} {b n k : Nat} {g : Nat → Int32} (h2 : k < n) : wr S b n g (b + k) = g k := by
  rw [wr_in (by omega) (by omega)]
  congr 1
  omega
theorem wr_out {S : Nat → Int32} {b n k : Nat} {g : Nat → Int32} (h : k < b ∨ b + n ≤ k) : wr S b n g k = S k := if_neg (by omega)
theorem aset_self {μ : aw_M} {a : Nat} : aset μ a (μ.1 a) = μ := by
  unfold aset
  have : va_up μ.1 a (μ.1 a) = μ.1 := by
    funext b
    by_cases h : b = a
    · subst h; rw [va_up_self]
    · rw [va_up_ne _ _ h]
  rw [this]
theorem aset_comm {μ : aw_M} {a b : Nat} {g h : Nat → Int32} (e : a ≠ b) : aset (aset μ a g) b h = aset (aset μ b h) a g := by
  unfold aset
  congr 1
  funext c
  show va_up (va_up μ.1 a g) b h c = va_up (va_up μ.1 b h) a g c
  by_cases e1 : c = a
  · subst e1
    rw [va_up_ne _ _ e, va_up_self, va_up_self]
  · by_cases e2 : c = b
    · subst e2
      rw [va_up_self, va_up_ne _ _ e1, va_up_self]
    · rw [va_up_ne _ _ e2, va_up_ne _ _ e1, va_up_ne _ _ e1, va_up_ne _ _ e2]
theorem T_call {α β : Type} {o : Option α} {f : α → Option β} {P : α → Prop} {Q : β → Prop} (h : T o P) (hf : ∀ r, P r → T (f r) Q) : T (o.bind f) Q := by
  obtain ⟨r, e, h⟩ := h
  rw [e]
  exact hf r h
theorem T_eq {α : Type} {o : Option α} {r : α} {Q : α → Prop} (h : o = some r) (hq : Q r) : T o Q := ⟨r, h, hq⟩
/-- a loop by an invariant -/
theorem T_lp {σ α : Type} {f : (σ → Option α) → σ → Option α} {Q : α → Prop} (I : Nat → σ → Prop) (n : Nat) {F : Nat} {s0 : σ} (hF : n < F) (h0 : I 0 s0) (hs : ∀ i, i < n → ∀ s, I i s → ∀ k, (∀ s', I (i + 1) s' → T (k s') Q) → T (f k s) Q) (he : ∀ s, I n s → ∀ k, T (f k s) Q) : T (aw_loop f F s0) Q := by
  have key : ∀ (j i F : Nat) (s : σ), i + j = n → j < F → I i s → T (aw_loop f F s) Q := by
    intro j
    induction j with
    | zero =>
      intro i F s hi hF h
      obtain ⟨F, rfl⟩ : ∃ G, F = G + 1 := ⟨F - 1, by omega⟩
      have e : i = n := by omega
      subst e
      exact he s h _
    | succ j ih =>
      intro i F s hi hF h
      obtain ⟨F, rfl⟩ : ∃ G, F = G + 1 := ⟨F - 1, by omega⟩
      exact hs i (by omega) s h _ (fun s' h' => ih (i + 1) F s' (by omega) (by omega) h')
  exact key n 0 F s0 (by omega) hF h0
/-- a loop by a measure -/
theorem T_lm {σ α : Type} {f : (σ → Option α) → σ → Option α} {Q : α → Prop} (I : σ → Prop) (m : σ → Nat) (hs : ∀ s, I s → ∀ k, (∀ s', I s' → m s' < m s → T (k s') Q) → T (f k s) Q) : ∀ {F : Nat} {s0 : σ}, m s0 < F → I s0 → T (aw_loop f F s0) Q := by
  have key : ∀ (n F : Nat) (s : σ), m s < n → m s < F → I s → T (aw_loop f F s) Q := by
    intro n
    induction n with
    | zero => intro F s h; exact absurd h (Nat.not_lt_zero _)
    | succ n ih =>
      intro F s h hF hI
      obtain ⟨F, rfl⟩ : ∃ G, F = G + 1 := ⟨F - 1, by omega⟩
      exact hs s hI _ (fun s' h' hm => ih F s' (by omega) (by omega) h')
  intro F s0 hF hI
  exact key (m s0 + 1) F s0 (by omega) hF hI
/-- a number from 0 to B -/
def inB (x : Int32) (B : Nat) : Prop := ∃ b, b ≤ B ∧ x = nI b
def cl (x : Int32) (B : Nat) : Nat := min x.toNatClampNeg B
theorem cl_le (x : Int32) (B : Nat) : cl x B ≤ B := Nat.min_le_right _ _
theorem cl_nI {b B : Nat} (h : b ≤ B) (hB : B < 2 ^ 31) : cl (nI b) B = b := by
  unfold cl
  rw [nI_clamp (by omega)]
  omega
theorem inB.eq {x : Int32} {B : Nat} (h : inB x B) (hB : B < 2 ^ 31) : x = nI (cl x B) := by
  obtain ⟨b, hb, rfl⟩ := h
  rw [cl_nI hb hB]
theorem inB.mono {x : Int32} {B B' : Nat} (h : inB x B) (hB : B ≤ B') : inB x B' := by
  obtain ⟨b, hb, e⟩ := h
  exact ⟨b, by omega, e⟩
theorem inB_nI {b B : Nat} (h : b ≤ B) : inB (nI b) B := ⟨b, h, rfl⟩
theorem inB_0 {B : Nat} : inB 0 B := ⟨0, Nat.zero_le _, rfl⟩
/-- copying a row -/
theorem copyRow_eq {F a b n : Nat} {μ : aw_M} (ha : (aw_sh a).2 = n) (hb : (aw_sh b).2 = n) (hn : n < 2000) : f_X10_copyRow F a b μ = some (aset μ b (wr (μ.1 b) 0 n (μ.1 a))) := by
  unfold f_X10_copyRow
  have e : (Int32.ofNat n) = nI n := rfl
  have h1 : ¬ nI n < nI n := by rw [nI_ltI (by omega) (by omega)]; omega
  have h2 : aw_cok 0 0 (nI n) n n = true := by
    unfold aw_cok
    rw [nI_toInt (by omega)]
    have : (0 : Int32).toInt = 0 := by decide
    simp [this]
  have c0 : (0 : Int32).toNatClampNeg = 0 := by decide
  rw [ha, hb, e, if_neg h1, h2, pg_t, plet, c0, nI_clamp (by omega)]
  have : aw_cp μ a b 0 0 n = aset μ b (wr (μ.1 b) 0 n (μ.1 a)) := by
    unfold aw_cp aset
    congr 2
    funext k
    unfold va_cpy wr
    by_cases h : 0 ≤ k ∧ k < 0 + n
    · rw [if_pos h, if_pos h, Nat.zero_add]
    · rw [if_neg h, if_neg h]
  rw [this]
theorem fil_wr {F a n : Nat} {v : Int32} {μ : aw_M} (hF : 2000 ≤ F) (hn : (aw_sh a).2 = n) (hn2 : n < 2000) : f_J7_fill_53178 F a v μ = some (aset μ a (wr (μ.1 a) 0 n (fun _ => v))) := by
  rw [fil_eq hF hn hn2]
  congr 2
  funext k
  unfold fil wr
  by_cases h : k < n
  · rw [if_pos h, if_pos (by omega)]
  · rw [if_neg h, if_neg (by omega)]
/-- the fight as the class has it at f and the reference in its row S: the same numbers -/
def XS (T : Nat → Nat → Nat) (f : Nat) (μ : aw_M) (S : Nat → Int32) : Prop :=
  (μ.1 f 3 = S 455 ∧ μ.1 f 4 = S 456 ∧ μ.1 f 5 = S 457 ∧ μ.1 f 6 = S 914 ∧ μ.1 f 7 = S 915 ∧ μ.1 f 18 = S 919) ∧
  (μ.1 (f + 1) 1 = S 916 ∧ μ.1 (f + 1) 0 = S 917 ∧ μ.1 (f + 1) 2 = S 918) ∧
  (∀ q, q < T 0 2 → μ.1 (f + 2) q = S (458 + q) ∧ μ.1 (f + 3) q = S (467 + q) ∧ μ.1 (f + 4) q = S (476 + q) ∧ μ.1 (f + 5) q = S (485 + q)) ∧
  (∀ q c, q < T 0 2 → c < T 0 3 → μ.1 (f + 6) (20 * q + c) = S (494 + 20 * q + c)) ∧
  (∀ c, c < T 0 3 → μ.1 (f + 7) c = S (674 + c) ∧ μ.1 (f + 8) c = S (694 + c)) ∧
  (∀ a, a < 100 → μ.1 (f + 9) a = S (714 + a) ∧ μ.1 (f + 10) a = S (814 + a)) ∧
  (∀ n, n ≤ 9 → S 919 = nI n → ∀ k, k < n → ∀ j, j < 6 → μ.1 (f + 11) (6 * k + j) = S (920 + 6 * k + j))
/-- its numbers are within their bounds: day d, minute m, n throws told, pulp at most b -/
def SW (T : Nat → Nat → Nat) (d m n b : Nat) (S : Nat → Int32) : Prop :=
  (S 455 = nI d ∧ S 456 = nI m ∧ S 919 = nI n) ∧
  (∀ q, q < T 0 2 → inB (S (458 + q)) 400 ∧ inB (S (485 + q)) 2 ∧ ∀ c, c < T 0 3 → inB (S (494 + 20 * q + c)) 400) ∧
  (∀ c, c < T 0 3 → inB (S (674 + c)) 400) ∧
  (∀ a, a < 100 → inB (S (714 + a)) b ∧ inB (S (814 + a)) 1)
def dmn (d m n : Nat) : Prop := d ≤ 3 ∧ m ≤ 240 ∧ (m = 240 ↔ d = 3) ∧ n ≤ 9
def gS (S : Nat → Int32) (f i : Nat) : Nat :=
  if f = 0 then cl (S (458 + i)) 400 else if f = 1 then cl (S (494 + i)) 400 else if f = 2 then cl (S (674 + i)) 400
  else if f = 3 then cl (S (714 + i)) (60 * cl (S 456) 240) else if f = 4 then cl (S (814 + i)) 1
  else if f = 5 then (if i = 0 then cl (S 455) 3 else if i = 1 then cl (S 456) 240 else cl (S 919) 9) else cl (S (485 + i)) 2
theorem fight_of {T : Nat → Nat → Nat} {f d m n : Nat} {μ : aw_M} {S : Nat → Int32} (hx : XS T f μ S) (hw : SW T d m n (60 * m) S) (hd : dmn d m n) (hsd : ∀ a, a < 100 → inB (S (814 + a)) (bN (decide (cellok T a)))) : qFWF T (gS S) ∧ qFX T (gS S) μ f ∧ qFM T (gS S) S ∧ qFS T (gS S) μ f S := by
  obtain ⟨⟨x1, x2, x3, x4, x5, x6⟩, ⟨x7, x8, x9⟩, x10, x11, x12, x13, x14⟩ := hx
  obtain ⟨⟨w1, w2, w3⟩, w4, w5, w6⟩ := hw
  obtain ⟨d1, d2, d3, d4⟩ := hd
  have e0 : gS S 5 0 = d := by show cl (S 455) 3 = d; rw [w1, cl_nI d1 (by decide)]
  have e1 : gS S 5 1 = m := by show cl (S 456) 240 = m; rw [w2, cl_nI d2 (by decide)]
  have e2 : gS S 5 2 = n := by show cl (S 919) 9 = n; rw [w3, cl_nI d4 (by decide)]
  have e3 : ∀ a, gS S 3 a = cl (S (714 + a)) (60 * m) := fun a => by show cl (S (714 + a)) (60 * cl (S 456) 240) = _; rw [w2, cl_nI d2 (by decide)]
  have k1 : ∀ q, q < T 0 2 → S (458 + q) = nI (gS S 0 q) ∧ S (485 + q) = nI (gS S 6 q) ∧ ∀ c, c < T 0 3 → S (494 + 20 * q + c) = nI (gS S 1 (20 * q + c)) := fun q hq => by
    obtain ⟨g1, g2, g3⟩ := w4 q hq
    refine ⟨g1.eq (by decide), g2.eq (by decide), fun c hc => ?_⟩
    show S (494 + 20 * q + c) = nI (cl (S (494 + (20 * q + c))) 400)
    rw [← Nat.add_assoc]
    exact (g3 c hc).eq (by decide)
  have k2 : ∀ c, c < T 0 3 → S (674 + c) = nI (gS S 2 c) := fun c hc => (w5 c hc).eq (by decide)
  have k3 : ∀ a, a < 100 → S (714 + a) = nI (gS S 3 a) ∧ S (814 + a) = nI (gS S 4 a) := fun a ha => by
    rw [e3]
    exact ⟨(w6 a ha).1.eq (by omega), (w6 a ha).2.eq (by decide)⟩
  refine ⟨⟨⟨by omega, by omega, by omega, by omega⟩, fun q => ⟨cl_le _ _, cl_le _ _⟩, fun i => cl_le _ _, fun c => cl_le _ _, fun a => ⟨by rw [e3, e1]; exact cl_le _ _, cl_le _ _⟩, fun a ha => by
    obtain ⟨b, hb, eb⟩ := hsd a ha
    have hb1 := bN_le (decide (cellok T a))
    show cl (S (814 + a)) 1 ≤ _
    rw [eb, cl_nI (by omega) (by decide)]
    exact hb⟩, ⟨⟨?_, ?_, ?_⟩, fun q hq => ⟨?_, ?_, fun c hc => ?_⟩, fun c hc => ?_, fun a ha => ⟨?_, ?_⟩⟩, ⟨⟨?_, ?_, ?_⟩, k1, k2, k3⟩, ⟨⟨x3, x4, x5, x7, x8, x9⟩, fun q hq => ⟨(x10 q hq).2.1, (x10 q hq).2.2.1⟩, fun c hc => (x12 c hc).2, fun k hk j hj => x14 n d4 w3 k (by omega) j hj⟩⟩
  · rw [x1, w1, e0]
  · rw [x2, w2, e1]
  · rw [x6, w3, e2]
  · rw [(x10 q hq).1]; exact (k1 q hq).1
  · rw [(x10 q hq).2.2.2]; exact (k1 q hq).2.1
  · rw [x11 q c hq hc]; exact (k1 q hq).2.2 c hc
  · rw [(x12 c hc).1]; exact k2 c hc
  · rw [(x13 a ha).1]; exact (k3 a ha).1
  · rw [(x13 a ha).2]; exact (k3 a ha).2
  · rw [w1, e0]
  · rw [w2, e1]
  · rw [w3, e2]
theorem of_fight {T G : Nat → Nat → Nat} {f : Nat} {μ : aw_M} {S : Nat → Int32} (h : qFWF T G ∧ qFX T G μ f ∧ qFM T G S ∧ qFS T G μ f S) : XS T f μ S ∧ SW T (G 5 0) (G 5 1) (G 5 2) (60 * G 5 1) S ∧ dmn (G 5 0) (G 5 1) (G 5 2) := by
  obtain ⟨⟨w1, w2, w3, w4, w5, -⟩, ⟨⟨x1, x2, x3⟩, x4, x5, x6⟩, ⟨⟨m1, m2, m3⟩, m4, m5, m6⟩, ⟨s1, s2, s3, s4, s5, s6⟩, s7, s8, s9⟩ := h
  refine ⟨⟨⟨by rw [x1, m1], by rw [x2, m2], s1, s2, s3, by rw [x3, m3]⟩, ⟨s4, s5, s6⟩, fun q hq => ⟨by rw [(x4 q hq).1, (m4 q hq).1], (s7 q hq).1, (s7 q hq).2, by rw [(x4 q hq).2.1, (m4 q hq).2.1]⟩, fun q c hq hc => by rw [(x4 q hq).2.2 c hc, (m4 q hq).2.2 c hc], fun c hc => ⟨by rw [x5 c hc, m5 c hc], s8 c hc⟩, fun a ha => ⟨by rw [(x6 a ha).1, (m6 a ha).1], by rw [(x6 a ha).2, (m6 a ha).2]⟩, fun n hn e k hk j hj => s9 k ?_ j hj⟩, ⟨⟨m1, m2, m3⟩, fun q hq => ⟨⟨_, (w2 q).1, (m4 q hq).1⟩, ⟨_, (w2 q).2, (m4 q hq).2.1⟩, fun c hc => ⟨_, w3 _, (m4 q hq).2.2 c hc⟩⟩, fun c hc => ⟨_, w4 _, m5 c hc⟩, fun a ha => ⟨⟨_, (w5 a).1, (m6 a ha).1⟩, ⟨_, (w5 a).2, (m6 a ha).2⟩⟩⟩, w1⟩
  rw [m3] at e
  have := (nI_eq (by omega) (by omega)).1 e
  omega
