/-! a state's parts, each with what it needs of a memory -/
def AgK (K : Nat → Nat → Bool) (μ μ' : aw_M) : Prop := ∀ a k, K a k = true → μ'.1 a k = μ.1 a k ∧ μ'.2 a k = μ.2 a k
theorem AgK.rf {K : Nat → Nat → Bool} (μ : aw_M) : AgK K μ μ := fun _ _ _ => ⟨rfl, rfl⟩
theorem AgK.tr {K : Nat → Nat → Bool} {μ μ1 μ2 : aw_M} (h : AgK K μ μ1) (h2 : AgK K μ1 μ2) : AgK K μ μ2 := fun a k q => ⟨(h2 a k q).1.trans (h a k q).1, (h2 a k q).2.trans (h a k q).2⟩
theorem AgK.sub {K K' : Nat → Nat → Bool} {μ μ1 : aw_M} (h : AgK K μ μ1) (hK : ∀ a k, K' a k = true → K a k = true) : AgK K' μ μ1 := fun a k q => h a k (hK a k q)
theorem AgK.wI {K : Nat → Nat → Bool} {μ μ1 : aw_M} {a k : Nat} {v : Int32} (h : AgK K μ μ1) (hk : K a k = false) : AgK K μ (aw_wI μ1 a k v) := fun b j q => by
  refine ⟨?_, (h b j q).2⟩
  rw [← (h b j q).1]
  by_cases e : b = a
  · subst e
    by_cases e2 : j = k
    · subst e2
      rw [hk] at q
      cases q
    · exact rI_k e2
  · rw [rI_a e]
theorem AgK.wL {K : Nat → Nat → Bool} {μ μ1 : aw_M} {a k : Nat} {v : Int64} (h : AgK K μ μ1) (hk : K a k = false) : AgK K μ (aw_wL μ1 a k v) := fun b j q => by
  refine ⟨(h b j q).1, ?_⟩
  rw [← (h b j q).2]
  by_cases e : b = a
  · subst e
    by_cases e2 : j = k
    · subst e2
      rw [hk] at q
      cases q
    · exact rL_k e2
  · rw [rL_a e]
def Rsc (μ : aw_M) : Prop := ∃ T W P Y G, qSC T W P Y G μ 4 (μ.1 205) (μ.2 208) ∧ qGX T μ 28
def Rtp (μ : aw_M) : Prop := ∃ n B, qTape n B μ
def Rfa (μ : aw_M) : Prop := μ.1 0 11 = μ.1 203 15
def Rkp (μ : aw_M) : Prop := qKept μ 0 109 ∧ qKept μ 1 156
theorem R_iff {μ : aw_M} : R μ ↔ Rsc μ ∧ Rtp μ ∧ Rfa μ ∧ Rkp μ ∧ qPz μ ∧ qK μ := by
  unfold R Rsc Rtp Rfa Rkp
  constructor
  · rintro ⟨a, b, c, d, e, f, g⟩
    exact ⟨a, b, c, ⟨d, e⟩, f, g⟩
  · rintro ⟨a, b, c, ⟨d, e⟩, f, g⟩
    exact ⟨a, b, c, d, e, f, g⟩
def kSc (a k : Nat) : Bool := decide ((5 ≤ a ∧ a ≤ 26) ∨ (28 ≤ a ∧ a ≤ 50) ∨ a = 205 ∨ (a = 208 ∧ k < 9))
def kTp (a k : Nat) : Bool := decide ((a = 1 ∧ k = 1) ∨ (a = 203 ∧ k = 2) ∨ a = 2 ∨ a = 204)
def kFa (a k : Nat) : Bool := decide ((a = 0 ∧ k = 11) ∨ (a = 203 ∧ k = 15))
def kKp (a k : Nat) : Bool := decide (a = 52 ∨ (109 ≤ a ∧ a ≤ 202) ∨ (227 ≤ a ∧ a ≤ 229))
def kPz (a k : Nat) : Bool := decide (a = 98 ∨ a = 212 ∨ a = 100 ∨ a = 217 ∨ a = 102 ∨ a = 219 ∨ a = 222 ∨ a = 96 ∨ a = 223 ∨ (a = 203 ∧ (k = 26 ∨ k = 31 ∨ k = 35 ∨ k = 38 ∨ k = 41)) ∨ (a = 97 ∧ k = 2) ∨ (a = 101 ∧ (k = 0 ∨ k = 8 ∨ k = 9)) ∨ (a = 88 ∧ k = 10))
def kK (a k : Nat) : Bool := decide (a = 3 ∨ a = 209 ∨ a = 99)
theorem AgK.a {K : Nat → Nat → Bool} {μ μ' : aw_M} (h : AgK K μ μ') {a : Nat} (ha : ∀ k, K a k = true) : μ'.1 a = μ.1 a := funext fun k => (h a k (ha k)).1
theorem AgK.b {K : Nat → Nat → Bool} {μ μ' : aw_M} (h : AgK K μ μ') {a : Nat} (ha : ∀ k, K a k = true) : μ'.2 a = μ.2 a := funext fun k => (h a k (ha k)).2
theorem Rsc_ag {μ μ' : aw_M} (h : AgK kSc μ μ') (hR : Rsc μ) : Rsc μ' := by
  obtain ⟨T, W, P, Y, G, hS, hG⟩ := hR
  have hk : ∀ a k, 5 ≤ a → a ≤ 50 → a ≠ 27 → kSc a k = true := fun a k h1 h2 h3 => by unfold kSc; exact decide_eq_true (by omega)
  refine ⟨T, W, P, Y, G, ?_, ?_⟩
  · rw [h.a (a := 205) fun _ => by unfold kSc; exact decide_eq_true (by omega)]
    have hS2 := qSC_ag (b := 4) (μ' := μ') (fun a h1 h2 h3 h4 => h.a fun k => hk a k h1 h2 h3) (h.b (a := 6) fun k => hk 6 k (by omega) (by omega) (by omega)) hS
    refine ⟨hS2.1, ⟨?_, hS2.2.1.2⟩, hS2.2.2⟩
    intro q hq
    obtain ⟨g1, g2, g3⟩ := hS2.2.1.1 q hq
    refine ⟨g1, g2, ?_⟩
    have hq9 : q < 9 := Nat.lt_of_lt_of_le hq hS2.1.1.1.2.2.1
    rw [(h 208 q (by unfold kSc; exact decide_eq_true (by omega))).2]
    exact g3
  · exact qGX_ag (fun a h1 h2 => h.a fun k => hk a k (by omega) (by omega) (by omega)) hG
theorem Rtp_ag {μ μ' : aw_M} (h : AgK kTp μ μ') (hR : Rtp μ) : Rtp μ' := by
  obtain ⟨n, B, g1, g2, g3, g4⟩ := hR
  refine ⟨n, B, g1, ?_, ?_, ?_⟩
  · rw [(h 1 1 rfl).1]; exact g2
  · rw [(h 203 2 rfl).1]; exact g3
  · rw [h.a (a := 2) fun _ => by unfold kTp; exact decide_eq_true (by omega), h.a (a := 204) fun _ => by unfold kTp; exact decide_eq_true (by omega)]; exact g4
theorem Rfa_ag {μ μ' : aw_M} (h : AgK kFa μ μ') (hR : Rfa μ) : Rfa μ' := by
  unfold Rfa
  rw [(h 0 11 rfl).1, (h 203 15 rfl).1]; exact hR
theorem qKept_ag {μ μ' : aw_M} {k b : Nat} (h : AgK kKp μ μ') (hb : b = 109 ∨ b = 156) (hR : qKept μ k b) : qKept μ' k b := by
  have hk : ∀ a k, (a = 52 ∨ (109 ≤ a ∧ a ≤ 202) ∨ (227 ≤ a ∧ a ≤ 229)) → kKp a k = true := fun a k h1 => decide_eq_true h1
  obtain ⟨x, g1, g2, g3, g4⟩ := hR
  refine ⟨x, g1, ?_, ?_, fun hx => ?_⟩
  · rw [h.a (a := 52) fun k => hk _ k (by omega)]; exact g2
  · rw [h.a (a := 229) fun k => hk _ k (by omega)]; exact g3
  · obtain ⟨T, W, P, Y, G, g5⟩ := g4 hx
    rw [h.a (a := 227) fun k => hk _ k (by omega), h.b (a := 228) fun k => hk _ k (by omega)]
    exact ⟨T, W, P, Y, G, qSC_ag (b := b) (fun a h1 h2 h3 h4 => h.a fun k => hk _ k (by omega)) (h.b (a := b + 2) fun k => hk _ k (by omega)) g5⟩
theorem Rkp_ag {μ μ' : aw_M} (h : AgK kKp μ μ') (hR : Rkp μ) : Rkp μ' := ⟨qKept_ag h (.inl rfl) hR.1, qKept_ag h (.inr rfl) hR.2⟩
theorem qPz_ag {μ μ' : aw_M} (h : AgK kPz μ μ') (hp : qPz μ) : qPz μ' := by
  have ha : ∀ a, (a = 98 ∨ a = 212 ∨ a = 100 ∨ a = 217 ∨ a = 102 ∨ a = 219 ∨ a = 222 ∨ a = 96 ∨ a = 223) → μ'.1 a = μ.1 a := fun a ha => h.a fun k => by unfold kPz; exact decide_eq_true (by omega)
  unfold qPz at hp ⊢
  simp only [(h 203 26 rfl).1, ha 98 (by omega), ha 212 (by omega), (h 97 2 rfl).1, (h 203 31 rfl).1, ha 100 (by omega), ha 217 (by omega), (h 101 0 rfl).1, (h 203 35 rfl).1, ha 102 (by omega), ha 219 (by omega), (h 101 8 rfl).1, (h 203 38 rfl).1, ha 222 (by omega), (h 101 9 rfl).2, (h 88 10 rfl).1, (h 203 41 rfl).1, ha 96 (by omega), ha 223 (by omega)]
  exact hp
theorem qK_ag {μ μ' : aw_M} (h : AgK kK μ μ') (hp : qK μ) : qK μ' := by
  unfold qK at hp ⊢
  simp only [h.b (a := 3) (fun k => by unfold kK; exact decide_eq_true (by omega)), h.b (a := 209) (fun k => by unfold kK; exact decide_eq_true (by omega)), h.a (a := 99) (fun k => by unfold kK; exact decide_eq_true (by omega))]
  exact hp
