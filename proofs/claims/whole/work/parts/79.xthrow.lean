/-! a throw, as the class does it -/
theorem rfF {f : Nat} (hf : f = 39 ∨ f = 76) : aw_rf f 0 = 5 ∧ aw_rf f 1 = 19 ∧ aw_rf f 2 = 28 ∧ aw_rf f 8 = f + 1 ∧ aw_rf f 9 = f + 2 ∧ aw_rf f 10 = f + 3 ∧ aw_rf f 11 = f + 4 ∧ aw_rf f 12 = f + 5 ∧ aw_rf f 13 = f + 6 ∧ aw_rf f 14 = f + 7 ∧ aw_rf f 15 = f + 8 ∧ aw_rf f 16 = f + 9 ∧ aw_rf f 17 = f + 10 ∧ aw_rf f 19 = f + 11 := by
  rcases hf with rfl | rfl <;> decide +kernel
/-- a number of the class's and its place in the reference's row -/
def MT (f a i k : Nat) : Prop := (a = f ∧ i = 3 ∧ k = 455) ∨ (a = f ∧ i = 4 ∧ k = 456) ∨ (a = f ∧ i = 5 ∧ k = 457) ∨ (a = f ∧ i = 6 ∧ k = 914) ∨ (a = f ∧ i = 7 ∧ k = 915) ∨ (a = f + 1 ∧ i = 1 ∧ k = 916) ∨ (a = f + 1 ∧ i = 0 ∧ k = 917) ∨ (a = f + 1 ∧ i = 2 ∧ k = 918) ∨ (a = f + 2 ∧ i < 9 ∧ k = 458 + i) ∨ (a = f + 3 ∧ i < 9 ∧ k = 467 + i) ∨ (a = f + 4 ∧ i < 9 ∧ k = 476 + i) ∨ (a = f + 5 ∧ i < 9 ∧ k = 485 + i) ∨ (a = f + 6 ∧ i < 180 ∧ k = 494 + i) ∨ (a = f + 7 ∧ i < 20 ∧ k = 674 + i) ∨ (a = f + 8 ∧ i < 20 ∧ k = 694 + i) ∨ (a = f + 9 ∧ i < 100 ∧ k = 714 + i) ∨ (a = f + 10 ∧ i < 100 ∧ k = 814 + i) ∨ (a = f + 11 ∧ i < 54 ∧ k = 920 + i)
theorem MT.m3 {f : Nat} : MT f (f) 3 455 := .inl ⟨rfl, rfl, rfl⟩
theorem MT.m4 {f : Nat} : MT f (f) 4 456 := .inr (.inl ⟨rfl, rfl, rfl⟩)
theorem MT.m5 {f : Nat} : MT f (f) 5 457 := .inr (.inr (.inl ⟨rfl, rfl, rfl⟩))
theorem MT.m6 {f : Nat} : MT f (f) 6 914 := .inr (.inr (.inr (.inl ⟨rfl, rfl, rfl⟩)))
theorem MT.m7 {f : Nat} : MT f (f) 7 915 := .inr (.inr (.inr (.inr (.inl ⟨rfl, rfl, rfl⟩))))
theorem MT.k1 {f : Nat} : MT f (f + 1) 1 916 := .inr (.inr (.inr (.inr (.inr (.inl ⟨rfl, rfl, rfl⟩)))))
theorem MT.k0 {f : Nat} : MT f (f + 1) 0 917 := .inr (.inr (.inr (.inr (.inr (.inr (.inl ⟨rfl, rfl, rfl⟩))))))
theorem MT.k2 {f : Nat} : MT f (f + 1) 2 918 := .inr (.inr (.inr (.inr (.inr (.inr (.inr (.inl ⟨rfl, rfl, rfl⟩)))))))
theorem MT.b {f i k : Nat} (h : i < 9) (e : k = 458 + i) : MT f (f + 2) i k := .inr (.inr (.inr (.inr (.inr (.inr (.inr (.inr (.inl ⟨rfl, h, e⟩))))))))
theorem MT.m {f i k : Nat} (h : i < 9) (e : k = 467 + i) : MT f (f + 3) i k := .inr (.inr (.inr (.inr (.inr (.inr (.inr (.inr (.inr (.inl ⟨rfl, h, e⟩)))))))))
theorem MT.w {f i k : Nat} (h : i < 9) (e : k = 476 + i) : MT f (f + 4) i k := .inr (.inr (.inr (.inr (.inr (.inr (.inr (.inr (.inr (.inr (.inl ⟨rfl, h, e⟩))))))))))
theorem MT.o {f i k : Nat} (h : i < 9) (e : k = 485 + i) : MT f (f + 5) i k := .inr (.inr (.inr (.inr (.inr (.inr (.inr (.inr (.inr (.inr (.inr (.inl ⟨rfl, h, e⟩)))))))))))
theorem MT.u {f i k : Nat} (h : i < 180) (e : k = 494 + i) : MT f (f + 6) i k := .inr (.inr (.inr (.inr (.inr (.inr (.inr (.inr (.inr (.inr (.inr (.inr (.inl ⟨rfl, h, e⟩))))))))))))
theorem MT.l {f i k : Nat} (h : i < 20) (e : k = 674 + i) : MT f (f + 7) i k := .inr (.inr (.inr (.inr (.inr (.inr (.inr (.inr (.inr (.inr (.inr (.inr (.inr (.inl ⟨rfl, h, e⟩)))))))))))))
theorem MT.h {f i k : Nat} (h : i < 20) (e : k = 694 + i) : MT f (f + 8) i k := .inr (.inr (.inr (.inr (.inr (.inr (.inr (.inr (.inr (.inr (.inr (.inr (.inr (.inr (.inl ⟨rfl, h, e⟩))))))))))))))
theorem MT.p {f i k : Nat} (h : i < 100) (e : k = 714 + i) : MT f (f + 9) i k := .inr (.inr (.inr (.inr (.inr (.inr (.inr (.inr (.inr (.inr (.inr (.inr (.inr (.inr (.inr (.inl ⟨rfl, h, e⟩)))))))))))))))
theorem MT.s {f i k : Nat} (h : i < 100) (e : k = 814 + i) : MT f (f + 10) i k := .inr (.inr (.inr (.inr (.inr (.inr (.inr (.inr (.inr (.inr (.inr (.inr (.inr (.inr (.inr (.inr (.inl ⟨rfl, h, e⟩))))))))))))))))
theorem MT.t {f i k : Nat} (h : i < 54) (e : k = 920 + i) : MT f (f + 11) i k := .inr (.inr (.inr (.inr (.inr (.inr (.inr (.inr (.inr (.inr (.inr (.inr (.inr (.inr (.inr (.inr (.inr (⟨rfl, h, e⟩)))))))))))))))))
theorem XS.w {T : Nat → Nat → Nat} {f a i k : Nat} {v : Int32} {μ : aw_M} {S : Nat → Int32} (h : XS T f μ S) (hw : qT0 T) (hm : MT f a i k) : XS T f (aw_wI μ a i v) (upd S k v) := by
  have hw := hw.1
  have key : ∀ b j k', (b = a ∧ j = i ↔ k' = k) → μ.1 b j = S k' → (aw_wI μ a i v).1 b j = upd S k v k' := fun b j k' hi e => by
    by_cases h1 : k' = k
    · obtain ⟨rfl, rfl⟩ := hi.2 h1
      rw [h1, pk_us, rI_s]
    · rw [pk_un h1]
      by_cases h2 : b = a
      · subst h2
        rw [rI_k (fun h3 => h1 (hi.1 ⟨rfl, h3⟩))]
        exact e
      · rw [rI_a h2]
        exact e
  obtain ⟨⟨x1, x2, x3, x4, x5, x6⟩, ⟨x7, x8, x9⟩, x10, x11, x12, x13, x14⟩ := h
  rcases hm with ⟨rfl, rfl, rfl⟩ | ⟨rfl, rfl, rfl⟩ | ⟨rfl, rfl, rfl⟩ | ⟨rfl, rfl, rfl⟩ | ⟨rfl, rfl, rfl⟩ | ⟨rfl, rfl, rfl⟩ | ⟨rfl, rfl, rfl⟩ | ⟨rfl, rfl, rfl⟩ | ⟨rfl, hi, rfl⟩ | ⟨rfl, hi, rfl⟩ | ⟨rfl, hi, rfl⟩ | ⟨rfl, hi, rfl⟩ | ⟨rfl, hi, rfl⟩ | ⟨rfl, hi, rfl⟩ | ⟨rfl, hi, rfl⟩ | ⟨rfl, hi, rfl⟩ | ⟨rfl, hi, rfl⟩ | ⟨rfl, hi, rfl⟩
  · exact ⟨⟨key _ _ _ (by omega) x1, key _ _ _ (by omega) x2, key _ _ _ (by omega) x3, key _ _ _ (by omega) x4, key _ _ _ (by omega) x5, key _ _ _ (by omega) x6⟩, ⟨key _ _ _ (by omega) x7, key _ _ _ (by omega) x8, key _ _ _ (by omega) x9⟩, fun q hq => ⟨key _ _ _ (by omega) (x10 q hq).1, key _ _ _ (by omega) (x10 q hq).2.1, key _ _ _ (by omega) (x10 q hq).2.2.1, key _ _ _ (by omega) (x10 q hq).2.2.2⟩, fun q c hq hc => key _ _ _ (by omega) (x11 q c hq hc), fun c hc => ⟨key _ _ _ (by omega) (x12 c hc).1, key _ _ _ (by omega) (x12 c hc).2⟩, fun a' ha => ⟨key _ _ _ (by omega) (x13 a' ha).1, key _ _ _ (by omega) (x13 a' ha).2⟩, fun n hn e k' hk j hj => key _ _ _ (by omega) (x14 n hn (by rw [pk_un (by omega)] at e; exact e) k' hk j hj)⟩
  · exact ⟨⟨key _ _ _ (by omega) x1, key _ _ _ (by omega) x2, key _ _ _ (by omega) x3, key _ _ _ (by omega) x4, key _ _ _ (by omega) x5, key _ _ _ (by omega) x6⟩, ⟨key _ _ _ (by omega) x7, key _ _ _ (by omega) x8, key _ _ _ (by omega) x9⟩, fun q hq => ⟨key _ _ _ (by omega) (x10 q hq).1, key _ _ _ (by omega) (x10 q hq).2.1, key _ _ _ (by omega) (x10 q hq).2.2.1, key _ _ _ (by omega) (x10 q hq).2.2.2⟩, fun q c hq hc => key _ _ _ (by omega) (x11 q c hq hc), fun c hc => ⟨key _ _ _ (by omega) (x12 c hc).1, key _ _ _ (by omega) (x12 c hc).2⟩, fun a' ha => ⟨key _ _ _ (by omega) (x13 a' ha).1, key _ _ _ (by omega) (x13 a' ha).2⟩, fun n hn e k' hk j hj => key _ _ _ (by omega) (x14 n hn (by rw [pk_un (by omega)] at e; exact e) k' hk j hj)⟩
  · exact ⟨⟨key _ _ _ (by omega) x1, key _ _ _ (by omega) x2, key _ _ _ (by omega) x3, key _ _ _ (by omega) x4, key _ _ _ (by omega) x5, key _ _ _ (by omega) x6⟩, ⟨key _ _ _ (by omega) x7, key _ _ _ (by omega) x8, key _ _ _ (by omega) x9⟩, fun q hq => ⟨key _ _ _ (by omega) (x10 q hq).1, key _ _ _ (by omega) (x10 q hq).2.1, key _ _ _ (by omega) (x10 q hq).2.2.1, key _ _ _ (by omega) (x10 q hq).2.2.2⟩, fun q c hq hc => key _ _ _ (by omega) (x11 q c hq hc), fun c hc => ⟨key _ _ _ (by omega) (x12 c hc).1, key _ _ _ (by omega) (x12 c hc).2⟩, fun a' ha => ⟨key _ _ _ (by omega) (x13 a' ha).1, key _ _ _ (by omega) (x13 a' ha).2⟩, fun n hn e k' hk j hj => key _ _ _ (by omega) (x14 n hn (by rw [pk_un (by omega)] at e; exact e) k' hk j hj)⟩
  · exact ⟨⟨key _ _ _ (by omega) x1, key _ _ _ (by omega) x2, key _ _ _ (by omega) x3, key _ _ _ (by omega) x4, key _ _ _ (by omega) x5, key _ _ _ (by omega) x6⟩, ⟨key _ _ _ (by omega) x7, key _ _ _ (by omega) x8, key _ _ _ (by omega) x9⟩, fun q hq => ⟨key _ _ _ (by omega) (x10 q hq).1, key _ _ _ (by omega) (x10 q hq).2.1, key _ _ _ (by omega) (x10 q hq).2.2.1, key _ _ _ (by omega) (x10 q hq).2.2.2⟩, fun q c hq hc => key _ _ _ (by omega) (x11 q c hq hc), fun c hc => ⟨key _ _ _ (by omega) (x12 c hc).1, key _ _ _ (by omega) (x12 c hc).2⟩, fun a' ha => ⟨key _ _ _ (by omega) (x13 a' ha).1, key _ _ _ (by omega) (x13 a' ha).2⟩, fun n hn e k' hk j hj => key _ _ _ (by omega) (x14 n hn (by rw [pk_un (by omega)] at e; exact e) k' hk j hj)⟩
  · exact ⟨⟨key _ _ _ (by omega) x1, key _ _ _ (by omega) x2, key _ _ _ (by omega) x3, key _ _ _ (by omega) x4, key _ _ _ (by omega) x5, key _ _ _ (by omega) x6⟩, ⟨key _ _ _ (by omega) x7, key _ _ _ (by omega) x8, key _ _ _ (by omega) x9⟩, fun q hq => ⟨key _ _ _ (by omega) (x10 q hq).1, key _ _ _ (by omega) (x10 q hq).2.1, key _ _ _ (by omega) (x10 q hq).2.2.1, key _ _ _ (by omega) (x10 q hq).2.2.2⟩, fun q c hq hc => key _ _ _ (by omega) (x11 q c hq hc), fun c hc => ⟨key _ _ _ (by omega) (x12 c hc).1, key _ _ _ (by omega) (x12 c hc).2⟩, fun a' ha => ⟨key _ _ _ (by omega) (x13 a' ha).1, key _ _ _ (by omega) (x13 a' ha).2⟩, fun n hn e k' hk j hj => key _ _ _ (by omega) (x14 n hn (by rw [pk_un (by omega)] at e; exact e) k' hk j hj)⟩
  · exact ⟨⟨key _ _ _ (by omega) x1, key _ _ _ (by omega) x2, key _ _ _ (by omega) x3, key _ _ _ (by omega) x4, key _ _ _ (by omega) x5, key _ _ _ (by omega) x6⟩, ⟨key _ _ _ (by omega) x7, key _ _ _ (by omega) x8, key _ _ _ (by omega) x9⟩, fun q hq => ⟨key _ _ _ (by omega) (x10 q hq).1, key _ _ _ (by omega) (x10 q hq).2.1, key _ _ _ (by omega) (x10 q hq).2.2.1, key _ _ _ (by omega) (x10 q hq).2.2.2⟩, fun q c hq hc => key _ _ _ (by omega) (x11 q c hq hc), fun c hc => ⟨key _ _ _ (by omega) (x12 c hc).1, key _ _ _ (by omega) (x12 c hc).2⟩, fun a' ha => ⟨key _ _ _ (by omega) (x13 a' ha).1, key _ _ _ (by omega) (x13 a' ha).2⟩, fun n hn e k' hk j hj => key _ _ _ (by omega) (x14 n hn (by rw [pk_un (by omega)] at e; exact e) k' hk j hj)⟩
  · exact ⟨⟨key _ _ _ (by omega) x1, key _ _ _ (by omega) x2, key _ _ _ (by omega) x3, key _ _ _ (by omega) x4, key _ _ _ (by omega) x5, key _ _ _ (by omega) x6⟩, ⟨key _ _ _ (by omega) x7, key _ _ _ (by omega) x8, key _ _ _ (by omega) x9⟩, fun q hq => ⟨key _ _ _ (by omega) (x10 q hq).1, key _ _ _ (by omega) (x10 q hq).2.1, key _ _ _ (by omega) (x10 q hq).2.2.1, key _ _ _ (by omega) (x10 q hq).2.2.2⟩, fun q c hq hc => key _ _ _ (by omega) (x11 q c hq hc), fun c hc => ⟨key _ _ _ (by omega) (x12 c hc).1, key _ _ _ (by omega) (x12 c hc).2⟩, fun a' ha => ⟨key _ _ _ (by omega) (x13 a' ha).1, key _ _ _ (by omega) (x13 a' ha).2⟩, fun n hn e k' hk j hj => key _ _ _ (by omega) (x14 n hn (by rw [pk_un (by omega)] at e; exact e) k' hk j hj)⟩
  · exact ⟨⟨key _ _ _ (by omega) x1, key _ _ _ (by omega) x2, key _ _ _ (by omega) x3, key _ _ _ (by omega) x4, key _ _ _ (by omega) x5, key _ _ _ (by omega) x6⟩, ⟨key _ _ _ (by omega) x7, key _ _ _ (by omega) x8, key _ _ _ (by omega) x9⟩, fun q hq => ⟨key _ _ _ (by omega) (x10 q hq).1, key _ _ _ (by omega) (x10 q hq).2.1, key _ _ _ (by omega) (x10 q hq).2.2.1, key _ _ _ (by omega) (x10 q hq).2.2.2⟩, fun q c hq hc => key _ _ _ (by omega) (x11 q c hq hc), fun c hc => ⟨key _ _ _ (by omega) (x12 c hc).1, key _ _ _ (by omega) (x12 c hc).2⟩, fun a' ha => ⟨key _ _ _ (by omega) (x13 a' ha).1, key _ _ _ (by omega) (x13 a' ha).2⟩, fun n hn e k' hk j hj => key _ _ _ (by omega) (x14 n hn (by rw [pk_un (by omega)] at e; exact e) k' hk j hj)⟩
  · exact ⟨⟨key _ _ _ (by omega) x1, key _ _ _ (by omega) x2, key _ _ _ (by omega) x3, key _ _ _ (by omega) x4, key _ _ _ (by omega) x5, key _ _ _ (by omega) x6⟩, ⟨key _ _ _ (by omega) x7, key _ _ _ (by omega) x8, key _ _ _ (by omega) x9⟩, fun q hq => ⟨key _ _ _ (by omega) (x10 q hq).1, key _ _ _ (by omega) (x10 q hq).2.1, key _ _ _ (by omega) (x10 q hq).2.2.1, key _ _ _ (by omega) (x10 q hq).2.2.2⟩, fun q c hq hc => key _ _ _ (by omega) (x11 q c hq hc), fun c hc => ⟨key _ _ _ (by omega) (x12 c hc).1, key _ _ _ (by omega) (x12 c hc).2⟩, fun a' ha => ⟨key _ _ _ (by omega) (x13 a' ha).1, key _ _ _ (by omega) (x13 a' ha).2⟩, fun n hn e k' hk j hj => key _ _ _ (by omega) (x14 n hn (by rw [pk_un (by omega)] at e; exact e) k' hk j hj)⟩
  · exact ⟨⟨key _ _ _ (by omega) x1, key _ _ _ (by omega) x2, key _ _ _ (by omega) x3, key _ _ _ (by omega) x4, key _ _ _ (by omega) x5, key _ _ _ (by omega) x6⟩, ⟨key _ _ _ (by omega) x7, key _ _ _ (by omega) x8, key _ _ _ (by omega) x9⟩, fun q hq => ⟨key _ _ _ (by omega) (x10 q hq).1, key _ _ _ (by omega) (x10 q hq).2.1, key _ _ _ (by omega) (x10 q hq).2.2.1, key _ _ _ (by omega) (x10 q hq).2.2.2⟩, fun q c hq hc => key _ _ _ (by omega) (x11 q c hq hc), fun c hc => ⟨key _ _ _ (by omega) (x12 c hc).1, key _ _ _ (by omega) (x12 c hc).2⟩, fun a' ha => ⟨key _ _ _ (by omega) (x13 a' ha).1, key _ _ _ (by omega) (x13 a' ha).2⟩, fun n hn e k' hk j hj => key _ _ _ (by omega) (x14 n hn (by rw [pk_un (by omega)] at e; exact e) k' hk j hj)⟩
  · exact ⟨⟨key _ _ _ (by omega) x1, key _ _ _ (by omega) x2, key _ _ _ (by omega) x3, key _ _ _ (by omega) x4, key _ _ _ (by omega) x5, key _ _ _ (by omega) x6⟩, ⟨key _ _ _ (by omega) x7, key _ _ _ (by omega) x8, key _ _ _ (by omega) x9⟩, fun q hq => ⟨key _ _ _ (by omega) (x10 q hq).1, key _ _ _ (by omega) (x10 q hq).2.1, key _ _ _ (by omega) (x10 q hq).2.2.1, key _ _ _ (by omega) (x10 q hq).2.2.2⟩, fun q c hq hc => key _ _ _ (by omega) (x11 q c hq hc), fun c hc => ⟨key _ _ _ (by omega) (x12 c hc).1, key _ _ _ (by omega) (x12 c hc).2⟩, fun a' ha => ⟨key _ _ _ (by omega) (x13 a' ha).1, key _ _ _ (by omega) (x13 a' ha).2⟩, fun n hn e k' hk j hj => key _ _ _ (by omega) (x14 n hn (by rw [pk_un (by omega)] at e; exact e) k' hk j hj)⟩
  · exact ⟨⟨key _ _ _ (by omega) x1, key _ _ _ (by omega) x2, key _ _ _ (by omega) x3, key _ _ _ (by omega) x4, key _ _ _ (by omega) x5, key _ _ _ (by omega) x6⟩, ⟨key _ _ _ (by omega) x7, key _ _ _ (by omega) x8, key _ _ _ (by omega) x9⟩, fun q hq => ⟨key _ _ _ (by omega) (x10 q hq).1, key _ _ _ (by omega) (x10 q hq).2.1, key _ _ _ (by omega) (x10 q hq).2.2.1, key _ _ _ (by omega) (x10 q hq).2.2.2⟩, fun q c hq hc => key _ _ _ (by omega) (x11 q c hq hc), fun c hc => ⟨key _ _ _ (by omega) (x12 c hc).1, key _ _ _ (by omega) (x12 c hc).2⟩, fun a' ha => ⟨key _ _ _ (by omega) (x13 a' ha).1, key _ _ _ (by omega) (x13 a' ha).2⟩, fun n hn e k' hk j hj => key _ _ _ (by omega) (x14 n hn (by rw [pk_un (by omega)] at e; exact e) k' hk j hj)⟩
  · exact ⟨⟨key _ _ _ (by omega) x1, key _ _ _ (by omega) x2, key _ _ _ (by omega) x3, key _ _ _ (by omega) x4, key _ _ _ (by omega) x5, key _ _ _ (by omega) x6⟩, ⟨key _ _ _ (by omega) x7, key _ _ _ (by omega) x8, key _ _ _ (by omega) x9⟩, fun q hq => ⟨key _ _ _ (by omega) (x10 q hq).1, key _ _ _ (by omega) (x10 q hq).2.1, key _ _ _ (by omega) (x10 q hq).2.2.1, key _ _ _ (by omega) (x10 q hq).2.2.2⟩, fun q c hq hc => key _ _ _ (by omega) (x11 q c hq hc), fun c hc => ⟨key _ _ _ (by omega) (x12 c hc).1, key _ _ _ (by omega) (x12 c hc).2⟩, fun a' ha => ⟨key _ _ _ (by omega) (x13 a' ha).1, key _ _ _ (by omega) (x13 a' ha).2⟩, fun n hn e k' hk j hj => key _ _ _ (by omega) (x14 n hn (by rw [pk_un (by omega)] at e; exact e) k' hk j hj)⟩
  · exact ⟨⟨key _ _ _ (by omega) x1, key _ _ _ (by omega) x2, key _ _ _ (by omega) x3, key _ _ _ (by omega) x4, key _ _ _ (by omega) x5, key _ _ _ (by omega) x6⟩, ⟨key _ _ _ (by omega) x7, key _ _ _ (by omega) x8, key _ _ _ (by omega) x9⟩, fun q hq => ⟨key _ _ _ (by omega) (x10 q hq).1, key _ _ _ (by omega) (x10 q hq).2.1, key _ _ _ (by omega) (x10 q hq).2.2.1, key _ _ _ (by omega) (x10 q hq).2.2.2⟩, fun q c hq hc => key _ _ _ (by omega) (x11 q c hq hc), fun c hc => ⟨key _ _ _ (by omega) (x12 c hc).1, key _ _ _ (by omega) (x12 c hc).2⟩, fun a' ha => ⟨key _ _ _ (by omega) (x13 a' ha).1, key _ _ _ (by omega) (x13 a' ha).2⟩, fun n hn e k' hk j hj => key _ _ _ (by omega) (x14 n hn (by rw [pk_un (by omega)] at e; exact e) k' hk j hj)⟩
  · exact ⟨⟨key _ _ _ (by omega) x1, key _ _ _ (by omega) x2, key _ _ _ (by omega) x3, key _ _ _ (by omega) x4, key _ _ _ (by omega) x5, key _ _ _ (by omega) x6⟩, ⟨key _ _ _ (by omega) x7, key _ _ _ (by omega) x8, key _ _ _ (by omega) x9⟩, fun q hq => ⟨key _ _ _ (by omega) (x10 q hq).1, key _ _ _ (by omega) (x10 q hq).2.1, key _ _ _ (by omega) (x10 q hq).2.2.1, key _ _ _ (by omega) (x10 q hq).2.2.2⟩, fun q c hq hc => key _ _ _ (by omega) (x11 q c hq hc), fun c hc => ⟨key _ _ _ (by omega) (x12 c hc).1, key _ _ _ (by omega) (x12 c hc).2⟩, fun a' ha => ⟨key _ _ _ (by omega) (x13 a' ha).1, key _ _ _ (by omega) (x13 a' ha).2⟩, fun n hn e k' hk j hj => key _ _ _ (by omega) (x14 n hn (by rw [pk_un (by omega)] at e; exact e) k' hk j hj)⟩
  · exact ⟨⟨key _ _ _ (by omega) x1, key _ _ _ (by omega) x2, key _ _ _ (by omega) x3, key _ _ _ (by omega) x4, key _ _ _ (by omega) x5, key _ _ _ (by omega) x6⟩, ⟨key _ _ _ (by omega) x7, key _ _ _ (by omega) x8, key _ _ _ (by omega) x9⟩, fun q hq => ⟨key _ _ _ (by omega) (x10 q hq).1, key _ _ _ (by omega) (x10 q hq).2.1, key _ _ _ (by omega) (x10 q hq).2.2.1, key _ _ _ (by omega) (x10 q hq).2.2.2⟩, fun q c hq hc => key _ _ _ (by omega) (x11 q c hq hc), fun c hc => ⟨key _ _ _ (by omega) (x12 c hc).1, key _ _ _ (by omega) (x12 c hc).2⟩, fun a' ha => ⟨key _ _ _ (by omega) (x13 a' ha).1, key _ _ _ (by omega) (x13 a' ha).2⟩, fun n hn e k' hk j hj => key _ _ _ (by omega) (x14 n hn (by rw [pk_un (by omega)] at e; exact e) k' hk j hj)⟩
  · exact ⟨⟨key _ _ _ (by omega) x1, key _ _ _ (by omega) x2, key _ _ _ (by omega) x3, key _ _ _ (by omega) x4, key _ _ _ (by omega) x5, key _ _ _ (by omega) x6⟩, ⟨key _ _ _ (by omega) x7, key _ _ _ (by omega) x8, key _ _ _ (by omega) x9⟩, fun q hq => ⟨key _ _ _ (by omega) (x10 q hq).1, key _ _ _ (by omega) (x10 q hq).2.1, key _ _ _ (by omega) (x10 q hq).2.2.1, key _ _ _ (by omega) (x10 q hq).2.2.2⟩, fun q c hq hc => key _ _ _ (by omega) (x11 q c hq hc), fun c hc => ⟨key _ _ _ (by omega) (x12 c hc).1, key _ _ _ (by omega) (x12 c hc).2⟩, fun a' ha => ⟨key _ _ _ (by omega) (x13 a' ha).1, key _ _ _ (by omega) (x13 a' ha).2⟩, fun n hn e k' hk j hj => key _ _ _ (by omega) (x14 n hn (by rw [pk_un (by omega)] at e; exact e) k' hk j hj)⟩
  · exact ⟨⟨key _ _ _ (by omega) x1, key _ _ _ (by omega) x2, key _ _ _ (by omega) x3, key _ _ _ (by omega) x4, key _ _ _ (by omega) x5, key _ _ _ (by omega) x6⟩, ⟨key _ _ _ (by omega) x7, key _ _ _ (by omega) x8, key _ _ _ (by omega) x9⟩, fun q hq => ⟨key _ _ _ (by omega) (x10 q hq).1, key _ _ _ (by omega) (x10 q hq).2.1, key _ _ _ (by omega) (x10 q hq).2.2.1, key _ _ _ (by omega) (x10 q hq).2.2.2⟩, fun q c hq hc => key _ _ _ (by omega) (x11 q c hq hc), fun c hc => ⟨key _ _ _ (by omega) (x12 c hc).1, key _ _ _ (by omega) (x12 c hc).2⟩, fun a' ha => ⟨key _ _ _ (by omega) (x13 a' ha).1, key _ _ _ (by omega) (x13 a' ha).2⟩, fun n hn e k' hk j hj => key _ _ _ (by omega) (x14 n hn (by rw [pk_un (by omega)] at e; exact e) k' hk j hj)⟩
theorem XS.o {T : Nat → Nat → Nat} {f a i : Nat} {v : Int32} {μ : aw_M} {S : Nat → Int32} (h : XS T f μ S) (ha : a < f ∨ f + 11 < a ∨ (a = f + 1 ∧ 3 ≤ i)) : XS T f (aw_wI μ a i v) S := by
  have key : ∀ b j, ¬ (b = a ∧ j = i) → (aw_wI μ a i v).1 b j = μ.1 b j := fun b j hi => by
    by_cases h2 : b = a
    · subst h2
      exact rI_k (fun h3 => hi ⟨rfl, h3⟩)
    · rw [rI_a h2]
  obtain ⟨⟨x1, x2, x3, x4, x5, x6⟩, ⟨x7, x8, x9⟩, x10, x11, x12, x13, x14⟩ := h
  refine ⟨⟨?_, ?_, ?_, ?_, ?_, ?_⟩, ⟨?_, ?_, ?_⟩, fun q hq => ⟨?_, ?_, ?_, ?_⟩, fun q c hq hc => ?_, fun c hc => ⟨?_, ?_⟩, fun a' ha => ⟨?_, ?_⟩, fun n hn e k' hk j hj => ?_⟩ <;> rw [key _ _ (by omega)]
  · exact x1
  · exact x2
  · exact x3
  · exact x4
  · exact x5
  · exact x6
  · exact x7
  · exact x8
  · exact x9
  · exact (x10 q hq).1
  · exact (x10 q hq).2.1
  · exact (x10 q hq).2.2.1
  · exact (x10 q hq).2.2.2
  · exact x11 q c hq hc
  · exact (x12 c hc).1
  · exact (x12 c hc).2
  · exact (x13 a' ‹_›).1
  · exact (x13 a' ‹_›).2
  · exact x14 n hn e k' hk j hj
theorem kNF_f {f a k : Nat} (h : f ≤ a) (h2 : a ≤ f + 11) : kNF f a k = false := decide_eq_false (by omega)
/-- what the fight rests on -/
def env (T P : Nat → Nat → Nat) (μ : aw_M) : Prop := qTX T μ 5 ∧ qPX P μ 19 ∧ qGX T μ 28
theorem env.ag {T P : Nat → Nat → Nat} {f : Nat} {μ μ' : aw_M} (hf : f = 39 ∨ f = 76) (h : env T P μ) (ag : AgK (kNF f) μ μ') : env T P μ' := by
  have hk : ∀ a, 5 ≤ a → a ≤ 38 → μ'.1 a = μ.1 a := fun a h1 h2 => ag.a fun k => decide_eq_true (by omega)
  obtain ⟨h1, h2, h3⟩ := h
  refine ⟨?_, ?_, qGX_ag (fun a h1 h2 => hk a (by omega) (by omega)) h3⟩
  · unfold qTX at h1 ⊢
    simp (disch := omega) only [hk]
    exact h1
  · unfold qPX at h2 ⊢
    simp (disch := omega) only [hk]
    exact h2
theorem tell_x {F f n q c : Nat} {k h : Int32} {C : Nat → Nat → Nat} {μ : aw_M} {S : Nat → Int32} (hf : f = 39 ∨ f = 76) (hw : qT0 C) (hn : n ≤ 8) (hx : XS C f μ S) (e : S 919 = nI n) : T (f_X0_tellThrow F f (nI q) (nI c) k h μ) fun μ' => XS C f μ' (sTell n q c k h S) ∧ AgK (kNF f) μ μ' := by
  have e18 : μ.1 f 18 = nI n := hx.1.2.2.2.2.2.trans e
  have r := (rfF hf).2.2.2.2.2.2.2.2.2.2.2.2.2
  have e0 : nI n * 6 = nI (6 * n) := by
    have : nI n * 6 = 6 * nI n := by grind
    rw [this]
    simp (disch := omega) only [pI_lit, nI_add, nI_clamp, nI_leI, nI_ltI, nI_eq, pk_mul]
  have e1 : nI (6 * n) + 1 = nI (6 * n + 1) := nI_add _ 1
  have e2 : nI (6 * n) + 2 = nI (6 * n + 2) := nI_add _ 2
  have e3 : nI (6 * n) + 3 = nI (6 * n + 3) := nI_add _ 3
  have e4 : nI (6 * n) + 4 = nI (6 * n + 4) := nI_add _ 4
  have e5 : nI (6 * n) + 5 = nI (6 * n + 5) := nI_add _ 5
  unfold f_X0_tellThrow
  simp (disch := omega) only [plet, pg_t, r, e18, e0, e1, e2, e3, e4, e5, pI_in_t, nI_clamp, rI_a, nI_1, T_some]
  obtain ⟨f1, f2, f3, f4, f5, f6, f7, f8⟩ := sTell_f (n := n) (q := q) (c := c) (k := k) (h := h) (S := S) hn
  constructor
  · have rd : ∀ a j, a ≠ f + 11 → (a ≠ f ∨ j ≠ 18) → (aw_wI (aw_wI (aw_wI (aw_wI (aw_wI (aw_wI (aw_wI μ (f + 11) (6 * n) (nI q)) (f + 11) (6 * n + 1) (nI c)) (f + 11) (6 * n + 2) k) (f + 11) (6 * n + 3) h) (f + 11) (6 * n + 4) 0) (f + 11) (6 * n + 5) 0) f 18 (nI (n + 1))).1 a j = μ.1 a j := fun a j h1 h2 => by
      by_cases h3 : a = f
      · subst h3
        rw [rI_k (by omega), rI_a (by omega), rI_a (by omega), rI_a (by omega), rI_a (by omega), rI_a (by omega), rI_a (by omega)]
      · rw [rI_a h3, rI_a h1, rI_a h1, rI_a h1, rI_a h1, rI_a h1, rI_a h1]
    have hw1 := hw.1
    obtain ⟨⟨x1, x2, x3, x4, x5, x6⟩, ⟨x7, x8, x9⟩, x10, x11, x12, x13, x14⟩ := hx
    refine ⟨⟨?_, ?_, ?_, ?_, ?_, ?_⟩, ⟨?_, ?_, ?_⟩, fun q hq => ⟨?_, ?_, ?_, ?_⟩, fun q c hq hc => ?_, fun c hc => ⟨?_, ?_⟩, fun a ha => ⟨?_, ?_⟩, fun n' hn' e' k' hk j hj => ?_⟩
    · rw [rd _ _ (by omega) (by omega), f1 _ (by omega) (by omega)]; exact x1
    · rw [rd _ _ (by omega) (by omega), f1 _ (by omega) (by omega)]; exact x2
    · rw [rd _ _ (by omega) (by omega), f1 _ (by omega) (by omega)]; exact x3
    · rw [rd _ _ (by omega) (by omega), f1 _ (by omega) (by omega)]; exact x4
    · rw [rd _ _ (by omega) (by omega), f1 _ (by omega) (by omega)]; exact x5
    · rw [rI_s, f2]
    · rw [rd _ _ (by omega) (by omega), f1 _ (by omega) (by omega)]; exact x7
    · rw [rd _ _ (by omega) (by omega), f1 _ (by omega) (by omega)]; exact x8
    · rw [rd _ _ (by omega) (by omega), f1 _ (by omega) (by omega)]; exact x9
    · rw [rd _ _ (by omega) (by omega), f1 _ (by omega) (by omega)]; exact (x10 q hq).1
    · rw [rd _ _ (by omega) (by omega), f1 _ (by omega) (by omega)]; exact (x10 q hq).2.1
    · rw [rd _ _ (by omega) (by omega), f1 _ (by omega) (by omega)]; exact (x10 q hq).2.2.1
    · rw [rd _ _ (by omega) (by omega), f1 _ (by omega) (by omega)]; exact (x10 q hq).2.2.2
    · rw [rd _ _ (by omega) (by omega), f1 _ (by omega) (by omega)]; exact x11 q c hq hc
    · rw [rd _ _ (by omega) (by omega), f1 _ (by omega) (by omega)]; exact (x12 c hc).1
    · rw [rd _ _ (by omega) (by omega), f1 _ (by omega) (by omega)]; exact (x12 c hc).2
    · rw [rd _ _ (by omega) (by omega), f1 _ (by omega) (by omega)]; exact (x13 a ha).1
    · rw [rd _ _ (by omega) (by omega), f1 _ (by omega) (by omega)]; exact (x13 a ha).2
    · rw [f2, nI_eq (by omega) (by omega)] at e'
      subst e'
      rw [rI_a (by omega)]
      by_cases e6 : k' = n
      · subst e6
        have hj' : j = 0 ∨ j = 1 ∨ j = 2 ∨ j = 3 ∨ j = 4 ∨ j = 5 := by omega
        rcases hj' with rfl | rfl | rfl | rfl | rfl | rfl
        · simp (disch := omega) only [rI_k, rI_s, Nat.add_zero, f3]
        · simp (disch := omega) only [rI_k, rI_s, f4]
        · simp (disch := omega) only [rI_k, rI_s, f5]
        · simp (disch := omega) only [rI_k, rI_s, f6]
        · simp (disch := omega) only [rI_k, rI_s, f7]
        · simp (disch := omega) only [rI_s, f8]
      · rw [f1 _ (by omega) (by omega), rI_k (by omega), rI_k (by omega), rI_k (by omega), rI_k (by omega), rI_k (by omega), rI_k (by omega)]
        exact x14 n (by omega) e k' (by omega) j hj
  · exact (((((((AgK.rf μ).wI (kNF_f (by omega) (by omega))).wI (kNF_f (by omega) (by omega))).wI (kNF_f (by omega) (by omega))).wI (kNF_f (by omega) (by omega))).wI (kNF_f (by omega) (by omega))).wI (kNF_f (by omega) (by omega))).wI (kNF_f (by omega) (by omega))
theorem upd_comm {S : Nat → Int32} {i j : Nat} {v w : Int32} (h : i ≠ j) : upd (upd S i v) j w = upd (upd S j w) i v := by
  funext k
  by_cases e : k = j
  · subst e
    rw [pk_us, pk_un (by omega), pk_us]
  · rw [pk_un e]
    by_cases e2 : k = i
    · subst e2
      rw [pk_us, pk_us]
    · rw [pk_un e2, pk_un e2, pk_un e]
/-- a box used, in the class's order -/
theorem useBox_x {F f q c a : Nat} {C : Nat → Nat → Nat} {μ : aw_M} {S : Nat → Int32} (hf : f = 39 ∨ f = 76) (hw : qT0 C) (hx : XS C f μ S) (hq : q < C 0 2) (hc : c < C 0 3) (ha : a < 100) : T (f_X0_useBox F f (nI q) (nI c) (nI a) μ) fun μ' => XS C f μ' (upd (sUse q c S) (714 + a) (S (714 + a) + 1)) ∧ AgK (kNF f) μ μ' := by
  obtain ⟨-, -, -, -, r9, -, -, -, r13, -, -, r16, -⟩ := rfF hf
  have hw1 := hw.1
  have e20 : nI q * 20 + nI c = nI (20 * q + c) := by
    have : nI q * 20 + nI c = 20 * nI q + nI c := by grind
    rw [this]
    simp (disch := omega) only [pI_lit, nI_add, nI_clamp, nI_leI, nI_ltI, nI_eq, pk_mul]
  unfold f_X0_useBox
  simp (disch := omega) only [plet, pg_t, r9, r13, r16, e20, pI_in_t, nI_clamp, rI_a, T_some, (hx.2.2.1 q hq).1, hx.2.2.2.1 q c hq hc, (hx.2.2.2.2.2.1 a ha).1, hx.1.2.2.2.1]
  constructor
  · have h4 := (((hx.w (a := f + 2) (i := q) (k := 458 + q) (v := S (458 + q) - 1) hw (.b (by omega) rfl)).w (a := f + 6) (i := 20 * q + c) (k := 494 + 20 * q + c) (v := S (494 + 20 * q + c) + 1) hw (.u (by omega) (by omega))).w (a := f + 9) (i := a) (k := 714 + a) (v := S (714 + a) + 1) hw (.p ha rfl)).w (a := f) (i := 6) (k := 914) (v := S 914 + 1) hw .m6
    rw [upd_comm (by omega)] at h4
    exact h4
  · exact ((((AgK.rf μ).wI (kNF_f (by omega) (by omega))).wI (kNF_f (by omega) (by omega))).wI (kNF_f (by omega) (by omega))).wI (kNF_f (by omega) (by omega))
theorem kind53_x {F f d q m : Nat} {C P : Nat → Nat → Nat} {μ : aw_M} (hf : f = 39 ∨ f = 76) (pw : qPWF P (C 0 2)) (hn : C 0 2 ≤ 9) (px : qPX P μ 19) (hq : q < C 0 2) (hd : d ≤ 100) (hm : m ≤ 240) (e4 : μ.1 f 4 = nI m) : f_X0_kindOf_53 F f (nI q) (nI d) μ = some (if P 2 q = 1 ∧ m % 2 = 1 then 2 else if d ≤ 2 then 3 else 4, μ) := by
  have r1 := (rfF hf).2.1
  have s3 : aw_rf 19 3 = 22 := by simp only [rf0, rf1, rf4, rf5, rf19, rf23, rf28, rf39, rf53, rf67, rf71, rf76, rf88, rf97, rf101, rf109, rf110, rf124, rf128, rf133, rf144, rf156, rf157, rf171, rf175, rf180, rf191, rf51]
  have p2 : μ.1 22 q = if P 0 q = 0 then -1 else nI (P 2 q) := (px.2 q (by omega)).2.2
  have hp := pw q
  have e2 : (2 : Int32) = nI 2 := rfl
  have e1 : (1 : Int32) = nI 1 := rfl
  have k78 : f_X0_kindOf_78 F f (nI d) μ = some (if d ≤ 2 then 3 else 4, μ) := by
    unfold f_X0_kindOf_78
    rw [e2]
    by_cases k : d ≤ 2
    · rw [if_neg (nI_nlt (by omega) (by omega)), if_pos k]
    · rw [if_pos (nI_lt (by omega) (by omega)), if_neg k]
  have hmod : nI m - nI m / 2 * 2 = nI (m % 2) := by rw [e2, nI_mod (by omega) (by decide)]
  unfold f_X0_kindOf_53
  rw [pI_in_t (by omega) (by decide), pg_t, r1, s3, nI_clamp (by omega), p2, e4, hmod]
  by_cases k : P 2 q = 1
  · have k0 : P 0 q ≠ 0 := fun h => by have := (hp.2.2.2.1 h).2; omega
    rw [if_neg k0, if_pos (show nI (P 2 q) = 1 by rw [k]; decide)]
    by_cases k2 : m % 2 = 1
    · rw [if_pos (show nI (m % 2) = 1 by rw [k2]; decide), if_pos ⟨k, k2⟩]
    · rw [if_neg (show ¬ nI (m % 2) = 1 by rw [e1, nI_eq (by omega) (by decide)]; exact k2), if_neg (fun h => k2 h.2), k78]
  · have : ¬ (if P 0 q = 0 then (-1 : Int32) else nI (P 2 q)) = 1 := by
      split
      · decide
      · rw [e1, nI_eq (by omega) (by decide)]; exact k
    rw [if_neg this, if_neg (fun h => k h.1), k78]
theorem kindOf_x {F f d m n b q c : Nat} {C P : Nat → Nat → Nat} {μ : aw_M} {S : Nat → Int32} (hf : f = 39 ∨ f = 76) (hwf : qTWF C) (ok : sOK C P S) (ev : env C P μ) (hx : XS C f μ S) (hs : SW C d m n b S) (hm : m ≤ 240) (hq : q < C 0 2) (hc : c < C 0 3) : ∃ (k : Int32) (μ' : aw_M) (S' : Nat → Int32), f_X0_kindOf F f (nI q) (nI c) (nI (dst (C 1 q) (C 6 c))) μ = some (k, μ') ∧ XS C f μ' S' ∧ AgK (kNF f) μ μ' ∧ (∀ j, j ≠ 457 → S' j = S j) ∧ ((k = 0 ∧ sThrow C P false m n q c S = sTell n q c 0 0 (upd S' 917 (S' 917 + 1))) ∨ (k = 1 ∧ sThrow C P false m n q c S = sSlip C n q c S') ∨ (k = 2 ∧ sThrow C P false m n q c S = sTell n q c 2 0 (upd (upd S' (485 + q) 2) 918 (S' 918 + 1))) ∨ (k = (if dst (C 1 q) (C 6 c) ≤ 2 then 3 else 4) ∧ sThrow C P false m n q c S = sHitE C n q c S')) := by
  obtain ⟨r0, r1, r2, -, -, -, -, -, -, -, -, r16, r17, -⟩ := rfF hf
  have hnq := hwf.1.2.2.1
  have h1 := ok.cell (ok.1.2.1 q hq).1
  have h6 := ok.cell (ok.1.2.2.2.1 c hc).2.1
  have hd := dst_le h1 h6
  have t1 : μ.1 7 q = nI (C 1 q) := (ev.1.2.1 q hq).1
  have s6 : aw_rf 5 6 = 7 := by simp only [rf0, rf1, rf4, rf5, rf19, rf23, rf28, rf39, rf53, rf67, rf71, rf76, rf88, rf97, rf101, rf109, rf110, rf124, rf128, rf133, rf144, rf156, rf157, rf171, rf175, rf180, rf191, rf51]
  have x49 := (hx.2.2.2.2.2.1 _ h1).2
  have x48 := (hx.2.2.2.2.2.1 _ h1).1
  have e4 : μ.1 f 4 = nI m := hx.1.2.1.trans hs.1.2.1
  have e5 : μ.1 f 5 = S 457 := hx.1.2.2.1
  have k53 : ∀ (μ' : aw_M) (S' : Nat → Int32), AgK (kNF f) μ μ' → XS C f μ' S' → (∀ j, j ≠ 457 → S' j = S j) → sThrow C P false m n q c S = sThr2 C P m n q c S' → ∃ (k : Int32) (μ'' : aw_M) (S'' : Nat → Int32), f_X0_kindOf_53 F f (nI q) (nI (dst (C 1 q) (C 6 c))) μ' = some (k, μ'') ∧ XS C f μ'' S'' ∧ AgK (kNF f) μ μ'' ∧ (∀ j, j ≠ 457 → S'' j = S j) ∧ ((k = 0 ∧ sThrow C P false m n q c S = sTell n q c 0 0 (upd S'' 917 (S'' 917 + 1))) ∨ (k = 1 ∧ sThrow C P false m n q c S = sSlip C n q c S'') ∨ (k = 2 ∧ sThrow C P false m n q c S = sTell n q c 2 0 (upd (upd S'' (485 + q) 2) 918 (S'' 918 + 1))) ∨ (k = (if dst (C 1 q) (C 6 c) ≤ 2 then 3 else 4) ∧ sThrow C P false m n q c S = sHitE C n q c S'')) := fun μ' S' ag hx' hS' e => by
    have e4' : μ'.1 f 4 = nI m := by rw [hx'.1.2.1, hS' _ (by omega)]; exact hs.1.2.1
    refine ⟨_, μ', S', kind53_x hf ok.2.1 hnq (ev.ag hf ag).2.1 hq (by omega) hm e4', hx', ag, hS', ?_⟩
    unfold sThr2 at e
    by_cases k : P 2 q = 1 ∧ m % 2 = 1
    · rw [if_pos k] at e ⊢
      exact .inr (.inr (.inl ⟨rfl, e⟩))
    · rw [if_neg k] at e ⊢
      exact .inr (.inr (.inr ⟨rfl, e⟩))
  unfold f_X0_kindOf
  rw [r2, bars_x hwf ev.2.2 hc (by omega), Option.bind_some]
  by_cases k : sBar C q c = true
  · have k' : (decide (3 ≤ dst (C 1 q) (C 6 c)) && decide (0 < nbr C 9 (C 6 c))) = true := k
    rw [if_pos k']
    refine ⟨0, μ, S, rfl, hx, AgK.rf μ, fun _ _ => rfl, .inl ⟨rfl, ?_⟩⟩
    unfold sThrow
    rw [if_pos k]
  · have k' : ¬ (decide (3 ≤ dst (C 1 q) (C 6 c)) && decide (0 < nbr C 9 (C 6 c))) = true := k
    rw [if_neg k', pI_in_t (by omega) (by decide), pg_t, plet, r0, s6, nI_clamp (by omega), show (_, μ).2.1 7 q = nI (C 1 q) from t1, pI_in_t (by omega) (by decide), pg_t, r17, nI_clamp (by omega)]
    show ∃ (k : Int32) (μ' : aw_M) (S' : Nat → Int32), (if μ.1 (f + 10) (C 1 q) = 0 then _ else f_X0_kindOf_53 F f (nI q) (nI (dst (C 1 q) (C 6 c))) μ) = some (k, μ') ∧ _
    rw [x49]
    by_cases k2 : S (814 + C 1 q) = 0
    · rw [if_pos k2]
      have hx1 := hx.w (a := f) (i := 5) (k := 457) (v := sSeed (S 457)) ok.1 .m5
      have ag1 : AgK (kNF f) μ (aw_wI μ f 5 (sSeed (S 457))) := (AgK.rf μ).wI (kNF_f (by omega) (by omega))
      have hdr : f_X0_draw F f 40 μ = some (sDrw (sSeed (S 457)), aw_wI μ f 5 (sSeed (S 457))) := by
        unfold f_X0_draw sDrw sSeed
        have i0 : aw_nz 40 = true := by decide
        rw [plet, if_neg (by decide), i0, pg_t, e5, rI_s]
      rw [hdr, Option.bind_some, pg_t, r16]
      have x48' : (aw_wI μ f 5 (sSeed (S 457))).1 (f + 9) (C 1 q) = S (714 + C 1 q) := by rw [rI_a (by omega)]; exact x48
      show ∃ (k : Int32) (μ' : aw_M) (S' : Nat → Int32), (if (aw_wI μ f 5 (sSeed (S 457))).1 (f + 9) (C 1 q) ≤ sDrw (sSeed (S 457)) then _ else _) = some (k, μ') ∧ _
      rw [x48']
      by_cases k3 : S (714 + C 1 q) ≤ sDrw (sSeed (S 457))
      · rw [if_pos k3]
        refine k53 _ _ ag1 hx1 (fun j hj => pk_un hj) ?_
        unfold sThrow
        rw [if_neg k, if_pos ⟨rfl, k2⟩, if_pos k3]
      · rw [if_neg k3]
        refine ⟨1, _, _, rfl, hx1, ag1, fun j hj => pk_un hj, .inr (.inl ⟨rfl, ?_⟩)⟩
        unfold sThrow
        rw [if_neg k, if_pos ⟨rfl, k2⟩, if_neg k3]
    · rw [if_neg k2]
      refine k53 _ _ (AgK.rf μ) hx (fun _ _ => rfl) ?_
      unfold sThrow
      rw [if_neg k, if_neg (fun h => k2 h.2)]
theorem throwAt_x {F f d m n b q c : Nat} {C P : Nat → Nat → Nat} {μ : aw_M} {S : Nat → Int32} (hf : f = 39 ∨ f = 76) (hwf : qTWF C) (ok : sOK C P S) (ev : env C P μ) (hx : XS C f μ S) (hs : SW C d m n b S) (hm : m ≤ 240) (hn : n ≤ 8) (hq : q < C 0 2) (hc : c < C 0 3) : T (f_X0_throwAt F f (nI q) (nI c) μ) fun μ' => XS C f μ' (sThrow C P false m n q c S) ∧ AgK (kNF f) μ μ' := by
  obtain ⟨r0, r1, r2, r8, r9, r10, r11, r12, r13, r14, r15, r16, r17, r19⟩ := rfF hf
  have hnq := hwf.1.2.2.1
  have hnc := hwf.1.2.2.2
  have h1 := ok.cell (ok.1.2.1 q hq).1
  have h6 := ok.cell (ok.1.2.2.2.1 c hc).2.1
  have hd := dst_le h1 h6
  have s6 : aw_rf 5 6 = 7 := by simp only [rf0, rf1, rf4, rf5, rf19, rf23, rf28, rf39, rf53, rf67, rf71, rf76, rf88, rf97, rf101, rf109, rf110, rf124, rf128, rf133, rf144, rf156, rf157, rf171, rf175, rf180, rf191, rf51]
  have s11 : aw_rf 5 11 = 12 := by simp only [rf0, rf1, rf4, rf5, rf19, rf23, rf28, rf39, rf53, rf67, rf71, rf76, rf88, rf97, rf101, rf109, rf110, rf124, rf128, rf133, rf144, rf156, rf157, rf171, rf175, rf180, rf191, rf51]
  have s0 : aw_rf 28 0 = 29 := by simp only [rf0, rf1, rf4, rf5, rf19, rf23, rf28, rf39, rf53, rf67, rf71, rf76, rf88, rf97, rf101, rf109, rf110, rf124, rf128, rf133, rf144, rf156, rf157, rf171, rf175, rf180, rf191, rf51]
  have e20 : nI q * 20 + nI c = nI (20 * q + c) := by
    have : nI q * 20 + nI c = 20 * nI q + nI c := by grind
    rw [this]
    simp (disch := omega) only [pI_lit, nI_add, nI_clamp, nI_leI, nI_ltI, nI_eq, pk_mul]
  have hpl : pl C q = C 1 q := by unfold pl; rw [if_pos (by omega)]
  have ea : μ.1 29 (20 * q + c) = nI (dst (C 1 q) (C 6 c)) := by
    have := (ev.2.2.1 q (by omega) (by rw [Nat.mod_eq_of_lt (by omega)]; exact hq)).1 c hc
    rw [hpl] at this
    exact this
  obtain ⟨k, μ1, S1, e1, hx1, ag1, hS1, h⟩ := kindOf_x (F := F) hf hwf ok ev hx hs hm hq hc
  have ev1 := ev.ag hf ag1
  have t1 : μ1.1 7 q = nI (C 1 q) := (ev1.1.2.1 q hq).1
  have e919 : S1 919 = nI n := by rw [hS1 _ (by omega)]; exact hs.1.2.2
  -- the end of each kind
  have fin : ∀ (k h' : Int32) (i : Nat) (μ2 : aw_M) (S2 S3 : Nat → Int32), k = nI i → i < 5 → XS C f μ2 S2 → AgK (kNF f) μ μ2 → (if i = 0 then S3 = upd S2 917 (S2 917 + 1) else if i = 1 then S3 = upd S2 916 (S2 916 + 1) else if i = 2 then S3 = upd S2 918 (S2 918 + 1) else S3 = S2) → S2 919 = nI n → T (f_X0_throwAt_123 F f (nI q) (nI c) k h' μ2) fun μ' => XS C f μ' (sTell n q c k h' S3) ∧ AgK (kNF f) μ μ' := fun k h' i μ2 S2 S3 hk hi hx2 ag2 h3 h9 => by
    subst hk
    unfold f_X0_throwAt_123
    rw [pI_in_t hi (by decide), pg_t, pg_t, plet, r8, nI_clamp (by omega)]
    have hx3 : XS C f (aw_wI μ2 (f + 1) i (μ2.1 (f + 1) i + 1)) S3 := by
      have hi' : i = 0 ∨ i = 1 ∨ i = 2 ∨ 3 ≤ i := by omega
      rcases hi' with rfl | rfl | rfl | h4
      · rw [if_pos rfl] at h3
        rw [h3, hx2.2.1.2.1]
        exact hx2.w ok.1 .k0
      · rw [if_neg (by decide), if_pos rfl] at h3
        rw [h3, hx2.2.1.1]
        exact hx2.w ok.1 .k1
      · rw [if_neg (by decide), if_neg (by decide), if_pos rfl] at h3
        rw [h3, hx2.2.1.2.2]
        exact hx2.w ok.1 .k2
      · rw [if_neg (by omega), if_neg (by omega), if_neg (by omega)] at h3
        rw [h3]
        exact hx2.o (by omega)
    have h9' : S3 919 = nI n := by
      split at h3
      · rw [h3, pk_un (by omega)]; exact h9
      · split at h3
        · rw [h3, pk_un (by omega)]; exact h9
        · split at h3
          · rw [h3, pk_un (by omega)]; exact h9
          · rw [h3]; exact h9
    refine T_call (tell_x hf ok.1 hn hx3 h9') fun μ4 h4 => T_some.2 ⟨h4.1, (ag2.wI (kNF_f (by omega) (by omega))).tr h4.2⟩
  unfold f_X0_throwAt
  rw [e20, pI_in_t (by omega) (by decide), pg_t, plet, r2, s0, nI_clamp (by omega), ea, e1, Option.bind_some]
  have i9 : aw_in (nI q) 9 = true := pI_in_t (by omega) (by decide)
  have i20 : aw_in (nI c) 20 = true := pI_in_t (by omega) (by decide)
  have cq : (nI q).toNatClampNeg = q := nI_clamp (by omega)
  have cc : (nI c).toNatClampNeg = c := nI_clamp (by omega)
  rcases h with ⟨rfl, h⟩ | ⟨rfl, h⟩ | ⟨rfl, h⟩ | ⟨hk, h⟩
  · rw [h]
    show T (if (0 : Int32) = 2 then _ else if (0 : Int32) = 1 then _ else if (0 : Int32) = 0 then f_X0_throwAt_123 F f (nI q) (nI c) 0 0 μ1 else _) _
    rw [if_neg (by decide), if_neg (by decide), if_pos rfl]
    exact fin 0 0 0 μ1 S1 _ rfl (by decide) hx1 ag1 rfl e919
  · rw [h]
    show T (if (1 : Int32) = 2 then _ else if (1 : Int32) = 1 then (aw_g (aw_in (nI q) 9) ((f_X0_useBox F f (nI q) (nI c) (μ1.1 (aw_rf (aw_rf f 0) 6) (nI q).toNatClampNeg) μ1).bind _)) else _) _
    rw [if_neg (by decide), if_pos rfl, i9, pg_t, r0, s6, cq, t1]
    refine T_call (useBox_x hf ok.1 hx1 hq hc h1) fun μ2 h2 => ?_
    unfold sSlip
    rw [upd_comm (by omega)]
    refine fin 1 0 1 μ2 _ _ rfl (by decide) h2.1 (ag1.tr h2.2) ?_ ?_
    · show _ = upd _ 916 (_ + 1)
      rw [pk_un (by omega), sUse_o (by omega) (by omega) (by omega)]
    · rw [pk_un (by omega), sUse_o (by omega) (by omega) (by omega)]; exact e919
  · rw [h]
    show T (if (2 : Int32) = 2 then (aw_g (aw_in (nI q) 9) (aw_let (aw_wI μ1 (aw_rf f 12) (nI q).toNatClampNeg 2) fun μ20 => f_X0_throwAt_123 F f (nI q) (nI c) 2 0 μ20)) else _) _
    rw [if_pos rfl, i9, pg_t, plet, r12, cq]
    refine fin 2 0 2 _ (upd S1 (485 + q) 2) _ rfl (by decide) (hx1.w ok.1 (.o (by omega) rfl)) (ag1.wI (kNF_f (by omega) (by omega))) ?_ ?_
    · show upd _ 918 _ = upd _ 918 _
      rw [pk_un (by omega)]
    · rw [pk_un (by omega)]; exact e919
  · rw [h]
    obtain ⟨i, hi, hi2⟩ : ∃ i, k = nI i ∧ (i = 3 ∨ i = 4) := by
      rw [hk]
      split
      · exact ⟨3, rfl, .inl rfl⟩
      · exact ⟨4, rfl, .inr rfl⟩
    have x6 : μ1.1 (f + 5) q = nI (gS S1 6 q) := by
      rw [(hx1.2.2.1 q hq).2.2.2]
      have := (hs.2.1 q hq).2.1
      rw [← hS1 _ (by omega)] at this
      exact this.eq (by decide)
    have hg : gS S1 6 q ≤ 2 := cl_le _ _
    have n2 : ¬ k = 2 := by rw [hi]; rcases hi2 with rfl | rfl <;> decide
    have n1 : ¬ k = 1 := by rw [hi]; rcases hi2 with rfl | rfl <;> decide
    have n0 : ¬ k = 0 := by rw [hi]; rcases hi2 with rfl | rfl <;> decide
    show T (if k = 2 then _ else if k = 1 then _ else if k = 0 then _ else (aw_g (aw_in (nI q) 9) ((f_X8_hitOf F (aw_rf f 0) (nI q) (nI c) (nI (dst (C 1 q) (C 6 c))) (μ1.1 (aw_rf f 12) (nI q).toNatClampNeg) μ1).bind _))) _
    rw [if_neg n2, if_neg n1, if_neg n0, i9, pg_t, r0, r12, cq, x6, hitOf_x hwf ev1.1 hq hc (by omega) (by omega), Option.bind_some]
    have eh : (if 2 < dst (C 1 q) (C 6 c) then C 3 q + gS S1 6 q - (dst (C 1 q) (C 6 c) + C 8 c) else C 3 q + gS S1 6 q + 2 - C 8 c) = sHit C q c S1 := rfl
    rw [eh, i20]
    show T (aw_g true (aw_let (aw_wI μ1 (f + 5) q 0) fun μ16 => _)) _
    rw [pg_t, plet, pg_t, pg_t, plet, pg_t, r15, cc, s11]
    have hx2 := hx1.w (a := f + 5) (i := q) (k := 485 + q) (v := 0) ok.1 (.o (by omega) rfl)
    have ag2 : AgK (kNF f) μ (aw_wI μ1 (f + 5) q 0) := ag1.wI (kNF_f (by omega) (by omega))
    rw [show (aw_wI μ1 (f + 5) q 0).1 (f + 8) c = S1 (694 + c) from by rw [(hx2.2.2.2.2.1 c hc).2, pk_un (by omega)]]
    have hx3 := hx2.w (a := f + 8) (i := c) (k := 694 + c) (v := S1 (694 + c) + nI (sHit C q c S1)) ok.1 (.h (by omega) rfl)
    have ag3 : AgK (kNF f) μ (aw_wI (aw_wI μ1 (f + 5) q 0) (f + 8) c (S1 (694 + c) + nI (sHit C q c S1))) := ag2.wI (kNF_f (by omega) (by omega))
    have t6 : (aw_wI (aw_wI μ1 (f + 5) q 0) (f + 8) c (S1 (694 + c) + nI (sHit C q c S1))).1 12 c = nI (C 6 c) := ((ev.ag hf ag3).1.2.2.2.1 c hc).2.1
    show T ((f_X0_useBox F f (nI q) (nI c) ((aw_wI (aw_wI μ1 (f + 5) q 0) (f + 8) c (S1 (694 + c) + nI (sHit C q c S1))).1 12 c) _).bind _) _
    rw [t6]
    refine T_call (useBox_x hf ok.1 hx3 hq hc h6) fun μ4 h4 => ?_
    have ef : upd (sUse q c (upd (upd S1 (485 + q) 0) (694 + c) (S1 (694 + c) + nI (sHit C q c S1)))) (714 + C 6 c) (upd (upd S1 (485 + q) 0) (694 + c) (S1 (694 + c) + nI (sHit C q c S1)) (714 + C 6 c) + 1) = upd (upd (sUse q c (upd S1 (485 + q) 0)) (714 + C 6 c) (S1 (714 + C 6 c) + 1)) (694 + c) (S1 (694 + c) + nI (sHit C q c S1)) := by
      rw [pk_un (by omega), pk_un (by omega)]
      unfold sUse
      simp (disch := omega) only [pk_un]
      rw [upd_comm (i := 714 + C 6 c) (j := 694 + c) (by omega), upd_comm (i := 914) (j := 694 + c) (by omega), upd_comm (i := 494 + 20 * q + c) (j := 694 + c) (by omega), upd_comm (i := 458 + q) (j := 694 + c) (by omega)]
    rw [ef] at h4
    unfold sHitE
    rw [← hk]
    refine fin k _ i μ4 _ _ hi (by omega) h4.1 (ag3.tr h4.2) ?_ ?_
    · rw [if_neg (by omega), if_neg (by omega), if_neg (by omega)]
    · simp (disch := omega) only [pk_un, sUse_o]
      exact e919
