theorem T_some {α : Type} {r : α} {Q : α → Prop} : T (some r) Q ↔ Q r := ⟨fun ⟨_, e, h⟩ => by cases e; exact h, fun h => ⟨r, rfl, h⟩⟩
theorem T_g {α : Type} {b : Bool} {o : Option α} {Q : α → Prop} : T (aw_g b o) Q ↔ b = true ∧ T o Q := by
  cases b
  · exact ⟨fun ⟨_, e, _⟩ => (by cases e), fun h => (by cases h.1)⟩
  · exact ⟨fun h => ⟨rfl, h⟩, fun h => h.2⟩
theorem T_bind {α β : Type} {o : Option α} {f : α → Option β} {Q : β → Prop} : T (o.bind f) Q ↔ T o fun r => T (f r) Q := by
  cases o with
  | none => exact ⟨fun ⟨_, e, _⟩ => (by cases e), fun ⟨_, e, _⟩ => (by cases e)⟩
  | some r => exact ⟨fun h => ⟨r, rfl, h⟩, fun ⟨_, e, h⟩ => by cases e; exact h⟩
theorem T_let {α β : Type} {x : α} {f : α → Option β} {Q : β → Prop} : T (aw_let x f) Q ↔ T (f x) Q := Iff.rfl
theorem T_ite {α : Type} {c : Prop} [Decidable c] {a b : Option α} {Q : α → Prop} : T (if c then a else b) Q ↔ (c → T a Q) ∧ (¬c → T b Q) := by
  by_cases h : c
  · simp [h]
  · simp [h]
theorem T_mono {α : Type} {o : Option α} {Q Q' : α → Prop} (h : T o Q) (hq : ∀ r, Q r → Q' r) : T o Q' := by
  obtain ⟨r, e, h⟩ := h
  exact ⟨r, e, hq r h⟩
theorem rI_s {μ : aw_M} {a k : Nat} {v : Int32} : (aw_wI μ a k v).1 a k = v := by
  show va_up μ.1 a (upd (μ.1 a) k v) a k = v
  rw [va_up_self, pk_us]
theorem rI_k {μ : aw_M} {a k j : Nat} {v : Int32} (h : j ≠ k) : (aw_wI μ a k v).1 a j = μ.1 a j := by
  show va_up μ.1 a (upd (μ.1 a) k v) a j = μ.1 a j
  rw [va_up_self, pk_un h]
theorem rI_a {μ : aw_M} {a k b : Nat} {v : Int32} (h : b ≠ a) : (aw_wI μ a k v).1 b = μ.1 b := va_up_ne _ _ h
theorem rI_2 {μ : aw_M} {a k : Nat} {v : Int32} : (aw_wI μ a k v).2 = μ.2 := rfl
theorem rL_s {μ : aw_M} {a k : Nat} {v : Int64} : (aw_wL μ a k v).2 a k = v := by
  show va_up μ.2 a (vp_updL (μ.2 a) k v) a k = v
  rw [va_up_self, pk_uLs]
theorem rL_k {μ : aw_M} {a k j : Nat} {v : Int64} (h : j ≠ k) : (aw_wL μ a k v).2 a j = μ.2 a j := by
  show va_up μ.2 a (vp_updL (μ.2 a) k v) a j = μ.2 a j
  rw [va_up_self, pk_uLn h]
theorem rL_a {μ : aw_M} {a k b : Nat} {v : Int64} (h : b ≠ a) : (aw_wL μ a k v).2 b = μ.2 b := va_up_ne _ _ h
theorem rL_1 {μ : aw_M} {a k : Nat} {v : Int64} : (aw_wL μ a k v).1 = μ.1 := rfl
/-- the reference's own note that nothing was thrown -/
theorem R_th {μ : aw_M} {v : Int32} (h : R μ) : R (aw_wI μ 203 0 v) := R_ag ((Ag.rf μ).wI rfl) h
theorem in_of {i : Int32} {n : Nat} (hn : n < 2 ^ 31) (h : 0 ≤ i) (h2 : i < nI n) : aw_in i n = true := by
  unfold aw_in
  rw [Int32.le_iff_toInt_le] at h
  rw [Int32.lt_iff_toInt_lt, nI_toInt hn] at h2
  simp only [Bool.and_eq_true, decide_eq_true_eq]
  exact ⟨h, h2⟩
