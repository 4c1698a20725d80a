/-! The middle layer: a state is a memory of numbers over the fixed layout; AW says that the machine, at a place of a method, comes to the end that an Option tells. -/
abbrev aw_M : Type := (Nat → Nat → Int32) × (Nat → Nat → Int64)
def aw_wI (μ : aw_M) (a i : Nat) (v : Int32) : aw_M := (va_up μ.1 a (upd (μ.1 a) i v), μ.2)
def aw_wL (μ : aw_M) (a i : Nat) (v : Int64) : aw_M := (μ.1, va_up μ.2 a (vp_updL (μ.2 a) i v))
def aw_cp (μ : aw_M) (a b sp dp n : Nat) : aw_M := (va_up μ.1 b (va_cpy (μ.1 a) (μ.1 b) sp dp n), μ.2)
def aw_cpL (μ : aw_M) (a b sp dp n : Nat) : aw_M := (μ.1, va_up μ.2 b (va_cpy (μ.2 a) (μ.2 b) sp dp n))
def aw_val (ad : Nat → Nat) (μ : aw_M) (a k t : Nat) : Value := match t with
  | 0 => .int (μ.1 a k)
  | 1 => .long (μ.2 a k)
  | _ => .ref (ad (aw_rf a k))
def aw_cell (C : Nat → ClassId) (ad : Nat → Nat) (μ : aw_M) (a : Nat) : va_E := match (aw_sh a).1 with
  | 0 => .inl (C 0, (aw_sh a).2, .inl (μ.1 a))
  | 1 => .inl (C 1, (aw_sh a).2, .inl (μ.1 a))
  | 2 => .inl (C 2, (aw_sh a).2, .inl (μ.1 a))
  | 3 => .inl (C 3, (aw_sh a).2, .inr (.inl (μ.2 a)))
  | 4 => .inl (C 4, (aw_sh a).2, .inr (.inr (.inr (.inr (fun j => some (ad (aw_rf a j)))))))
  | ci + 5 => .inr (ci, (aw_ty ci).mapIdx (fun k t => aw_val ad μ a k t))
def aw_ws (C : Nat → ClassId) (ad : Nat → Nat) (μ : aw_M) : va_W := (List.range aw_N).map (fun a => (ad a, aw_cell C ad μ a))
def aw_tys (C : Nat → ClassId) : List (ClassId × FieldType) := [(C 0, .int), (C 1, .byte), (C 2, .boolean), (C 3, .long), (C 4, .object "OrangeFight$Scene")]
def aw_c (ad : Nat → Nat) (v : Value) : Value := match v with
  | .ref a => .ref (ad a)
  | w => w
def aw_lv (ad : Nat → Nat) : Nat → List (Option Value) → List (Nat × Value)
  | _, [] => []
  | i, none :: t => aw_lv ad (i + 1) t
  | i, some v :: t => (i, aw_c ad v) :: aw_lv ad (i + 1) t
def aw_A (ad : Nat → Nat) (sz : Nat) : Nat → Prop := fun q => (∃ a, a < aw_N ∧ q = ad a) ∨ sz ≤ q
def aw_NL : List (String × Nat × MethodName × String) := [(RX8, 87, yX10_copyRow, RX10), (RX0, 76, yX10_copyRow, RX10), (RX2, 34, yX10_copyRow, RX10), (RX3, 32, yX10_copyRow, RX10), (RX9, 78, yX10_copyRow, RX10), (RX5, 114, yX10_isPlan, RX10), (RX10, 18, yX4_init, RX10), (RX4, 25, yX3_init, RX10), (RX10, 47, yX3_init, RX10), (RX10, 87, yX9_init, RX10)]
def aw_Nk (U : State) : Prop := ∀ q ∈ aw_NL, va_Nw (.methodLinkNest q.1 q.2.1 q.2.2.1 q.2.2.2) U
theorem aw_Nk.warm {s U : State} (hW : s.WarmedH U.vm) (h : aw_Nk s) : aw_Nk U := fun q hq => va_Nw.warmM hW (h q hq)
theorem aw_Nk.same {s U : State} (e : s.vm = U.vm) (h : aw_Nk s) : aw_Nk U := fun q hq => va_Nw.same rfl e (h q hq)
abbrev aw_K : Type := String × ByteArray × Nat × Option FieldType × Nat × Nat
def aw_E (K : aw_K) (p : Program) (R : Room) (s : State) (m : MethodId) (args : Array Value) (meth : Method) (c : Code) : Prop :=
  p.tables.exec = Jvm.exec ∧ c.code = K.2.1 ∧ c.maxLocals = K.2.2.1 ∧ s.vm.findClass K.1 = some m.cls ∧ (∀ w ∈ aw_TB, w.before args s = true) ∧ meth.sig.returnType = K.2.2.2.1 ∧ meth.locks = false ∧ K.2.2.2.2.1 ≤ R.frames ∧ K.2.2.2.2.2 ≤ R.locals ∧ aw_Nk s
def aw_Rl (D : va_G) (C : Nat → ClassId) (ad : Nat → Nat) (A : Nat → Prop) (s : State) (H : Heap) (locs : List Loc) (μ : aw_M) : Prop :=
  va_P D vwCl (aw_ws C ad μ) H ∧ va_K D vwCl (aw_tys C) s ∧ va_D A (aw_ws C ad μ) ∧ va_S A s.heap H locs ∧ ∀ q, s.heap.size ≤ q → A q
def aw_Q (D : va_G) (C : Nat → ClassId) (ad : Nat → Nat) (A : Nat → Prop) (r : Option Value × aw_M) : Array Value → State → Outcome → State → Prop := fun _ st oc t =>
  (oc = .returned (r.1.map (aw_c ad)) ∧ va_P D vwCl (aw_ws C ad r.2) t.heap ∧ va_K D vwCl (aw_tys C) t) ∧ va_F A st t
def AW {ρ : Type} (l : Launch) (K : aw_K) (g : ρ → Option Value × aw_M) (pc : Nat) (L : List (Option Value)) (st : List Value) (μ : aw_M) (o : Option ρ) : Prop :=
  ∀ (p : Program) (e : Env) (R : Room) (s : State) (m : MethodId) (args : Array Value) (below : List Frame) (meth : Method) (c : Code), aw_E K p R s m args meth c →
  ∀ (D : va_G) (C : Nat → ClassId) (ad : Nat → Nat) (A : Nat → Prop) (H : Heap) (locs : List Loc), aw_Rl D C ad A s H locs μ → ∀ ls : Array Slot, lv_has ls K.2.2.1 (aw_lv ad 0 L) → ∀ r : ρ, o = some r →
  W p l e R s m args below meth c H locs 0 0 (MQ below (aw_Q D C ad A (g r)) args s 0 0 A) (F0 m pc ls (st.map (aw_c ad)))
def AM {ρ : Type} (l : Launch) (y : MethodName) (cc : ByteArray) (mL : Nat) (rt : Option FieldType) (dF dL : Nat) (g : ρ → Option Value × aw_M) (as : List Value) (μ : aw_M) (o : Option ρ) : Prop :=
  ∀ (D : va_G) (C : Nat → ClassId) (ad : Nat → Nat) (sz : Nat) (r : ρ), o = some r →
  Met l y (.code y cc mL rt :: aw_TB) ({ frames := dF, cells := 0, slots := 0, locals := dL }) (va_Pc (as.map (aw_c ad)) (fun U => U.heap.size = sz ∧ va_P D vwCl (aw_ws C ad μ) U.heap ∧ va_K D vwCl (aw_tys C) U ∧ va_D (fun _ => True) (aw_ws C ad μ) ∧ aw_Nk U)) (aw_Q D C ad (aw_A ad sz) (g r)) 0 0 (aw_A ad sz)
-- the world's list
theorem aw_ws_at {C : Nat → ClassId} {ad : Nat → Nat} {μ : aw_M} {a : Nat} (h : a < aw_N) : (aw_ws C ad μ)[a]? = some (ad a, aw_cell C ad μ a) := by
  unfold aw_ws
  rw [List.getElem?_map, List.getElem?_range h]
  rfl
theorem aw_ws_ge {C : Nat → ClassId} {ad : Nat → Nat} {μ : aw_M} {a : Nat} (h : aw_N ≤ a) : (aw_ws C ad μ)[a]? = none := by
  unfold aw_ws
  rw [List.getElem?_eq_none]
  rw [List.length_map, List.length_range]
  exact h
theorem aw_ws_get {C : Nat → ClassId} {ad : Nat → Nat} {μ : aw_M} {k : Nat} {q : Nat × va_E} (h : (aw_ws C ad μ)[k]? = some q) : k < aw_N ∧ q = (ad k, aw_cell C ad μ k) := by
  rcases Nat.lt_or_ge k aw_N with z | z
  · rw [aw_ws_at z] at h
    exact ⟨z, (Option.some.inj h).symm⟩
  · rw [aw_ws_ge z] at h
    cases h
theorem aw_ws_set {C : Nat → ClassId} {ad : Nat → Nat} {μ μ' : aw_M} {a : Nat} {E : va_E} (h : a < aw_N) (he : E = aw_cell C ad μ' a) (ho : ∀ b, b ≠ a → aw_cell C ad μ' b = aw_cell C ad μ b) : (aw_ws C ad μ).set a (ad a, E) = aw_ws C ad μ' := by
  apply List.ext_getElem?
  intro k
  rw [List.getElem?_set]
  by_cases e : a = k
  · subst e
    rw [if_pos rfl, aw_ws_at h, he, if_pos]
    unfold aw_ws
    rw [List.length_map, List.length_range]
    exact h
  · rw [if_neg e]
    rcases Nat.lt_or_ge k aw_N with z | z
    · rw [aw_ws_at z, aw_ws_at z, ho k (fun q => e q.symm)]
    · rw [aw_ws_ge z, aw_ws_ge z]
theorem aw_D_inj {A : Nat → Prop} {C : Nat → ClassId} {ad : Nat → Nat} {μ : aw_M} (h : va_D A (aw_ws C ad μ)) : (∀ i j, i < aw_N → j < aw_N → ad i = ad j → i = j) ∧ ∀ i, i < aw_N → A (ad i) :=
  ⟨fun i j hi hj e => h.1 i j _ _ (aw_ws_at hi) (aw_ws_at hj) e, fun i hi => h.2 i _ (aw_ws_at hi)⟩
theorem aw_D_of {A : Nat → Prop} {C : Nat → ClassId} {ad : Nat → Nat} {μ : aw_M} (h : (∀ i j, i < aw_N → j < aw_N → ad i = ad j → i = j) ∧ ∀ i, i < aw_N → A (ad i)) : va_D A (aw_ws C ad μ) := by
  refine ⟨fun i j p q hp hq e => ?_, fun k q hq => ?_⟩
  · obtain ⟨h1, rfl⟩ := aw_ws_get hp
    obtain ⟨h2, rfl⟩ := aw_ws_get hq
    exact h.1 i j h1 h2 e
  · obtain ⟨h1, rfl⟩ := aw_ws_get hq
    exact h.2 k h1
theorem aw_va_A {C : Nat → ClassId} {ad : Nat → Nat} {μ : aw_M} {sz q : Nat} : va_A (aw_ws C ad μ) sz q ↔ aw_A ad sz q := by
  constructor
  · rintro (⟨k, e, h⟩ | h)
    · obtain ⟨h1, h2⟩ := aw_ws_get h
      exact Or.inl ⟨k, h1, congrArg Prod.fst h2⟩
    · exact Or.inr h
  · rintro (⟨a, h1, h2⟩ | h)
    · exact Or.inl ⟨a, aw_cell C ad μ a, by rw [h2]; exact aw_ws_at h1⟩
    · exact Or.inr h
-- locals
theorem aw_lv_mem {ad : Nat → Nat} {q : Nat × Value} : ∀ {L : List (Option Value)} {n : Nat}, q ∈ aw_lv ad n L ↔ ∃ (j : Nat) (v : Value), L[j]? = some (some v) ∧ q = (n + j, aw_c ad v) := by
  intro L
  induction L with
  | nil => intro n; simp [aw_lv]
  | cons x t ih =>
    intro n
    have key : (∃ (j : Nat) (v : Value), (x :: t)[j]? = some (some v) ∧ q = (n + j, aw_c ad v)) ↔ (∃ v, x = some v ∧ q = (n, aw_c ad v)) ∨ ∃ (j : Nat) (v : Value), t[j]? = some (some v) ∧ q = (n + 1 + j, aw_c ad v) := by
      constructor
      · rintro ⟨j, v, h1, h2⟩
        cases j with
        | zero => exact Or.inl ⟨v, by simpa using h1, by simpa using h2⟩
        | succ j => exact Or.inr ⟨j, v, by simpa using h1, by rw [h2]; congr 1; omega⟩
      · rintro (⟨v, h1, h2⟩ | ⟨j, v, h1, h2⟩)
        · exact ⟨0, v, by simp [h1], by simpa using h2⟩
        · exact ⟨j + 1, v, by simpa using h1, by rw [h2]; congr 1; omega⟩
    rw [key]
    cases x with
    | none => simp only [aw_lv]; rw [ih]; simp
    | some w => simp only [aw_lv]; rw [List.mem_cons, ih]; simp
theorem aw_lv_at {ad : Nat → Nat} {ls : Array Slot} {nL : Nat} {L : List (Option Value)} (h : lv_has ls nL (aw_lv ad 0 L)) {i : Nat} {v : Value} (hi : L[i]? = some (some v)) : ls[i]? = some (.val (aw_c ad v)) :=
  h.2.2 (i, aw_c ad v) (aw_lv_mem.mpr ⟨i, v, hi, by simp⟩)
theorem lv_has_of {ls : Array Slot} {nL : Nat} {l l' : List (Nat × Value)} (h : lv_has ls nL l) (hl : ∀ q ∈ l', q ∈ l) : lv_has ls nL l' := ⟨h.1, h.2.1, fun q hq => h.2.2 q (hl q hq)⟩
/-- behind a store of one word -/
theorem aw_lv_set1 {ad : Nat → Nat} {ls : Array Slot} {nL i : Nat} {L : List (Option Value)} {w : Value} (hi : i < L.length) (h2 : ∀ (j : Nat) (v : Value), L[j]? = some (some v) → j + 1 = i → (aw_c ad v).category ≠ 2)
    (h : lv_has ls nL ((i, aw_c ad w) :: (aw_lv ad 0 L).filter (fun q => !(q.1 == i) && !(q.1 + 1 == i && q.2.category == 2)))) : lv_has ls nL (aw_lv ad 0 (L.set i (some w))) := by
  refine lv_has_of h (fun q hq => ?_)
  obtain ⟨j, v, h1, rfl⟩ := aw_lv_mem.mp hq
  rw [List.getElem?_set] at h1
  by_cases e : i = j
  · subst e
    rw [if_pos rfl, if_pos hi] at h1
    cases h1
    simp
  · rw [if_neg e] at h1
    refine List.mem_cons_of_mem _ (List.mem_filter.mpr ⟨aw_lv_mem.mpr ⟨j, v, h1, rfl⟩, ?_⟩)
    simp only [Nat.zero_add, Bool.and_eq_true, Bool.not_eq_true', beq_eq_false_iff_ne, ne_eq, Bool.and_eq_false_imp, beq_iff_eq]
    exact ⟨fun q => e q.symm, fun q => h2 j v h1 q⟩
