/-! XW: as AW, for bodies that may throw or make cells: kc exceptions made so far (a cell and six slots each), any target, any further premise Px of the start. -/
abbrev xw_K : Type := aw_K × Nat × Nat × Nat
abbrev xw_Tg (ρ : Type) : Type := List Frame → Array Value → State → va_G → (Nat → ClassId) → (Nat → Nat) → (Nat → Prop) → ρ → State → Prop
def xw_E (K : xw_K) (p : Program) (R : Room) (s : State) (m : MethodId) (args : Array Value) (meth : Method) (c : Code) : Prop :=
  aw_E K.1 p R s m args meth c ∧ K.2.1 + K.2.2.2 ≤ R.cells ∧ K.2.2.1 + 6 * K.2.2.2 ≤ R.slots
def XW {ρ : Type} (l : Launch) (K : xw_K) (Tg : xw_Tg ρ) (Px : (Nat → Nat) → (Nat → Prop) → State → Code → Prop) (pc : Nat) (L : List (Option Value)) (st : List Value) (μ : aw_M) (kc : Nat) (o : Option ρ) : Prop :=
  ∀ (p : Program) (e : Env) (R : Room) (s : State) (m : MethodId) (args : Array Value) (below : List Frame) (meth : Method) (c : Code), xw_E K p R s m args meth c →
  ∀ (D : va_G) (C : Nat → ClassId) (ad : Nat → Nat) (A : Nat → Prop), Px ad A s c → ∀ (H : Heap) (locs : List Loc), aw_Rl D C ad A s H locs μ → kc ≤ K.2.2.2 → ∀ ls : Array Slot, lv_has ls K.1.2.2.1 (aw_lv ad 0 L) → ∀ r : ρ, o = some r →
  W p l e R s m args below meth c H locs (K.2.1 + kc) (K.2.2.1 + 6 * kc) (Tg below args s D C ad A r) (F0 m pc ls (st.map (aw_c ad)))

section xw_rows
variable {ρ ρ' : Type} {l : Launch} {K : xw_K} {Tg : xw_Tg ρ} {Px : (Nat → Nat) → (Nat → Prop) → State → Code → Prop} {g' : ρ' → Option Value × aw_M} {pc n kc : Nat} {L : List (Option Value)} {st : List Value} {μ : aw_M} {o : Option ρ} {o' : Option ρ'} {h : ρ' → Option ρ} {y : MethodName} {cc : ByteArray} {mL : Nat} {rt : Option FieldType} {dF dL na idx : Nat} {as : List Value} {b : Nat}
theorem xw_iadd {x y : Int32} (hd : decode K.1.2.1 pc = .ok (.iadd, 1)) (hn : pc + 1 = n) (k : XW l K Tg Px n L (.int (x + y) :: st) μ kc o) : XW l K Tg Px pc L (.int y :: .int x :: st) μ kc o := by
  subst hn
  intro p e R s m args below meth c E D C ad A Y H locs X hk ls hl r hr
  exact lv_iadd E.1.1 E.1.2.1 hd (k p e R s m args below meth c E D C ad A Y H locs X hk ls hl r hr)
theorem xw_isub {x y : Int32} (hd : decode K.1.2.1 pc = .ok (.isub, 1)) (hn : pc + 1 = n) (k : XW l K Tg Px n L (.int (x - y) :: st) μ kc o) : XW l K Tg Px pc L (.int y :: .int x :: st) μ kc o := by
  subst hn
  intro p e R s m args below meth c E D C ad A Y H locs X hk ls hl r hr
  exact lv_isub E.1.1 E.1.2.1 hd (k p e R s m args below meth c E D C ad A Y H locs X hk ls hl r hr)
theorem xw_imul {x y : Int32} (hd : decode K.1.2.1 pc = .ok (.imul, 1)) (hn : pc + 1 = n) (k : XW l K Tg Px n L (.int (x * y) :: st) μ kc o) : XW l K Tg Px pc L (.int y :: .int x :: st) μ kc o := by
  subst hn
  intro p e R s m args below meth c E D C ad A Y H locs X hk ls hl r hr
  exact lv_imul E.1.1 E.1.2.1 hd (k p e R s m args below meth c E D C ad A Y H locs X hk ls hl r hr)
theorem xw_iand {x y : Int32} (hd : decode K.1.2.1 pc = .ok (.iand, 1)) (hn : pc + 1 = n) (k : XW l K Tg Px n L (.int (x &&& y) :: st) μ kc o) : XW l K Tg Px pc L (.int y :: .int x :: st) μ kc o := by
  subst hn
  intro p e R s m args below meth c E D C ad A Y H locs X hk ls hl r hr
  exact lv_iand E.1.1 E.1.2.1 hd (k p e R s m args below meth c E D C ad A Y H locs X hk ls hl r hr)
theorem xw_ior {x y : Int32} (hd : decode K.1.2.1 pc = .ok (.ior, 1)) (hn : pc + 1 = n) (k : XW l K Tg Px n L (.int (x ||| y) :: st) μ kc o) : XW l K Tg Px pc L (.int y :: .int x :: st) μ kc o := by
  subst hn
  intro p e R s m args below meth c E D C ad A Y H locs X hk ls hl r hr
  exact lv_ior E.1.1 E.1.2.1 hd (k p e R s m args below meth c E D C ad A Y H locs X hk ls hl r hr)
theorem xw_ixor {x y : Int32} (hd : decode K.1.2.1 pc = .ok (.ixor, 1)) (hn : pc + 1 = n) (k : XW l K Tg Px n L (.int (x ^^^ y) :: st) μ kc o) : XW l K Tg Px pc L (.int y :: .int x :: st) μ kc o := by
  subst hn
  intro p e R s m args below meth c E D C ad A Y H locs X hk ls hl r hr
  exact lv_ixor E.1.1 E.1.2.1 hd (k p e R s m args below meth c E D C ad A Y H locs X hk ls hl r hr)
theorem xw_ishl {x y : Int32} (hd : decode K.1.2.1 pc = .ok (.ishl, 1)) (hn : pc + 1 = n) (k : XW l K Tg Px n L (.int (x <<< (y &&& 31)) :: st) μ kc o) : XW l K Tg Px pc L (.int y :: .int x :: st) μ kc o := by
  subst hn
  intro p e R s m args below meth c E D C ad A Y H locs X hk ls hl r hr
  exact lv_ishl E.1.1 E.1.2.1 hd (k p e R s m args below meth c E D C ad A Y H locs X hk ls hl r hr)
theorem xw_ishr {x y : Int32} (hd : decode K.1.2.1 pc = .ok (.ishr, 1)) (hn : pc + 1 = n) (k : XW l K Tg Px n L (.int (x >>> (y &&& 31)) :: st) μ kc o) : XW l K Tg Px pc L (.int y :: .int x :: st) μ kc o := by
  subst hn
  intro p e R s m args below meth c E D C ad A Y H locs X hk ls hl r hr
  exact lv_ishr E.1.1 E.1.2.1 hd (k p e R s m args below meth c E D C ad A Y H locs X hk ls hl r hr)
theorem xw_iushr {x y : Int32} (hd : decode K.1.2.1 pc = .ok (.iushr, 1)) (hn : pc + 1 = n) (k : XW l K Tg Px n L (.int ((x.toUInt32 >>> (y.toUInt32 &&& Int32.toUInt32 31)).toInt32) :: st) μ kc o) : XW l K Tg Px pc L (.int y :: .int x :: st) μ kc o := by
  subst hn
  intro p e R s m args below meth c E D C ad A Y H locs X hk ls hl r hr
  exact lv_iushr E.1.1 E.1.2.1 hd rfl (k p e R s m args below meth c E D C ad A Y H locs X hk ls hl r hr)
theorem xw_ineg {x : Int32} (hd : decode K.1.2.1 pc = .ok (.ineg, 1)) (hn : pc + 1 = n) (k : XW l K Tg Px n L (.int (-x) :: st) μ kc o) : XW l K Tg Px pc L (.int x :: st) μ kc o := by
  subst hn
  intro p e R s m args below meth c E D C ad A Y H locs X hk ls hl r hr
  exact lv_ineg E.1.1 E.1.2.1 hd (k p e R s m args below meth c E D C ad A Y H locs X hk ls hl r hr)
theorem xw_i2l {x : Int32} (hd : decode K.1.2.1 pc = .ok (.i2l, 1)) (hn : pc + 1 = n) (k : XW l K Tg Px n L (.long x.toInt64 :: st) μ kc o) : XW l K Tg Px pc L (.int x :: st) μ kc o := by
  subst hn
  intro p e R s m args below meth c E D C ad A Y H locs X hk ls hl r hr
  exact lv_i2l E.1.1 E.1.2.1 hd rfl (k p e R s m args below meth c E D C ad A Y H locs X hk ls hl r hr)
theorem xw_l2i {x : Int64} (hd : decode K.1.2.1 pc = .ok (.l2i, 1)) (hn : pc + 1 = n) (k : XW l K Tg Px n L (.int x.toInt32 :: st) μ kc o) : XW l K Tg Px pc L (.long x :: st) μ kc o := by
  subst hn
  intro p e R s m args below meth c E D C ad A Y H locs X hk ls hl r hr
  exact lv_l2i E.1.1 E.1.2.1 hd rfl (k p e R s m args below meth c E D C ad A Y H locs X hk ls hl r hr)
theorem xw_i2b {x : Int32} (hd : decode K.1.2.1 pc = .ok (.i2b, 1)) (hn : pc + 1 = n) (k : XW l K Tg Px n L (.int x.toInt8.toInt32 :: st) μ kc o) : XW l K Tg Px pc L (.int x :: st) μ kc o := by
  subst hn
  intro p e R s m args below meth c E D C ad A Y H locs X hk ls hl r hr
  exact lv_i2b E.1.1 E.1.2.1 hd rfl (k p e R s m args below meth c E D C ad A Y H locs X hk ls hl r hr)
theorem xw_ladd {x y : Int64} (hd : decode K.1.2.1 pc = .ok (.ladd, 1)) (hn : pc + 1 = n) (k : XW l K Tg Px n L (.long (x + y) :: st) μ kc o) : XW l K Tg Px pc L (.long y :: .long x :: st) μ kc o := by
  subst hn
  intro p e R s m args below meth c E D C ad A Y H locs X hk ls hl r hr
  exact lv_ladd E.1.1 E.1.2.1 hd (k p e R s m args below meth c E D C ad A Y H locs X hk ls hl r hr)
theorem xw_lmul {x y : Int64} (hd : decode K.1.2.1 pc = .ok (.lmul, 1)) (hn : pc + 1 = n) (k : XW l K Tg Px n L (.long (x * y) :: st) μ kc o) : XW l K Tg Px pc L (.long y :: .long x :: st) μ kc o := by
  subst hn
  intro p e R s m args below meth c E D C ad A Y H locs X hk ls hl r hr
  exact lv_lmul E.1.1 E.1.2.1 hd (k p e R s m args below meth c E D C ad A Y H locs X hk ls hl r hr)
theorem xw_lor {x y : Int64} (hd : decode K.1.2.1 pc = .ok (.lor, 1)) (hn : pc + 1 = n) (k : XW l K Tg Px n L (.long (x ||| y) :: st) μ kc o) : XW l K Tg Px pc L (.long y :: .long x :: st) μ kc o := by
  subst hn
  intro p e R s m args below meth c E D C ad A Y H locs X hk ls hl r hr
  exact lv_lor E.1.1 E.1.2.1 hd (k p e R s m args below meth c E D C ad A Y H locs X hk ls hl r hr)
theorem xw_lshl {x : Int64} {y : Int32} (hd : decode K.1.2.1 pc = .ok (.lshl, 1)) (hn : pc + 1 = n) (k : XW l K Tg Px n L (.long (x <<< (y.toInt64 &&& 63)) :: st) μ kc o) : XW l K Tg Px pc L (.int y :: .long x :: st) μ kc o := by
  subst hn
  intro p e R s m args below meth c E D C ad A Y H locs X hk ls hl r hr
  exact lv_lshl E.1.1 E.1.2.1 hd rfl (k p e R s m args below meth c E D C ad A Y H locs X hk ls hl r hr)
theorem xw_lshr {x : Int64} {y : Int32} (hd : decode K.1.2.1 pc = .ok (.lshr, 1)) (hn : pc + 1 = n) (k : XW l K Tg Px n L (.long (x >>> (y.toInt64 &&& 63)) :: st) μ kc o) : XW l K Tg Px pc L (.int y :: .long x :: st) μ kc o := by
  subst hn
  intro p e R s m args below meth c E D C ad A Y H locs X hk ls hl r hr
  exact lv_lshr E.1.1 E.1.2.1 hd rfl (k p e R s m args below meth c E D C ad A Y H locs X hk ls hl r hr)
theorem xw_lcmp {x y : Int64} (hd : decode K.1.2.1 pc = .ok (.lcmp, 1)) (hn : pc + 1 = n) (k : XW l K Tg Px n L (.int (lg_cmp x y) :: st) μ kc o) : XW l K Tg Px pc L (.long y :: .long x :: st) μ kc o := by
  subst hn
  intro p e R s m args below meth c E D C ad A Y H locs X hk ls hl r hr
  exact W.lcmp E.1.1 E.1.2.1 hd (k p e R s m args below meth c E D C ad A Y H locs X hk ls hl r hr)
theorem xw_idiv {x y : Int32} (hd : decode K.1.2.1 pc = .ok (.idiv, 1)) (hn : pc + 1 = n) (k : XW l K Tg Px n L (.int (x / y) :: st) μ kc o) : XW l K Tg Px pc L (.int y :: .int x :: st) μ kc (aw_g (aw_nz y) o) := by
  subst hn
  intro p e R s m args below meth c E D C ad A Y H locs X hk ls hl r hr
  obtain ⟨h1, hr⟩ := aw_g_some hr
  exact lv_idiv E.1.1 E.1.2.1 hd (aw_nz_ne h1) (k p e R s m args below meth c E D C ad A Y H locs X hk ls hl r hr)
theorem xw_idivK {x y : Int32} (hd : decode K.1.2.1 pc = .ok (.idiv, 1)) (hn : pc + 1 = n) (hy : aw_nz y = true) (k : XW l K Tg Px n L (.int (x / y) :: st) μ kc o) : XW l K Tg Px pc L (.int y :: .int x :: st) μ kc o := by
  subst hn
  intro p e R s m args below meth c E D C ad A Y H locs X hk ls hl r hr
  exact lv_idiv E.1.1 E.1.2.1 hd (aw_nz_ne hy) (k p e R s m args below meth c E D C ad A Y H locs X hk ls hl r hr)
theorem xw_irem {x y : Int32} (hd : decode K.1.2.1 pc = .ok (.irem, 1)) (hn : pc + 1 = n) (k : XW l K Tg Px n L (.int (x - x / y * y) :: st) μ kc o) : XW l K Tg Px pc L (.int y :: .int x :: st) μ kc (aw_g (aw_nz y) o) := by
  subst hn
  intro p e R s m args below meth c E D C ad A Y H locs X hk ls hl r hr
  obtain ⟨h1, hr⟩ := aw_g_some hr
  exact lv_irem E.1.1 E.1.2.1 hd (aw_nz_ne h1) (k p e R s m args below meth c E D C ad A Y H locs X hk ls hl r hr)
theorem xw_iremK {x y : Int32} (hd : decode K.1.2.1 pc = .ok (.irem, 1)) (hn : pc + 1 = n) (hy : aw_nz y = true) (k : XW l K Tg Px n L (.int (x - x / y * y) :: st) μ kc o) : XW l K Tg Px pc L (.int y :: .int x :: st) μ kc o := by
  subst hn
  intro p e R s m args below meth c E D C ad A Y H locs X hk ls hl r hr
  exact lv_irem E.1.1 E.1.2.1 hd (aw_nz_ne hy) (k p e R s m args below meth c E D C ad A Y H locs X hk ls hl r hr)
theorem xw_iconst (v : Int32) {z : Int} (hd : decode K.1.2.1 pc = .ok (.iconst z, 1)) (hn : pc + 1 = n) (hv : Int32.ofInt z = v) (k : XW l K Tg Px n L (.int v :: st) μ kc o) : XW l K Tg Px pc L st μ kc o := by
  subst hn
  intro p e R s m args below meth c E D C ad A Y H locs X hk ls hl r hr
  exact lv_iconst E.1.1 E.1.2.1 hd hv (k p e R s m args below meth c E D C ad A Y H locs X hk ls hl r hr)
theorem xw_bipush (v : Int32) {z : Int} (hd : decode K.1.2.1 pc = .ok (.bipush z, 2)) (hn : pc + 2 = n) (hv : (Int8.ofInt z).toInt32 = v) (k : XW l K Tg Px n L (.int v :: st) μ kc o) : XW l K Tg Px pc L st μ kc o := by
  subst hn
  intro p e R s m args below meth c E D C ad A Y H locs X hk ls hl r hr
  exact lv_bipush E.1.1 E.1.2.1 hd hv (k p e R s m args below meth c E D C ad A Y H locs X hk ls hl r hr)
theorem xw_sipush (v : Int32) {z : Int} (hd : decode K.1.2.1 pc = .ok (.sipush z, 3)) (hn : pc + 3 = n) (hv : (Int16.ofInt z).toInt32 = v) (k : XW l K Tg Px n L (.int v :: st) μ kc o) : XW l K Tg Px pc L st μ kc o := by
  subst hn
  intro p e R s m args below meth c E D C ad A Y H locs X hk ls hl r hr
  exact lv_sipush E.1.1 E.1.2.1 hd hv (k p e R s m args below meth c E D C ad A Y H locs X hk ls hl r hr)
theorem xw_lconst (v : Int64) {z : Fin 2} (hd : decode K.1.2.1 pc = .ok (.lconst z, 1)) (hn : pc + 1 = n) (hv : Int64.ofNat (z : Nat) = v) (k : XW l K Tg Px n L (.long v :: st) μ kc o) : XW l K Tg Px pc L st μ kc o := by
  subst hn
  intro p e R s m args below meth c E D C ad A Y H locs X hk ls hl r hr
  exact lv_lconst E.1.1 E.1.2.1 hd hv (k p e R s m args below meth c E D C ad A Y H locs X hk ls hl r hr)
theorem xw_ldc {v : Int32} {i : Nat} (hd : decode K.1.2.1 pc = .ok (.ldc i, 2)) (hn : pc + 2 = n) (hw : Cond.constant K.1.1 i v ∈ aw_TB) (k : XW l K Tg Px n L (.int v :: st) μ kc o) : XW l K Tg Px pc L st μ kc o := by
  subst hn
  intro p e R s m args below meth c E D C ad A Y H locs X hk ls hl r hr
  exact lv_ldc E.1.1 E.1.2.1 E.1.2.2.2.1 (E.1.2.2.2.2.1 _ hw) hd (k p e R s m args below meth c E D C ad A Y H locs X hk ls hl r hr)
theorem xw_ldcw {v : Int32} {i : Nat} (hd : decode K.1.2.1 pc = .ok (.ldc_w i, 3)) (hn : pc + 3 = n) (hw : Cond.constant K.1.1 i v ∈ aw_TB) (k : XW l K Tg Px n L (.int v :: st) μ kc o) : XW l K Tg Px pc L st μ kc o := by
  subst hn
  intro p e R s m args below meth c E D C ad A Y H locs X hk ls hl r hr
  exact lv_ldcw E.1.1 E.1.2.1 E.1.2.2.2.1 (E.1.2.2.2.2.1 _ hw) hd (k p e R s m args below meth c E D C ad A Y H locs X hk ls hl r hr)
theorem xw_ldc2 {v : Int64} {i : Nat} (hd : decode K.1.2.1 pc = .ok (.ldc2_w i, 3)) (hn : pc + 3 = n) (hw : Cond.constantLong K.1.1 i v ∈ aw_TB) (k : XW l K Tg Px n L (.long v :: st) μ kc o) : XW l K Tg Px pc L st μ kc o := by
  subst hn
  intro p e R s m args below meth c E D C ad A Y H locs X hk ls hl r hr
  exact lv_ldc2 E.1.1 E.1.2.1 E.1.2.2.2.1 (E.1.2.2.2.2.1 _ hw) hd (k p e R s m args below meth c E D C ad A Y H locs X hk ls hl r hr)
theorem xw_pop {v : Value} (hd : decode K.1.2.1 pc = .ok (.pop, 1)) (hn : pc + 1 = n) (hc : ∀ ad, (aw_c ad v).category = 1) (k : XW l K Tg Px n L st μ kc o) : XW l K Tg Px pc L (v :: st) μ kc o := by
  subst hn
  intro p e R s m args below meth c E D C ad A Y H locs X hk ls hl r hr
  exact lv_pop E.1.1 E.1.2.1 hd (hc ad) (k p e R s m args below meth c E D C ad A Y H locs X hk ls hl r hr)
theorem xw_dup {v : Value} (hd : decode K.1.2.1 pc = .ok (.dup, 1)) (hn : pc + 1 = n) (hc : ∀ ad, (aw_c ad v).category = 1) (k : XW l K Tg Px n L (v :: v :: st) μ kc o) : XW l K Tg Px pc L (v :: st) μ kc o := by
  subst hn
  intro p e R s m args below meth c E D C ad A Y H locs X hk ls hl r hr
  exact lv_dup E.1.1 E.1.2.1 hd (hc ad) (k p e R s m args below meth c E D C ad A Y H locs X hk ls hl r hr)
theorem xw_dup2 {v w : Value} (hd : decode K.1.2.1 pc = .ok (.dup2, 1)) (hn : pc + 1 = n) (hc : ∀ ad, (aw_c ad v).category = 1) (hw : ∀ ad, (aw_c ad w).category = 1) (k : XW l K Tg Px n L (v :: w :: v :: w :: st) μ kc o) : XW l K Tg Px pc L (v :: w :: st) μ kc o := by
  subst hn
  intro p e R s m args below meth c E D C ad A Y H locs X hk ls hl r hr
  exact lv_dup2_11 E.1.1 E.1.2.1 hd (hc ad) (hw ad) (k p e R s m args below meth c E D C ad A Y H locs X hk ls hl r hr)
theorem xw_iload_n {x : Int32} {z : Fin 4} (hd : decode K.1.2.1 pc = .ok (.iload_n z, 1)) (hn : pc + 1 = n) (hx : L[(z : Nat)]? = some (some (.int x))) (k : XW l K Tg Px n L (.int x :: st) μ kc o) : XW l K Tg Px pc L st μ kc o := by
  subst hn
  intro p e R s m args below meth c E D C ad A Y H locs X hk ls hl r hr
  exact lv_iload_n E.1.1 E.1.2.1 hd rfl (aw_lv_at hl hx) (k p e R s m args below meth c E D C ad A Y H locs X hk ls hl r hr)
theorem xw_iload {x : Int32} {z : Nat} (hd : decode K.1.2.1 pc = .ok (.iload z, 2)) (hn : pc + 2 = n) (hx : L[z]? = some (some (.int x))) (k : XW l K Tg Px n L (.int x :: st) μ kc o) : XW l K Tg Px pc L st μ kc o := by
  subst hn
  intro p e R s m args below meth c E D C ad A Y H locs X hk ls hl r hr
  exact lv_iload E.1.1 E.1.2.1 hd (aw_lv_at hl hx) (k p e R s m args below meth c E D C ad A Y H locs X hk ls hl r hr)
theorem xw_istore_n {x : Int32} {z : Fin 4} (L' : List (Option Value)) (hd : decode K.1.2.1 pc = .ok (.istore_n z, 1)) (hn : pc + 1 = n) (hL : L.set (z : Nat) (some (.int x)) = L') (hi : (z : Nat) < L.length) (hm : (z : Nat) < K.1.2.2.1) (h2 : aw_n2 L (z : Nat) = true) (k : XW l K Tg Px n L' st μ kc o) : XW l K Tg Px pc L (.int x :: st) μ kc o := by
  subst hn
  subst hL
  intro p e R s m args below meth c E D C ad A Y H locs X hk ls hl r hr
  exact lv_istore_n E.1.1 E.1.2.1 hd rfl hl hm rfl (fun ls2 hl2 => (k p e R s m args below meth c E D C ad A Y H locs X hk ls2 (aw_lv_set1 (w := .int x) hi (fun j v q1 q2 => aw_n2_ok h2 j v q1 q2 ad) hl2) r hr))
theorem xw_istore {x : Int32} {z : Nat} (L' : List (Option Value)) (hd : decode K.1.2.1 pc = .ok (.istore z, 2)) (hn : pc + 2 = n) (hL : L.set z (some (.int x)) = L') (hi : z < L.length) (hm : z < K.1.2.2.1) (h2 : aw_n2 L z = true) (k : XW l K Tg Px n L' st μ kc o) : XW l K Tg Px pc L (.int x :: st) μ kc o := by
  subst hn
  subst hL
  intro p e R s m args below meth c E D C ad A Y H locs X hk ls hl r hr
  exact lv_istore E.1.1 E.1.2.1 hd hl hm rfl (fun ls2 hl2 => (k p e R s m args below meth c E D C ad A Y H locs X hk ls2 (aw_lv_set1 (w := .int x) hi (fun j v q1 q2 => aw_n2_ok h2 j v q1 q2 ad) hl2) r hr))
theorem xw_aload_n {x : Nat} {z : Fin 4} (hd : decode K.1.2.1 pc = .ok (.aload_n z, 1)) (hn : pc + 1 = n) (hx : L[(z : Nat)]? = some (some (.ref x))) (k : XW l K Tg Px n L (.ref x :: st) μ kc o) : XW l K Tg Px pc L st μ kc o := by
  subst hn
  intro p e R s m args below meth c E D C ad A Y H locs X hk ls hl r hr
  exact lv_aload_n E.1.1 E.1.2.1 hd rfl (aw_lv_at hl hx) (k p e R s m args below meth c E D C ad A Y H locs X hk ls hl r hr)
theorem xw_aload {x : Nat} {z : Nat} (hd : decode K.1.2.1 pc = .ok (.aload z, 2)) (hn : pc + 2 = n) (hx : L[z]? = some (some (.ref x))) (k : XW l K Tg Px n L (.ref x :: st) μ kc o) : XW l K Tg Px pc L st μ kc o := by
  subst hn
  intro p e R s m args below meth c E D C ad A Y H locs X hk ls hl r hr
  exact lv_aload E.1.1 E.1.2.1 hd (aw_lv_at hl hx) (k p e R s m args below meth c E D C ad A Y H locs X hk ls hl r hr)
theorem xw_astore_n {x : Nat} {z : Fin 4} (L' : List (Option Value)) (hd : decode K.1.2.1 pc = .ok (.astore_n z, 1)) (hn : pc + 1 = n) (hL : L.set (z : Nat) (some (.ref x)) = L') (hi : (z : Nat) < L.length) (hm : (z : Nat) < K.1.2.2.1) (h2 : aw_n2 L (z : Nat) = true) (k : XW l K Tg Px n L' st μ kc o) : XW l K Tg Px pc L (.ref x :: st) μ kc o := by
  subst hn
  subst hL
  intro p e R s m args below meth c E D C ad A Y H locs X hk ls hl r hr
  exact lv_astore_n E.1.1 E.1.2.1 hd rfl hl hm rfl (fun ls2 hl2 => (k p e R s m args below meth c E D C ad A Y H locs X hk ls2 (aw_lv_set1 (w := .ref x) hi (fun j v q1 q2 => aw_n2_ok h2 j v q1 q2 ad) hl2) r hr))
theorem xw_astore {x : Nat} {z : Nat} (L' : List (Option Value)) (hd : decode K.1.2.1 pc = .ok (.astore z, 2)) (hn : pc + 2 = n) (hL : L.set z (some (.ref x)) = L') (hi : z < L.length) (hm : z < K.1.2.2.1) (h2 : aw_n2 L z = true) (k : XW l K Tg Px n L' st μ kc o) : XW l K Tg Px pc L (.ref x :: st) μ kc o := by
  subst hn
  subst hL
  intro p e R s m args below meth c E D C ad A Y H locs X hk ls hl r hr
  exact lv_astore E.1.1 E.1.2.1 hd hl hm rfl (fun ls2 hl2 => (k p e R s m args below meth c E D C ad A Y H locs X hk ls2 (aw_lv_set1 (w := .ref x) hi (fun j v q1 q2 => aw_n2_ok h2 j v q1 q2 ad) hl2) r hr))
theorem xw_lload_n {x : Int64} {z : Fin 4} (hd : decode K.1.2.1 pc = .ok (.lload_n z, 1)) (hn : pc + 1 = n) (hx : L[(z : Nat)]? = some (some (.long x))) (k : XW l K Tg Px n L (.long x :: st) μ kc o) : XW l K Tg Px pc L st μ kc o := by
  subst hn
  intro p e R s m args below meth c E D C ad A Y H locs X hk ls hl r hr
  exact lv_lload_n E.1.1 E.1.2.1 hd rfl (aw_lv_at hl hx) (k p e R s m args below meth c E D C ad A Y H locs X hk ls hl r hr)
theorem xw_iinc {x : Int32} {z : Nat} {d : Int} (v : Int32) (L' : List (Option Value)) (hd : decode K.1.2.1 pc = .ok (.iinc z d, 3)) (hn : pc + 3 = n) (hx : L[z]? = some (some (.int x))) (hv : x + Int32.ofInt d = v) (hL : L.set z (some (.int v)) = L') (hm : z < K.1.2.2.1) (h2 : aw_n2 L z = true) (k : XW l K Tg Px n L' st μ kc o) : XW l K Tg Px pc L st μ kc o := by
  subst hn
  subst hL
  intro p e R s m args below meth c E D C ad A Y H locs X hk ls hl r hr
  obtain ⟨kk, hkk⟩ := List.getElem?_of_mem (aw_lv_mem (ad := ad) (n := 0).mpr ⟨z, .int x, hx, by simp [aw_c]; rfl⟩)
  exact lv_iinc (v := v) E.1.1 E.1.2.1 hd hl (k := kk) hkk hv hm rfl (fun ls2 hl2 => k p e R s m args below meth c E D C ad A Y H locs X hk ls2 (aw_lv_set1 (w := .int v) (List.getElem?_eq_some_iff.mp hx).1 (fun j v q1 q2 => aw_n2_ok h2 j v q1 q2 ad) hl2) r hr)
theorem xw_icmp_eq {x y : Int32} {d : Int} (tgt : Nat) {o1 o2 : Option ρ} (hd : decode K.1.2.1 pc = .ok (.if_icmp .eq d, 3)) (ht : (pc : Int) + d = (tgt : Int)) (hn : pc + 3 = n) (k1 : XW l K Tg Px tgt L st μ kc o1) (k2 : XW l K Tg Px n L st μ kc o2) : XW l K Tg Px pc L (.int y :: .int x :: st) μ kc (if x = y then o1 else o2) := by
  subst hn
  intro p e R s m args below meth c E D C ad A Y H locs X hk ls hl r hr
  exact lv_icmp_eq E.1.1 E.1.2.1 hd ht (fun h => k1 p e R s m args below meth c E D C ad A Y H locs X hk ls hl r (by rw [if_pos h] at hr; exact hr)) (fun h => k2 p e R s m args below meth c E D C ad A Y H locs X hk ls hl r (by rw [if_neg h] at hr; exact hr))
theorem xw_icmp_ne {x y : Int32} {d : Int} (tgt : Nat) {o1 o2 : Option ρ} (hd : decode K.1.2.1 pc = .ok (.if_icmp .ne d, 3)) (ht : (pc : Int) + d = (tgt : Int)) (hn : pc + 3 = n) (k1 : XW l K Tg Px tgt L st μ kc o1) (k2 : XW l K Tg Px n L st μ kc o2) : XW l K Tg Px pc L (.int y :: .int x :: st) μ kc (if x = y then o2 else o1) := by
  subst hn
  intro p e R s m args below meth c E D C ad A Y H locs X hk ls hl r hr
  exact lv_icmp_ne E.1.1 E.1.2.1 hd ht (fun h => k1 p e R s m args below meth c E D C ad A Y H locs X hk ls hl r (by rw [if_neg h] at hr; exact hr)) (fun h => k2 p e R s m args below meth c E D C ad A Y H locs X hk ls hl r (by rw [if_pos h] at hr; exact hr))
theorem xw_icmp_lt {x y : Int32} {d : Int} (tgt : Nat) {o1 o2 : Option ρ} (hd : decode K.1.2.1 pc = .ok (.if_icmp .lt d, 3)) (ht : (pc : Int) + d = (tgt : Int)) (hn : pc + 3 = n) (k1 : XW l K Tg Px tgt L st μ kc o1) (k2 : XW l K Tg Px n L st μ kc o2) : XW l K Tg Px pc L (.int y :: .int x :: st) μ kc (if x < y then o1 else o2) := by
  subst hn
  intro p e R s m args below meth c E D C ad A Y H locs X hk ls hl r hr
  exact lv_icmp_lt E.1.1 E.1.2.1 hd ht (fun h => k1 p e R s m args below meth c E D C ad A Y H locs X hk ls hl r (by rw [if_pos h] at hr; exact hr)) (fun h => k2 p e R s m args below meth c E D C ad A Y H locs X hk ls hl r (by rw [if_neg h] at hr; exact hr))
theorem xw_icmp_ge {x y : Int32} {d : Int} (tgt : Nat) {o1 o2 : Option ρ} (hd : decode K.1.2.1 pc = .ok (.if_icmp .ge d, 3)) (ht : (pc : Int) + d = (tgt : Int)) (hn : pc + 3 = n) (k1 : XW l K Tg Px tgt L st μ kc o1) (k2 : XW l K Tg Px n L st μ kc o2) : XW l K Tg Px pc L (.int y :: .int x :: st) μ kc (if y ≤ x then o1 else o2) := by
  subst hn
  intro p e R s m args below meth c E D C ad A Y H locs X hk ls hl r hr
  exact lv_icmp_ge E.1.1 E.1.2.1 hd ht (fun h => k1 p e R s m args below meth c E D C ad A Y H locs X hk ls hl r (by rw [if_pos h] at hr; exact hr)) (fun h => k2 p e R s m args below meth c E D C ad A Y H locs X hk ls hl r (by rw [if_neg h] at hr; exact hr))
theorem xw_icmp_gt {x y : Int32} {d : Int} (tgt : Nat) {o1 o2 : Option ρ} (hd : decode K.1.2.1 pc = .ok (.if_icmp .gt d, 3)) (ht : (pc : Int) + d = (tgt : Int)) (hn : pc + 3 = n) (k1 : XW l K Tg Px tgt L st μ kc o1) (k2 : XW l K Tg Px n L st μ kc o2) : XW l K Tg Px pc L (.int y :: .int x :: st) μ kc (if y < x then o1 else o2) := by
  subst hn
  intro p e R s m args below meth c E D C ad A Y H locs X hk ls hl r hr
  exact lv_icmp_gt E.1.1 E.1.2.1 hd ht (fun h => k1 p e R s m args below meth c E D C ad A Y H locs X hk ls hl r (by rw [if_pos h] at hr; exact hr)) (fun h => k2 p e R s m args below meth c E D C ad A Y H locs X hk ls hl r (by rw [if_neg h] at hr; exact hr))
theorem xw_icmp_le {x y : Int32} {d : Int} (tgt : Nat) {o1 o2 : Option ρ} (hd : decode K.1.2.1 pc = .ok (.if_icmp .le d, 3)) (ht : (pc : Int) + d = (tgt : Int)) (hn : pc + 3 = n) (k1 : XW l K Tg Px tgt L st μ kc o1) (k2 : XW l K Tg Px n L st μ kc o2) : XW l K Tg Px pc L (.int y :: .int x :: st) μ kc (if x ≤ y then o1 else o2) := by
  subst hn
  intro p e R s m args below meth c E D C ad A Y H locs X hk ls hl r hr
  exact lv_icmp_le E.1.1 E.1.2.1 hd ht (fun h => k1 p e R s m args below meth c E D C ad A Y H locs X hk ls hl r (by rw [if_pos h] at hr; exact hr)) (fun h => k2 p e R s m args below meth c E D C ad A Y H locs X hk ls hl r (by rw [if_neg h] at hr; exact hr))
theorem xw_if_eq {x : Int32} {d : Int} (tgt : Nat) {o1 o2 : Option ρ} (hd : decode K.1.2.1 pc = .ok (.ifCond .eq d, 3)) (ht : (pc : Int) + d = (tgt : Int)) (hn : pc + 3 = n) (k1 : XW l K Tg Px tgt L st μ kc o1) (k2 : XW l K Tg Px n L st μ kc o2) : XW l K Tg Px pc L (.int x :: st) μ kc (if x = 0 then o1 else o2) := by
  subst hn
  intro p e R s m args below meth c E D C ad A Y H locs X hk ls hl r hr
  exact lv_if_eq E.1.1 E.1.2.1 hd ht (fun h => k1 p e R s m args below meth c E D C ad A Y H locs X hk ls hl r (by rw [if_pos h] at hr; exact hr)) (fun h => k2 p e R s m args below meth c E D C ad A Y H locs X hk ls hl r (by rw [if_neg h] at hr; exact hr))
theorem xw_if_ne {x : Int32} {d : Int} (tgt : Nat) {o1 o2 : Option ρ} (hd : decode K.1.2.1 pc = .ok (.ifCond .ne d, 3)) (ht : (pc : Int) + d = (tgt : Int)) (hn : pc + 3 = n) (k1 : XW l K Tg Px tgt L st μ kc o1) (k2 : XW l K Tg Px n L st μ kc o2) : XW l K Tg Px pc L (.int x :: st) μ kc (if x = 0 then o2 else o1) := by
  subst hn
  intro p e R s m args below meth c E D C ad A Y H locs X hk ls hl r hr
  exact lv_if_ne E.1.1 E.1.2.1 hd ht (fun h => k1 p e R s m args below meth c E D C ad A Y H locs X hk ls hl r (by rw [if_neg h] at hr; exact hr)) (fun h => k2 p e R s m args below meth c E D C ad A Y H locs X hk ls hl r (by rw [if_pos h] at hr; exact hr))
theorem xw_if_lt {x : Int32} {d : Int} (tgt : Nat) {o1 o2 : Option ρ} (hd : decode K.1.2.1 pc = .ok (.ifCond .lt d, 3)) (ht : (pc : Int) + d = (tgt : Int)) (hn : pc + 3 = n) (k1 : XW l K Tg Px tgt L st μ kc o1) (k2 : XW l K Tg Px n L st μ kc o2) : XW l K Tg Px pc L (.int x :: st) μ kc (if x < 0 then o1 else o2) := by
  subst hn
  intro p e R s m args below meth c E D C ad A Y H locs X hk ls hl r hr
  exact lv_if_lt E.1.1 E.1.2.1 hd ht (fun h => k1 p e R s m args below meth c E D C ad A Y H locs X hk ls hl r (by rw [if_pos h] at hr; exact hr)) (fun h => k2 p e R s m args below meth c E D C ad A Y H locs X hk ls hl r (by rw [if_neg h] at hr; exact hr))
theorem xw_if_ge {x : Int32} {d : Int} (tgt : Nat) {o1 o2 : Option ρ} (hd : decode K.1.2.1 pc = .ok (.ifCond .ge d, 3)) (ht : (pc : Int) + d = (tgt : Int)) (hn : pc + 3 = n) (k1 : XW l K Tg Px tgt L st μ kc o1) (k2 : XW l K Tg Px n L st μ kc o2) : XW l K Tg Px pc L (.int x :: st) μ kc (if 0 ≤ x then o1 else o2) := by
  subst hn
  intro p e R s m args below meth c E D C ad A Y H locs X hk ls hl r hr
  exact lv_if_ge E.1.1 E.1.2.1 hd ht (fun h => k1 p e R s m args below meth c E D C ad A Y H locs X hk ls hl r (by rw [if_pos h] at hr; exact hr)) (fun h => k2 p e R s m args below meth c E D C ad A Y H locs X hk ls hl r (by rw [if_neg h] at hr; exact hr))
theorem xw_if_gt {x : Int32} {d : Int} (tgt : Nat) {o1 o2 : Option ρ} (hd : decode K.1.2.1 pc = .ok (.ifCond .gt d, 3)) (ht : (pc : Int) + d = (tgt : Int)) (hn : pc + 3 = n) (k1 : XW l K Tg Px tgt L st μ kc o1) (k2 : XW l K Tg Px n L st μ kc o2) : XW l K Tg Px pc L (.int x :: st) μ kc (if 0 < x then o1 else o2) := by
  subst hn
  intro p e R s m args below meth c E D C ad A Y H locs X hk ls hl r hr
  exact lv_if_gt E.1.1 E.1.2.1 hd ht (fun h => k1 p e R s m args below meth c E D C ad A Y H locs X hk ls hl r (by rw [if_pos h] at hr; exact hr)) (fun h => k2 p e R s m args below meth c E D C ad A Y H locs X hk ls hl r (by rw [if_neg h] at hr; exact hr))
theorem xw_if_le {x : Int32} {d : Int} (tgt : Nat) {o1 o2 : Option ρ} (hd : decode K.1.2.1 pc = .ok (.ifCond .le d, 3)) (ht : (pc : Int) + d = (tgt : Int)) (hn : pc + 3 = n) (k1 : XW l K Tg Px tgt L st μ kc o1) (k2 : XW l K Tg Px n L st μ kc o2) : XW l K Tg Px pc L (.int x :: st) μ kc (if x ≤ 0 then o1 else o2) := by
  subst hn
  intro p e R s m args below meth c E D C ad A Y H locs X hk ls hl r hr
  exact lv_if_le E.1.1 E.1.2.1 hd ht (fun h => k1 p e R s m args below meth c E D C ad A Y H locs X hk ls hl r (by rw [if_pos h] at hr; exact hr)) (fun h => k2 p e R s m args below meth c E D C ad A Y H locs X hk ls hl r (by rw [if_neg h] at hr; exact hr))
theorem xw_ifb_eq {x : Bool} {d : Int} (tgt : Nat) {o1 o2 : Option ρ} (hd : decode K.1.2.1 pc = .ok (.ifCond .eq d, 3)) (ht : (pc : Int) + d = (tgt : Int)) (hn : pc + 3 = n) (k1 : XW l K Tg Px tgt L st μ kc o1) (k2 : XW l K Tg Px n L st μ kc o2) : XW l K Tg Px pc L (.int (aw_b x) :: st) μ kc (if x = true then o2 else o1) := by
  have h := xw_if_eq (x := aw_b x) tgt hd ht hn k1 k2
  cases x
  · exact h
  · exact h
theorem xw_ifb_ne {x : Bool} {d : Int} (tgt : Nat) {o1 o2 : Option ρ} (hd : decode K.1.2.1 pc = .ok (.ifCond .ne d, 3)) (ht : (pc : Int) + d = (tgt : Int)) (hn : pc + 3 = n) (k1 : XW l K Tg Px tgt L st μ kc o1) (k2 : XW l K Tg Px n L st μ kc o2) : XW l K Tg Px pc L (.int (aw_b x) :: st) μ kc (if x = true then o1 else o2) := by
  have h := xw_if_ne (x := aw_b x) tgt hd ht hn k1 k2
  cases x
  · exact h
  · exact h
theorem xw_goto {d : Int} (tgt : Nat) (hd : decode K.1.2.1 pc = .ok (.goto d, 3)) (ht : (pc : Int) + d = (tgt : Int)) (k : XW l K Tg Px tgt L st μ kc o) : XW l K Tg Px pc L st μ kc o := by
  intro p e R s m args below meth c E D C ad A Y H locs X hk ls hl r hr
  exact lv_goto E.1.1 E.1.2.1 hd ht (k p e R s m args below meth c E D C ad A Y H locs X hk ls hl r hr)
theorem xw_none : XW l K Tg Px pc L st μ kc (none : Option ρ) := fun _ _ _ _ _ _ _ _ _ _ _ _ _ _ _ _ _ _ _ _ _ _ h => by cases h
theorem xw_nmI {x : Int32} {h : Int32 → Option ρ} (k : ∀ v, XW l K Tg Px pc L (.int v :: st) μ kc (h v)) : XW l K Tg Px pc L (.int x :: st) μ kc (aw_let x h) := k x
theorem xw_nmL {x : Int64} {h : Int64 → Option ρ} (k : ∀ v, XW l K Tg Px pc L (.long v :: st) μ kc (h v)) : XW l K Tg Px pc L (.long x :: st) μ kc (aw_let x h) := k x
theorem xw_weak {L' : List (Option Value)} (k : XW l K Tg Px pc L' st μ kc o) (h : aw_sub L' L) : XW l K Tg Px pc L st μ kc o := by
  intro p e R s m args below meth c E D C ad A Y H locs X hk ls hl r hr
  refine k p e R s m args below meth c E D C ad A Y H locs X hk ls (lv_has_of hl (fun q hq => ?_)) r hr
  obtain ⟨j, v, h1, h2⟩ := aw_lv_mem.mp hq
  exact aw_lv_mem.mpr ⟨j, v, aw_sub_at h j v h1, h2⟩
theorem xw_loop_ok {σ : Type} {f : (σ → Option ρ) → σ → Option ρ} {Ls : σ → List (Option Value)} {ms : σ → aw_M} (h : ∀ k : σ → Option ρ, (∀ s, XW l K Tg Px pc (Ls s) [] (ms s) kc (k s)) → ∀ s, XW l K Tg Px pc (Ls s) [] (ms s) kc (f k s)) : ∀ (F : Nat) (s : σ), XW l K Tg Px pc (Ls s) [] (ms s) kc (aw_loop f F s)
  | 0, _ => xw_none
  | F + 1, s => h _ (xw_loop_ok h F) s
theorem xw_get (q : vw_C) (ci k t : Nat) {a idx : Nat} (v : Value) (hd : decode K.1.2.1 pc = .ok (.getfield idx, 3)) (hn : pc + 3 = n) (ha : (aw_sh a).1 = ci + 5) (hc : ci < 12) (F : aw_fd q ci k K.1.1 idx t) (hv : ∀ ad, aw_c ad v = aw_val ad μ a k t) (k : XW l K Tg Px n L (v :: st) μ kc o) : XW l K Tg Px pc L (.ref a :: st) μ kc o := by
  subst hn
  intro p e R s m args below meth c E D C ad A Y H locs X hk ls hl r hr
  obtain ⟨hP, hK, hD, hS, hA⟩ := id X
  have hat : (aw_ws C ad μ)[a]? = some (ad a, .inr (ci, (aw_ty ci).mapIdx (fun k t => aw_val ad μ a k t))) := by rw [aw_ws_at (aw_sh_lt ha (by omega)), aw_cell_O ha]
  obtain ⟨qn, qT, qN⟩ := q
  obtain ⟨f1, f2, f3, f4, f5⟩ := F
  exact va_get (D := D) E.1.1 E.1.2.1 E.1.2.2.2.2.1 f4 E.1.2.2.2.1 hK hP a hat f1 _ f2 (E.1.2.2.2.2.1 _ f3) (fun _ h => h) (aw_fs_at f5) hd (by rw [← hv ad]; exact k p e R s m args below meth c E D C ad A Y H locs X hk ls hl r hr)
theorem xw_getI (q : vw_C) (ci j : Nat) {a idx : Nat} (hd : decode K.1.2.1 pc = .ok (.getfield idx, 3)) (hn : pc + 3 = n) (ha : (aw_sh a).1 = ci + 5) (hc : ci < 12) (F : aw_fd q ci j K.1.1 idx 0) (k : XW l K Tg Px n L (.int (μ.1 a j) :: st) μ kc o) : XW l K Tg Px pc L (.ref a :: st) μ kc o :=
  xw_get q ci j 0 (.int (μ.1 a j)) hd hn ha hc F (fun _ => rfl) k
theorem xw_getL (q : vw_C) (ci j : Nat) {a idx : Nat} (hd : decode K.1.2.1 pc = .ok (.getfield idx, 3)) (hn : pc + 3 = n) (ha : (aw_sh a).1 = ci + 5) (hc : ci < 12) (F : aw_fd q ci j K.1.1 idx 1) (k : XW l K Tg Px n L (.long (μ.2 a j) :: st) μ kc o) : XW l K Tg Px pc L (.ref a :: st) μ kc o :=
  xw_get q ci j 1 (.long (μ.2 a j)) hd hn ha hc F (fun _ => rfl) k
theorem xw_getR (q : vw_C) (ci j : Nat) {a idx : Nat} (hd : decode K.1.2.1 pc = .ok (.getfield idx, 3)) (hn : pc + 3 = n) (ha : (aw_sh a).1 = ci + 5) (hc : ci < 12) (F : aw_fd q ci j K.1.1 idx 2) (k : XW l K Tg Px n L (.ref (aw_rf a j) :: st) μ kc o) : XW l K Tg Px pc L (.ref a :: st) μ kc o :=
  xw_get q ci j 2 (.ref (aw_rf a j)) hd hn ha hc F (fun _ => rfl) k
theorem xw_iaload (len : Nat) {a : Nat} {i : Int32} (hd : decode K.1.2.1 pc = .ok (.iaload, 1)) (hn : pc + 1 = n) (ha : aw_sh a = (0, len)) (k : XW l K Tg Px n L (.int (μ.1 a i.toNatClampNeg) :: st) μ kc o) : XW l K Tg Px pc L (.int i :: .ref a :: st) μ kc (aw_g (aw_in i len) o) := by
  subst hn
  intro p e R s m args below meth c E D C ad A Y H locs X hk ls hl r hr
  obtain ⟨h1, hr⟩ := aw_g_some hr
  have ha1 : (aw_sh a).1 = 0 := by rw [ha]
  have ha2 : (aw_sh a).2 = len := by rw [ha]
  exact va_iald (D := D) E.1.1 E.1.2.1 X.2.1 X.1 a 0 (by rw [aw_ws_at (aw_sh_lt ha1 (by omega)), aw_cell_I ha1]) rfl (by rw [ha2]; exact aw_in_vp h1) hd (k p e R s m args below meth c E D C ad A Y H locs X hk ls hl r hr)
theorem xw_baload (len : Nat) {a : Nat} {i : Int32} (hd : decode K.1.2.1 pc = .ok (.baload, 1)) (hn : pc + 1 = n) (ha : aw_sh a = (1, len)) (k : XW l K Tg Px n L (.int (μ.1 a i.toNatClampNeg) :: st) μ kc o) : XW l K Tg Px pc L (.int i :: .ref a :: st) μ kc (aw_g (aw_in i len) o) := by
  subst hn
  intro p e R s m args below meth c E D C ad A Y H locs X hk ls hl r hr
  obtain ⟨h1, hr⟩ := aw_g_some hr
  have ha1 : (aw_sh a).1 = 1 := by rw [ha]
  have ha2 : (aw_sh a).2 = len := by rw [ha]
  exact va_bald (D := D) E.1.1 E.1.2.1 X.2.1 X.1 a 1 (by rw [aw_ws_at (aw_sh_lt ha1 (by omega)), aw_cell_B ha1]) rfl (by rw [ha2]; exact aw_in_vp h1) hd (k p e R s m args below meth c E D C ad A Y H locs X hk ls hl r hr)
theorem xw_zaload (len : Nat) {a : Nat} {i : Int32} (hd : decode K.1.2.1 pc = .ok (.baload, 1)) (hn : pc + 1 = n) (ha : aw_sh a = (2, len)) (k : XW l K Tg Px n L (.int (μ.1 a i.toNatClampNeg) :: st) μ kc o) : XW l K Tg Px pc L (.int i :: .ref a :: st) μ kc (aw_g (aw_in i len) o) := by
  subst hn
  intro p e R s m args below meth c E D C ad A Y H locs X hk ls hl r hr
  obtain ⟨h1, hr⟩ := aw_g_some hr
  have ha1 : (aw_sh a).1 = 2 := by rw [ha]
  have ha2 : (aw_sh a).2 = len := by rw [ha]
  exact va_zald (D := D) E.1.1 E.1.2.1 X.2.1 X.1 a 2 (by rw [aw_ws_at (aw_sh_lt ha1 (by omega)), aw_cell_Z ha1]) rfl (by rw [ha2]; exact aw_in_vp h1) hd (k p e R s m args below meth c E D C ad A Y H locs X hk ls hl r hr)
theorem xw_laload (len : Nat) {a : Nat} {i : Int32} (hd : decode K.1.2.1 pc = .ok (.laload, 1)) (hn : pc + 1 = n) (ha : aw_sh a = (3, len)) (k : XW l K Tg Px n L (.long (μ.2 a i.toNatClampNeg) :: st) μ kc o) : XW l K Tg Px pc L (.int i :: .ref a :: st) μ kc (aw_g (aw_in i len) o) := by
  subst hn
  intro p e R s m args below meth c E D C ad A Y H locs X hk ls hl r hr
  obtain ⟨h1, hr⟩ := aw_g_some hr
  have ha1 : (aw_sh a).1 = 3 := by rw [ha]
  have ha2 : (aw_sh a).2 = len := by rw [ha]
  exact va_lald (D := D) E.1.1 E.1.2.1 X.2.1 X.1 a 3 (by rw [aw_ws_at (aw_sh_lt ha1 (by omega)), aw_cell_J ha1]) rfl (by rw [ha2]; exact aw_in_vp h1) hd (k p e R s m args below meth c E D C ad A Y H locs X hk ls hl r hr)
theorem xw_aaload (len : Nat) {a : Nat} {i : Int32} (hd : decode K.1.2.1 pc = .ok (.aaload, 1)) (hn : pc + 1 = n) (ha : aw_sh a = (4, len)) (k : XW l K Tg Px n L (.ref (aw_rf a i.toNatClampNeg) :: st) μ kc o) : XW l K Tg Px pc L (.int i :: .ref a :: st) μ kc (aw_g (aw_in i len) o) := by
  subst hn
  intro p e R s m args below meth c E D C ad A Y H locs X hk ls hl r hr
  obtain ⟨h1, hr⟩ := aw_g_some hr
  have ha1 : (aw_sh a).1 = 4 := by rw [ha]
  have ha2 : (aw_sh a).2 = len := by rw [ha]
  exact va_aldq (D := D) (f := fun j => some (ad (aw_rf a j))) E.1.1 E.1.2.1 X.2.1 X.1 a 4 (by rw [aw_ws_at (aw_sh_lt ha1 (by omega)), aw_cell_S ha1]) rfl (by rw [ha2]; exact aw_in_vp h1) hd (k p e R s m args below meth c E D C ad A Y H locs X hk ls hl r hr)
theorem xw_lastore (len : Nat) {a : Nat} {i : Int32} {x : Int64} {h : aw_M → Option ρ} (hd : decode K.1.2.1 pc = .ok (.lastore, 1)) (hn : pc + 1 = n) (ha : aw_sh a = (3, len)) (k : ∀ μ2, XW l K Tg Px n L st μ2 kc (h μ2)) : XW l K Tg Px pc L (.long x :: .int i :: .ref a :: st) μ kc (aw_g (aw_in i len) (aw_let (aw_wL μ a i.toNatClampNeg x) h)) := by
  subst hn
  intro p e R s m args below meth c E D C ad A Y H locs X hk ls hl r hr
  obtain ⟨h1, hr⟩ := aw_g_some hr
  obtain ⟨hP, hK, hD, hS, hA⟩ := id X
  have ha1 : (aw_sh a).1 = 3 := by rw [ha]
  have ha2 : (aw_sh a).2 = len := by rw [ha]
  have hN := aw_sh_lt ha1 (by omega)
  refine va_last (D := D) E.1.1 E.1.2.1 hK hP hD hS a 3 (by rw [aw_ws_at hN, aw_cell_J ha1]) rfl (by rw [ha2]; exact aw_in_vp h1) hd (fun H1 locs1 q1 q2 q3 => ?_)
  rw [aw_ws_set (μ' := aw_wL μ a i.toNatClampNeg x) hN (by rw [aw_cell_J ha1, aw_wL_s]) (fun b hb => aw_cell_congr (⟨rfl, aw_wL_o hb⟩ : (aw_wL μ a i.toNatClampNeg x).1 b = μ.1 b ∧ (aw_wL μ a i.toNatClampNeg x).2 b = μ.2 b).1 (⟨rfl, aw_wL_o hb⟩ : (aw_wL μ a i.toNatClampNeg x).1 b = μ.1 b ∧ (aw_wL μ a i.toNatClampNeg x).2 b = μ.2 b).2)] at q1 q2
  exact k _ p e R s m args below meth c E D C ad A Y H1 locs1 ⟨q1, hK, q2, q3, hA⟩ hk ls hl r hr
theorem xw_alen {a : Nat} (v : Int32) (hd : decode K.1.2.1 pc = .ok (.arraylength, 1)) (hn : pc + 1 = n) (ha : (aw_sh a).1 = 0) (hv : Int32.ofNat (aw_sh a).2 = v) (k : XW l K Tg Px n L (.int v :: st) μ kc o) : XW l K Tg Px pc L (.ref a :: st) μ kc o := by
  subst hn
  intro p e R s m args below meth c E D C ad A Y H locs X hk ls hl r hr
  exact va_alen (D := D) E.1.1 E.1.2.1 X.2.1 X.1 a 0 (by rw [aw_ws_at (aw_sh_lt ha (by omega)), aw_cell_I ha]) rfl hv hd (k p e R s m args below meth c E D C ad A Y H locs X hk ls hl r hr)
theorem xw_cont {cells slots : Nat} {p : Program} {e : Env} {R : Room} {s : State} {m : MethodId} {args : Array Value} {below : List Frame} {meth : Method} {c : Code} {D : va_G} {C : Nat → ClassId} {ad : Nat → Nat} {A : Nat → Prop} {H : Heap} {locs : List Loc} {ls : Array Slot} {st0 rest : List Value} {Q : State → Prop} {w : Option Value × aw_M} {a : Array Value}
    (hr : va_Run p l e R s m args below meth c H locs cells slots 0 0 (F0 m pc ls st0) rest (aw_Q D C ad (aw_A ad H.size) w a) (aw_A ad H.size)) (X : aw_Rl D C ad A s H locs μ)
    (kk : ∀ (H1 : Heap) (locs1 : List Loc), aw_Rl D C ad A s H1 locs1 w.2 → W p l e R s m args below meth c H1 locs1 cells slots Q (F0 m (pc + 3) ls ((w.1.map (aw_c ad)).toList ++ rest))) : W p l e R s m args below meth c H locs cells slots Q (F0 m pc ls st0) := by
  obtain ⟨hP, hK, hD, hS, hA⟩ := X
  have hi := aw_D_inj hD
  have hAA : ∀ q, aw_A ad H.size q → A q := by
    rintro q (⟨a, h1, rfl⟩ | h1)
    · exact hi.2 a h1
    · exact hA q (Nat.le_trans hS.1 h1)
  intro T hT Y
  obtain ⟨v, st₀, t, T', L, h0, X', hL, e1, e2, ⟨⟨hv, hp, hk⟩, hz, hq⟩, st⟩ := hr T hT Y
  rw [h0] at hz hq
  have hv' : v = w.1.map (aw_c ad) := by cases hv; rfl
  subst hv'
  obtain ⟨t2, a1, b1⟩ := kk T'.heap (locs ++ L) ⟨by rw [e1]; exact hp, hK, aw_D_of hi, ⟨Nat.le_trans hS.1 (by rw [e1]; exact hz), fun q h1 h2 => by rw [e1, hq q (Nat.lt_of_lt_of_le h1 hS.1) (fun z => h2 (hAA q z))]; exact hS.2.1 q h1 h2, fun q hq => by
      rcases List.mem_append.mp hq with h | h
      · exact hS.2.2 q h
      · exact hAA _ (hL q h)⟩, hA⟩ T' rfl X'
  exact ⟨t2, st t2 a1, b1⟩
theorem xw_callV (q : vw_C) (ci : Nat) {st0 : List Value} (hd : decode K.1.2.1 pc = .ok (.invokevirtual idx, 3)) (hn : pc + 3 = n) (hs : st0 = as.reverse ++ .ref b :: st) (hM : AM l y cc mL rt dF dL g' (.ref b :: as) μ o') (hb : (aw_sh b).1 = ci + 5) (hc : ci < 12) (hq : vwCl[ci]? = some q) (hq1 : y.cls = q.1) (hw : aw_cv K.1.1 idx y cc mL rt as.length)
    (hR : dF + 1 ≤ K.1.2.2.2.2.1 ∧ 8 + (mL + 11) + dL ≤ K.1.2.2.2.2.2) (hst : ∀ ad, ((st.map (aw_c ad)).map fun v => v.category).sum ≤ 8) (k : ∀ r', XW l K Tg Px n L ((g' r').1.toList ++ st) (g' r').2 kc (h r')) : XW l K Tg Px pc L st0 μ kc (o'.bind h) := by
  subst hn
  subst hs
  intro p e R s m args below meth c E D C ad A Y H locs X hk ls hl r hr
  obtain ⟨r', hr1, hr2⟩ := aw_bind_some hr
  obtain ⟨⟨w1, w2, w3, w4, w5⟩, w6, w7⟩ := hw
  have hts := E.1.2.2.2.2.1
  have hat : (aw_ws C ad μ)[b]? = some (ad b, .inr (ci, (aw_ty ci).mapIdx (fun k t => aw_val ad μ b k t))) := by rw [aw_ws_at (aw_sh_lt hb (by omega)), aw_cell_O hb]
  have run := va_runV (e := e) (below := below) (meth := meth) (locs := locs) (cells := K.2.1 + kc) (slots := K.2.2.1 + 6 * kc) (C := y.cls) (As := as.map (aw_c ad)) (rest := st.map (aw_c ad)) (b := ad b) (g := F0 m pc ls ((as.reverse ++ .ref b :: st).map (aw_c ad))) ⟨E.1.1, E.1.2.1, E.1.2.2.1, E.1.2.2.2.1, hts⟩ (hM D C ad H.size r' hr1)
    ⟨⟨rfl, rfl, Nat.le_trans hR.1 E.1.2.2.2.2.2.2.2.1, Nat.le_trans hR.2 E.1.2.2.2.2.2.2.2.2.1, aw_pay hts w1, List.mem_cons_self, hts _ w1, hts _ w2, w3, aw_par w4, hts _ w5⟩, hts _ w6, hts _ w7⟩
    ⟨aw_blind, by rw [hq1]; exact va_recv X.2.1 X.1 (q := q) hq hat, aw_pre X E.1.2.2.2.2.2.2.2.2.2 (.ref b :: as)⟩ rfl (by rw [List.length_map]) hl.1 (by simp [List.map_append, List.map_reverse, aw_c]) (lv_room (hst ad)) hd ⟨Nat.le_trans (Nat.add_le_add_left hk _) E.2.1, Nat.le_trans (Nat.add_le_add_left (Nat.mul_le_mul_left 6 hk) _) E.2.2⟩
  refine xw_cont run X (fun H1 locs1 X1 => ?_)
  have h2 := k r' p e R s m args below meth c E D C ad A Y H1 locs1 X1 hk ls hl r hr2
  have e1 : ((g' r').1.toList ++ st).map (aw_c ad) = ((g' r').1.map (aw_c ad)).toList ++ st.map (aw_c ad) := by
    rw [List.map_append]
    congr 1
    cases (g' r').1 <;> rfl
  rw [e1] at h2
  exact h2
theorem xw_callS {st0 : List Value} (hd : decode K.1.2.1 pc = .ok (.invokestatic idx, 3)) (hn : pc + 3 = n) (hs : st0 = as.reverse ++ st) (hM : AM l y cc mL rt dF dL g' as μ o') (hw : aw_ct K.1.1 idx y cc mL rt as.length)
    (hR : dF + 1 ≤ K.1.2.2.2.2.1 ∧ 8 + (mL + 11) + dL ≤ K.1.2.2.2.2.2) (hst : ∀ ad, ((st.map (aw_c ad)).map fun v => v.category).sum ≤ 8) (k : ∀ r', XW l K Tg Px n L ((g' r').1.toList ++ st) (g' r').2 kc (h r')) : XW l K Tg Px pc L st0 μ kc (o'.bind h) := by
  subst hn
  subst hs
  intro p e R s m args below meth c E D C ad A Y H locs X hk ls hl r hr
  obtain ⟨r', hr1, hr2⟩ := aw_bind_some hr
  obtain ⟨⟨w1, w2, w3, w4, w5⟩, w6⟩ := hw
  have hts := E.1.2.2.2.2.1
  have run := va_runS (e := e) (below := below) (meth := meth) (locs := locs) (cells := K.2.1 + kc) (slots := K.2.2.1 + 6 * kc) (As := as.map (aw_c ad)) (rest := st.map (aw_c ad)) (g := F0 m pc ls ((as.reverse ++ st).map (aw_c ad))) ⟨E.1.1, E.1.2.1, E.1.2.2.1, E.1.2.2.2.1, hts⟩ (hM D C ad H.size r' hr1)
    ⟨⟨rfl, rfl, Nat.le_trans hR.1 E.1.2.2.2.2.2.2.2.1, Nat.le_trans hR.2 E.1.2.2.2.2.2.2.2.2.1, aw_pay hts w1, List.mem_cons_self, hts _ w1, hts _ w2, w3, aw_par w4, hts _ w5⟩, hts _ w6⟩
    ⟨aw_blind, aw_pre X E.1.2.2.2.2.2.2.2.2.2 as⟩ rfl (by rw [List.length_map]) hl.1 (by simp [List.map_append, List.map_reverse]) (lv_room (hst ad)) hd ⟨Nat.le_trans (Nat.add_le_add_left hk _) E.2.1, Nat.le_trans (Nat.add_le_add_left (Nat.mul_le_mul_left 6 hk) _) E.2.2⟩
  refine xw_cont run X (fun H1 locs1 X1 => ?_)
  have h2 := k r' p e R s m args below meth c E D C ad A Y H1 locs1 X1 hk ls hl r hr2
  have e1 : ((g' r').1.toList ++ st).map (aw_c ad) = ((g' r').1.map (aw_c ad)).toList ++ st.map (aw_c ad) := by
    rw [List.map_append]
    congr 1
    cases (g' r').1 <;> rfl
  rw [e1] at h2
  exact h2
def xw_AL (l : Launch) (K : xw_K) (Tg : xw_Tg ρ) (Px : (Nat → Nat) → (Nat → Prop) → State → Code → Prop) (L : List (Option Value)) (st : List Value) (μ : aw_M) (kc : Nat) : List Nat → List (Option ρ) → Prop
  | [], [] => True
  | t :: ts, o :: os => XW l K Tg Px t L st μ kc o ∧ xw_AL l K Tg Px L st μ kc ts os
  | _, _ => False
theorem xw_AL_at : ∀ {ts : List Nat} {os : List (Option ρ)}, xw_AL l K Tg Px L st μ kc ts os → ts.length = os.length ∧ ∀ (j t : Nat) (o : Option ρ), ts[j]? = some t → os[j]? = some o → XW l K Tg Px t L st μ kc o
  | [], [], _ => ⟨rfl, fun j t o h => by simp at h⟩
  | t :: ts, o :: os, h => by
    obtain ⟨h1, h2⟩ := xw_AL_at h.2
    refine ⟨by simp [h1], fun j t' o' q1 q2 => ?_⟩
    cases j with
    | zero => simp at q1 q2; subst q1; subst q2; exact h.1
    | succ j => exact h2 j t' o' (by simpa using q1) (by simpa using q2)
theorem xw_tsw {x : Int32} {dflt lo hi : Int} {offs : Array Int} {len : Nat} (ts : List Nat) (dt : Nat) {os : List (Option ρ)} {od : Option ρ} (hd : decode K.1.2.1 pc = .ok (.tableswitch dflt lo hi offs, len)) (ho : offs.toList.map (fun d : Int => (pc : Int) + d) = ts.map (fun t : Nat => (t : Int))) (hdt : (pc : Int) + dflt = (dt : Int)) (hhi : hi + 1 = lo + (ts.length : Int)) (ks : xw_AL l K Tg Px L st μ kc ts os) (kd : XW l K Tg Px dt L st μ kc od) : XW l K Tg Px pc L (.int x :: st) μ kc (aw_sel (x.toInt - lo) os od) := by
  intro p e R s m args below meth c E D C ad A Y H locs X hk ls hl r hr
  obtain ⟨hlen, hkA⟩ := xw_AL_at ks
  unfold aw_sel at hr
  by_cases h1 : x.toInt < lo
  · rw [if_pos (by omega)] at hr
    exact lv_tableOut E.1.1 E.1.2.1 hd (Or.inl h1) hdt (kd p e R s m args below meth c E D C ad A Y H locs X hk ls hl r hr)
  · rw [if_neg (by omega)] at hr
    by_cases h2 : hi < x.toInt
    · rw [List.getD_eq_getElem?_getD, List.getElem?_eq_none (by omega)] at hr
      exact lv_tableOut E.1.1 E.1.2.1 hd (Or.inr h2) hdt (kd p e R s m args below meth c E D C ad A Y H locs X hk ls hl r hr)
    · have hj : (x.toInt - lo).toNat < ts.length := by omega
      have hto : ts[(x.toInt - lo).toNat]? = some ts[(x.toInt - lo).toNat] := List.getElem?_eq_getElem hj
      have hoo : os[(x.toInt - lo).toNat]? = some os[(x.toInt - lo).toNat] := List.getElem?_eq_getElem (by omega)
      have e1 := congrArg (fun q : List Int => q[(x.toInt - lo).toNat]?) ho
      simp only [List.getElem?_map, hto, Option.map_some] at e1
      rw [List.getD_eq_getElem?_getD, hoo] at hr
      cases hoff : offs.toList[(x.toInt - lo).toNat]? with
      | none => rw [hoff] at e1; cases e1
      | some d =>
        rw [hoff] at e1
        have e2 : (pc : Int) + d = ((ts[(x.toInt - lo).toNat] : Nat) : Int) := by simpa using e1
        exact lv_tableIn E.1.1 E.1.2.1 hd h1 h2 (by rw [← Array.getElem?_toList]; exact hoff) e2 (hkA _ _ _ hto hoo p e R s m args below meth c E D C ad A Y H locs X hk ls hl r (by simpa using hr))
theorem xw_callVi (q : vw_C) (ci : Nat) {o' : Option (Int32 × aw_M)} {h : Int32 × aw_M → Option ρ} {st0 : List Value} (hd : decode K.1.2.1 pc = .ok (.invokevirtual idx, 3)) (hn : pc + 3 = n) (hs : st0 = as.reverse ++ .ref b :: st) (hM : AM l y cc mL rt dF dL aw_gi (.ref b :: as) μ o') (hb : (aw_sh b).1 = ci + 5) (hc : ci < 12) (hq : vwCl[ci]? = some q) (hq1 : y.cls = q.1) (hw : aw_cv K.1.1 idx y cc mL rt as.length) (hR : dF + 1 ≤ K.1.2.2.2.2.1 ∧ 8 + (mL + 11) + dL ≤ K.1.2.2.2.2.2) (hst : ∀ ad, ((st.map (aw_c ad)).map fun v => v.category).sum ≤ 8) (k : ∀ r, XW l K Tg Px n L (.int r.1 :: st) r.2 kc (h r)) : XW l K Tg Px pc L st0 μ kc (o'.bind h) := xw_callV q ci hd hn hs hM hb hc hq hq1 hw hR hst k
theorem xw_callSi {o' : Option (Int32 × aw_M)} {h : Int32 × aw_M → Option ρ} {st0 : List Value} (hd : decode K.1.2.1 pc = .ok (.invokestatic idx, 3)) (hn : pc + 3 = n) (hs : st0 = as.reverse ++ st) (hM : AM l y cc mL rt dF dL aw_gi as μ o') (hw : aw_ct K.1.1 idx y cc mL rt as.length) (hR : dF + 1 ≤ K.1.2.2.2.2.1 ∧ 8 + (mL + 11) + dL ≤ K.1.2.2.2.2.2) (hst : ∀ ad, ((st.map (aw_c ad)).map fun v => v.category).sum ≤ 8) (k : ∀ r, XW l K Tg Px n L (.int r.1 :: st) r.2 kc (h r)) : XW l K Tg Px pc L st0 μ kc (o'.bind h) := xw_callS hd hn hs hM hw hR hst k
theorem xw_callVz (q : vw_C) (ci : Nat) {o' : Option (Bool × aw_M)} {h : Bool × aw_M → Option ρ} {st0 : List Value} (hd : decode K.1.2.1 pc = .ok (.invokevirtual idx, 3)) (hn : pc + 3 = n) (hs : st0 = as.reverse ++ .ref b :: st) (hM : AM l y cc mL rt dF dL aw_gz (.ref b :: as) μ o') (hb : (aw_sh b).1 = ci + 5) (hc : ci < 12) (hq : vwCl[ci]? = some q) (hq1 : y.cls = q.1) (hw : aw_cv K.1.1 idx y cc mL rt as.length) (hR : dF + 1 ≤ K.1.2.2.2.2.1 ∧ 8 + (mL + 11) + dL ≤ K.1.2.2.2.2.2) (hst : ∀ ad, ((st.map (aw_c ad)).map fun v => v.category).sum ≤ 8) (k : ∀ r, XW l K Tg Px n L (.int (aw_b r.1) :: st) r.2 kc (h r)) : XW l K Tg Px pc L st0 μ kc (o'.bind h) := xw_callV q ci hd hn hs hM hb hc hq hq1 hw hR hst k
theorem xw_callSz {o' : Option (Bool × aw_M)} {h : Bool × aw_M → Option ρ} {st0 : List Value} (hd : decode K.1.2.1 pc = .ok (.invokestatic idx, 3)) (hn : pc + 3 = n) (hs : st0 = as.reverse ++ st) (hM : AM l y cc mL rt dF dL aw_gz as μ o') (hw : aw_ct K.1.1 idx y cc mL rt as.length) (hR : dF + 1 ≤ K.1.2.2.2.2.1 ∧ 8 + (mL + 11) + dL ≤ K.1.2.2.2.2.2) (hst : ∀ ad, ((st.map (aw_c ad)).map fun v => v.category).sum ≤ 8) (k : ∀ r, XW l K Tg Px n L (.int (aw_b r.1) :: st) r.2 kc (h r)) : XW l K Tg Px pc L st0 μ kc (o'.bind h) := xw_callS hd hn hs hM hw hR hst k
theorem xw_callVl (q : vw_C) (ci : Nat) {o' : Option (Int64 × aw_M)} {h : Int64 × aw_M → Option ρ} {st0 : List Value} (hd : decode K.1.2.1 pc = .ok (.invokevirtual idx, 3)) (hn : pc + 3 = n) (hs : st0 = as.reverse ++ .ref b :: st) (hM : AM l y cc mL rt dF dL aw_gl (.ref b :: as) μ o') (hb : (aw_sh b).1 = ci + 5) (hc : ci < 12) (hq : vwCl[ci]? = some q) (hq1 : y.cls = q.1) (hw : aw_cv K.1.1 idx y cc mL rt as.length) (hR : dF + 1 ≤ K.1.2.2.2.2.1 ∧ 8 + (mL + 11) + dL ≤ K.1.2.2.2.2.2) (hst : ∀ ad, ((st.map (aw_c ad)).map fun v => v.category).sum ≤ 8) (k : ∀ r, XW l K Tg Px n L (.long r.1 :: st) r.2 kc (h r)) : XW l K Tg Px pc L st0 μ kc (o'.bind h) := xw_callV q ci hd hn hs hM hb hc hq hq1 hw hR hst k
theorem xw_callSl {o' : Option (Int64 × aw_M)} {h : Int64 × aw_M → Option ρ} {st0 : List Value} (hd : decode K.1.2.1 pc = .ok (.invokestatic idx, 3)) (hn : pc + 3 = n) (hs : st0 = as.reverse ++ st) (hM : AM l y cc mL rt dF dL aw_gl as μ o') (hw : aw_ct K.1.1 idx y cc mL rt as.length) (hR : dF + 1 ≤ K.1.2.2.2.2.1 ∧ 8 + (mL + 11) + dL ≤ K.1.2.2.2.2.2) (hst : ∀ ad, ((st.map (aw_c ad)).map fun v => v.category).sum ≤ 8) (k : ∀ r, XW l K Tg Px n L (.long r.1 :: st) r.2 kc (h r)) : XW l K Tg Px pc L st0 μ kc (o'.bind h) := xw_callS hd hn hs hM hw hR hst k
theorem xw_callVv (q : vw_C) (ci : Nat) {o' : Option (aw_M)} {h : aw_M → Option ρ} {st0 : List Value} (hd : decode K.1.2.1 pc = .ok (.invokevirtual idx, 3)) (hn : pc + 3 = n) (hs : st0 = as.reverse ++ .ref b :: st) (hM : AM l y cc mL rt dF dL aw_gv (.ref b :: as) μ o') (hb : (aw_sh b).1 = ci + 5) (hc : ci < 12) (hq : vwCl[ci]? = some q) (hq1 : y.cls = q.1) (hw : aw_cv K.1.1 idx y cc mL rt as.length) (hR : dF + 1 ≤ K.1.2.2.2.2.1 ∧ 8 + (mL + 11) + dL ≤ K.1.2.2.2.2.2) (hst : ∀ ad, ((st.map (aw_c ad)).map fun v => v.category).sum ≤ 8) (k : ∀ r, XW l K Tg Px n L (st) r kc (h r)) : XW l K Tg Px pc L st0 μ kc (o'.bind h) := xw_callV q ci hd hn hs hM hb hc hq hq1 hw hR hst k
theorem xw_callSv {o' : Option (aw_M)} {h : aw_M → Option ρ} {st0 : List Value} (hd : decode K.1.2.1 pc = .ok (.invokestatic idx, 3)) (hn : pc + 3 = n) (hs : st0 = as.reverse ++ st) (hM : AM l y cc mL rt dF dL aw_gv as μ o') (hw : aw_ct K.1.1 idx y cc mL rt as.length) (hR : dF + 1 ≤ K.1.2.2.2.2.1 ∧ 8 + (mL + 11) + dL ≤ K.1.2.2.2.2.2) (hst : ∀ ad, ((st.map (aw_c ad)).map fun v => v.category).sum ≤ 8) (k : ∀ r, XW l K Tg Px n L (st) r kc (h r)) : XW l K Tg Px pc L st0 μ kc (o'.bind h) := xw_callS hd hn hs hM hw hR hst k
end xw_rows
