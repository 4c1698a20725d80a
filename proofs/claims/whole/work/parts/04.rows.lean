section aw_rows
variable {ρ : Type} {l : Launch} {K : aw_K} {g : ρ → Option Value × aw_M} {pc n : Nat} {L : List (Option Value)} {st : List Value} {μ : aw_M} {o : Option ρ}
theorem aw_iadd {x y : Int32} (hd : decode K.2.1 pc = .ok (.iadd, 1)) (hn : pc + 1 = n) (k : AW l K g n L (.int (x + y) :: st) μ o) : AW l K g pc L (.int y :: .int x :: st) μ o := by
  subst hn
  intro p e R s m args below meth c E D C ad A H locs X ls hl r hr
  exact lv_iadd E.1 E.2.1 hd (k p e R s m args below meth c E D C ad A H locs X ls hl r hr)
theorem aw_isub {x y : Int32} (hd : decode K.2.1 pc = .ok (.isub, 1)) (hn : pc + 1 = n) (k : AW l K g n L (.int (x - y) :: st) μ o) : AW l K g pc L (.int y :: .int x :: st) μ o := by
  subst hn
  intro p e R s m args below meth c E D C ad A H locs X ls hl r hr
  exact lv_isub E.1 E.2.1 hd (k p e R s m args below meth c E D C ad A H locs X ls hl r hr)
theorem aw_imul {x y : Int32} (hd : decode K.2.1 pc = .ok (.imul, 1)) (hn : pc + 1 = n) (k : AW l K g n L (.int (x * y) :: st) μ o) : AW l K g pc L (.int y :: .int x :: st) μ o := by
  subst hn
  intro p e R s m args below meth c E D C ad A H locs X ls hl r hr
  exact lv_imul E.1 E.2.1 hd (k p e R s m args below meth c E D C ad A H locs X ls hl r hr)
theorem aw_iand {x y : Int32} (hd : decode K.2.1 pc = .ok (.iand, 1)) (hn : pc + 1 = n) (k : AW l K g n L (.int (x &&& y) :: st) μ o) : AW l K g pc L (.int y :: .int x :: st) μ o := by
  subst hn
  intro p e R s m args below meth c E D C ad A H locs X ls hl r hr
  exact lv_iand E.1 E.2.1 hd (k p e R s m args below meth c E D C ad A H locs X ls hl r hr)
theorem aw_ior {x y : Int32} (hd : decode K.2.1 pc = .ok (.ior, 1)) (hn : pc + 1 = n) (k : AW l K g n L (.int (x ||| y) :: st) μ o) : AW l K g pc L (.int y :: .int x :: st) μ o := by
  subst hn
  intro p e R s m args below meth c E D C ad A H locs X ls hl r hr
  exact lv_ior E.1 E.2.1 hd (k p e R s m args below meth c E D C ad A H locs X ls hl r hr)
theorem aw_ixor {x y : Int32} (hd : decode K.2.1 pc = .ok (.ixor, 1)) (hn : pc + 1 = n) (k : AW l K g n L (.int (x ^^^ y) :: st) μ o) : AW l K g pc L (.int y :: .int x :: st) μ o := by
  subst hn
  intro p e R s m args below meth c E D C ad A H locs X ls hl r hr
  exact lv_ixor E.1 E.2.1 hd (k p e R s m args below meth c E D C ad A H locs X ls hl r hr)
theorem aw_ishl {x y : Int32} (hd : decode K.2.1 pc = .ok (.ishl, 1)) (hn : pc + 1 = n) (k : AW l K g n L (.int (x <<< (y &&& 31)) :: st) μ o) : AW l K g pc L (.int y :: .int x :: st) μ o := by
  subst hn
  intro p e R s m args below meth c E D C ad A H locs X ls hl r hr
  exact lv_ishl E.1 E.2.1 hd (k p e R s m args below meth c E D C ad A H locs X ls hl r hr)
theorem aw_ishr {x y : Int32} (hd : decode K.2.1 pc = .ok (.ishr, 1)) (hn : pc + 1 = n) (k : AW l K g n L (.int (x >>> (y &&& 31)) :: st) μ o) : AW l K g pc L (.int y :: .int x :: st) μ o := by
  subst hn
  intro p e R s m args below meth c E D C ad A H locs X ls hl r hr
  exact lv_ishr E.1 E.2.1 hd (k p e R s m args below meth c E D C ad A H locs X ls hl r hr)
theorem aw_iushr {x y : Int32} (hd : decode K.2.1 pc = .ok (.iushr, 1)) (hn : pc + 1 = n) (k : AW l K g n L (.int ((x.toUInt32 >>> (y.toUInt32 &&& Int32.toUInt32 31)).toInt32) :: st) μ o) : AW l K g pc L (.int y :: .int x :: st) μ o := by
  subst hn
  intro p e R s m args below meth c E D C ad A H locs X ls hl r hr
  exact lv_iushr E.1 E.2.1 hd rfl (k p e R s m args below meth c E D C ad A H locs X ls hl r hr)
theorem aw_ineg {x : Int32} (hd : decode K.2.1 pc = .ok (.ineg, 1)) (hn : pc + 1 = n) (k : AW l K g n L (.int (-x) :: st) μ o) : AW l K g pc L (.int x :: st) μ o := by
  subst hn
  intro p e R s m args below meth c E D C ad A H locs X ls hl r hr
  exact lv_ineg E.1 E.2.1 hd (k p e R s m args below meth c E D C ad A H locs X ls hl r hr)
theorem aw_i2l {x : Int32} (hd : decode K.2.1 pc = .ok (.i2l, 1)) (hn : pc + 1 = n) (k : AW l K g n L (.long x.toInt64 :: st) μ o) : AW l K g pc L (.int x :: st) μ o := by
  subst hn
  intro p e R s m args below meth c E D C ad A H locs X ls hl r hr
  exact lv_i2l E.1 E.2.1 hd rfl (k p e R s m args below meth c E D C ad A H locs X ls hl r hr)
theorem aw_l2i {x : Int64} (hd : decode K.2.1 pc = .ok (.l2i, 1)) (hn : pc + 1 = n) (k : AW l K g n L (.int x.toInt32 :: st) μ o) : AW l K g pc L (.long x :: st) μ o := by
  subst hn
  intro p e R s m args below meth c E D C ad A H locs X ls hl r hr
  exact lv_l2i E.1 E.2.1 hd rfl (k p e R s m args below meth c E D C ad A H locs X ls hl r hr)
theorem aw_i2b {x : Int32} (hd : decode K.2.1 pc = .ok (.i2b, 1)) (hn : pc + 1 = n) (k : AW l K g n L (.int x.toInt8.toInt32 :: st) μ o) : AW l K g pc L (.int x :: st) μ o := by
  subst hn
  intro p e R s m args below meth c E D C ad A H locs X ls hl r hr
  exact lv_i2b E.1 E.2.1 hd rfl (k p e R s m args below meth c E D C ad A H locs X ls hl r hr)
theorem aw_ladd {x y : Int64} (hd : decode K.2.1 pc = .ok (.ladd, 1)) (hn : pc + 1 = n) (k : AW l K g n L (.long (x + y) :: st) μ o) : AW l K g pc L (.long y :: .long x :: st) μ o := by
  subst hn
  intro p e R s m args below meth c E D C ad A H locs X ls hl r hr
  exact lv_ladd E.1 E.2.1 hd (k p e R s m args below meth c E D C ad A H locs X ls hl r hr)
theorem aw_lmul {x y : Int64} (hd : decode K.2.1 pc = .ok (.lmul, 1)) (hn : pc + 1 = n) (k : AW l K g n L (.long (x * y) :: st) μ o) : AW l K g pc L (.long y :: .long x :: st) μ o := by
  subst hn
  intro p e R s m args below meth c E D C ad A H locs X ls hl r hr
  exact lv_lmul E.1 E.2.1 hd (k p e R s m args below meth c E D C ad A H locs X ls hl r hr)
theorem aw_lor {x y : Int64} (hd : decode K.2.1 pc = .ok (.lor, 1)) (hn : pc + 1 = n) (k : AW l K g n L (.long (x ||| y) :: st) μ o) : AW l K g pc L (.long y :: .long x :: st) μ o := by
  subst hn
  intro p e R s m args below meth c E D C ad A H locs X ls hl r hr
  exact lv_lor E.1 E.2.1 hd (k p e R s m args below meth c E D C ad A H locs X ls hl r hr)
theorem aw_lshl {x : Int64} {y : Int32} (hd : decode K.2.1 pc = .ok (.lshl, 1)) (hn : pc + 1 = n) (k : AW l K g n L (.long (x <<< (y.toInt64 &&& 63)) :: st) μ o) : AW l K g pc L (.int y :: .long x :: st) μ o := by
  subst hn
  intro p e R s m args below meth c E D C ad A H locs X ls hl r hr
  exact lv_lshl E.1 E.2.1 hd rfl (k p e R s m args below meth c E D C ad A H locs X ls hl r hr)
theorem aw_lshr {x : Int64} {y : Int32} (hd : decode K.2.1 pc = .ok (.lshr, 1)) (hn : pc + 1 = n) (k : AW l K g n L (.long (x >>> (y.toInt64 &&& 63)) :: st) μ o) : AW l K g pc L (.int y :: .long x :: st) μ o := by
  subst hn
  intro p e R s m args below meth c E D C ad A H locs X ls hl r hr
  exact lv_lshr E.1 E.2.1 hd rfl (k p e R s m args below meth c E D C ad A H locs X ls hl r hr)
theorem aw_lcmp {x y : Int64} (hd : decode K.2.1 pc = .ok (.lcmp, 1)) (hn : pc + 1 = n) (k : AW l K g n L (.int (lg_cmp x y) :: st) μ o) : AW l K g pc L (.long y :: .long x :: st) μ o := by
  subst hn
  intro p e R s m args below meth c E D C ad A H locs X ls hl r hr
  exact W.lcmp E.1 E.2.1 hd (k p e R s m args below meth c E D C ad A H locs X ls hl r hr)
def aw_g {α : Type} (b : Bool) (o : Option α) : Option α := match b with
  | true => o
  | false => none
theorem aw_g_some {α : Type} {b : Bool} {o : Option α} {r : α} (h : aw_g b o = some r) : b = true ∧ o = some r := by
  cases b with
  | true => exact ⟨rfl, h⟩
  | false => cases h
/-- a value that gets a name -/
def aw_let {α β : Type} (x : α) (f : α → β) : β := f x
def aw_nz (y : Int32) : Bool := !(y == 0)
theorem aw_nz_ne {y : Int32} (h : aw_nz y = true) : ¬ y = 0 := by
  intro e
  subst e
  simp [aw_nz] at h
def aw_in (i : Int32) (n : Nat) : Bool := decide (0 ≤ i.toInt) && decide (i.toInt < n)
theorem aw_in_vp {i : Int32} {n : Nat} (h : aw_in i n = true) : vp_in i n := by
  simp only [aw_in, Bool.and_eq_true, decide_eq_true_eq] at h
  exact vp_in_iff.mpr h
def aw_b (b : Bool) : Int32 := if b then 1 else 0
theorem aw_idiv {x y : Int32} (hd : decode K.2.1 pc = .ok (.idiv, 1)) (hn : pc + 1 = n) (k : AW l K g n L (.int (x / y) :: st) μ o) : AW l K g pc L (.int y :: .int x :: st) μ (aw_g (aw_nz y) o) := by
  subst hn
  intro p e R s m args below meth c E D C ad A H locs X ls hl r hr
  obtain ⟨h1, hr⟩ := aw_g_some hr
  exact lv_idiv E.1 E.2.1 hd (aw_nz_ne h1) (k p e R s m args below meth c E D C ad A H locs X ls hl r hr)
theorem aw_idivK {x y : Int32} (hd : decode K.2.1 pc = .ok (.idiv, 1)) (hn : pc + 1 = n) (hy : aw_nz y = true) (k : AW l K g n L (.int (x / y) :: st) μ o) : AW l K g pc L (.int y :: .int x :: st) μ o := by
  subst hn
  intro p e R s m args below meth c E D C ad A H locs X ls hl r hr
  exact lv_idiv E.1 E.2.1 hd (aw_nz_ne hy) (k p e R s m args below meth c E D C ad A H locs X ls hl r hr)
theorem aw_irem {x y : Int32} (hd : decode K.2.1 pc = .ok (.irem, 1)) (hn : pc + 1 = n) (k : AW l K g n L (.int (x - x / y * y) :: st) μ o) : AW l K g pc L (.int y :: .int x :: st) μ (aw_g (aw_nz y) o) := by
  subst hn
  intro p e R s m args below meth c E D C ad A H locs X ls hl r hr
  obtain ⟨h1, hr⟩ := aw_g_some hr
  exact lv_irem E.1 E.2.1 hd (aw_nz_ne h1) (k p e R s m args below meth c E D C ad A H locs X ls hl r hr)
theorem aw_iremK {x y : Int32} (hd : decode K.2.1 pc = .ok (.irem, 1)) (hn : pc + 1 = n) (hy : aw_nz y = true) (k : AW l K g n L (.int (x - x / y * y) :: st) μ o) : AW l K g pc L (.int y :: .int x :: st) μ o := by
  subst hn
  intro p e R s m args below meth c E D C ad A H locs X ls hl r hr
  exact lv_irem E.1 E.2.1 hd (aw_nz_ne hy) (k p e R s m args below meth c E D C ad A H locs X ls hl r hr)
theorem aw_iconst (v : Int32) {z : Int} (hd : decode K.2.1 pc = .ok (.iconst z, 1)) (hn : pc + 1 = n) (hv : Int32.ofInt z = v) (k : AW l K g n L (.int v :: st) μ o) : AW l K g pc L st μ o := by
  subst hn
  intro p e R s m args below meth c E D C ad A H locs X ls hl r hr
  exact lv_iconst E.1 E.2.1 hd hv (k p e R s m args below meth c E D C ad A H locs X ls hl r hr)
theorem aw_bipush (v : Int32) {z : Int} (hd : decode K.2.1 pc = .ok (.bipush z, 2)) (hn : pc + 2 = n) (hv : (Int8.ofInt z).toInt32 = v) (k : AW l K g n L (.int v :: st) μ o) : AW l K g pc L st μ o := by
  subst hn
  intro p e R s m args below meth c E D C ad A H locs X ls hl r hr
  exact lv_bipush E.1 E.2.1 hd hv (k p e R s m args below meth c E D C ad A H locs X ls hl r hr)
theorem aw_sipush (v : Int32) {z : Int} (hd : decode K.2.1 pc = .ok (.sipush z, 3)) (hn : pc + 3 = n) (hv : (Int16.ofInt z).toInt32 = v) (k : AW l K g n L (.int v :: st) μ o) : AW l K g pc L st μ o := by
  subst hn
  intro p e R s m args below meth c E D C ad A H locs X ls hl r hr
  exact lv_sipush E.1 E.2.1 hd hv (k p e R s m args below meth c E D C ad A H locs X ls hl r hr)
theorem aw_lconst (v : Int64) {z : Fin 2} (hd : decode K.2.1 pc = .ok (.lconst z, 1)) (hn : pc + 1 = n) (hv : Int64.ofNat (z : Nat) = v) (k : AW l K g n L (.long v :: st) μ o) : AW l K g pc L st μ o := by
  subst hn
  intro p e R s m args below meth c E D C ad A H locs X ls hl r hr
  exact lv_lconst E.1 E.2.1 hd hv (k p e R s m args below meth c E D C ad A H locs X ls hl r hr)
theorem aw_ldc {v : Int32} {i : Nat} (hd : decode K.2.1 pc = .ok (.ldc i, 2)) (hn : pc + 2 = n) (hw : Cond.constant K.1 i v ∈ aw_TB) (k : AW l K g n L (.int v :: st) μ o) : AW l K g pc L st μ o := by
  subst hn
  intro p e R s m args below meth c E D C ad A H locs X ls hl r hr
  exact lv_ldc E.1 E.2.1 E.2.2.2.1 (E.2.2.2.2.1 _ hw) hd (k p e R s m args below meth c E D C ad A H locs X ls hl r hr)
theorem aw_ldcw {v : Int32} {i : Nat} (hd : decode K.2.1 pc = .ok (.ldc_w i, 3)) (hn : pc + 3 = n) (hw : Cond.constant K.1 i v ∈ aw_TB) (k : AW l K g n L (.int v :: st) μ o) : AW l K g pc L st μ o := by
  subst hn
  intro p e R s m args below meth c E D C ad A H locs X ls hl r hr
  exact lv_ldcw E.1 E.2.1 E.2.2.2.1 (E.2.2.2.2.1 _ hw) hd (k p e R s m args below meth c E D C ad A H locs X ls hl r hr)
theorem aw_ldc2 {v : Int64} {i : Nat} (hd : decode K.2.1 pc = .ok (.ldc2_w i, 3)) (hn : pc + 3 = n) (hw : Cond.constantLong K.1 i v ∈ aw_TB) (k : AW l K g n L (.long v :: st) μ o) : AW l K g pc L st μ o := by
  subst hn
  intro p e R s m args below meth c E D C ad A H locs X ls hl r hr
  exact lv_ldc2 E.1 E.2.1 E.2.2.2.1 (E.2.2.2.2.1 _ hw) hd (k p e R s m args below meth c E D C ad A H locs X ls hl r hr)
theorem aw_pop {v : Value} (hd : decode K.2.1 pc = .ok (.pop, 1)) (hn : pc + 1 = n) (hc : ∀ ad, (aw_c ad v).category = 1) (k : AW l K g n L st μ o) : AW l K g pc L (v :: st) μ o := by
  subst hn
  intro p e R s m args below meth c E D C ad A H locs X ls hl r hr
  exact lv_pop E.1 E.2.1 hd (hc ad) (k p e R s m args below meth c E D C ad A H locs X ls hl r hr)
theorem aw_dup {v : Value} (hd : decode K.2.1 pc = .ok (.dup, 1)) (hn : pc + 1 = n) (hc : ∀ ad, (aw_c ad v).category = 1) (k : AW l K g n L (v :: v :: st) μ o) : AW l K g pc L (v :: st) μ o := by
  subst hn
  intro p e R s m args below meth c E D C ad A H locs X ls hl r hr
  exact lv_dup E.1 E.2.1 hd (hc ad) (k p e R s m args below meth c E D C ad A H locs X ls hl r hr)
theorem aw_dup2 {v w : Value} (hd : decode K.2.1 pc = .ok (.dup2, 1)) (hn : pc + 1 = n) (hc : ∀ ad, (aw_c ad v).category = 1) (hw : ∀ ad, (aw_c ad w).category = 1) (k : AW l K g n L (v :: w :: v :: w :: st) μ o) : AW l K g pc L (v :: w :: st) μ o := by
  subst hn
  intro p e R s m args below meth c E D C ad A H locs X ls hl r hr
  exact lv_dup2_11 E.1 E.2.1 hd (hc ad) (hw ad) (k p e R s m args below meth c E D C ad A H locs X ls hl r hr)
def aw_n2 (L : List (Option Value)) (z : Nat) : Bool := match z with
  | 0 => true
  | k + 1 => match L[k]? with
    | some (some (.long _)) => false
    | some (some (.double _)) => false
    | _ => true
theorem aw_n2_ok {L : List (Option Value)} {z : Nat} (h : aw_n2 L z = true) (j : Nat) (v : Value) (hj : L[j]? = some (some v)) (e : j + 1 = z) (ad : Nat → Nat) : (aw_c ad v).category ≠ 2 := by
  subst e
  unfold aw_n2 at h
  simp only [hj] at h
  cases v <;> first | (simp at h; done) | (simp [aw_c, Value.category]; done)
theorem aw_iload_n {x : Int32} {z : Fin 4} (hd : decode K.2.1 pc = .ok (.iload_n z, 1)) (hn : pc + 1 = n) (hx : L[(z : Nat)]? = some (some (.int x))) (k : AW l K g n L (.int x :: st) μ o) : AW l K g pc L st μ o := by
  subst hn
  intro p e R s m args below meth c E D C ad A H locs X ls hl r hr
  exact lv_iload_n E.1 E.2.1 hd rfl (aw_lv_at hl hx) (k p e R s m args below meth c E D C ad A H locs X ls hl r hr)
theorem aw_iload {x : Int32} {z : Nat} (hd : decode K.2.1 pc = .ok (.iload z, 2)) (hn : pc + 2 = n) (hx : L[z]? = some (some (.int x))) (k : AW l K g n L (.int x :: st) μ o) : AW l K g pc L st μ o := by
  subst hn
  intro p e R s m args below meth c E D C ad A H locs X ls hl r hr
  exact lv_iload E.1 E.2.1 hd (aw_lv_at hl hx) (k p e R s m args below meth c E D C ad A H locs X ls hl r hr)
theorem aw_istore_n {x : Int32} {z : Fin 4} (L' : List (Option Value)) (hd : decode K.2.1 pc = .ok (.istore_n z, 1)) (hn : pc + 1 = n) (hL : L.set (z : Nat) (some (.int x)) = L') (hi : (z : Nat) < L.length) (hm : (z : Nat) < K.2.2.1) (h2 : aw_n2 L (z : Nat) = true) (k : AW l K g n L' st μ o) : AW l K g pc L (.int x :: st) μ o := by
  subst hn
  subst hL
  intro p e R s m args below meth c E D C ad A H locs X ls hl r hr
  exact lv_istore_n E.1 E.2.1 hd rfl hl hm rfl (fun ls2 hl2 => (k p e R s m args below meth c E D C ad A H locs X ls2 (aw_lv_set1 (w := .int x) hi (fun j v q1 q2 => aw_n2_ok h2 j v q1 q2 ad) hl2) r hr))
theorem aw_istore {x : Int32} {z : Nat} (L' : List (Option Value)) (hd : decode K.2.1 pc = .ok (.istore z, 2)) (hn : pc + 2 = n) (hL : L.set z (some (.int x)) = L') (hi : z < L.length) (hm : z < K.2.2.1) (h2 : aw_n2 L z = true) (k : AW l K g n L' st μ o) : AW l K g pc L (.int x :: st) μ o := by
  subst hn
  subst hL
  intro p e R s m args below meth c E D C ad A H locs X ls hl r hr
  exact lv_istore E.1 E.2.1 hd hl hm rfl (fun ls2 hl2 => (k p e R s m args below meth c E D C ad A H locs X ls2 (aw_lv_set1 (w := .int x) hi (fun j v q1 q2 => aw_n2_ok h2 j v q1 q2 ad) hl2) r hr))
theorem aw_aload_n {x : Nat} {z : Fin 4} (hd : decode K.2.1 pc = .ok (.aload_n z, 1)) (hn : pc + 1 = n) (hx : L[(z : Nat)]? = some (some (.ref x))) (k : AW l K g n L (.ref x :: st) μ o) : AW l K g pc L st μ o := by
  subst hn
  intro p e R s m args below meth c E D C ad A H locs X ls hl r hr
  exact lv_aload_n E.1 E.2.1 hd rfl (aw_lv_at hl hx) (k p e R s m args below meth c E D C ad A H locs X ls hl r hr)
theorem aw_aload {x : Nat} {z : Nat} (hd : decode K.2.1 pc = .ok (.aload z, 2)) (hn : pc + 2 = n) (hx : L[z]? = some (some (.ref x))) (k : AW l K g n L (.ref x :: st) μ o) : AW l K g pc L st μ o := by
  subst hn
  intro p e R s m args below meth c E D C ad A H locs X ls hl r hr
  exact lv_aload E.1 E.2.1 hd (aw_lv_at hl hx) (k p e R s m args below meth c E D C ad A H locs X ls hl r hr)
theorem aw_astore_n {x : Nat} {z : Fin 4} (L' : List (Option Value)) (hd : decode K.2.1 pc = .ok (.astore_n z, 1)) (hn : pc + 1 = n) (hL : L.set (z : Nat) (some (.ref x)) = L') (hi : (z : Nat) < L.length) (hm : (z : Nat) < K.2.2.1) (h2 : aw_n2 L (z : Nat) = true) (k : AW l K g n L' st μ o) : AW l K g pc L (.ref x :: st) μ o := by
  subst hn
  subst hL
  intro p e R s m args below meth c E D C ad A H locs X ls hl r hr
  exact lv_astore_n E.1 E.2.1 hd rfl hl hm rfl (fun ls2 hl2 => (k p e R s m args below meth c E D C ad A H locs X ls2 (aw_lv_set1 (w := .ref x) hi (fun j v q1 q2 => aw_n2_ok h2 j v q1 q2 ad) hl2) r hr))
theorem aw_astore {x : Nat} {z : Nat} (L' : List (Option Value)) (hd : decode K.2.1 pc = .ok (.astore z, 2)) (hn : pc + 2 = n) (hL : L.set z (some (.ref x)) = L') (hi : z < L.length) (hm : z < K.2.2.1) (h2 : aw_n2 L z = true) (k : AW l K g n L' st μ o) : AW l K g pc L (.ref x :: st) μ o := by
  subst hn
  subst hL
  intro p e R s m args below meth c E D C ad A H locs X ls hl r hr
  exact lv_astore E.1 E.2.1 hd hl hm rfl (fun ls2 hl2 => (k p e R s m args below meth c E D C ad A H locs X ls2 (aw_lv_set1 (w := .ref x) hi (fun j v q1 q2 => aw_n2_ok h2 j v q1 q2 ad) hl2) r hr))
theorem aw_lload_n {x : Int64} {z : Fin 4} (hd : decode K.2.1 pc = .ok (.lload_n z, 1)) (hn : pc + 1 = n) (hx : L[(z : Nat)]? = some (some (.long x))) (k : AW l K g n L (.long x :: st) μ o) : AW l K g pc L st μ o := by
  subst hn
  intro p e R s m args below meth c E D C ad A H locs X ls hl r hr
  exact lv_lload_n E.1 E.2.1 hd rfl (aw_lv_at hl hx) (k p e R s m args below meth c E D C ad A H locs X ls hl r hr)
theorem aw_iinc {x : Int32} {z : Nat} {d : Int} (v : Int32) (L' : List (Option Value)) (hd : decode K.2.1 pc = .ok (.iinc z d, 3)) (hn : pc + 3 = n) (hx : L[z]? = some (some (.int x))) (hv : x + Int32.ofInt d = v) (hL : L.set z (some (.int v)) = L') (hm : z < K.2.2.1) (h2 : aw_n2 L z = true) (k : AW l K g n L' st μ o) : AW l K g pc L st μ o := by
  subst hn
  subst hL
  intro p e R s m args below meth c E D C ad A H locs X ls hl r hr
  obtain ⟨kk, hk⟩ := List.getElem?_of_mem (aw_lv_mem (ad := ad) (n := 0).mpr ⟨z, .int x, hx, by simp [aw_c]; rfl⟩)
  exact lv_iinc (v := v) E.1 E.2.1 hd hl (k := kk) hk hv hm rfl (fun ls2 hl2 => k p e R s m args below meth c E D C ad A H locs X ls2 (aw_lv_set1 (w := .int v) (List.getElem?_eq_some_iff.mp hx).1 (fun j v q1 q2 => aw_n2_ok h2 j v q1 q2 ad) hl2) r hr)
theorem aw_icmp_eq {x y : Int32} {d : Int} (tgt : Nat) {o1 o2 : Option ρ} (hd : decode K.2.1 pc = .ok (.if_icmp .eq d, 3)) (ht : (pc : Int) + d = (tgt : Int)) (hn : pc + 3 = n) (k1 : AW l K g tgt L st μ o1) (k2 : AW l K g n L st μ o2) : AW l K g pc L (.int y :: .int x :: st) μ (if x = y then o1 else o2) := by
  subst hn
  intro p e R s m args below meth c E D C ad A H locs X ls hl r hr
  exact lv_icmp_eq E.1 E.2.1 hd ht (fun h => k1 p e R s m args below meth c E D C ad A H locs X ls hl r (by rw [if_pos h] at hr; exact hr)) (fun h => k2 p e R s m args below meth c E D C ad A H locs X ls hl r (by rw [if_neg h] at hr; exact hr))
theorem aw_icmp_ne {x y : Int32} {d : Int} (tgt : Nat) {o1 o2 : Option ρ} (hd : decode K.2.1 pc = .ok (.if_icmp .ne d, 3)) (ht : (pc : Int) + d = (tgt : Int)) (hn : pc + 3 = n) (k1 : AW l K g tgt L st μ o1) (k2 : AW l K g n L st μ o2) : AW l K g pc L (.int y :: .int x :: st) μ (if x = y then o2 else o1) := by
  subst hn
  intro p e R s m args below meth c E D C ad A H locs X ls hl r hr
  exact lv_icmp_ne E.1 E.2.1 hd ht (fun h => k1 p e R s m args below meth c E D C ad A H locs X ls hl r (by rw [if_neg h] at hr; exact hr)) (fun h => k2 p e R s m args below meth c E D C ad A H locs X ls hl r (by rw [if_pos h] at hr; exact hr))
theorem aw_icmp_lt {x y : Int32} {d : Int} (tgt : Nat) {o1 o2 : Option ρ} (hd : decode K.2.1 pc = .ok (.if_icmp .lt d, 3)) (ht : (pc : Int) + d = (tgt : Int)) (hn : pc + 3 = n) (k1 : AW l K g tgt L st μ o1) (k2 : AW l K g n L st μ o2) : AW l K g pc L (.int y :: .int x :: st) μ (if x < y then o1 else o2) := by
  subst hn
  intro p e R s m args below meth c E D C ad A H locs X ls hl r hr
  exact lv_icmp_lt E.1 E.2.1 hd ht (fun h => k1 p e R s m args below meth c E D C ad A H locs X ls hl r (by rw [if_pos h] at hr; exact hr)) (fun h => k2 p e R s m args below meth c E D C ad A H locs X ls hl r (by rw [if_neg h] at hr; exact hr))
theorem aw_icmp_ge {x y : Int32} {d : Int} (tgt : Nat) {o1 o2 : Option ρ} (hd : decode K.2.1 pc = .ok (.if_icmp .ge d, 3)) (ht : (pc : Int) + d = (tgt : Int)) (hn : pc + 3 = n) (k1 : AW l K g tgt L st μ o1) (k2 : AW l K g n L st μ o2) : AW l K g pc L (.int y :: .int x :: st) μ (if y ≤ x then o1 else o2) := by
  subst hn
  intro p e R s m args below meth c E D C ad A H locs X ls hl r hr
  exact lv_icmp_ge E.1 E.2.1 hd ht (fun h => k1 p e R s m args below meth c E D C ad A H locs X ls hl r (by rw [if_pos h] at hr; exact hr)) (fun h => k2 p e R s m args below meth c E D C ad A H locs X ls hl r (by rw [if_neg h] at hr; exact hr))
theorem aw_icmp_gt {x y : Int32} {d : Int} (tgt : Nat) {o1 o2 : Option ρ} (hd : decode K.2.1 pc = .ok (.if_icmp .gt d, 3)) (ht : (pc : Int) + d = (tgt : Int)) (hn : pc + 3 = n) (k1 : AW l K g tgt L st μ o1) (k2 : AW l K g n L st μ o2) : AW l K g pc L (.int y :: .int x :: st) μ (if y < x then o1 else o2) := by
  subst hn
  intro p e R s m args below meth c E D C ad A H locs X ls hl r hr
  exact lv_icmp_gt E.1 E.2.1 hd ht (fun h => k1 p e R s m args below meth c E D C ad A H locs X ls hl r (by rw [if_pos h] at hr; exact hr)) (fun h => k2 p e R s m args below meth c E D C ad A H locs X ls hl r (by rw [if_neg h] at hr; exact hr))
theorem aw_icmp_le {x y : Int32} {d : Int} (tgt : Nat) {o1 o2 : Option ρ} (hd : decode K.2.1 pc = .ok (.if_icmp .le d, 3)) (ht : (pc : Int) + d = (tgt : Int)) (hn : pc + 3 = n) (k1 : AW l K g tgt L st μ o1) (k2 : AW l K g n L st μ o2) : AW l K g pc L (.int y :: .int x :: st) μ (if x ≤ y then o1 else o2) := by
  subst hn
  intro p e R s m args below meth c E D C ad A H locs X ls hl r hr
  exact lv_icmp_le E.1 E.2.1 hd ht (fun h => k1 p e R s m args below meth c E D C ad A H locs X ls hl r (by rw [if_pos h] at hr; exact hr)) (fun h => k2 p e R s m args below meth c E D C ad A H locs X ls hl r (by rw [if_neg h] at hr; exact hr))
theorem aw_if_eq {x : Int32} {d : Int} (tgt : Nat) {o1 o2 : Option ρ} (hd : decode K.2.1 pc = .ok (.ifCond .eq d, 3)) (ht : (pc : Int) + d = (tgt : Int)) (hn : pc + 3 = n) (k1 : AW l K g tgt L st μ o1) (k2 : AW l K g n L st μ o2) : AW l K g pc L (.int x :: st) μ (if x = 0 then o1 else o2) := by
  subst hn
  intro p e R s m args below meth c E D C ad A H locs X ls hl r hr
  exact lv_if_eq E.1 E.2.1 hd ht (fun h => k1 p e R s m args below meth c E D C ad A H locs X ls hl r (by rw [if_pos h] at hr; exact hr)) (fun h => k2 p e R s m args below meth c E D C ad A H locs X ls hl r (by rw [if_neg h] at hr; exact hr))
theorem aw_if_ne {x : Int32} {d : Int} (tgt : Nat) {o1 o2 : Option ρ} (hd : decode K.2.1 pc = .ok (.ifCond .ne d, 3)) (ht : (pc : Int) + d = (tgt : Int)) (hn : pc + 3 = n) (k1 : AW l K g tgt L st μ o1) (k2 : AW l K g n L st μ o2) : AW l K g pc L (.int x :: st) μ (if x = 0 then o2 else o1) := by
  subst hn
  intro p e R s m args below meth c E D C ad A H locs X ls hl r hr
  exact lv_if_ne E.1 E.2.1 hd ht (fun h => k1 p e R s m args below meth c E D C ad A H locs X ls hl r (by rw [if_neg h] at hr; exact hr)) (fun h => k2 p e R s m args below meth c E D C ad A H locs X ls hl r (by rw [if_pos h] at hr; exact hr))
theorem aw_if_lt {x : Int32} {d : Int} (tgt : Nat) {o1 o2 : Option ρ} (hd : decode K.2.1 pc = .ok (.ifCond .lt d, 3)) (ht : (pc : Int) + d = (tgt : Int)) (hn : pc + 3 = n) (k1 : AW l K g tgt L st μ o1) (k2 : AW l K g n L st μ o2) : AW l K g pc L (.int x :: st) μ (if x < 0 then o1 else o2) := by
  subst hn
  intro p e R s m args below meth c E D C ad A H locs X ls hl r hr
  exact lv_if_lt E.1 E.2.1 hd ht (fun h => k1 p e R s m args below meth c E D C ad A H locs X ls hl r (by rw [if_pos h] at hr; exact hr)) (fun h => k2 p e R s m args below meth c E D C ad A H locs X ls hl r (by rw [if_neg h] at hr; exact hr))
theorem aw_if_ge {x : Int32} {d : Int} (tgt : Nat) {o1 o2 : Option ρ} (hd : decode K.2.1 pc = .ok (.ifCond .ge d, 3)) (ht : (pc : Int) + d = (tgt : Int)) (hn : pc + 3 = n) (k1 : AW l K g tgt L st μ o1) (k2 : AW l K g n L st μ o2) : AW l K g pc L (.int x :: st) μ (if 0 ≤ x then o1 else o2) := by
  subst hn
  intro p e R s m args below meth c E D C ad A H locs X ls hl r hr
  exact lv_if_ge E.1 E.2.1 hd ht (fun h => k1 p e R s m args below meth c E D C ad A H locs X ls hl r (by rw [if_pos h] at hr; exact hr)) (fun h => k2 p e R s m args below meth c E D C ad A H locs X ls hl r (by rw [if_neg h] at hr; exact hr))
theorem aw_if_gt {x : Int32} {d : Int} (tgt : Nat) {o1 o2 : Option ρ} (hd : decode K.2.1 pc = .ok (.ifCond .gt d, 3)) (ht : (pc : Int) + d = (tgt : Int)) (hn : pc + 3 = n) (k1 : AW l K g tgt L st μ o1) (k2 : AW l K g n L st μ o2) : AW l K g pc L (.int x :: st) μ (if 0 < x then o1 else o2) := by
  subst hn
  intro p e R s m args below meth c E D C ad A H locs X ls hl r hr
  exact lv_if_gt E.1 E.2.1 hd ht (fun h => k1 p e R s m args below meth c E D C ad A H locs X ls hl r (by rw [if_pos h] at hr; exact hr)) (fun h => k2 p e R s m args below meth c E D C ad A H locs X ls hl r (by rw [if_neg h] at hr; exact hr))
theorem aw_if_le {x : Int32} {d : Int} (tgt : Nat) {o1 o2 : Option ρ} (hd : decode K.2.1 pc = .ok (.ifCond .le d, 3)) (ht : (pc : Int) + d = (tgt : Int)) (hn : pc + 3 = n) (k1 : AW l K g tgt L st μ o1) (k2 : AW l K g n L st μ o2) : AW l K g pc L (.int x :: st) μ (if x ≤ 0 then o1 else o2) := by
  subst hn
  intro p e R s m args below meth c E D C ad A H locs X ls hl r hr
  exact lv_if_le E.1 E.2.1 hd ht (fun h => k1 p e R s m args below meth c E D C ad A H locs X ls hl r (by rw [if_pos h] at hr; exact hr)) (fun h => k2 p e R s m args below meth c E D C ad A H locs X ls hl r (by rw [if_neg h] at hr; exact hr))
theorem aw_b_t : aw_b true = 1 := rfl
theorem aw_b_f : aw_b false = 0 := rfl
theorem aw_ifb_eq {x : Bool} {d : Int} (tgt : Nat) {o1 o2 : Option ρ} (hd : decode K.2.1 pc = .ok (.ifCond .eq d, 3)) (ht : (pc : Int) + d = (tgt : Int)) (hn : pc + 3 = n) (k1 : AW l K g tgt L st μ o1) (k2 : AW l K g n L st μ o2) : AW l K g pc L (.int (aw_b x) :: st) μ (if x = true then o2 else o1) := by
  have h := aw_if_eq (x := aw_b x) tgt hd ht hn k1 k2
  cases x
  · exact h
  · exact h
theorem aw_ifb_ne {x : Bool} {d : Int} (tgt : Nat) {o1 o2 : Option ρ} (hd : decode K.2.1 pc = .ok (.ifCond .ne d, 3)) (ht : (pc : Int) + d = (tgt : Int)) (hn : pc + 3 = n) (k1 : AW l K g tgt L st μ o1) (k2 : AW l K g n L st μ o2) : AW l K g pc L (.int (aw_b x) :: st) μ (if x = true then o1 else o2) := by
  have h := aw_if_ne (x := aw_b x) tgt hd ht hn k1 k2
  cases x
  · exact h
  · exact h
theorem aw_goto {d : Int} (tgt : Nat) (hd : decode K.2.1 pc = .ok (.goto d, 3)) (ht : (pc : Int) + d = (tgt : Int)) (k : AW l K g tgt L st μ o) : AW l K g pc L st μ o := by
  intro p e R s m args below meth c E D C ad A H locs X ls hl r hr
  exact lv_goto E.1 E.2.1 hd ht (k p e R s m args below meth c E D C ad A H locs X ls hl r hr)
theorem aw_ireturn {v : Int32} {r0 : ρ} (hd : decode K.2.1 pc = .ok (.ireturn, 1)) (hg : g r0 = (some (.int v), μ)) (hr0 : K.2.2.2.1 = some .int) : AW l K g pc L [.int v] μ (some r0) := by
  intro p e R s m args below meth c E D C ad A H locs X ls hl r hr
  cases hr
  obtain ⟨hP, hK, hD, hS, hA⟩ := X
  exact W.iret E.1 E.2.1 (by rw [E.2.2.2.2.2.1]; exact hr0) (fun t ht hW => ⟨⟨by rw [hg]; rfl, by rw [hg, ht]; exact hP, va_K.moved hW.alike hK⟩, hS.F ht⟩) hS.2.2 hd E.2.2.2.2.2.2.1
theorem aw_lreturn {v : Int64} {r0 : ρ} (hd : decode K.2.1 pc = .ok (.lreturn, 1)) (hg : g r0 = (some (.long v), μ)) (hr0 : K.2.2.2.1 = some .long) : AW l K g pc L [.long v] μ (some r0) := by
  intro p e R s m args below meth c E D C ad A H locs X ls hl r hr
  cases hr
  obtain ⟨hP, hK, hD, hS, hA⟩ := X
  exact W.lret E.1 E.2.1 (by rw [E.2.2.2.2.2.1]; exact hr0) (fun t ht hW => ⟨⟨by rw [hg]; rfl, by rw [hg, ht]; exact hP, va_K.moved hW.alike hK⟩, hS.F ht⟩) hS.2.2 hd E.2.2.2.2.2.2.1
theorem aw_zreturn {b : Bool} {r0 : ρ} (hd : decode K.2.1 pc = .ok (.ireturn, 1)) (hg : g r0 = (some (.int (aw_b b)), μ)) (hr0 : K.2.2.2.1 = some .boolean) : AW l K g pc L [.int (aw_b b)] μ (some r0) := by
  intro p e R s m args below meth c E D C ad A H locs X ls hl r hr
  cases hr
  obtain ⟨hP, hK, hD, hS, hA⟩ := X
  exact W.zret E.1 E.2.1 (ty := .boolean) (by rw [E.2.2.2.2.2.1]; exact hr0) (by cases b <;> rfl) (fun t ht hW => ⟨⟨by rw [hg]; rfl, by rw [hg, ht]; exact hP, va_K.moved hW.alike hK⟩, hS.F ht⟩) hS.2.2 hd E.2.2.2.2.2.2.1
theorem aw_vreturn  {r0 : ρ} (hd : decode K.2.1 pc = .ok (.return_, 1)) (hg : g r0 = (none, μ)) (hr0 : K.2.2.2.1 = none) : AW l K g pc L [] μ (some r0) := by
  intro p e R s m args below meth c E D C ad A H locs X ls hl r hr
  cases hr
  obtain ⟨hP, hK, hD, hS, hA⟩ := X
  exact W.vret E.1 E.2.1 (by rw [E.2.2.2.2.2.1]; exact hr0) (fun t ht hW => ⟨⟨by rw [hg]; rfl, by rw [hg, ht]; exact hP, va_K.moved hW.alike hK⟩, hS.F ht⟩) hS.2.2 hd E.2.2.2.2.2.2.1
theorem aw_none : AW l K g pc L st μ (none : Option ρ) := fun _ _ _ _ _ _ _ _ _ _ _ _ _ _ _ _ _ _ _ _ h => by cases h
theorem aw_nmI {x : Int32} {h : Int32 → Option ρ} (k : ∀ v, AW l K g pc L (.int v :: st) μ (h v)) : AW l K g pc L (.int x :: st) μ (aw_let x h) := k x
theorem aw_nmL {x : Int64} {h : Int64 → Option ρ} (k : ∀ v, AW l K g pc L (.long v :: st) μ (h v)) : AW l K g pc L (.long x :: st) μ (aw_let x h) := k x
def aw_sub : List (Option Value) → List (Option Value) → Prop
  | [], _ => True
  | none :: t, [] => aw_sub t []
  | none :: t, _ :: t' => aw_sub t t'
  | some v :: t, some w :: t' => v = w ∧ aw_sub t t'
  | some _ :: _, _ => False
theorem aw_s0 {L : List (Option Value)} : aw_sub [] L := trivial
theorem aw_sn {t t' : List (Option Value)} {x : Option Value} (h : aw_sub t t') : aw_sub (none :: t) (x :: t') := h
theorem aw_ss {t t' : List (Option Value)} {v : Value} (h : aw_sub t t') : aw_sub (some v :: t) (some v :: t') := ⟨rfl, h⟩
theorem aw_sub_at : ∀ {L' L : List (Option Value)}, aw_sub L' L → ∀ (j : Nat) (v : Value), L'[j]? = some (some v) → L[j]? = some (some v)
  | [], _, _, j, v, h => by simp at h
  | none :: t, [], hs, j, v, h => by
    cases j with
    | zero => simp at h
    | succ j => have := aw_sub_at (L' := t) (L := []) hs j v (by simpa using h); simp at this
  | none :: t, x :: t', hs, j, v, h => by
    cases j with
    | zero => simp at h
    | succ j => simpa using aw_sub_at (L' := t) (L := t') hs j v (by simpa using h)
  | some w :: t, some w' :: t', hs, j, v, h => by
    cases j with
    | zero => rw [hs.1] at h; simpa using h
    | succ j => simpa using aw_sub_at (L' := t) (L := t') hs.2 j v (by simpa using h)
  | some w :: t, none :: t', hs, j, v, h => by cases hs
  | some w :: t, [], hs, j, v, h => by cases hs
theorem aw_weak {L' : List (Option Value)} (k : AW l K g pc L' st μ o) (h : aw_sub L' L) : AW l K g pc L st μ o := by
  intro p e R s m args below meth c E D C ad A H locs X ls hl r hr
  refine k p e R s m args below meth c E D C ad A H locs X ls (lv_has_of hl (fun q hq => ?_)) r hr
  obtain ⟨j, v, h1, h2⟩ := aw_lv_mem.mp hq
  exact aw_lv_mem.mpr ⟨j, v, aw_sub_at h j v h1, h2⟩
def aw_isB (x : Int32) : Bool := x == 0 || x == 1
theorem aw_isB_b {x : Int32} (h : aw_isB x = true) : aw_b (x == 1) = x := by
  simp only [aw_isB, Bool.or_eq_true, beq_iff_eq] at h
  rcases h with rfl | rfl <;> rfl
/-- an int that a boolean method returns -/
theorem aw_zretG {x : Int32} {r0 : ρ} (hd : decode K.2.1 pc = .ok (.ireturn, 1)) (hg : g r0 = (some (.int (aw_b (x == 1))), μ)) (hr0 : K.2.2.2.1 = some .boolean) : AW l K g pc L [.int x] μ (aw_g (aw_isB x) (some r0)) := by
  intro p e R s m args below meth c E D C ad A H locs X ls hl r hr
  obtain ⟨h1, hr⟩ := aw_g_some hr
  have h2 := aw_zreturn (b := x == 1) (L := L) (l := l) hd hg hr0 p e R s m args below meth c E D C ad A H locs X ls hl r hr
  rw [aw_isB_b h1] at h2
  exact h2
/-- loops -/
def aw_loop {σ α : Type} (f : (σ → Option α) → σ → Option α) : Nat → σ → Option α
  | 0, _ => none
  | n + 1, s => f (aw_loop f n) s
theorem aw_loop_ok {σ : Type} {f : (σ → Option ρ) → σ → Option ρ} {Ls : σ → List (Option Value)} {ms : σ → aw_M} (h : ∀ k : σ → Option ρ, (∀ s, AW l K g pc (Ls s) [] (ms s) (k s)) → ∀ s, AW l K g pc (Ls s) [] (ms s) (f k s)) : ∀ (F : Nat) (s : σ), AW l K g pc (Ls s) [] (ms s) (aw_loop f F s)
  | 0, _ => aw_none
  | F + 1, s => h _ (aw_loop_ok h F) s
end aw_rows
