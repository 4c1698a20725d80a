/-! The building of the world: n cells at the addresses B + i, their references as they are so far; BW says that a method that builds comes to its end with so many cells more. -/
abbrev bw_R : Type := Nat → Nat → Option Nat
abbrev bw_T : Type := aw_M × bw_R
def bw_val (B : Nat) (w : bw_T) (a k t : Nat) : Value := match t with
  | 0 => .int (w.1.1 a k)
  | 1 => .long (w.1.2 a k)
  | _ => va_rf ((w.2 a k).map (fun i => B + i))
def bw_cell (C : Nat → ClassId) (B : Nat) (w : bw_T) (a : Nat) : va_E := match (aw_sh a).1 with
  | 0 => .inl (C 0, (aw_sh a).2, .inl (w.1.1 a))
  | 1 => .inl (C 1, (aw_sh a).2, .inl (w.1.1 a))
  | 2 => .inl (C 2, (aw_sh a).2, .inl (w.1.1 a))
  | 3 => .inl (C 3, (aw_sh a).2, .inr (.inl (w.1.2 a)))
  | 4 => .inl (C 4, (aw_sh a).2, .inr (.inr (.inr (.inr (fun j => (w.2 a j).map (fun i => B + i))))))
  | ci + 5 => .inr (ci, (aw_ty ci).mapIdx (fun k t => bw_val B w a k t))
def bw_ws (C : Nat → ClassId) (B : Nat) (w : bw_T) (n : Nat) : va_W := (List.range n).map (fun a => (B + a, bw_cell C B w a))
def bz (w : bw_T) (n : Nat) : bw_T := ((va_up w.1.1 n (fun _ => 0), va_up w.1.2 n (fun _ => 0)), va_up w.2 n (fun _ => none))
def bp (w : bw_T) (a k b : Nat) : bw_T := (w.1, va_up w.2 a (va_up (w.2 a) k (some b)))
def bm (w : bw_T) (μ : aw_M) : bw_T := (μ, w.2)
def bI (w : bw_T) (a k : Nat) (v : Int32) : bw_T := bm w (aw_wI w.1 a k v)
def bL (w : bw_T) (a k : Nat) (v : Int64) : bw_T := bm w (aw_wL w.1 a k v)
abbrev bw_ad (B : Nat) : Nat → Nat := fun i => B + i
theorem bw_at {C : Nat → ClassId} {B : Nat} {w : bw_T} {n a : Nat} (h : a < n) : (bw_ws C B w n)[a]? = some (B + a, bw_cell C B w a) := by
  unfold bw_ws
  rw [List.getElem?_map, List.getElem?_range h]
  rfl
theorem bw_ge {C : Nat → ClassId} {B : Nat} {w : bw_T} {n a : Nat} (h : n ≤ a) : (bw_ws C B w n)[a]? = none := by
  unfold bw_ws
  rw [List.getElem?_eq_none]
  rw [List.length_map, List.length_range]
  exact h
theorem bw_get {C : Nat → ClassId} {B : Nat} {w : bw_T} {n k : Nat} {q : Nat × va_E} (h : (bw_ws C B w n)[k]? = some q) : k < n ∧ q = (B + k, bw_cell C B w k) := by
  rcases Nat.lt_or_ge k n with z | z
  · rw [bw_at z] at h
    exact ⟨z, (Option.some.inj h).symm⟩
  · rw [bw_ge z] at h
    cases h
theorem bw_D {C : Nat → ClassId} {B : Nat} {w : bw_T} {n : Nat} : va_D (fun q => B ≤ q) (bw_ws C B w n) := by
  refine ⟨fun i j p q hp hq e => ?_, fun k q hq => ?_⟩
  · obtain ⟨h1, rfl⟩ := bw_get hp
    obtain ⟨h2, rfl⟩ := bw_get hq
    have e : B + i = B + j := e
    omega
  · obtain ⟨h1, rfl⟩ := bw_get hq
    exact Nat.le_add_right _ _
theorem bw_set {C : Nat → ClassId} {B : Nat} {w w' : bw_T} {n a : Nat} {E : va_E} (h : a < n) (he : E = bw_cell C B w' a) (ho : ∀ b, b ≠ a → bw_cell C B w' b = bw_cell C B w b) : (bw_ws C B w n).set a (B + a, E) = bw_ws C B w' n := by
  apply List.ext_getElem?
  intro k
  rw [List.getElem?_set]
  by_cases e : a = k
  · subst e
    rw [if_pos rfl, bw_at h, he, if_pos]
    unfold bw_ws
    rw [List.length_map, List.length_range]
    exact h
  · rw [if_neg e]
    rcases Nat.lt_or_ge k n with z | z
    · rw [bw_at z, bw_at z, ho k (fun q => e q.symm)]
    · rw [bw_ge z, bw_ge z]
theorem bw_push {C : Nat → ClassId} {B : Nat} {w w' : bw_T} {n : Nat} (ho : ∀ b, b < n → bw_cell C B w' b = bw_cell C B w b) : bw_ws C B w' (n + 1) = bw_ws C B w n ++ [(B + n, bw_cell C B w' n)] := by
  unfold bw_ws
  rw [List.range_succ, List.map_append]
  congr 1
  exact List.map_congr_left (fun a ha => by rw [ho a (List.mem_range.mp ha)])
theorem bw_cell_congr {C : Nat → ClassId} {B : Nat} {w w' : bw_T} {b : Nat} (h1 : w'.1.1 b = w.1.1 b) (h2 : w'.1.2 b = w.1.2 b) (h3 : w'.2 b = w.2 b) : bw_cell C B w' b = bw_cell C B w b := by
  unfold bw_cell bw_val
  rw [h1, h2, h3]
theorem bw_cell_bz {C : Nat → ClassId} {B : Nat} {w : bw_T} {n b : Nat} (h : b < n) : bw_cell C B (bz w n) b = bw_cell C B w b :=
  bw_cell_congr (va_up_ne _ _ (by omega)) (va_up_ne _ _ (by omega)) (va_up_ne _ _ (by omega))
def bw_tx : String := "square quarter cart cap drain judge spot law feint or and not feints joins boxes marks wounds aim sees place "
def bw_by : List Int32 := [115, 113, 117, 97, 114, 101, 32, 113, 117, 97, 114, 116, 101, 114, 32, 99, 97, 114, 116, 32, 99, 97, 112, 32, 100, 114, 97, 105, 110, 32, 106, 117, 100, 103, 101, 32, 115, 112, 111, 116, 32, 108, 97, 119, 32, 102, 101, 105, 110, 116, 32, 111, 114, 32, 97, 110, 100, 32, 110, 111, 116, 32, 102, 101, 105, 110, 116, 115, 32, 106, 111, 105, 110, 115, 32, 98, 111, 120, 101, 115, 32, 109, 97, 114, 107, 115, 32, 119, 111, 117, 110, 100, 115, 32, 97, 105, 109, 32, 115, 101, 101, 115, 32, 112, 108, 97, 99, 101, 32]
/-- what lies ahead of the world and is never written: the text of the words, two statics -/
def bw_X (A : Nat → Prop) (U : State) (H : Heap) : Prop := ∃ adK adV : Nat → Nat, vk_R RX6 19 bw_tx (adK 0) U ∧ vk_S 1 [109] [bw_by] adK adV A U H ∧ va_Z "java/lang/String" "COMPACT_STRINGS" "Z" (.int 1) A U H ∧ va_Zq "jdk/internal/util/Preconditions" "SIOOBE_FORMATTER" "Ljava/util/function/BiFunction;" A U H ∧ va_AO "OrangeFight$Scene" U
theorem bw_X.kept {A : Nat → Prop} {U : State} {H H1 : Heap} (h : bw_X A U H) (hq : ∀ a : Nat, a < H.size → ¬ A a → H1[a]? = H[a]?) : bw_X A U H1 := by
  obtain ⟨adK, adV, h1, h2, h3, h4, h5⟩ := h
  exact ⟨adK, adV, h1, h2.kept hq, h3.kept hq, h4.kept hq, h5⟩
theorem bw_X.warm {A : Nat → Prop} {s U : State} {H : Heap} (hW : s.WarmedH U.vm) (h : bw_X A s H) : bw_X A U H := by
  obtain ⟨adK, adV, h1, h2, h3, h4, h5⟩ := h
  exact ⟨adK, adV, vk_R.warm hW h1, vk_S.moved hW.alike h2, va_Z.moved hW.alike h3, va_Zq.moved hW.alike h4, va_AO.moved hW.alike h5⟩
theorem bw_X.same {A : Nat → Prop} {s U : State} {H : Heap} (e : U.vm = s.vm) (h : bw_X A s H) : bw_X A U H := by
  obtain ⟨adK, adV, h1, h2, h3, h4, h5⟩ := h
  have al : s.vm.Alike U.vm := by rw [e]; exact Vm.Alike.refl _
  exact ⟨adK, adV, vk_R.same e h1, vk_S.moved al h2, va_Z.moved al h3, va_Zq.moved al h4, va_AO.moved al h5⟩
abbrev bw_K : Type := aw_K × String × Nat × Nat
def bw_E (K : bw_K) (p : Program) (R : Room) (s : State) (m : MethodId) (args : Array Value) (meth : Method) (c : Code) : Prop :=
  aw_E K.1 p R s m args meth c ∧ meth.name = K.2.1 ∧ K.2.2.1 ≤ R.cells ∧ K.2.2.2 ≤ R.slots
def bw_Rl (D : va_G) (C : Nat → ClassId) (B : Nat) (s : State) (H : Heap) (locs : List Loc) (n kc : Nat) (w : bw_T) : Prop :=
  va_P D vwCl (bw_ws C B w n) H ∧ va_K D vwCl (aw_tys C) s ∧ va_S (fun q => B ≤ q) s.heap H locs ∧ (s.heap.size + kc = B + n ∧ 0 < n) ∧ bw_X (fun q => B ≤ q) s s.heap
def bw_Q (D : va_G) (C : Nat → ClassId) (B n : Nat) (w : bw_T) : Array Value → State → Outcome → State → Prop := fun _ st oc t =>
  (oc = .returned none ∧ va_P D vwCl (bw_ws C B w n) t.heap ∧ t.heap.size = B + n ∧ va_K D vwCl (aw_tys C) t) ∧ va_F (fun q => B ≤ q) st t
def BW (l : Launch) (K : bw_K) (pc : Nat) (L : List (Option Value)) (st : List Value) (n kc ks : Nat) (w : bw_T) (nf : Nat) (wf : bw_T) : Prop :=
  ∀ (p : Program) (e : Env) (R : Room) (s : State) (m : MethodId) (args : Array Value) (below : List Frame) (meth : Method) (c : Code), bw_E K p R s m args meth c →
  ∀ (D : va_G) (C : Nat → ClassId) (B : Nat) (H : Heap) (locs : List Loc), bw_Rl D C B s H locs n kc w → ∀ ls : Array Slot, lv_has ls K.1.2.2.1 (aw_lv (bw_ad B) 0 L) →
  W p l e R s m args below meth c H locs kc ks (MQ below (bw_Q D C B nf wf) args s K.2.2.1 K.2.2.2 (fun q => B ≤ q)) (F0 m pc ls (st.map (aw_c (bw_ad B))))
def BM (l : Launch) (y : MethodName) (cc : ByteArray) (mL dF dL MC MS : Nat) (as : List Value) (n : Nat) (w : bw_T) (nf : Nat) (wf : bw_T) : Prop :=
  ∀ (D : va_G) (C : Nat → ClassId) (B : Nat),
  Met l y (.code y cc mL none :: aw_TB) ({ frames := dF, cells := MC, slots := MS, locals := dL }) (va_Pc (as.map (aw_c (bw_ad B))) (fun U => U.heap.size = B + n ∧ va_P D vwCl (bw_ws C B w n) U.heap ∧ va_K D vwCl (aw_tys C) U ∧ aw_Nk U ∧ bw_X (fun q => B ≤ q) U U.heap)) (bw_Q D C B nf wf) MC MS (fun q => B ≤ q)
theorem bw_met {l : Launch} {y : MethodName} {cc : ByteArray} {mL dF dL MC MS : Nat} {as : List Value} {n nf : Nat} {w wf : bw_T} (L0 : List (Option Value)) (h0 : 0 < n) (hy : plainName y.cls = true)
    (hL : ∀ ad, aw_lv ad 0 L0 = lv_args 0 (as.map (aw_c ad))) (hm : ∀ ad, (lg_sl (as.map (aw_c ad))).length ≤ mL) (body : BW l ((y.cls, cc, mL, none, dF, dL), y.name, MC, MS) 0 L0 [] n 0 0 w nf wf) : BM l y cc mL dF dL MC MS as n w nf wf := by
  intro D C B
  refine Met.ofW (cc := cc) (maxL := mL) (ret := none) hy rfl ?_
  intro p e s m args below meth c s₁ Y hml hv
  obtain ⟨rfl, hsz, hP, hK, hN, hX⟩ := hv
  have hts := atoms_spec (ws := .code y cc mL none :: aw_TB) Y.pre
  have hown : s.vm.findClass y.cls = some m.cls := findClass_of_methodNamed Y.named
  have hname : meth.name = y.name := (name_of_methodNamed Y.named Y.method).1
  have hl := lv_entry (as.map (aw_c (bw_ad B))) (n := mL) (hm (bw_ad B))
  rw [← hL (bw_ad B)] at hl
  rw [lg_entry_eq]
  exact body p e _ s m _ below meth c ⟨⟨Y.exec, Y.bytes, hml, hown, fun w h => hts w (List.mem_cons_of_mem _ h), Y.returns, Y.notSynchronized, Nat.le_refl _, Nat.le_refl _, hN⟩, hname, Nat.le_refl _, Nat.le_refl _⟩ D C B s.heap [] ⟨hP, hK, va_S.rf, ⟨hsz, h0⟩, hX⟩ _ hl
section bw_rows
variable {l : Launch} {K : bw_K} {pc z kc ks n nf : Nat} {L : List (Option Value)} {st : List Value} {w wf : bw_T}
theorem bw_aload_n {a : Nat} {y : Fin 4} (hd : decode K.1.2.1 pc = .ok (.aload_n y, 1)) (hn : pc + 1 = z) (hx : L[(y : Nat)]? = some (some (.ref a))) (k : BW l K z L (.ref a :: st) n kc ks w nf wf) : BW l K pc L st n kc ks w nf wf := by
  subst hn
  intro p e R s m args below meth c E D C B H locs X ls hl
  exact lv_aload_n E.1.1 E.1.2.1 hd rfl (aw_lv_at hl hx) (k p e R s m args below meth c E D C B H locs X ls hl)
theorem bw_iload_n {x : Int32} {y : Fin 4} (hd : decode K.1.2.1 pc = .ok (.iload_n y, 1)) (hn : pc + 1 = z) (hx : L[(y : Nat)]? = some (some (.int x))) (k : BW l K z L (.int x :: st) n kc ks w nf wf) : BW l K pc L st n kc ks w nf wf := by
  subst hn
  intro p e R s m args below meth c E D C B H locs X ls hl
  exact lv_iload_n E.1.1 E.1.2.1 hd rfl (aw_lv_at hl hx) (k p e R s m args below meth c E D C B H locs X ls hl)
theorem bw_iload {x : Int32} {y : Nat} (hd : decode K.1.2.1 pc = .ok (.iload y, 2)) (hn : pc + 2 = z) (hx : L[y]? = some (some (.int x))) (k : BW l K z L (.int x :: st) n kc ks w nf wf) : BW l K pc L st n kc ks w nf wf := by
  subst hn
  intro p e R s m args below meth c E D C B H locs X ls hl
  exact lv_iload E.1.1 E.1.2.1 hd (aw_lv_at hl hx) (k p e R s m args below meth c E D C B H locs X ls hl)
theorem bw_istore_n {x : Int32} {y : Fin 4} (L' : List (Option Value)) (hd : decode K.1.2.1 pc = .ok (.istore_n y, 1)) (hn : pc + 1 = z) (hL : L.set (y : Nat) (some (.int x)) = L') (hi : (y : Nat) < L.length) (hm : (y : Nat) < K.1.2.2.1) (h2 : aw_n2 L (y : Nat) = true) (k : BW l K z L' st n kc ks w nf wf) : BW l K pc L (.int x :: st) n kc ks w nf wf := by
  subst hn
  subst hL
  intro p e R s m args below meth c E D C B H locs X ls hl
  exact lv_istore_n E.1.1 E.1.2.1 hd rfl hl hm rfl (fun ls2 hl2 => (k p e R s m args below meth c E D C B H locs X ls2 (aw_lv_set1 (w := .int x) hi (fun j v q1 q2 => aw_n2_ok h2 j v q1 q2 (bw_ad B)) hl2)))
theorem bw_dup {v : Value} (hd : decode K.1.2.1 pc = .ok (.dup, 1)) (hn : pc + 1 = z) (hc : ∀ ad, (aw_c ad v).category = 1) (k : BW l K z L (v :: v :: st) n kc ks w nf wf) : BW l K pc L (v :: st) n kc ks w nf wf := by
  subst hn
  intro p e R s m args below meth c E D C B H locs X ls hl
  exact lv_dup E.1.1 E.1.2.1 hd (hc _) (k p e R s m args below meth c E D C B H locs X ls hl)
theorem bw_goto {d : Int} (tgt : Nat) (hd : decode K.1.2.1 pc = .ok (.goto d, 3)) (ht : (pc : Int) + d = (tgt : Int)) (k : BW l K tgt L st n kc ks w nf wf) : BW l K pc L st n kc ks w nf wf := by
  intro p e R s m args below meth c E D C B H locs X ls hl
  exact lv_goto E.1.1 E.1.2.1 hd ht (k p e R s m args below meth c E D C B H locs X ls hl)
theorem bw_icmp_ge_t {x y : Int32} {d : Int} (tgt : Nat) (hd : decode K.1.2.1 pc = .ok (.if_icmp .ge d, 3)) (ht : (pc : Int) + d = (tgt : Int)) (h : y ≤ x) (k : BW l K tgt L st n kc ks w nf wf) : BW l K pc L (.int y :: .int x :: st) n kc ks w nf wf := by
  intro p e R s m args below meth c E D C B H locs X ls hl
  exact lv_icmp_ge E.1.1 E.1.2.1 hd ht (fun _ => k p e R s m args below meth c E D C B H locs X ls hl) (fun q => absurd h q)
theorem bw_icmp_ge_f {x y : Int32} {d : Int} (hd : decode K.1.2.1 pc = .ok (.if_icmp .ge d, 3)) (tgt : Nat) (ht : (pc : Int) + d = (tgt : Int)) (hn : pc + 3 = z) (h : ¬ y ≤ x) (k : BW l K z L st n kc ks w nf wf) : BW l K pc L (.int y :: .int x :: st) n kc ks w nf wf := by
  subst hn
  intro p e R s m args below meth c E D C B H locs X ls hl
  exact lv_icmp_ge E.1.1 E.1.2.1 hd ht (fun q => absurd q h) (fun _ => k p e R s m args below meth c E D C B H locs X ls hl)
theorem bw_iconst (v : Int32) {yy : Int} (hd : decode K.1.2.1 pc = .ok (.iconst yy, 1)) (hn : pc + 1 = z) (hv : Int32.ofInt yy = v) (k : BW l K z L (.int v :: st) n kc ks w nf wf) : BW l K pc L st n kc ks w nf wf := by
  subst hn
  intro p e R s m args below meth c E D C B H locs X ls hl
  exact lv_iconst E.1.1 E.1.2.1 hd hv (k p e R s m args below meth c E D C B H locs X ls hl)
theorem bw_bipush (v : Int32) {yy : Int} (hd : decode K.1.2.1 pc = .ok (.bipush yy, 2)) (hn : pc + 2 = z) (hv : (Int8.ofInt yy).toInt32 = v) (k : BW l K z L (.int v :: st) n kc ks w nf wf) : BW l K pc L st n kc ks w nf wf := by
  subst hn
  intro p e R s m args below meth c E D C B H locs X ls hl
  exact lv_bipush E.1.1 E.1.2.1 hd hv (k p e R s m args below meth c E D C B H locs X ls hl)
theorem bw_sipush (v : Int32) {yy : Int} (hd : decode K.1.2.1 pc = .ok (.sipush yy, 3)) (hn : pc + 3 = z) (hv : (Int16.ofInt yy).toInt32 = v) (k : BW l K z L (.int v :: st) n kc ks w nf wf) : BW l K pc L st n kc ks w nf wf := by
  subst hn
  intro p e R s m args below meth c E D C B H locs X ls hl
  exact lv_sipush E.1.1 E.1.2.1 hd hv (k p e R s m args below meth c E D C B H locs X ls hl)
theorem bw_lconst (v : Int64) {yy : Fin 2} (hd : decode K.1.2.1 pc = .ok (.lconst yy, 1)) (hn : pc + 1 = z) (hv : Int64.ofNat (yy : Nat) = v) (k : BW l K z L (.long v :: st) n kc ks w nf wf) : BW l K pc L st n kc ks w nf wf := by
  subst hn
  intro p e R s m args below meth c E D C B H locs X ls hl
  exact lv_lconst E.1.1 E.1.2.1 hd hv (k p e R s m args below meth c E D C B H locs X ls hl)
theorem bw_ldc {v : Int32} {i : Nat} (hd : decode K.1.2.1 pc = .ok (.ldc i, 2)) (hn : pc + 2 = z) (hw : Cond.constant K.1.1 i v ∈ aw_TB) (k : BW l K z L (.int v :: st) n kc ks w nf wf) : BW l K pc L st n kc ks w nf wf := by
  subst hn
  intro p e R s m args below meth c E D C B H locs X ls hl
  exact lv_ldc E.1.1 E.1.2.1 E.1.2.2.2.1 (E.1.2.2.2.2.1 _ hw) hd (k p e R s m args below meth c E D C B H locs X ls hl)
theorem bw_ldc2 {v : Int64} {i : Nat} (hd : decode K.1.2.1 pc = .ok (.ldc2_w i, 3)) (hn : pc + 3 = z) (hw : Cond.constantLong K.1.1 i v ∈ aw_TB) (k : BW l K z L (.long v :: st) n kc ks w nf wf) : BW l K pc L st n kc ks w nf wf := by
  subst hn
  intro p e R s m args below meth c E D C B H locs X ls hl
  exact lv_ldc2 E.1.1 E.1.2.1 E.1.2.2.2.1 (E.1.2.2.2.2.1 _ hw) hd (k p e R s m args below meth c E D C B H locs X ls hl)
theorem bw_istore {x : Int32} {yy : Nat} (L' : List (Option Value)) (hd : decode K.1.2.1 pc = .ok (.istore yy, 2)) (hn : pc + 2 = z) (hL : L.set yy (some (.int x)) = L') (hi : yy < L.length) (hm : yy < K.1.2.2.1) (h2 : aw_n2 L yy = true) (k : BW l K z L' st n kc ks w nf wf) : BW l K pc L (.int x :: st) n kc ks w nf wf := by
  subst hn
  subst hL
  intro p e R s m args below meth c E D C B H locs X ls hl
  exact lv_istore E.1.1 E.1.2.1 hd hl hm rfl (fun ls2 hl2 => (k p e R s m args below meth c E D C B H locs X ls2 (aw_lv_set1 (w := .int x) hi (fun j v q1 q2 => aw_n2_ok h2 j v q1 q2 (bw_ad B)) hl2)))
theorem bw_iinc {x : Int32} {yy : Nat} {d : Int} (v : Int32) (L' : List (Option Value)) (hd : decode K.1.2.1 pc = .ok (.iinc yy d, 3)) (hn : pc + 3 = z) (hx : L[yy]? = some (some (.int x))) (hv : x + Int32.ofInt d = v) (hL : L.set yy (some (.int v)) = L') (hm : yy < K.1.2.2.1) (h2 : aw_n2 L yy = true) (k : BW l K z L' st n kc ks w nf wf) : BW l K pc L st n kc ks w nf wf := by
  subst hn
  subst hL
  intro p e R s m args below meth c E D C B H locs X ls hl
  obtain ⟨kk, hk⟩ := List.getElem?_of_mem (aw_lv_mem (ad := bw_ad B) (n := 0).mpr ⟨yy, .int x, hx, by simp [aw_c]; rfl⟩)
  exact lv_iinc (v := v) E.1.1 E.1.2.1 hd hl (k := kk) hk hv hm rfl (fun ls2 hl2 => k p e R s m args below meth c E D C B H locs X ls2 (aw_lv_set1 (w := .int v) (List.getElem?_eq_some_iff.mp hx).1 (fun j v q1 q2 => aw_n2_ok h2 j v q1 q2 (bw_ad B)) hl2))
theorem bw_lload_n {x : Int64} {yy : Fin 4} (hd : decode K.1.2.1 pc = .ok (.lload_n yy, 1)) (hn : pc + 1 = z) (hx : L[(yy : Nat)]? = some (some (.long x))) (k : BW l K z L (.long x :: st) n kc ks w nf wf) : BW l K pc L st n kc ks w nf wf := by
  subst hn
  intro p e R s m args below meth c E D C B H locs X ls hl
  exact lv_lload_n E.1.1 E.1.2.1 hd rfl (aw_lv_at hl hx) (k p e R s m args below meth c E D C B H locs X ls hl)
theorem bw_iadd {x y : Int32} (hd : decode K.1.2.1 pc = .ok (.iadd, 1)) (hn : pc + 1 = z) (k : BW l K z L (.int (x + y) :: st) n kc ks w nf wf) : BW l K pc L (.int y :: .int x :: st) n kc ks w nf wf := by
  subst hn
  intro p e R s m args below meth c E D C B H locs X ls hl
  exact lv_iadd E.1.1 E.1.2.1 hd (k p e R s m args below meth c E D C B H locs X ls hl)
end bw_rows
theorem bw_ge2 {D : va_G} {C : Nat → ClassId} {B n : Nat} {w : bw_T} {H : Heap} (hP : va_P D vwCl (bw_ws C B w n) H) (h0 : 0 < n) : B + n ≤ H.size := by
  have h := (hP (n - 1) _ (bw_at (by omega))).lt
  have h : B + (n - 1) < H.size := h
  omega
theorem bw_sz {p : Program} {l : Launch} {e : Env} {R : Room} {s : State} {m : MethodId} {args : Array Value} {below : List Frame} {meth : Method} {c : Code} {H : Heap} {locs : List Loc} {kc ks n : Nat} {w : bw_T} {Q : State → Prop} {g : JFrame} {D : va_G} {C : Nat → ClassId} {B : Nat} (X : bw_Rl D C B s H locs n kc w) (k : H.size = B + n → W p l e R s m args below meth c H locs kc ks Q g) : W p l e R s m args below meth c H locs kc ks Q g := by
  intro T hT Y
  have h1 := Y.heapSize
  have h2 := bw_ge2 X.1 X.2.2.2.1.2
  have h3 := X.2.2.2.1.1
  rw [hT] at h1
  exact k (by omega) T hT Y
section bw_heap
variable {l : Launch} {K : bw_K} {pc z kc ks n nf : Nat} {L : List (Option Value)} {st : List Value} {w wf : bw_T}
theorem bw_vret (hr : K.1.2.2.2.1 = none) (hd : decode K.1.2.1 pc = .ok (.return_, 1)) (hn : n = nf) (hw : w = wf) (hc : kc = K.2.2.1) (hs : ks = K.2.2.2) : BW l K pc L [] n kc ks w nf wf := by
  subst hn
  subst hw
  intro p e R s m args below meth c E D C B H locs X ls hl
  refine bw_sz X (fun hz => ?_)
  obtain ⟨hP, hK, hS, -, hX⟩ := X
  rw [hc, hs]
  exact W.vret E.1.1 E.1.2.1 (by rw [E.1.2.2.2.2.2.1]; exact hr) (fun t ht hW => ⟨⟨rfl, by rw [ht]; exact hP, by rw [ht]; exact hz, va_K.moved hW.alike hK⟩, hS.F ht⟩) hS.2.2 hd E.1.2.2.2.2.2.2.1
theorem bw_objInit {a idx : Nat} (hd : decode K.1.2.1 pc = .ok (.invokespecial idx, 3)) (hn : pc + 3 = z) (h1 : Cond.methodLink K.1.1 idx objectInit ∈ aw_TB) (h2 : Cond.instanceMethod objectInit ∈ aw_TB) (h3 : Cond.code objectInit ⟨#[0xb1]⟩ 1 none ∈ aw_TB) (hR : 1 ≤ K.1.2.2.2.2.1 ∧ 20 ≤ K.1.2.2.2.2.2) (hst : ∀ ad, ((st.map (aw_c ad)).map fun v => v.category).sum ≤ 8)
    (k : BW l K z L st n kc ks w nf wf) : BW l K pc L (.ref a :: st) n kc ks w nf wf := by
  subst hn
  intro p e R s m args below meth c E D C B H locs X ls hl
  have hts := E.1.2.2.2.2.1
  have hml := E.1.2.2.1
  refine W.objInit E.1.1 E.1.2.1 E.1.2.2.2.1 (hts _ h1) (hts _ h2) (hts _ h3) rfl (by rw [hml]; exact hl.1) rfl hd (Nat.le_trans hR.1 E.1.2.2.2.2.2.2.2.1) ?_ ?_
  · have q1 := Nat.le_trans hR.2 E.1.2.2.2.2.2.2.2.2.1
    have q2 := hst (bw_ad B)
    show 2 * 0 + _ + 12 ≤ _
    omega
  · exact k p e R s m args below meth c E D C B H locs X ls hl
theorem bw_born {D : va_G} {C : Nat → ClassId} {B : Nat} {s : State} {H H1 : Heap} {locs : List Loc} (X : bw_Rl D C B s H locs n kc w) (e1 : va_at D vwCl (B + n, bw_cell C B (bz w n) n) H1) (z1 : H1.size = H.size + 1) (o1 : ∀ q, q < H.size → H1[q]? = H[q]?) : bw_Rl D C B s H1 locs (n + 1) (kc + 1) (bz w n) := by
  obtain ⟨hP, hK, hS, hz, hX⟩ := X
  refine ⟨?_, hK, ⟨Nat.le_trans hS.1 (by omega), fun x h1 h2 => (o1 x (Nat.lt_of_lt_of_le h1 hS.1)).trans (hS.2.1 x h1 h2), hS.2.2⟩, ⟨by omega, Nat.succ_pos _⟩, hX⟩
  have hsz := bw_ge2 hP hz.2
  rw [bw_push (fun b hb => bw_cell_bz hb)]
  refine (hP.kept (fun k x hx => ?_)).app (fun k x hx => ?_)
  · obtain ⟨h1, rfl⟩ := bw_get hx
    exact o1 _ (by show B + k < _; omega)
  · have hz : k < 1 := (List.getElem?_eq_some_iff.mp hx).1
    rw [show k = 0 by omega] at hx
    cases hx
    exact e1
theorem bw_newa (kd len : Nat) (atype : ArrayType) (a0 : vp_A) {x : Int32} (hd : decode K.1.2.1 pc = .ok (.newarray atype, 2)) (hn : pc + 2 = z) (hw : Cond.arrayClass (newarray.typeOf atype) ∈ aw_TB) (hx : ¬ x < 0) (hx2 : x.toNatClampNeg = len) (hb : len * componentBytes (newarray.typeOf atype) ≤ 536870912)
    (hty : ∀ C : Nat → ClassId, (aw_tys C)[kd]? = some (C kd, newarray.typeOf atype)) (hcell : ∀ (C : Nat → ClassId) (B : Nat), bw_cell C B (bz w n) n = .inl (C kd, a0)) (ha : ∀ cA : ClassId, vp_cell cA a0 = arrV cA len (fun _ => defaultValue (newarray.typeOf atype)))
    (hra : ∀ (U : State) (cA : ClassId), va_RA U cA (newarray.typeOf atype) → U.vm.findClass ("[" ++ (newarray.typeOf atype).toString) = some cA)
    (hc : kc + 1 ≤ K.2.2.1) (hs : ks + len ≤ K.2.2.2) (k : BW l K z L (.ref n :: st) (n + 1) (kc + 1) (ks + len) (bz w n) nf wf) : BW l K pc L (.int x :: st) n kc ks w nf wf := by
  subst hn
  intro p e R s m args below meth c E D C B H locs X ls hl
  refine bw_sz X (fun hsz => ?_)
  refine va_newaK E.1.1 E.1.2.1 (E.1.2.2.2.2.1 _ hw) rfl hd rfl hx hx2 hb (Nat.le_trans hc E.2.2.1) (Nat.le_trans hs E.2.2.2) hsz (fun H' cA e1 z1 o1 hAr hNm => ?_)
  have hc2 : C kd = cA := Option.some.inj ((hra _ _ (X.2.1.2 kd _ (hty C)).2).symm.trans hNm)
  refine k p e R s m args below meth c E D C B H' locs (bw_born X ?_ (by rw [z1, hsz]) (fun q hq => o1 q (by rw [← hsz]; exact hq))) ls hl
  rw [hcell]
  show H'[B + n]? = some (vp_cell _ _)
  rw [ha, hc2]
  exact e1
theorem bw_newI (len : Nat) {x : Int32} (hd : decode K.1.2.1 pc = .ok (.newarray .int, 2)) (hn : pc + 2 = z) (hw : Cond.arrayClass .int ∈ aw_TB) (hsh : aw_sh n = (0, len)) (hx : ¬ x < 0) (hx2 : x.toNatClampNeg = len) (hb : len * 4 ≤ 536870912) (hc : kc + 1 ≤ K.2.2.1) (hs : ks + len ≤ K.2.2.2) (k : BW l K z L (.ref n :: st) (n + 1) (kc + 1) (ks + len) (bz w n) nf wf) : BW l K pc L (.int x :: st) n kc ks w nf wf :=
  bw_newa 0 len .int (len, .inl (fun _ => 0)) hd hn hw hx hx2 hb (fun _ => rfl) (fun C B => by unfold bw_cell; rw [hsh]; show Sum.inl (C 0, len, Sum.inl (va_up w.1.1 n (fun _ => 0) n)) = _; rw [va_up_self]) (fun _ => rfl) (fun _ _ h => h) hc hs k
theorem bw_newB (len : Nat) {x : Int32} (hd : decode K.1.2.1 pc = .ok (.newarray .byte, 2)) (hn : pc + 2 = z) (hw : Cond.arrayClass .byte ∈ aw_TB) (hsh : aw_sh n = (1, len)) (hx : ¬ x < 0) (hx2 : x.toNatClampNeg = len) (hb : len * 1 ≤ 536870912) (hc : kc + 1 ≤ K.2.2.1) (hs : ks + len ≤ K.2.2.2) (k : BW l K z L (.ref n :: st) (n + 1) (kc + 1) (ks + len) (bz w n) nf wf) : BW l K pc L (.int x :: st) n kc ks w nf wf :=
  bw_newa 1 len .byte (len, .inl (fun _ => 0)) hd hn hw hx hx2 hb (fun _ => rfl) (fun C B => by unfold bw_cell; rw [hsh]; show Sum.inl (C 1, len, Sum.inl (va_up w.1.1 n (fun _ => 0) n)) = _; rw [va_up_self]) (fun _ => rfl) (fun _ _ h => h) hc hs k
theorem bw_newZ (len : Nat) {x : Int32} (hd : decode K.1.2.1 pc = .ok (.newarray .boolean, 2)) (hn : pc + 2 = z) (hw : Cond.arrayClass .boolean ∈ aw_TB) (hsh : aw_sh n = (2, len)) (hx : ¬ x < 0) (hx2 : x.toNatClampNeg = len) (hb : len * 1 ≤ 536870912) (hc : kc + 1 ≤ K.2.2.1) (hs : ks + len ≤ K.2.2.2) (k : BW l K z L (.ref n :: st) (n + 1) (kc + 1) (ks + len) (bz w n) nf wf) : BW l K pc L (.int x :: st) n kc ks w nf wf :=
  bw_newa 2 len .boolean (len, .inl (fun _ => 0)) hd hn hw hx hx2 hb (fun _ => rfl) (fun C B => by unfold bw_cell; rw [hsh]; show Sum.inl (C 2, len, Sum.inl (va_up w.1.1 n (fun _ => 0) n)) = _; rw [va_up_self]) (fun _ => rfl) (fun _ _ h => h) hc hs k
theorem bw_newJ (len : Nat) {x : Int32} (hd : decode K.1.2.1 pc = .ok (.newarray .long, 2)) (hn : pc + 2 = z) (hw : Cond.arrayClass .long ∈ aw_TB) (hsh : aw_sh n = (3, len)) (hx : ¬ x < 0) (hx2 : x.toNatClampNeg = len) (hb : len * 8 ≤ 536870912) (hc : kc + 1 ≤ K.2.2.1) (hs : ks + len ≤ K.2.2.2) (k : BW l K z L (.ref n :: st) (n + 1) (kc + 1) (ks + len) (bz w n) nf wf) : BW l K pc L (.int x :: st) n kc ks w nf wf :=
  bw_newa 3 len .long (len, .inr (.inl (fun _ => 0))) hd hn hw hx hx2 hb (fun _ => rfl) (fun C B => by unfold bw_cell; rw [hsh]; show Sum.inl (C 3, len, Sum.inr (Sum.inl (va_up w.1.2 n (fun _ => 0) n))) = _; rw [va_up_self]) (fun _ => rfl) (fun _ _ h => h) hc hs k
theorem bw_newS {x : Int32} {idx : Nat} (hd : decode K.1.2.1 pc = .ok (.anewarray idx, 3)) (hn : pc + 3 = z) (hw : Cond.classLink K.1.1 idx "OrangeFight$Scene" ∈ aw_TB) (hsh : aw_sh n = (4, 2)) (hx : x = 2) (hc : kc + 1 ≤ K.2.2.1) (hs : ks + 2 ≤ K.2.2.2) (k : BW l K z L (.ref n :: st) (n + 1) (kc + 1) (ks + 2) (bz w n) nf wf) : BW l K pc L (.int x :: st) n kc ks w nf wf := by
  subst hn
  subst hx
  intro p e R s m args below meth c E D C B H locs X ls hl
  refine bw_sz X (fun hsz => ?_)
  refine W.anew E.1.1 E.1.2.1 E.1.2.2.2.1 (E.1.2.2.2.2.1 _ hw) (va_AO.use X.2.2.2.2.choose_spec.choose_spec.2.2.2.2) rfl hd rfl (by decide) (by decide) (Nat.le_trans hc E.2.2.1) (Nat.le_trans hs E.2.2.2) (fun cA kA comp f1 f2 f3 f4 => ?_)
  obtain ⟨kA', comp', g1, g2, g3, g4⟩ : va_RA s (C 4) (.object "OrangeFight$Scene") := (X.2.1.2 4 (C 4, .object "OrangeFight$Scene") rfl).2
  have hc2 : C 4 = cA := Option.some.inj (g4.symm.trans f1)
  generalize hH1 : H.push ({ cls := cA, slots := Array.replicate (2 : Int32).toNatClampNeg .null, vm := .none } : Cell) = H1
  have z1 : H1.size = H.size + 1 := by rw [← hH1, Array.size_push]
  have e1 : H1[H.size]? = some (arrV cA 2 (fun _ => .null)) := by rw [← hH1, Array.getElem?_push_size]; rfl
  have o1 : ∀ q : Nat, q < H.size → H1[q]? = H[q]? := fun q hq => by rw [← hH1, Array.getElem?_push, if_neg (Nat.ne_of_lt hq)]
  have kk := k p e R s m args below meth c E D C B H1 locs (bw_born X (by
    have hcell : bw_cell C B (bz w n) n = .inl (C 4, 2, .inr (.inr (.inr (.inr (fun _ => none))))) := by
      unfold bw_cell
      rw [hsh]
      show Sum.inl (C 4, 2, Sum.inr (Sum.inr (Sum.inr (Sum.inr (fun j => (va_up w.2 n (fun _ => none) n j).map (fun i => B + i)))))) = _
      rw [va_up_self]
      rfl
    rw [hcell]
    show H1[B + n]? = some (vp_cell _ _)
    rw [← hsz, hc2]
    exact e1) z1 o1) ls hl
  rw [hsz]
  exact kk
theorem bw_new (ci : Nat) (q : vw_C) {idx : Nat} (ty : Nat → FieldType) (hd : decode K.1.2.1 pc = .ok (.new idx, 3)) (hn : pc + 3 = z) (hq : vwCl[ci]? = some q) (h1 : Cond.classLink K.1.1 idx q.1 ∈ aw_TB) (h2 : Cond.instantiable q.1 q.2.2 ∈ aw_TB) (h3 : Cond.initialized q.1 ∈ aw_TB) (h4 : ∀ w ∈ u_ws q.1 q.2.1 q.2.2, w ∈ aw_TB)
    (hty : ∀ k, k < q.2.2 → parseFieldDescriptor (q.2.1 k).2.2.1 = some (ty k)) (hsh : aw_sh n = (ci + 5, q.2.2)) (hfs : ∀ j, j < q.2.2 → ∃ t, (aw_ty ci)[j]? = some t ∧ defaultValue (ty j) = (match t with | 0 => .int 0 | 1 => .long 0 | _ => .null))
    (hc : kc + 1 ≤ K.2.2.1) (hs : ks + q.2.2 ≤ K.2.2.2) (k : BW l K z L (.ref n :: st) (n + 1) (kc + 1) (ks + q.2.2) (bz w n) nf wf) : BW l K pc L st n kc ks w nf wf := by
  subst hn
  intro p e R s m args below meth c E D C B H locs X ls hl
  obtain ⟨qn, qT, qN⟩ := q
  have hts := E.1.2.2.2.2.1
  have hKn := X.2.1.1 ci _ hq
  refine bw_sz X (fun hsz => ?_)
  refine W.newcK E.1.1 E.1.2.1 E.1.2.2.2.1 (hts _ h1) (hts _ h2) (hts _ h3) rfl hd (Nat.le_trans hc E.2.2.1) (Nat.le_trans hs E.2.2.2) hKn.2.1 hsz (fun H1 kC hkC e1 z1 o1 => ?_)
  refine k p e R s m args below meth c E D C B H1 locs (bw_born X ?_ (by rw [z1, hsz]) (fun q hq => o1 q (by rw [← hsz]; exact hq))) ls hl
  have hcell : bw_cell C B (bz w n) n = .inr (ci, (aw_ty ci).mapIdx (fun k t => bw_val B (bz w n) n k t)) := by unfold bw_cell; rw [hsh]
  rw [hcell]
  refine ⟨_, hq, (u_born ty hts h4 hKn hkC e1 hty).to (fun j hj => ?_)⟩
  obtain ⟨t, ht, hv⟩ := hfs j hj
  show defaultValue (ty j) = ((aw_ty ci).mapIdx (fun k t => bw_val B (bz w n) n k t)).getD j .null
  rw [hv, List.getD_eq_getElem?_getD, List.getElem?_mapIdx, ht]
  have z1 : (bz w n).1.1 n = fun _ => 0 := va_up_self _ _ _
  have z2 : (bz w n).1.2 n = fun _ => 0 := va_up_self _ _ _
  have z3 : (bz w n).2 n = fun _ => none := va_up_self _ _ _
  show _ = bw_val B (bz w n) n j t
  unfold bw_val
  rw [z1, z2, z3]
  match t with
  | 0 => rfl
  | 1 => rfl
  | t + 2 => rfl
theorem bw_getR (q : vw_C) (ci j : Nat) {a b idx : Nat} (hd : decode K.1.2.1 pc = .ok (.getfield idx, 3)) (hn : pc + 3 = z) (ha : (aw_sh a).1 = ci + 5) (han : a < n) (F : aw_fd q ci j K.1.1 idx 2) (hv : w.2 a j = some b) (k : BW l K z L (.ref b :: st) n kc ks w nf wf) : BW l K pc L (.ref a :: st) n kc ks w nf wf := by
  subst hn
  intro p e R s m args below meth c E D C B H locs X ls hl
  obtain ⟨hP, hK, hS, hz, hX⟩ := id X
  have hcell : bw_cell C B w a = .inr (ci, (aw_ty ci).mapIdx (fun k t => bw_val B w a k t)) := by unfold bw_cell; rw [ha]
  obtain ⟨qn, qT, qN⟩ := q
  obtain ⟨f1, f2, f3, f4, f5⟩ := F
  refine va_get (D := D) (v := .ref (B + b)) E.1.1 E.1.2.1 E.1.2.2.2.2.1 f4 E.1.2.2.2.1 hK hP a (by rw [bw_at han, hcell]) f1 _ f2 (E.1.2.2.2.2.1 _ f3) (fun _ h => h) ?_ hd (k p e R s m args below meth c E D C B H locs X ls hl)
  rw [List.getElem?_mapIdx, f5]
  show some (va_rf ((w.2 a j).map (fun i => B + i))) = _
  rw [hv]
  rfl
theorem bw_getI (q : vw_C) (ci j : Nat) {a idx : Nat} (hd : decode K.1.2.1 pc = .ok (.getfield idx, 3)) (hn : pc + 3 = z) (ha : (aw_sh a).1 = ci + 5) (han : a < n) (F : aw_fd q ci j K.1.1 idx 0) (k : BW l K z L (.int (w.1.1 a j) :: st) n kc ks w nf wf) : BW l K pc L (.ref a :: st) n kc ks w nf wf := by
  subst hn
  intro p e R s m args below meth c E D C B H locs X ls hl
  obtain ⟨hP, hK, hS, hz, hX⟩ := id X
  have hcell : bw_cell C B w a = .inr (ci, (aw_ty ci).mapIdx (fun k t => bw_val B w a k t)) := by unfold bw_cell; rw [ha]
  obtain ⟨qn, qT, qN⟩ := q
  obtain ⟨f1, f2, f3, f4, f5⟩ := F
  refine va_get (D := D) (v := .int (w.1.1 a j)) E.1.1 E.1.2.1 E.1.2.2.2.2.1 f4 E.1.2.2.2.1 hK hP a (by rw [bw_at han, hcell]) f1 _ f2 (E.1.2.2.2.2.1 _ f3) (fun _ h => h) ?_ hd (k p e R s m args below meth c E D C B H locs X ls hl)
  rw [List.getElem?_mapIdx, f5]
  rfl
theorem bw_fs {C : Nat → ClassId} {B a ci j t : Nat} {v : Value} {w w2 : bw_T} (ha : (aw_sh a).1 = ci + 5) (ht : (aw_ty ci)[j]? = some t) (h2 : ∀ (i t' : Nat), (aw_ty ci)[i]? = some t' → bw_val B w2 a i t' = if j = i then v else bw_val B w a i t') : .inr (ci, ((aw_ty ci).mapIdx (fun k t => bw_val B w a k t)).set j v) = bw_cell C B w2 a := by
  have hjl : j < (aw_ty ci).length := (List.getElem?_eq_some_iff.mp ht).1
  have hc : bw_cell C B w2 a = .inr (ci, (aw_ty ci).mapIdx (fun k t => bw_val B w2 a k t)) := by unfold bw_cell; rw [ha]
  rw [hc]
  congr 2
  apply List.ext_getElem?
  intro i
  rw [List.getElem?_set, List.getElem?_mapIdx, List.getElem?_mapIdx, List.length_mapIdx]
  cases hi : (aw_ty ci)[i]? with
  | none =>
    have hge : (aw_ty ci).length ≤ i := by simpa using hi
    rw [if_neg (by omega)]
    rfl
  | some t' =>
    by_cases e : j = i
    · rw [if_pos e, if_pos hjl]
      simp only [Option.map_some]
      rw [h2 i t' hi, if_pos e]
    · rw [if_neg e]
      simp only [Option.map_some]
      rw [h2 i t' hi, if_neg e]
theorem bw_putR (q : vw_C) (ci j : Nat) {a b idx : Nat} {ty : FieldType} (hd : decode K.1.2.1 pc = .ok (.putfield idx, 3)) (hn : pc + 3 = z) (ha : (aw_sh a).1 = ci + 5) (han : a < n) (F : aw_fd q ci j K.1.1 idx 2) (hty : ∃ ty0 : Nat → FieldType, ∀ j, j < q.2.2 → parseFieldDescriptor (q.2.1 j).2.2.1 = some (ty0 j)) (hnm : ∀ a, a < q.2.2 → ∀ b, b < q.2.2 → a ≠ b → (q.2.1 a).2.1 ≠ (q.2.1 b).2.1)
    (hfin : (q.2.1 j).2.2.2 = true) (hin : K.2.1 = "<init>") (hdecl : (q.2.1 j).1 = K.1.1) (hpd : parseFieldDescriptor (q.2.1 j).2.2.1 = some ty) (hna : ∀ x : Nat, narrow ty (.ref x) = .ref x) (hfi : ∀ x : Nat, fits ty (.ref x) = true) (k : BW l K z L st n kc ks (bp w a j b) nf wf) : BW l K pc L (.ref b :: .ref a :: st) n kc ks w nf wf := by
  subst hn
  intro p e R s m args below meth c E D C B H locs X ls hl
  obtain ⟨hP, hK, hS, hz, hX⟩ := id X
  have hcell : bw_cell C B w a = .inr (ci, (aw_ty ci).mapIdx (fun k t => bw_val B w a k t)) := by unfold bw_cell; rw [ha]
  obtain ⟨qn, qT, qN⟩ := q
  obtain ⟨f1, f2, f3, f4, f5⟩ := F
  obtain ⟨ty0, f6⟩ := hty
  have hjl : j < (aw_ty ci).length := (List.getElem?_eq_some_iff.mp f5).1
  refine va_putF (D := D) E.1.1 E.1.2.1 E.1.2.2.2.2.1 f4 ty0 f6 hnm E.1.2.2.2.1 hK hP bw_D hS a (by rw [bw_at han, hcell]) f1 j f2 (E.1.2.2.2.2.1 _ f3) (fun _ h => h) hfin (E.2.1.trans hin) hdecl hpd (hna _) (hfi _) (by rw [List.length_mapIdx]; exact hjl) hd (fun H1 locs1 q1 q2 q3 => ?_)
  have hset := bw_set (C := C) (B := B) (w := w) (w' := bp w a j b) (n := n) (a := a) (E := .inr (ci, ((aw_ty ci).mapIdx (fun k t => bw_val B w a k t)).set j (.ref (B + b)))) han (bw_fs ha f5 (fun i t' hi => by
      by_cases e : j = i
      · subst e
        rw [if_pos rfl]
        rw [hi] at f5
        cases f5
        show va_rf ((va_up w.2 a (va_up (w.2 a) j (some b)) a j).map (fun i => B + i)) = _
        rw [va_up_self, va_up_self]
        rfl
      · rw [if_neg e]
        match t' with
        | 0 => rfl
        | 1 => rfl
        | t + 2 =>
          show va_rf ((va_up w.2 a (va_up (w.2 a) j (some b)) a i).map (fun i => B + i)) = _
          rw [va_up_self, va_up_ne _ _ (fun q => e q.symm)]
          rfl)) (fun c hc => bw_cell_congr rfl rfl (va_up_ne _ _ hc))
  have q1 : va_P D vwCl ((bw_ws C B w n).set a (B + a, .inr (ci, ((aw_ty ci).mapIdx (fun k t => bw_val B w a k t)).set j (.ref (B + b))))) H1 := q1
  rw [hset] at q1
  exact k p e R s m args below meth c E D C B H1 locs1 ⟨q1, hK, q3, hz, hX⟩ ls hl
theorem bw_putI (q : vw_C) (ci j : Nat) {a idx : Nat} {x : Int32} {ty : FieldType} (hd : decode K.1.2.1 pc = .ok (.putfield idx, 3)) (hn : pc + 3 = z) (ha : (aw_sh a).1 = ci + 5) (han : a < n) (F : aw_fp q ci j K.1.1 idx 0 ty) (hna : narrow ty (.int x) = .int x) (hfi : fits ty (.int x) = true) (k : BW l K z L st n kc ks (bI w a j x) nf wf) : BW l K pc L (.int x :: .ref a :: st) n kc ks w nf wf := by
  subst hn
  intro p e R s m args below meth c E D C B H locs X ls hl
  obtain ⟨hP, hK, hS, hz, hX⟩ := id X
  have hcell : bw_cell C B w a = .inr (ci, (aw_ty ci).mapIdx (fun k t => bw_val B w a k t)) := by unfold bw_cell; rw [ha]
  obtain ⟨qn, qT, qN⟩ := q
  obtain ⟨⟨f1, f2, f3, f4, f5⟩, ⟨ty0, f6⟩, f7, f8, f9⟩ := F
  have hjl : j < (aw_ty ci).length := (List.getElem?_eq_some_iff.mp f5).1
  refine va_put (D := D) E.1.1 E.1.2.1 E.1.2.2.2.2.1 f4 ty0 f6 f7 E.1.2.2.2.1 hK hP bw_D hS a (by rw [bw_at han, hcell]) f1 j f2 (E.1.2.2.2.2.1 _ f3) (fun _ h => h) f8 f9 hna hfi (by rw [List.length_mapIdx]; exact hjl) hd (fun H1 locs1 q1 q2 q3 => ?_)
  have hset := bw_set (C := C) (B := B) (w := w) (w' := bm w (aw_wI w.1 a j x)) (n := n) (a := a) (E := .inr (ci, ((aw_ty ci).mapIdx (fun k t => bw_val B w a k t)).set j (.int x))) han (bw_fs ha f5 (fun i t' hi => by
      by_cases e : j = i
      · subst e
        rw [if_pos rfl]
        rw [hi] at f5
        cases f5
        show Value.int (va_up w.1.1 a (upd (w.1.1 a) j x) a j) = _
        rw [va_up_self, pk_us]
      · rw [if_neg e]
        match t' with
        | 0 =>
          show Value.int (va_up w.1.1 a (upd (w.1.1 a) j x) a i) = _
          rw [va_up_self, pk_un (fun q => e q.symm)]
          rfl
        | 1 => rfl
        | t + 2 => rfl)) (fun c hc => bw_cell_congr (va_up_ne _ _ hc) rfl rfl)
  have q1 : va_P D vwCl ((bw_ws C B w n).set a (B + a, .inr (ci, ((aw_ty ci).mapIdx (fun k t => bw_val B w a k t)).set j (.int x)))) H1 := q1
  rw [hset] at q1
  exact k p e R s m args below meth c E D C B H1 locs1 ⟨q1, hK, q3, hz, hX⟩ ls hl
theorem bw_iastore (len : Nat) {a : Nat} {i x : Int32} (hd : decode K.1.2.1 pc = .ok (.iastore, 1)) (hn : pc + 1 = z) (ha : aw_sh a = (0, len)) (han : a < n) (hi : vp_in i len) (k : BW l K z L st n kc ks (bI w a i.toNatClampNeg x) nf wf) : BW l K pc L (.int x :: .int i :: .ref a :: st) n kc ks w nf wf := by
  subst hn
  intro p e R s m args below meth c E D C B H locs X ls hl
  obtain ⟨hP, hK, hS, hz, hX⟩ := id X
  have hcell : ∀ w, bw_cell C B w a = .inl (C 0, len, .inl (w.1.1 a)) := fun w => by unfold bw_cell; rw [ha]
  refine va_iast (D := D) E.1.1 E.1.2.1 hK hP bw_D hS a 0 (by rw [bw_at han, hcell]) rfl hi hd (fun H1 locs1 q1 q2 q3 => ?_)
  rw [bw_set (w := w) (w' := bm w (aw_wI w.1 a i.toNatClampNeg x)) han (by rw [hcell]; show _ = Sum.inl (C 0, len, Sum.inl (va_up w.1.1 a _ a)); rw [va_up_self]) (fun c hc => bw_cell_congr (va_up_ne _ _ hc) rfl rfl)] at q1
  exact k p e R s m args below meth c E D C B H1 locs1 ⟨q1, hK, q3, hz, hX⟩ ls hl
theorem bw_lastore (len : Nat) {a : Nat} {i : Int32} {x : Int64} (hd : decode K.1.2.1 pc = .ok (.lastore, 1)) (hn : pc + 1 = z) (ha : aw_sh a = (3, len)) (han : a < n) (hi : vp_in i len) (k : BW l K z L st n kc ks (bL w a i.toNatClampNeg x) nf wf) : BW l K pc L (.long x :: .int i :: .ref a :: st) n kc ks w nf wf := by
  subst hn
  intro p e R s m args below meth c E D C B H locs X ls hl
  obtain ⟨hP, hK, hS, hz, hX⟩ := id X
  have hcell : ∀ w, bw_cell C B w a = .inl (C 3, len, .inr (.inl (w.1.2 a))) := fun w => by unfold bw_cell; rw [ha]
  refine va_last (D := D) E.1.1 E.1.2.1 hK hP bw_D hS a 3 (by rw [bw_at han, hcell]) rfl hi hd (fun H1 locs1 q1 q2 q3 => ?_)
  rw [bw_set (w := w) (w' := bm w (aw_wL w.1 a i.toNatClampNeg x)) han (by rw [hcell]; show _ = Sum.inl (C 3, len, Sum.inr (Sum.inl (va_up w.1.2 a _ a))); rw [va_up_self]) (fun c hc => bw_cell_congr rfl (va_up_ne _ _ hc) rfl)] at q1
  exact k p e R s m args below meth c E D C B H1 locs1 ⟨q1, hK, q3, hz, hX⟩ ls hl
theorem bw_aastore {a b : Nat} {i : Int32} (hd : decode K.1.2.1 pc = .ok (.aastore, 1)) (hn : pc + 1 = z) (ha : aw_sh a = (4, 2)) (hb : (aw_sh b).1 = 9) (han : a < n) (hbn : b < n) (hi : vp_in i 2) (k : BW l K z L st n kc ks (bp w a i.toNatClampNeg b) nf wf) : BW l K pc L (.ref b :: .int i :: .ref a :: st) n kc ks w nf wf := by
  subst hn
  intro p e R s m args below meth c E D C B H locs X ls hl
  obtain ⟨hP, hK, hS, hz, hX⟩ := id X
  have hcell : ∀ w : bw_T, bw_cell C B w a = .inl (C 4, 2, .inr (.inr (.inr (.inr (fun j => (w.2 a j).map (fun i => B + i)))))) := fun w => by unfold bw_cell; rw [ha]
  have hcellb : bw_cell C B w b = .inr (4, (aw_ty 4).mapIdx (fun k t => bw_val B w b k t)) := by unfold bw_cell; rw [hb]
  refine va_astq (D := D) (r := (RX4, TX4, 5)) E.1.1 E.1.2.1 hK hP bw_D hS a 4 b 4 (by rw [bw_at han, hcell]) rfl (by rw [bw_at hbn, hcellb]) rfl hi hd (fun H1 locs1 q1 q2 q3 => ?_)
  have q1 : va_P D vwCl ((bw_ws C B w n).set a (B + a, .inl (C 4, 2, .inr (.inr (.inr (.inr (va_up (fun j => (w.2 a j).map (fun i => B + i)) i.toNatClampNeg (some (B + b))))))))) H1 := q1
  rw [bw_set (w := w) (w' := bp w a i.toNatClampNeg b) han (by
    rw [hcell]
    congr 7
    funext j
    show _ = ((va_up w.2 a (va_up (w.2 a) i.toNatClampNeg (some b))) a j).map (fun i => B + i)
    rw [va_up_self]
    unfold va_up
    by_cases e : j = i.toNatClampNeg
    · rw [if_pos e, if_pos e]; rfl
    · rw [if_neg e, if_neg e]) (fun c hc => bw_cell_congr rfl rfl (va_up_ne _ _ hc))] at q1
  exact k p e R s m args below meth c E D C B H1 locs1 ⟨q1, hK, q3, hz, hX⟩ ls hl
theorem bw_iaload (len : Nat) {a : Nat} {i : Int32} (hd : decode K.1.2.1 pc = .ok (.iaload, 1)) (hn : pc + 1 = z) (ha : aw_sh a = (0, len)) (han : a < n) (hi : vp_in i len) (k : BW l K z L (.int (w.1.1 a i.toNatClampNeg) :: st) n kc ks w nf wf) : BW l K pc L (.int i :: .ref a :: st) n kc ks w nf wf := by
  subst hn
  intro p e R s m args below meth c E D C B H locs X ls hl
  have hcell : ∀ w, bw_cell C B w a = .inl (C 0, len, .inl (w.1.1 a)) := fun w => by unfold bw_cell; rw [ha]
  exact va_iald (D := D) E.1.1 E.1.2.1 X.2.1 X.1 a 0 (by rw [bw_at han, hcell]) rfl hi hd (k p e R s m args below meth c E D C B H locs X ls hl)
theorem bw_alen (len : Nat) {a : Nat} (hd : decode K.1.2.1 pc = .ok (.arraylength, 1)) (hn : pc + 1 = z) (ha : aw_sh a = (0, len)) (han : a < n) (k : BW l K z L (.int (nI len) :: st) n kc ks w nf wf) : BW l K pc L (.ref a :: st) n kc ks w nf wf := by
  subst hn
  intro p e R s m args below meth c E D C B H locs X ls hl
  have hcell : ∀ w, bw_cell C B w a = .inl (C 0, len, .inl (w.1.1 a)) := fun w => by unfold bw_cell; rw [ha]
  have hat : (bw_ws C B w n)[a]? = some (B + a, .inl (C 0, len, .inl (w.1.1 a))) := by rw [bw_at han, hcell]
  exact va_alen (D := D) E.1.1 E.1.2.1 X.2.1 X.1 a 0 hat rfl rfl hd (k p e R s m args below meth c E D C B H locs X ls hl)
end bw_heap
section bw_call
variable {l : Launch} {K : bw_K} {pc z kc ks n nf : Nat} {L : List (Option Value)} {st : List Value} {w wf : bw_T} {y : MethodName} {cc : ByteArray} {mL dF dL mc ms idx n1 : Nat} {as : List Value} {w1 : bw_T}
theorem bw_cont {p : Program} {e : Env} {R : Room} {s : State} {m : MethodId} {args : Array Value} {below : List Frame} {meth : Method} {c : Code} {D : va_G} {C : Nat → ClassId} {B : Nat} {H : Heap} {locs : List Loc} {ls : Array Slot} {st0 rest : List Value} {Q : State → Prop} {a : Array Value}
    (hr : va_Run p l e R s m args below meth c H locs kc ks mc ms (F0 m pc ls st0) rest (bw_Q D C B n1 w1 a) (fun q => B ≤ q)) (X : bw_Rl D C B s H locs n kc w) (hn1 : n1 = n + mc)
    (kk : ∀ (H1 : Heap) (locs1 : List Loc), bw_Rl D C B s H1 locs1 n1 (kc + mc) w1 → W p l e R s m args below meth c H1 locs1 (kc + mc) (ks + ms) Q (F0 m (pc + 3) ls rest)) : W p l e R s m args below meth c H locs kc ks Q (F0 m pc ls st0) := by
  obtain ⟨hP, hK, hS, hz0, hX⟩ := X
  intro T hT Y
  obtain ⟨v, st₀, t, T', L, h0, X', hL, e1, e2, ⟨⟨hv, hp, hsz, hk⟩, hz, hq⟩, st⟩ := hr T hT Y
  rw [h0] at hz hq
  have hv' : v = none := by cases hv; rfl
  subst hv'
  obtain ⟨t2, a1, b1⟩ := kk T'.heap (locs ++ L) ⟨by rw [e1]; exact hp, hK, ⟨Nat.le_trans hS.1 (by rw [e1]; exact hz), fun q h1 h2 => by rw [e1, hq q (Nat.lt_of_lt_of_le h1 hS.1) h2]; exact hS.2.1 q h1 h2, fun q hq => by
      rcases List.mem_append.mp hq with h | h
      · exact hS.2.2 q h
      · exact hL q h⟩, ⟨by omega, by omega⟩, hX⟩ T' rfl X'
  exact ⟨t2, st t2 a1, b1⟩
theorem bw_pre {s : State} {D : va_G} {C : Nat → ClassId} {B : Nat} {H : Heap} {locs : List Loc} (X : bw_Rl D C B s H locs n kc w) (hN : aw_Nk s) (hz : H.size = B + n) (as : List Value) : ∀ U : State, U.heap = H → s.WarmedH U.vm → va_Pc (as.map (aw_c (bw_ad B))) (fun U => U.heap.size = B + n ∧ va_P D vwCl (bw_ws C B w n) U.heap ∧ va_K D vwCl (aw_tys C) U ∧ aw_Nk U ∧ bw_X (fun q => B ≤ q) U U.heap) (as.map (aw_c (bw_ad B))).toArray U :=
  fun U hU hW => ⟨rfl, by rw [hU]; exact hz, by rw [hU]; exact X.1, va_K.moved hW.alike X.2.1, hN.warm hW, by rw [hU]; exact (X.2.2.2.2.kept X.2.2.1.2.1).warm hW⟩
theorem bw_blind {D : va_G} {C : Nat → ClassId} {B : Nat} {as : List Value} : FrameBlind (va_Pc (as.map (aw_c (bw_ad B))) (fun U => U.heap.size = B + n ∧ va_P D vwCl (bw_ws C B w n) U.heap ∧ va_K D vwCl (aw_tys C) U ∧ aw_Nk U ∧ bw_X (fun q => B ≤ q) U U.heap)) :=
  fun a U g mk q => by
    obtain ⟨q0, q1, qP, qK, qN, qX⟩ := q
    exact ⟨q0, q1, qP, va_K.moved (u := U) (U := U.calling g mk a) (Vm.Alike.refl U.vm) qK, aw_Nk.same (s := U) (U := U.calling g mk a) rfl qN, bw_X.same (s := U) (U := U.calling g mk a) rfl qX⟩
theorem bw_callI {b : Nat} {st0 : List Value} (hd : decode K.1.2.1 pc = .ok (.invokespecial idx, 3)) (hn : pc + 3 = z) (hs : st0 = as.reverse ++ .ref b :: st) (hM : BM l y cc mL dF dL mc ms (.ref b :: as) n w n1 w1) (hw : aw_cs K.1.1 idx y cc mL none as.length) (hy : y.name = "<init>") (hi : Cond.instanceMethod y ∈ aw_TB)
    (hR : dF + 1 ≤ K.1.2.2.2.2.1 ∧ 8 + (mL + 11) + dL ≤ K.1.2.2.2.2.2) (hst : ∀ ad, ((st.map (aw_c ad)).map fun v => v.category).sum ≤ 8) (hn1 : n1 = n + mc) (hc : kc + mc ≤ K.2.2.1) (hk : ks + ms ≤ K.2.2.2) (k : BW l K z L st n1 (kc + mc) (ks + ms) w1 nf wf) : BW l K pc L st0 n kc ks w nf wf := by
  subst hn
  subst hs
  intro p e R s m args below meth c E D C B H locs X ls hl
  refine bw_sz X (fun hz => ?_)
  obtain ⟨w1', w2, w3, w4, w5⟩ := hw
  have hts := E.1.2.2.2.2.1
  have run := va_runI (e := e) (below := below) (meth := meth) (locs := locs) (cells := kc) (slots := ks) (As := as.map (aw_c (bw_ad B))) (rest := st.map (aw_c (bw_ad B))) (b := B + b) (g := F0 m pc ls ((as.reverse ++ .ref b :: st).map (aw_c (bw_ad B)))) ⟨E.1.1, E.1.2.1, E.1.2.2.1, E.1.2.2.2.1, hts⟩ (hM D C B)
    ⟨⟨rfl, rfl, Nat.le_trans hR.1 E.1.2.2.2.2.2.2.2.1, Nat.le_trans hR.2 E.1.2.2.2.2.2.2.2.2.1, aw_pay hts w1', List.mem_cons_self, hts _ w1', hts _ w2, w3, aw_par w4, hts _ w5⟩, hy, hts _ hi⟩
    ⟨bw_blind, bw_pre X E.1.2.2.2.2.2.2.2.2.2 hz (.ref b :: as)⟩ rfl (by rw [List.length_map]) hl.1 (by simp [List.map_append, List.map_reverse, aw_c]) (lv_room (hst (bw_ad B))) hd ⟨Nat.le_trans hc E.2.2.1, Nat.le_trans hk E.2.2.2⟩
  exact bw_cont run X hn1 (fun H1 locs1 X1 => k p e R s m args below meth c E D C B H1 locs1 X1 ls hl)
theorem bw_callIN (host : String) {b : Nat} {st0 : List Value} (hd : decode K.1.2.1 pc = .ok (.invokespecial idx, 3)) (hn : pc + 3 = z) (hs : st0 = as.reverse ++ .ref b :: st) (hM : BM l y cc mL dF dL mc ms (.ref b :: as) n w n1 w1) (hw : Cond.code y cc mL none ∈ aw_TB ∧ Cond.initialized y.cls ∈ aw_TB ∧ (y.cls ≠ "java/lang/invoke/MethodHandle" ∧ y.cls ≠ "java/lang/invoke/VarHandle") ∧ (parseMethodDescriptor y.desc).map (fun d => d.parameters.length) = some as.length ∧ (K.1.1, idx, y, host) ∈ aw_NL) (hy : y.name = "<init>") (hi : Cond.instanceMethod y ∈ aw_TB)
    (hR : dF + 1 ≤ K.1.2.2.2.2.1 ∧ 8 + (mL + 11) + dL ≤ K.1.2.2.2.2.2) (hst : ∀ ad, ((st.map (aw_c ad)).map fun v => v.category).sum ≤ 8) (hn1 : n1 = n + mc) (hc : kc + mc ≤ K.2.2.1) (hk : ks + ms ≤ K.2.2.2) (k : BW l K z L st n1 (kc + mc) (ks + ms) w1 nf wf) : BW l K pc L st0 n kc ks w nf wf := by
  subst hn
  subst hs
  intro p e R s m args below meth c E D C B H locs X ls hl
  refine bw_sz X (fun hz => ?_)
  obtain ⟨w1', w2, w3, w4, w5⟩ := hw
  have hts := E.1.2.2.2.2.1
  have run := va_runIN (e := e) (host := host) (below := below) (meth := meth) (locs := locs) (cells := kc) (slots := ks) (As := as.map (aw_c (bw_ad B))) (rest := st.map (aw_c (bw_ad B))) (b := B + b) (g := F0 m pc ls ((as.reverse ++ .ref b :: st).map (aw_c (bw_ad B)))) ⟨E.1.1, E.1.2.1, E.1.2.2.1, E.1.2.2.2.1, hts⟩ (hM D C B)
    ⟨⟨⟨rfl, rfl, Nat.le_trans hR.1 E.1.2.2.2.2.2.2.2.1, Nat.le_trans hR.2 E.1.2.2.2.2.2.2.2.2.1, aw_pay hts w1', List.mem_cons_self⟩, hts _ w1', hts _ w2, w3, aw_par w4, va_Nw.use rfl (E.1.2.2.2.2.2.2.2.2.2 _ w5)⟩, hy, hts _ hi⟩
    ⟨bw_blind, bw_pre X E.1.2.2.2.2.2.2.2.2.2 hz (.ref b :: as)⟩ rfl (by rw [List.length_map]) hl.1 (by simp [List.map_append, List.map_reverse, aw_c]) (lv_room (hst (bw_ad B))) hd ⟨Nat.le_trans hc E.2.2.1, Nat.le_trans hk E.2.2.2⟩
  exact bw_cont run X hn1 (fun H1 locs1 X1 => k p e R s m args below meth c E D C B H1 locs1 X1 ls hl)
theorem bw_callV {b : Nat} {st0 : List Value} (q : vw_C) (ci : Nat) (hd : decode K.1.2.1 pc = .ok (.invokevirtual idx, 3)) (hn : pc + 3 = z) (hs : st0 = as.reverse ++ .ref b :: st) (hM : BM l y cc mL dF dL mc ms (.ref b :: as) n w n1 w1) (hb : (aw_sh b).1 = ci + 5) (hbn : b < n) (hq : vwCl[ci]? = some q) (hq1 : y.cls = q.1) (hw : aw_cv K.1.1 idx y cc mL none as.length)
    (hR : dF + 1 ≤ K.1.2.2.2.2.1 ∧ 8 + (mL + 11) + dL ≤ K.1.2.2.2.2.2) (hst : ∀ ad, ((st.map (aw_c ad)).map fun v => v.category).sum ≤ 8) (hn1 : n1 = n + mc) (hc : kc + mc ≤ K.2.2.1) (hk : ks + ms ≤ K.2.2.2) (k : BW l K z L st n1 (kc + mc) (ks + ms) w1 nf wf) : BW l K pc L st0 n kc ks w nf wf := by
  subst hn
  subst hs
  intro p e R s m args below meth c E D C B H locs X ls hl
  refine bw_sz X (fun hz => ?_)
  obtain ⟨⟨w1', w2, w3, w4, w5⟩, w6, w7⟩ := hw
  have hts := E.1.2.2.2.2.1
  have hat : (bw_ws C B w n)[b]? = some (B + b, .inr (ci, (aw_ty ci).mapIdx (fun k t => bw_val B w b k t))) := by
    rw [bw_at hbn]
    unfold bw_cell
    rw [hb]
  have run := va_runV (e := e) (below := below) (meth := meth) (locs := locs) (cells := kc) (slots := ks) (C := y.cls) (As := as.map (aw_c (bw_ad B))) (rest := st.map (aw_c (bw_ad B))) (b := B + b) (g := F0 m pc ls ((as.reverse ++ .ref b :: st).map (aw_c (bw_ad B)))) ⟨E.1.1, E.1.2.1, E.1.2.2.1, E.1.2.2.2.1, hts⟩ (hM D C B)
    ⟨⟨rfl, rfl, Nat.le_trans hR.1 E.1.2.2.2.2.2.2.2.1, Nat.le_trans hR.2 E.1.2.2.2.2.2.2.2.2.1, aw_pay hts w1', List.mem_cons_self, hts _ w1', hts _ w2, w3, aw_par w4, hts _ w5⟩, hts _ w6, hts _ w7⟩
    ⟨bw_blind, by rw [hq1]; exact va_recv X.2.1 X.1 (q := q) hq hat, bw_pre X E.1.2.2.2.2.2.2.2.2.2 hz (.ref b :: as)⟩ rfl (by rw [List.length_map]) hl.1 (by simp [List.map_append, List.map_reverse, aw_c]) (lv_room (hst (bw_ad B))) hd ⟨Nat.le_trans hc E.2.2.1, Nat.le_trans hk E.2.2.2⟩
  exact bw_cont run X hn1 (fun H1 locs1 X1 => k p e R s m args below meth c E D C B H1 locs1 X1 ls hl)
theorem bw_callS {st0 : List Value} (hd : decode K.1.2.1 pc = .ok (.invokestatic idx, 3)) (hn : pc + 3 = z) (hs : st0 = as.reverse ++ st) (hM : BM l y cc mL dF dL mc ms as n w n1 w1) (hw : aw_ct K.1.1 idx y cc mL none as.length)
    (hR : dF + 1 ≤ K.1.2.2.2.2.1 ∧ 8 + (mL + 11) + dL ≤ K.1.2.2.2.2.2) (hst : ∀ ad, ((st.map (aw_c ad)).map fun v => v.category).sum ≤ 8) (hn1 : n1 = n + mc) (hc : kc + mc ≤ K.2.2.1) (hk : ks + ms ≤ K.2.2.2) (k : BW l K z L st n1 (kc + mc) (ks + ms) w1 nf wf) : BW l K pc L st0 n kc ks w nf wf := by
  subst hn
  subst hs
  intro p e R s m args below meth c E D C B H locs X ls hl
  refine bw_sz X (fun hz => ?_)
  obtain ⟨⟨w1', w2, w3, w4, w5⟩, w6⟩ := hw
  have hts := E.1.2.2.2.2.1
  have run := va_runS (e := e) (below := below) (meth := meth) (locs := locs) (cells := kc) (slots := ks) (As := as.map (aw_c (bw_ad B))) (rest := st.map (aw_c (bw_ad B))) (g := F0 m pc ls ((as.reverse ++ st).map (aw_c (bw_ad B)))) ⟨E.1.1, E.1.2.1, E.1.2.2.1, E.1.2.2.2.1, hts⟩ (hM D C B)
    ⟨⟨rfl, rfl, Nat.le_trans hR.1 E.1.2.2.2.2.2.2.2.1, Nat.le_trans hR.2 E.1.2.2.2.2.2.2.2.2.1, aw_pay hts w1', List.mem_cons_self, hts _ w1', hts _ w2, w3, aw_par w4, hts _ w5⟩, hts _ w6⟩
    ⟨bw_blind, bw_pre X E.1.2.2.2.2.2.2.2.2.2 hz as⟩ rfl (by rw [List.length_map]) hl.1 (by simp [List.map_append, List.map_reverse]) (lv_room (hst (bw_ad B))) hd ⟨Nat.le_trans hc E.2.2.1, Nat.le_trans hk E.2.2.2⟩
  exact bw_cont run X hn1 (fun H1 locs1 X1 => k p e R s m args below meth c E D C B H1 locs1 X1 ls hl)
end bw_call
/-! Arrays.fill over a world that is being built -/
def bfill (μ : aw_M) (a : Nat) (v : Int32) (len : Nat) : aw_M := (va_up μ.1 a (fun j => if j < len then v else μ.1 a j), μ.2)
theorem bfill_0 (μ : aw_M) (a : Nat) (v : Int32) : bfill μ a v 0 = μ := by
  unfold bfill
  refine Prod.ext (funext fun b => funext fun j => ?_) rfl
  show va_up μ.1 a _ b j = μ.1 b j
  unfold va_up
  split
  · rename_i h
    simp only [h, Nat.not_lt_zero, if_false]
  · rfl
theorem bfill_s (μ : aw_M) (a : Nat) (v : Int32) (i : Nat) : aw_wI (bfill μ a v i) a i v = bfill μ a v (i + 1) := by
  unfold bfill aw_wI
  refine Prod.ext (funext fun b => funext fun j => ?_) rfl
  show va_up (va_up μ.1 a _) a (upd (va_up μ.1 a _ a) i v) b j = va_up μ.1 a _ b j
  unfold va_up upd
  by_cases e : b = a
  · simp only [if_pos e]
    by_cases e2 : j = i
    · rw [if_pos e2, if_pos (by omega)]
    · rw [if_neg e2]
      simp only [if_true]
      by_cases e3 : j < i
      · rw [if_pos e3, if_pos (by omega)]
      · rw [if_neg e3, if_neg (by omega)]
  · simp only [if_neg e]
def bF (w : bw_T) (a : Nat) (v : Int32) (len : Nat) : bw_T := bm w (bfill w.1 a v len)
abbrev kb_fill : bw_K := ((yJ7_fill_53178.cls, cJ7_fill_53178, 4, none, 1, 120), yJ7_fill_53178.name, 0, 0)
theorem bm_fill_loop (l : Launch) (a len n : Nat) (v : Int32) (w : bw_T) (ha : aw_sh a = (0, len)) (han : a < n) (hl : len < 2 ^ 31) : ∀ (k i : Nat), i + k = len → BW l kb_fill 5 [some (.ref a), some (.int v), some (.int (nI i)), some (.int (nI len))] [] n 0 0 (bm w (bfill w.1 a v i)) n (bm w (bfill w.1 a v len)) := by
  intro k
  induction k with
  | zero =>
    intro i hi
    have e : i = len := by omega
    subst e
    refine bw_iload_n (z := 6) dJ7_fill_53178_5 rfl rfl ?_
    refine bw_iload_n (z := 7) dJ7_fill_53178_6 rfl rfl ?_
    refine bw_icmp_ge_t 20 dJ7_fill_53178_7 (by decide) (nI_le (Nat.le_refl _) hl) ?_
    exact bw_vret rfl dJ7_fill_53178_20 rfl rfl rfl rfl
  | succ k ih =>
    intro i hi
    refine bw_iload_n (z := 6) dJ7_fill_53178_5 rfl rfl ?_
    refine bw_iload_n (z := 7) dJ7_fill_53178_6 rfl rfl ?_
    refine bw_icmp_ge_f (z := 10) dJ7_fill_53178_7 20 (by decide) rfl (nI_ge (by omega) hl) ?_
    refine bw_aload_n (z := 11) dJ7_fill_53178_10 rfl rfl ?_
    refine bw_iload_n (z := 12) dJ7_fill_53178_11 rfl rfl ?_
    refine bw_iload_n (z := 13) dJ7_fill_53178_12 rfl rfl ?_
    refine bw_iastore (z := 14) len dJ7_fill_53178_13 rfl ha han (vp_in_nI (by omega) hl) ?_
    rw [nI_clamp (by omega)]
    unfold bI
    refine bw_iinc (z := 17) (nI i + 1) [some (.ref a), some (.int v), some (.int (nI i + 1)), some (.int (nI len))] dJ7_fill_53178_14 rfl rfl rfl rfl (Nat.le_of_ble_eq_true rfl) rfl ?_
    refine bw_goto 5 dJ7_fill_53178_17 (by decide) ?_
    rw [← nI_succ]
    show BW l kb_fill 5 _ _ n 0 0 (bm w (aw_wI (bfill w.1 a v i) a i v)) n _
    rw [bfill_s]
    exact ih (i + 1) (by omega)
theorem bm_fill (l : Launch) (a len n : Nat) (v : Int32) (w : bw_T) (ha : aw_sh a = (0, len)) (han : a < n) (hl : len < 2 ^ 31) : BM l yJ7_fill_53178 cJ7_fill_53178 4 1 120 0 0 [.ref a, .int v] n w n (bF w a v len) := by
  refine bw_met [some (.ref a), some (.int v), none, none] (by omega) (by decide) (fun _ => rfl) (fun _ => Nat.le_of_ble_eq_true rfl) ?_
  show BW l kb_fill 0 [some (.ref a), some (.int v), none, none] [] n 0 0 w n _
  refine bw_iconst (z := 1) 0 dJ7_fill_53178_0 rfl (by decide) ?_
  refine bw_istore_n (z := 2) [some (.ref a), some (.int v), some (.int 0), none] dJ7_fill_53178_1 rfl rfl (Nat.le_of_ble_eq_true rfl) (Nat.le_of_ble_eq_true rfl) rfl ?_
  refine bw_aload_n (z := 3) dJ7_fill_53178_2 rfl rfl ?_
  refine bw_alen (z := 4) len dJ7_fill_53178_3 rfl ha han ?_
  refine bw_istore_n (z := 5) [some (.ref a), some (.int v), some (.int 0), some (.int (nI len))] dJ7_fill_53178_4 rfl rfl (Nat.le_of_ble_eq_true rfl) (Nat.le_of_ble_eq_true rfl) rfl ?_
  have h := bm_fill_loop l a len n v w ha han hl len 0 (by omega)
  rw [bfill_0] at h
  exact h
theorem bw_in {x : Int32} {n : Nat} (h : (decide (x < 0) || decide (n ≤ x.toNatClampNeg)) = false) : vp_in x n := by
  simp only [Bool.or_eq_false_iff, decide_eq_false_iff_not] at h
  exact fun q => q.elim h.1 h.2
