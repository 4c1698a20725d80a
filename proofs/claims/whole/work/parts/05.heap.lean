/-! cells: fields and arrays -/
theorem aw_cell_congr {C : Nat → ClassId} {ad : Nat → Nat} {μ μ' : aw_M} {b : Nat} (h1 : μ'.1 b = μ.1 b) (h2 : μ'.2 b = μ.2 b) : aw_cell C ad μ' b = aw_cell C ad μ b := by
  unfold aw_cell aw_val
  rw [h1, h2]
theorem aw_cell_I {C : Nat → ClassId} {ad : Nat → Nat} {μ : aw_M} {a : Nat} (h : (aw_sh a).1 = 0) : aw_cell C ad μ a = .inl (C 0, (aw_sh a).2, .inl (μ.1 a)) := by
  unfold aw_cell
  rw [h]
theorem aw_cell_B {C : Nat → ClassId} {ad : Nat → Nat} {μ : aw_M} {a : Nat} (h : (aw_sh a).1 = 1) : aw_cell C ad μ a = .inl (C 1, (aw_sh a).2, .inl (μ.1 a)) := by
  unfold aw_cell
  rw [h]
theorem aw_cell_Z {C : Nat → ClassId} {ad : Nat → Nat} {μ : aw_M} {a : Nat} (h : (aw_sh a).1 = 2) : aw_cell C ad μ a = .inl (C 2, (aw_sh a).2, .inl (μ.1 a)) := by
  unfold aw_cell
  rw [h]
theorem aw_cell_J {C : Nat → ClassId} {ad : Nat → Nat} {μ : aw_M} {a : Nat} (h : (aw_sh a).1 = 3) : aw_cell C ad μ a = .inl (C 3, (aw_sh a).2, .inr (.inl (μ.2 a))) := by
  unfold aw_cell
  rw [h]
theorem aw_cell_S {C : Nat → ClassId} {ad : Nat → Nat} {μ : aw_M} {a : Nat} (h : (aw_sh a).1 = 4) : aw_cell C ad μ a = .inl (C 4, (aw_sh a).2, .inr (.inr (.inr (.inr (fun j => some (ad (aw_rf a j))))))) := by
  unfold aw_cell
  rw [h]
theorem aw_cell_O {C : Nat → ClassId} {ad : Nat → Nat} {μ : aw_M} {a ci : Nat} (h : (aw_sh a).1 = ci + 5) : aw_cell C ad μ a = .inr (ci, (aw_ty ci).mapIdx (fun k t => aw_val ad μ a k t)) := by
  unfold aw_cell
  rw [h]
theorem aw_wI_o {μ : aw_M} {a i b : Nat} {v : Int32} (h : b ≠ a) : (aw_wI μ a i v).1 b = μ.1 b := if_neg h
theorem aw_wI_s {μ : aw_M} {a i : Nat} {v : Int32} : (aw_wI μ a i v).1 a = upd (μ.1 a) i v := if_pos rfl
theorem aw_wL_o {μ : aw_M} {a i b : Nat} {v : Int64} (h : b ≠ a) : (aw_wL μ a i v).2 b = μ.2 b := if_neg h
theorem aw_wL_s {μ : aw_M} {a i : Nat} {v : Int64} : (aw_wL μ a i v).2 a = vp_updL (μ.2 a) i v := if_pos rfl
/-- a field of a class, as an instruction of 'own' links it -/
def aw_fd (q : vw_C) (ci k : Nat) (own : String) (idx t : Nat) : Prop := vwCl[ci]? = some q ∧ k < q.2.2 ∧ Cond.fieldLink own idx (q.2.1 k).1 (q.2.1 k).2.1 (q.2.1 k).2.2.1 ∈ aw_TB ∧ (∀ w ∈ u_ws q.1 q.2.1 q.2.2, w ∈ aw_TB) ∧ (aw_ty ci)[k]? = some t
/-- .. that may be written -/
def aw_fp (q : vw_C) (ci k : Nat) (own : String) (idx t : Nat) (ty : FieldType) : Prop := aw_fd q ci k own idx t ∧ (∃ ty0 : Nat → FieldType, ∀ j, j < q.2.2 → parseFieldDescriptor (q.2.1 j).2.2.1 = some (ty0 j)) ∧ (∀ a, a < q.2.2 → ∀ b, b < q.2.2 → a ≠ b → (q.2.1 a).2.1 ≠ (q.2.1 b).2.1) ∧ (q.2.1 k).2.2.2 = false ∧ parseFieldDescriptor (q.2.1 k).2.2.1 = some ty
theorem aw_fs_at {ad : Nat → Nat} {μ : aw_M} {a ci k t : Nat} (h : (aw_ty ci)[k]? = some t) : ((aw_ty ci).mapIdx (fun k t => aw_val ad μ a k t))[k]? = some (aw_val ad μ a k t) := by
  rw [List.getElem?_mapIdx, h]
  rfl
section aw_heap
variable {ρ : Type} {l : Launch} {K : aw_K} {g : ρ → Option Value × aw_M} {pc n : Nat} {L : List (Option Value)} {st : List Value} {μ : aw_M} {o : Option ρ}
theorem aw_get (q : vw_C) (ci k t : Nat) {a idx : Nat} (v : Value) (hd : decode K.2.1 pc = .ok (.getfield idx, 3)) (hn : pc + 3 = n) (ha : (aw_sh a).1 = ci + 5) (hc : ci < 12) (F : aw_fd q ci k K.1 idx t) (hv : ∀ ad, aw_c ad v = aw_val ad μ a k t) (k : AW l K g n L (v :: st) μ o) : AW l K g pc L (.ref a :: st) μ o := by
  subst hn
  intro p e R s m args below meth c E D C ad A H locs X ls hl r hr
  obtain ⟨hP, hK, hD, hS, hA⟩ := id X
  have hat : (aw_ws C ad μ)[a]? = some (ad a, .inr (ci, (aw_ty ci).mapIdx (fun k t => aw_val ad μ a k t))) := by rw [aw_ws_at (aw_sh_lt ha (by omega)), aw_cell_O ha]
  obtain ⟨qn, qT, qN⟩ := q
  obtain ⟨f1, f2, f3, f4, f5⟩ := F
  exact va_get (D := D) E.1 E.2.1 E.2.2.2.2.1 f4 E.2.2.2.1 hK hP a hat f1 _ f2 (E.2.2.2.2.1 _ f3) (fun _ h => h) (aw_fs_at f5) hd (by rw [← hv ad]; exact k p e R s m args below meth c E D C ad A H locs X ls hl r hr)
theorem aw_getI (q : vw_C) (ci j : Nat) {a idx : Nat} (hd : decode K.2.1 pc = .ok (.getfield idx, 3)) (hn : pc + 3 = n) (ha : (aw_sh a).1 = ci + 5) (hc : ci < 12) (F : aw_fd q ci j K.1 idx 0) (k : AW l K g n L (.int (μ.1 a j) :: st) μ o) : AW l K g pc L (.ref a :: st) μ o :=
  aw_get q ci j 0 (.int (μ.1 a j)) hd hn ha hc F (fun _ => rfl) k
theorem aw_getL (q : vw_C) (ci j : Nat) {a idx : Nat} (hd : decode K.2.1 pc = .ok (.getfield idx, 3)) (hn : pc + 3 = n) (ha : (aw_sh a).1 = ci + 5) (hc : ci < 12) (F : aw_fd q ci j K.1 idx 1) (k : AW l K g n L (.long (μ.2 a j) :: st) μ o) : AW l K g pc L (.ref a :: st) μ o :=
  aw_get q ci j 1 (.long (μ.2 a j)) hd hn ha hc F (fun _ => rfl) k
theorem aw_getR (q : vw_C) (ci j : Nat) {a idx : Nat} (hd : decode K.2.1 pc = .ok (.getfield idx, 3)) (hn : pc + 3 = n) (ha : (aw_sh a).1 = ci + 5) (hc : ci < 12) (F : aw_fd q ci j K.1 idx 2) (k : AW l K g n L (.ref (aw_rf a j) :: st) μ o) : AW l K g pc L (.ref a :: st) μ o :=
  aw_get q ci j 2 (.ref (aw_rf a j)) hd hn ha hc F (fun _ => rfl) k
theorem aw_put (q : vw_C) (ci j t : Nat) {a idx : Nat} {v : Value} {ty : FieldType} {μ2 : aw_M} (hd : decode K.2.1 pc = .ok (.putfield idx, 3)) (hn : pc + 3 = n) (ha : (aw_sh a).1 = ci + 5) (hc : ci < 12) (F : aw_fp q ci j K.1 idx t ty) (hna : ∀ ad, narrow ty (aw_c ad v) = aw_c ad v) (hfi : ∀ ad, fits ty (aw_c ad v) = true)
    (h1 : ∀ b, b ≠ a → μ2.1 b = μ.1 b ∧ μ2.2 b = μ.2 b) (h2 : ∀ (ad : Nat → Nat) (i t' : Nat), (aw_ty ci)[i]? = some t' → aw_val ad μ2 a i t' = if j = i then aw_c ad v else aw_val ad μ a i t') (k : AW l K g n L st μ2 o) : AW l K g pc L (v :: .ref a :: st) μ o := by
  subst hn
  intro p e R s m args below meth c E D C ad A H locs X ls hl r hr
  obtain ⟨hP, hK, hD, hS, hA⟩ := id X
  have hN := aw_sh_lt ha (show ci + 5 < 99 by omega)
  have hat : (aw_ws C ad μ)[a]? = some (ad a, .inr (ci, (aw_ty ci).mapIdx (fun k t => aw_val ad μ a k t))) := by rw [aw_ws_at hN, aw_cell_O ha]
  obtain ⟨qn, qT, qN⟩ := q
  obtain ⟨⟨f1, f2, f3, f4, f5⟩, ⟨ty0, f6⟩, f7, f8, f9⟩ := F
  have hjl : j < (aw_ty ci).length := (List.getElem?_eq_some_iff.mp f5).1
  have hfs : ((aw_ty ci).mapIdx (fun k t => aw_val ad μ a k t)).set j (aw_c ad v) = (aw_ty ci).mapIdx (fun k t => aw_val ad μ2 a k t) := by
    apply List.ext_getElem?
    intro i
    rw [List.getElem?_set, List.getElem?_mapIdx, List.getElem?_mapIdx, List.length_mapIdx]
    cases hi : (aw_ty ci)[i]? with
    | none =>
      have hge : (aw_ty ci).length ≤ i := by simpa using hi
      rw [if_neg (by omega)]
      rfl
    | some t' =>
      by_cases e : j = i
      · rw [if_pos e, if_pos hjl]
        simp only [Option.map_some]
        rw [h2 ad i t' hi, if_pos e]
      · rw [if_neg e]
        simp only [Option.map_some]
        rw [h2 ad i t' hi, if_neg e]
  have hset := aw_ws_set (C := C) (ad := ad) (μ := μ) (μ' := μ2) hN (E := .inr (ci, ((aw_ty ci).mapIdx (fun k t => aw_val ad μ a k t)).set j (aw_c ad v))) (by rw [aw_cell_O ha, hfs]) (fun b hb => aw_cell_congr (h1 b hb).1 (h1 b hb).2)
  refine va_put (D := D) E.1 E.2.1 E.2.2.2.2.1 f4 ty0 f6 f7 E.2.2.2.1 hK hP hD hS a hat f1 j f2 (E.2.2.2.2.1 _ f3) (fun _ h => h) f8 f9 (hna ad) (hfi ad) (by rw [List.length_mapIdx]; exact hjl) hd (fun H1 locs1 q1 q2 q3 => ?_)
  rw [hset] at q1 q2
  exact k p e R s m args below meth c E D C ad A H1 locs1 ⟨q1, hK, q2, q3, hA⟩ ls hl r hr
theorem aw_val_wI {ad : Nat → Nat} {μ : aw_M} {a i j t : Nat} {x : Int32} (ht : j = i → t = 0) : aw_val ad (aw_wI μ a j x) a i t = if j = i then .int x else aw_val ad μ a i t := by
  by_cases e : j = i
  · rw [if_pos e, ht e]
    subst e
    show Value.int ((aw_wI μ a j x).1 a j) = _
    rw [aw_wI_s]
    simp [upd]
  · rw [if_neg e]
    unfold aw_val
    rw [aw_wI_s, show (aw_wI μ a j x).2 = μ.2 from rfl]
    simp only [upd, if_neg (fun q : i = j => e q.symm)]
theorem aw_val_wL {ad : Nat → Nat} {μ : aw_M} {a i j t : Nat} {x : Int64} (ht : j = i → t = 1) : aw_val ad (aw_wL μ a j x) a i t = if j = i then .long x else aw_val ad μ a i t := by
  by_cases e : j = i
  · rw [if_pos e, ht e]
    subst e
    show Value.long ((aw_wL μ a j x).2 a j) = _
    rw [aw_wL_s]
    simp [vp_updL]
  · rw [if_neg e]
    unfold aw_val
    rw [aw_wL_s, show (aw_wL μ a j x).1 = μ.1 from rfl]
    simp only [vp_updL, if_neg (fun q : i = j => e q.symm)]
theorem aw_putI (q : vw_C) (ci j : Nat) {a idx : Nat} {x : Int32} {h : aw_M → Option ρ} (hd : decode K.2.1 pc = .ok (.putfield idx, 3)) (hn : pc + 3 = n) (ha : (aw_sh a).1 = ci + 5) (hc : ci < 12) (F : aw_fp q ci j K.1 idx 0 .int) (k : ∀ μ2, AW l K g n L st μ2 (h μ2)) : AW l K g pc L (.int x :: .ref a :: st) μ (aw_let (aw_wI μ a j x) h) :=
  aw_put q ci j 0 (μ2 := aw_wI μ a j x) hd hn ha hc F (fun _ => rfl) (fun _ => rfl) (fun b hb => ⟨aw_wI_o hb, rfl⟩) (fun ad i t' hi => aw_val_wI (fun e => by subst e; rw [F.1.2.2.2.2] at hi; exact (Option.some.inj hi).symm)) (k _)
theorem aw_putZ (q : vw_C) (ci j : Nat) {a idx : Nat} {x : Int32} {h : aw_M → Option ρ} (hd : decode K.2.1 pc = .ok (.putfield idx, 3)) (hn : pc + 3 = n) (ha : (aw_sh a).1 = ci + 5) (hc : ci < 12) (F : aw_fp q ci j K.1 idx 0 .boolean) (hx : x = 0 ∨ x = 1) (k : ∀ μ2, AW l K g n L st μ2 (h μ2)) : AW l K g pc L (.int x :: .ref a :: st) μ (aw_let (aw_wI μ a j x) h) :=
  aw_put q ci j 0 (μ2 := aw_wI μ a j x) hd hn ha hc F (fun _ => by rcases hx with rfl | rfl <;> rfl) (fun _ => by rcases hx with rfl | rfl <;> rfl) (fun b hb => ⟨aw_wI_o hb, rfl⟩) (fun ad i t' hi => aw_val_wI (fun e => by subst e; rw [F.1.2.2.2.2] at hi; exact (Option.some.inj hi).symm)) (k _)
theorem aw_putL (q : vw_C) (ci j : Nat) {a idx : Nat} {x : Int64} {h : aw_M → Option ρ} (hd : decode K.2.1 pc = .ok (.putfield idx, 3)) (hn : pc + 3 = n) (ha : (aw_sh a).1 = ci + 5) (hc : ci < 12) (F : aw_fp q ci j K.1 idx 1 .long) (k : ∀ μ2, AW l K g n L st μ2 (h μ2)) : AW l K g pc L (.long x :: .ref a :: st) μ (aw_let (aw_wL μ a j x) h) :=
  aw_put q ci j 1 (μ2 := aw_wL μ a j x) hd hn ha hc F (fun _ => rfl) (fun _ => rfl) (fun b hb => ⟨rfl, aw_wL_o hb⟩) (fun ad i t' hi => aw_val_wL (fun e => by subst e; rw [F.1.2.2.2.2] at hi; exact (Option.some.inj hi).symm)) (k _)
end aw_heap
