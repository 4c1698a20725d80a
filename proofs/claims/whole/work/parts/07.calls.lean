/-! contracts and calls -/
def aw_gi (r : Int32 × aw_M) : Option Value × aw_M := (some (.int r.1), r.2)
def aw_gl (r : Int64 × aw_M) : Option Value × aw_M := (some (.long r.1), r.2)
def aw_gz (r : Bool × aw_M) : Option Value × aw_M := (some (.int (aw_b r.1)), r.2)
def aw_gv (r : aw_M) : Option Value × aw_M := (none, r)
theorem aw_met {ρ : Type} {l : Launch} {y : MethodName} {cc : ByteArray} {mL : Nat} {rt : Option FieldType} {dF dL : Nat} {g : ρ → Option Value × aw_M} {as : List Value} {μ : aw_M} {o : Option ρ} (L0 : List (Option Value)) (hy : plainName y.cls = true)
    (hL : ∀ ad, aw_lv ad 0 L0 = lv_args 0 (as.map (aw_c ad))) (hm : ∀ ad, (lg_sl (as.map (aw_c ad))).length ≤ mL) (body : AW l (y.cls, cc, mL, rt, dF, dL) g 0 L0 [] μ o) : AM l y cc mL rt dF dL g as μ o := by
  intro D C ad sz r hr
  refine Met.ofW (cc := cc) (maxL := mL) (ret := rt) hy rfl ?_
  intro p e s m args below meth c s₁ B hml hv
  obtain ⟨rfl, hsz, hP, hK, hD0, hN⟩ := hv
  have hts := atoms_spec (ws := .code y cc mL rt :: aw_TB) B.pre
  have hown : s.vm.findClass y.cls = some m.cls := findClass_of_methodNamed B.named
  subst hsz
  have hi := aw_D_inj hD0
  have hD : va_D (aw_A ad s.heap.size) (aw_ws C ad μ) := aw_D_of ⟨hi.1, fun i h => Or.inl ⟨i, h, rfl⟩⟩
  have hl := lv_entry (as.map (aw_c ad)) (n := mL) (hm ad)
  rw [← hL ad] at hl
  rw [lg_entry_eq]
  exact body p e _ s m _ below meth c ⟨B.exec, B.bytes, hml, hown, fun w h => hts w (List.mem_cons_of_mem _ h), B.returns, B.notSynchronized, Nat.le_refl _, Nat.le_refl _, hN⟩ D C ad (aw_A ad s.heap.size) s.heap [] ⟨hP, hK, hD, va_S.rf, fun q h => Or.inr h⟩ _ hl r hr
theorem aw_good {w : Cond} (h : w ∈ aw_TB) : (w.onTables && w.keeps) = true ∨ ∃ ty, w = .arrayClass ty := good_of_word (List.mem_filter.mp h).2
theorem aw_pay {args : Array Value} {s : State} (hts : ∀ w ∈ aw_TB, w.before args s = true) {cw : Cond} (hc : cw ∈ aw_TB) : ∀ w ∈ (cw :: aw_TB), ∀ (a' : Array Value) (U : State), s.WarmedH U.vm → w.before a' U = true :=
  pay_in hts (fun w h => by
    rcases List.mem_cons.mp h with rfl | h
    · exact ⟨hc, aw_good hc⟩
    · exact ⟨h, aw_good h⟩)
/-- what an instruction of 'own' needs to call y -/
def aw_cs (own : String) (idx : Nat) (y : MethodName) (cc : ByteArray) (mL : Nat) (rt : Option FieldType) (na : Nat) : Prop :=
  Cond.code y cc mL rt ∈ aw_TB ∧ Cond.initialized y.cls ∈ aw_TB ∧ (y.cls ≠ "java/lang/invoke/MethodHandle" ∧ y.cls ≠ "java/lang/invoke/VarHandle") ∧ (parseMethodDescriptor y.desc).map (fun d => d.parameters.length) = some na ∧ Cond.methodLink own idx y ∈ aw_TB
def aw_cv (own : String) (idx : Nat) (y : MethodName) (cc : ByteArray) (mL : Nat) (rt : Option FieldType) (na : Nat) : Prop := aw_cs own idx y cc mL rt na ∧ Cond.instanceMethod y ∈ aw_TB ∧ Cond.selects y.cls y y ∈ aw_TB
def aw_ct (own : String) (idx : Nat) (y : MethodName) (cc : ByteArray) (mL : Nat) (rt : Option FieldType) (na : Nat) : Prop := aw_cs own idx y cc mL rt na ∧ Cond.static y ∈ aw_TB
/-- a static method of a nest mate -/
def aw_cn (own : String) (idx : Nat) (y : MethodName) (host : String) (cc : ByteArray) (mL : Nat) (rt : Option FieldType) (na : Nat) : Prop :=
  Cond.code y cc mL rt ∈ aw_TB ∧ Cond.initialized y.cls ∈ aw_TB ∧ (y.cls ≠ "java/lang/invoke/MethodHandle" ∧ y.cls ≠ "java/lang/invoke/VarHandle") ∧ (parseMethodDescriptor y.desc).map (fun d => d.parameters.length) = some na ∧ (own, idx, y, host) ∈ aw_NL ∧ Cond.static y ∈ aw_TB
theorem aw_par {y : MethodName} {na : Nat} (h2 : (parseMethodDescriptor y.desc).map (fun d => d.parameters.length) = some na) : ∀ sig, parseMethodDescriptor y.desc = some sig → na = sig.parameters.length := fun sig h => by
  rw [h] at h2
  exact (Option.some.inj h2).symm
section aw_call
variable {ρ ρ' : Type} {l : Launch} {K : aw_K} {g : ρ → Option Value × aw_M} {g' : ρ' → Option Value × aw_M} {pc n : Nat} {L : List (Option Value)} {st : List Value} {μ : aw_M} {o' : Option ρ'} {h : ρ' → Option ρ} {y : MethodName} {cc : ByteArray} {mL : Nat} {rt : Option FieldType} {dF dL na idx : Nat} {as : List Value} {b : Nat}
theorem aw_cont {p : Program} {e : Env} {R : Room} {s : State} {m : MethodId} {args : Array Value} {below : List Frame} {meth : Method} {c : Code} {D : va_G} {C : Nat → ClassId} {ad : Nat → Nat} {A : Nat → Prop} {H : Heap} {locs : List Loc} {ls : Array Slot} {st0 rest : List Value} {Q : State → Prop} {w : Option Value × aw_M} {a : Array Value}
    (hr : va_Run p l e R s m args below meth c H locs 0 0 0 0 (F0 m pc ls st0) rest (aw_Q D C ad (aw_A ad H.size) w a) (aw_A ad H.size)) (X : aw_Rl D C ad A s H locs μ)
    (kk : ∀ (H1 : Heap) (locs1 : List Loc), aw_Rl D C ad A s H1 locs1 w.2 → W p l e R s m args below meth c H1 locs1 0 0 Q (F0 m (pc + 3) ls ((w.1.map (aw_c ad)).toList ++ rest))) : W p l e R s m args below meth c H locs 0 0 Q (F0 m pc ls st0) := by
  obtain ⟨hP, hK, hD, hS, hA⟩ := X
  have hi := aw_D_inj hD
  have hAA : ∀ q, aw_A ad H.size q → A q := by
    rintro q (⟨a, h1, rfl⟩ | h1)
    · exact hi.2 a h1
    · exact hA q (Nat.le_trans hS.1 h1)
  intro T hT Y
  obtain ⟨v, st₀, t, T', L, h0, X', hL, e1, e2, ⟨⟨hv, hp, hk⟩, hz, hq⟩, st⟩ := hr T hT Y
  rw [h0] at hz hq
  have hv' : v = w.1.map (aw_c ad) := by cases hv; rfl
  subst hv'
  obtain ⟨t2, a1, b1⟩ := kk T'.heap (locs ++ L) ⟨by rw [e1]; exact hp, hK, aw_D_of hi, ⟨Nat.le_trans hS.1 (by rw [e1]; exact hz), fun q h1 h2 => by rw [e1, hq q (Nat.lt_of_lt_of_le h1 hS.1) (fun z => h2 (hAA q z))]; exact hS.2.1 q h1 h2, fun q hq => by
      rcases List.mem_append.mp hq with h | h
      · exact hS.2.2 q h
      · exact hAA _ (hL q h)⟩, hA⟩ T' rfl X'
  exact ⟨t2, st t2 a1, b1⟩
theorem aw_pre {s : State} {D : va_G} {C : Nat → ClassId} {ad : Nat → Nat} {A : Nat → Prop} {H : Heap} {locs : List Loc} (X : aw_Rl D C ad A s H locs μ) (hN : aw_Nk s) (as : List Value) : ∀ U : State, U.heap = H → s.WarmedH U.vm → va_Pc (as.map (aw_c ad)) (fun U => U.heap.size = H.size ∧ va_P D vwCl (aw_ws C ad μ) U.heap ∧ va_K D vwCl (aw_tys C) U ∧ va_D (fun _ => True) (aw_ws C ad μ) ∧ aw_Nk U) (as.map (aw_c ad)).toArray U :=
  fun U hU hW => ⟨rfl, by rw [hU], by rw [hU]; exact X.1, va_K.moved hW.alike X.2.1, aw_D_of ⟨(aw_D_inj X.2.2.1).1, fun _ _ => trivial⟩, hN.warm hW⟩
theorem aw_blind {D : va_G} {C : Nat → ClassId} {ad : Nat → Nat} {sz : Nat} {as : List Value} : FrameBlind (va_Pc (as.map (aw_c ad)) (fun U => U.heap.size = sz ∧ va_P D vwCl (aw_ws C ad μ) U.heap ∧ va_K D vwCl (aw_tys C) U ∧ va_D (fun _ => True) (aw_ws C ad μ) ∧ aw_Nk U)) :=
  fun a U g mk q => by
    obtain ⟨q0, q1, qP, qK, qD, qN⟩ := q
    exact ⟨q0, q1, qP, va_K.moved (u := U) (U := U.calling g mk a) (Vm.Alike.refl U.vm) qK, qD, aw_Nk.same (s := U) (U := U.calling g mk a) rfl qN⟩
theorem aw_bind_some {α β : Type} {o : Option α} {f : α → Option β} {r : β} (h : o.bind f = some r) : ∃ x, o = some x ∧ f x = some r := by
  cases o with
  | none => cases h
  | some x => exact ⟨x, rfl, h⟩
theorem aw_callV (q : vw_C) (ci : Nat) {st0 : List Value} (hd : decode K.2.1 pc = .ok (.invokevirtual idx, 3)) (hn : pc + 3 = n) (hs : st0 = as.reverse ++ .ref b :: st) (hM : AM l y cc mL rt dF dL g' (.ref b :: as) μ o') (hb : (aw_sh b).1 = ci + 5) (hc : ci < 12) (hq : vwCl[ci]? = some q) (hq1 : y.cls = q.1) (hw : aw_cv K.1 idx y cc mL rt as.length)
    (hR : dF + 1 ≤ K.2.2.2.2.1 ∧ 8 + (mL + 11) + dL ≤ K.2.2.2.2.2) (hst : ∀ ad, ((st.map (aw_c ad)).map fun v => v.category).sum ≤ 8) (k : ∀ r', AW l K g n L ((g' r').1.toList ++ st) (g' r').2 (h r')) : AW l K g pc L st0 μ (o'.bind h) := by
  subst hn
  subst hs
  intro p e R s m args below meth c E D C ad A H locs X ls hl r hr
  obtain ⟨r', hr1, hr2⟩ := aw_bind_some hr
  obtain ⟨⟨w1, w2, w3, w4, w5⟩, w6, w7⟩ := hw
  have hts := E.2.2.2.2.1
  have hat : (aw_ws C ad μ)[b]? = some (ad b, .inr (ci, (aw_ty ci).mapIdx (fun k t => aw_val ad μ b k t))) := by rw [aw_ws_at (aw_sh_lt hb (by omega)), aw_cell_O hb]
  have run := va_runV (e := e) (below := below) (meth := meth) (locs := locs) (cells := 0) (slots := 0) (C := y.cls) (As := as.map (aw_c ad)) (rest := st.map (aw_c ad)) (b := ad b) (g := F0 m pc ls ((as.reverse ++ .ref b :: st).map (aw_c ad))) ⟨E.1, E.2.1, E.2.2.1, E.2.2.2.1, hts⟩ (hM D C ad H.size r' hr1)
    ⟨⟨rfl, rfl, Nat.le_trans hR.1 E.2.2.2.2.2.2.2.1, Nat.le_trans hR.2 E.2.2.2.2.2.2.2.2.1, aw_pay hts w1, List.mem_cons_self, hts _ w1, hts _ w2, w3, aw_par w4, hts _ w5⟩, hts _ w6, hts _ w7⟩
    ⟨aw_blind, by rw [hq1]; exact va_recv X.2.1 X.1 (q := q) hq hat, aw_pre X E.2.2.2.2.2.2.2.2.2 (.ref b :: as)⟩ rfl (by rw [List.length_map]) hl.1 (by simp [List.map_append, List.map_reverse, aw_c]) (lv_room (hst ad)) hd ⟨Nat.zero_le _, Nat.zero_le _⟩
  refine aw_cont run X (fun H1 locs1 X1 => ?_)
  have h2 := k r' p e R s m args below meth c E D C ad A H1 locs1 X1 ls hl r hr2
  have e1 : ((g' r').1.toList ++ st).map (aw_c ad) = ((g' r').1.map (aw_c ad)).toList ++ st.map (aw_c ad) := by
    rw [List.map_append]
    congr 1
    cases (g' r').1 <;> rfl
  rw [e1] at h2
  exact h2
theorem aw_callS {st0 : List Value} (hd : decode K.2.1 pc = .ok (.invokestatic idx, 3)) (hn : pc + 3 = n) (hs : st0 = as.reverse ++ st) (hM : AM l y cc mL rt dF dL g' as μ o') (hw : aw_ct K.1 idx y cc mL rt as.length)
    (hR : dF + 1 ≤ K.2.2.2.2.1 ∧ 8 + (mL + 11) + dL ≤ K.2.2.2.2.2) (hst : ∀ ad, ((st.map (aw_c ad)).map fun v => v.category).sum ≤ 8) (k : ∀ r', AW l K g n L ((g' r').1.toList ++ st) (g' r').2 (h r')) : AW l K g pc L st0 μ (o'.bind h) := by
  subst hn
  subst hs
  intro p e R s m args below meth c E D C ad A H locs X ls hl r hr
  obtain ⟨r', hr1, hr2⟩ := aw_bind_some hr
  obtain ⟨⟨w1, w2, w3, w4, w5⟩, w6⟩ := hw
  have hts := E.2.2.2.2.1
  have run := va_runS (e := e) (below := below) (meth := meth) (locs := locs) (cells := 0) (slots := 0) (As := as.map (aw_c ad)) (rest := st.map (aw_c ad)) (g := F0 m pc ls ((as.reverse ++ st).map (aw_c ad))) ⟨E.1, E.2.1, E.2.2.1, E.2.2.2.1, hts⟩ (hM D C ad H.size r' hr1)
    ⟨⟨rfl, rfl, Nat.le_trans hR.1 E.2.2.2.2.2.2.2.1, Nat.le_trans hR.2 E.2.2.2.2.2.2.2.2.1, aw_pay hts w1, List.mem_cons_self, hts _ w1, hts _ w2, w3, aw_par w4, hts _ w5⟩, hts _ w6⟩
    ⟨aw_blind, aw_pre X E.2.2.2.2.2.2.2.2.2 as⟩ rfl (by rw [List.length_map]) hl.1 (by simp [List.map_append, List.map_reverse]) (lv_room (hst ad)) hd ⟨Nat.zero_le _, Nat.zero_le _⟩
  refine aw_cont run X (fun H1 locs1 X1 => ?_)
  have h2 := k r' p e R s m args below meth c E D C ad A H1 locs1 X1 ls hl r hr2
  have e1 : ((g' r').1.toList ++ st).map (aw_c ad) = ((g' r').1.map (aw_c ad)).toList ++ st.map (aw_c ad) := by
    rw [List.map_append]
    congr 1
    cases (g' r').1 <;> rfl
  rw [e1] at h2
  exact h2
theorem aw_callN (host : String) {st0 : List Value} (hd : decode K.2.1 pc = .ok (.invokestatic idx, 3)) (hn : pc + 3 = n) (hs : st0 = as.reverse ++ st) (hM : AM l y cc mL rt dF dL g' as μ o') (hw : aw_cn K.1 idx y host cc mL rt as.length)
    (hR : dF + 1 ≤ K.2.2.2.2.1 ∧ 8 + (mL + 11) + dL ≤ K.2.2.2.2.2) (hst : ∀ ad, ((st.map (aw_c ad)).map fun v => v.category).sum ≤ 8) (k : ∀ r', AW l K g n L ((g' r').1.toList ++ st) (g' r').2 (h r')) : AW l K g pc L st0 μ (o'.bind h) := by
  subst hn
  subst hs
  intro p e R s m args below meth c E D C ad A H locs X ls hl r hr
  obtain ⟨r', hr1, hr2⟩ := aw_bind_some hr
  obtain ⟨w1, w2, w3, w4, w5, w6⟩ := hw
  have hts := E.2.2.2.2.1
  have run := va_runSN (e := e) (below := below) (meth := meth) (locs := locs) (cells := 0) (slots := 0) (host := host) (As := as.map (aw_c ad)) (rest := st.map (aw_c ad)) (g := F0 m pc ls ((as.reverse ++ st).map (aw_c ad))) ⟨E.1, E.2.1, E.2.2.1, E.2.2.2.1, hts⟩ (hM D C ad H.size r' hr1)
    ⟨⟨⟨rfl, rfl, Nat.le_trans hR.1 E.2.2.2.2.2.2.2.1, Nat.le_trans hR.2 E.2.2.2.2.2.2.2.2.1, aw_pay hts w1, List.mem_cons_self⟩, hts _ w1, hts _ w2, w3, aw_par w4, va_Nw.use rfl (E.2.2.2.2.2.2.2.2.2 _ w5)⟩, hts _ w6, trivial⟩
    ⟨aw_blind, aw_pre X E.2.2.2.2.2.2.2.2.2 as⟩ rfl (by rw [List.length_map]) hl.1 (by simp [List.map_append, List.map_reverse]) (lv_room (hst ad)) hd ⟨Nat.zero_le _, Nat.zero_le _⟩
  refine aw_cont run X (fun H1 locs1 X1 => ?_)
  have h2 := k r' p e R s m args below meth c E D C ad A H1 locs1 X1 ls hl r hr2
  have e1 : ((g' r').1.toList ++ st).map (aw_c ad) = ((g' r').1.map (aw_c ad)).toList ++ st.map (aw_c ad) := by
    rw [List.map_append]
    congr 1
    cases (g' r').1 <;> rfl
  rw [e1] at h2
  exact h2
end aw_call
/-! switches -/
def aw_sel {α : Type} (i : Int) (os : List (Option α)) (od : Option α) : Option α := if i < 0 then od else os.getD i.toNat od
section aw_switch
variable {ρ : Type} {l : Launch} {K : aw_K} {g : ρ → Option Value × aw_M} {pc : Nat} {L : List (Option Value)} {st : List Value} {μ : aw_M}
def aw_AL (l : Launch) (K : aw_K) (g : ρ → Option Value × aw_M) (L : List (Option Value)) (st : List Value) (μ : aw_M) : List Nat → List (Option ρ) → Prop
  | [], [] => True
  | t :: ts, o :: os => AW l K g t L st μ o ∧ aw_AL l K g L st μ ts os
  | _, _ => False
theorem aw_AL_at : ∀ {ts : List Nat} {os : List (Option ρ)}, aw_AL l K g L st μ ts os → ts.length = os.length ∧ ∀ (j t : Nat) (o : Option ρ), ts[j]? = some t → os[j]? = some o → AW l K g t L st μ o
  | [], [], _ => ⟨rfl, fun j t o h => by simp at h⟩
  | t :: ts, o :: os, h => by
    obtain ⟨h1, h2⟩ := aw_AL_at h.2
    refine ⟨by simp [h1], fun j t' o' q1 q2 => ?_⟩
    cases j with
    | zero => simp at q1 q2; subst q1; subst q2; exact h.1
    | succ j => exact h2 j t' o' (by simpa using q1) (by simpa using q2)
theorem aw_tsw {x : Int32} {dflt lo hi : Int} {offs : Array Int} {len : Nat} (ts : List Nat) (dt : Nat) {os : List (Option ρ)} {od : Option ρ} (hd : decode K.2.1 pc = .ok (.tableswitch dflt lo hi offs, len)) (ho : offs.toList.map (fun d : Int => (pc : Int) + d) = ts.map (fun t : Nat => (t : Int))) (hdt : (pc : Int) + dflt = (dt : Int)) (hhi : hi + 1 = lo + (ts.length : Int)) (ks : aw_AL l K g L st μ ts os) (kd : AW l K g dt L st μ od) : AW l K g pc L (.int x :: st) μ (aw_sel (x.toInt - lo) os od) := by
  intro p e R s m args below meth c E D C ad A H locs X ls hl r hr
  obtain ⟨hlen, hk⟩ := aw_AL_at ks
  unfold aw_sel at hr
  by_cases h1 : x.toInt < lo
  · rw [if_pos (by omega)] at hr
    exact lv_tableOut E.1 E.2.1 hd (Or.inl h1) hdt (kd p e R s m args below meth c E D C ad A H locs X ls hl r hr)
  · rw [if_neg (by omega)] at hr
    by_cases h2 : hi < x.toInt
    · rw [List.getD_eq_getElem?_getD, List.getElem?_eq_none (by omega)] at hr
      exact lv_tableOut E.1 E.2.1 hd (Or.inr h2) hdt (kd p e R s m args below meth c E D C ad A H locs X ls hl r hr)
    · have hj : (x.toInt - lo).toNat < ts.length := by omega
      have hto : ts[(x.toInt - lo).toNat]? = some ts[(x.toInt - lo).toNat] := List.getElem?_eq_getElem hj
      have hoo : os[(x.toInt - lo).toNat]? = some os[(x.toInt - lo).toNat] := List.getElem?_eq_getElem (by omega)
      have e1 := congrArg (fun q : List Int => q[(x.toInt - lo).toNat]?) ho
      simp only [List.getElem?_map, hto, Option.map_some] at e1
      rw [List.getD_eq_getElem?_getD, hoo] at hr
      cases hoff : offs.toList[(x.toInt - lo).toNat]? with
      | none => rw [hoff] at e1; cases e1
      | some d =>
        rw [hoff] at e1
        have e2 : (pc : Int) + d = ((ts[(x.toInt - lo).toNat] : Nat) : Int) := by simpa using e1
        exact lv_tableIn E.1 E.2.1 hd h1 h2 (by rw [← Array.getElem?_toList]; exact hoff) e2 (hk _ _ _ hto hoo p e R s m args below meth c E D C ad A H locs X ls hl r (by simpa using hr))
end aw_switch
section aw_calls2
variable {ρ : Type} {l : Launch} {K : aw_K} {g : ρ → Option Value × aw_M} {pc n : Nat} {L : List (Option Value)} {st : List Value} {μ : aw_M} {y : MethodName} {cc : ByteArray} {mL : Nat} {rt : Option FieldType} {dF dL na idx : Nat} {as : List Value} {b : Nat}
theorem aw_arr {a k n : Nat} (h : aw_sh a = (k, n)) : aw_sh a = (k, (aw_sh a).2) := by rw [h]
theorem aw_callVi (q : vw_C) (ci : Nat) {o' : Option (Int32 × aw_M)} {h : Int32 × aw_M → Option ρ} {st0 : List Value} (hd : decode K.2.1 pc = .ok (.invokevirtual idx, 3)) (hn : pc + 3 = n) (hs : st0 = as.reverse ++ .ref b :: st) (hM : AM l y cc mL rt dF dL aw_gi (.ref b :: as) μ o') (hb : (aw_sh b).1 = ci + 5) (hc : ci < 12) (hq : vwCl[ci]? = some q) (hq1 : y.cls = q.1) (hw : aw_cv K.1 idx y cc mL rt as.length) (hR : dF + 1 ≤ K.2.2.2.2.1 ∧ 8 + (mL + 11) + dL ≤ K.2.2.2.2.2) (hst : ∀ ad, ((st.map (aw_c ad)).map fun v => v.category).sum ≤ 8) (k : ∀ r, AW l K g n L (.int r.1 :: st) r.2 (h r)) : AW l K g pc L st0 μ (o'.bind h) := aw_callV q ci hd hn hs hM hb hc hq hq1 hw hR hst k
theorem aw_callSi {o' : Option (Int32 × aw_M)} {h : Int32 × aw_M → Option ρ} {st0 : List Value} (hd : decode K.2.1 pc = .ok (.invokestatic idx, 3)) (hn : pc + 3 = n) (hs : st0 = as.reverse ++ st) (hM : AM l y cc mL rt dF dL aw_gi as μ o') (hw : aw_ct K.1 idx y cc mL rt as.length) (hR : dF + 1 ≤ K.2.2.2.2.1 ∧ 8 + (mL + 11) + dL ≤ K.2.2.2.2.2) (hst : ∀ ad, ((st.map (aw_c ad)).map fun v => v.category).sum ≤ 8) (k : ∀ r, AW l K g n L (.int r.1 :: st) r.2 (h r)) : AW l K g pc L st0 μ (o'.bind h) := aw_callS hd hn hs hM hw hR hst k
theorem aw_callNi (host : String) {o' : Option (Int32 × aw_M)} {h : Int32 × aw_M → Option ρ} {st0 : List Value} (hd : decode K.2.1 pc = .ok (.invokestatic idx, 3)) (hn : pc + 3 = n) (hs : st0 = as.reverse ++ st) (hM : AM l y cc mL rt dF dL aw_gi as μ o') (hw : aw_cn K.1 idx y host cc mL rt as.length) (hR : dF + 1 ≤ K.2.2.2.2.1 ∧ 8 + (mL + 11) + dL ≤ K.2.2.2.2.2) (hst : ∀ ad, ((st.map (aw_c ad)).map fun v => v.category).sum ≤ 8) (k : ∀ r, AW l K g n L (.int r.1 :: st) r.2 (h r)) : AW l K g pc L st0 μ (o'.bind h) := aw_callN host hd hn hs hM hw hR hst k
theorem aw_callVz (q : vw_C) (ci : Nat) {o' : Option (Bool × aw_M)} {h : Bool × aw_M → Option ρ} {st0 : List Value} (hd : decode K.2.1 pc = .ok (.invokevirtual idx, 3)) (hn : pc + 3 = n) (hs : st0 = as.reverse ++ .ref b :: st) (hM : AM l y cc mL rt dF dL aw_gz (.ref b :: as) μ o') (hb : (aw_sh b).1 = ci + 5) (hc : ci < 12) (hq : vwCl[ci]? = some q) (hq1 : y.cls = q.1) (hw : aw_cv K.1 idx y cc mL rt as.length) (hR : dF + 1 ≤ K.2.2.2.2.1 ∧ 8 + (mL + 11) + dL ≤ K.2.2.2.2.2) (hst : ∀ ad, ((st.map (aw_c ad)).map fun v => v.category).sum ≤ 8) (k : ∀ r, AW l K g n L (.int (aw_b r.1) :: st) r.2 (h r)) : AW l K g pc L st0 μ (o'.bind h) := aw_callV q ci hd hn hs hM hb hc hq hq1 hw hR hst k
theorem aw_callSz {o' : Option (Bool × aw_M)} {h : Bool × aw_M → Option ρ} {st0 : List Value} (hd : decode K.2.1 pc = .ok (.invokestatic idx, 3)) (hn : pc + 3 = n) (hs : st0 = as.reverse ++ st) (hM : AM l y cc mL rt dF dL aw_gz as μ o') (hw : aw_ct K.1 idx y cc mL rt as.length) (hR : dF + 1 ≤ K.2.2.2.2.1 ∧ 8 + (mL + 11) + dL ≤ K.2.2.2.2.2) (hst : ∀ ad, ((st.map (aw_c ad)).map fun v => v.category).sum ≤ 8) (k : ∀ r, AW l K g n L (.int (aw_b r.1) :: st) r.2 (h r)) : AW l K g pc L st0 μ (o'.bind h) := aw_callS hd hn hs hM hw hR hst k
theorem aw_callNz (host : String) {o' : Option (Bool × aw_M)} {h : Bool × aw_M → Option ρ} {st0 : List Value} (hd : decode K.2.1 pc = .ok (.invokestatic idx, 3)) (hn : pc + 3 = n) (hs : st0 = as.reverse ++ st) (hM : AM l y cc mL rt dF dL aw_gz as μ o') (hw : aw_cn K.1 idx y host cc mL rt as.length) (hR : dF + 1 ≤ K.2.2.2.2.1 ∧ 8 + (mL + 11) + dL ≤ K.2.2.2.2.2) (hst : ∀ ad, ((st.map (aw_c ad)).map fun v => v.category).sum ≤ 8) (k : ∀ r, AW l K g n L (.int (aw_b r.1) :: st) r.2 (h r)) : AW l K g pc L st0 μ (o'.bind h) := aw_callN host hd hn hs hM hw hR hst k
theorem aw_callVl (q : vw_C) (ci : Nat) {o' : Option (Int64 × aw_M)} {h : Int64 × aw_M → Option ρ} {st0 : List Value} (hd : decode K.2.1 pc = .ok (.invokevirtual idx, 3)) (hn : pc + 3 = n) (hs : st0 = as.reverse ++ .ref b :: st) (hM : AM l y cc mL rt dF dL aw_gl (.ref b :: as) μ o') (hb : (aw_sh b).1 = ci + 5) (hc : ci < 12) (hq : vwCl[ci]? = some q) (hq1 : y.cls = q.1) (hw : aw_cv K.1 idx y cc mL rt as.length) (hR : dF + 1 ≤ K.2.2.2.2.1 ∧ 8 + (mL + 11) + dL ≤ K.2.2.2.2.2) (hst : ∀ ad, ((st.map (aw_c ad)).map fun v => v.category).sum ≤ 8) (k : ∀ r, AW l K g n L (.long r.1 :: st) r.2 (h r)) : AW l K g pc L st0 μ (o'.bind h) := aw_callV q ci hd hn hs hM hb hc hq hq1 hw hR hst k
theorem aw_callSl {o' : Option (Int64 × aw_M)} {h : Int64 × aw_M → Option ρ} {st0 : List Value} (hd : decode K.2.1 pc = .ok (.invokestatic idx, 3)) (hn : pc + 3 = n) (hs : st0 = as.reverse ++ st) (hM : AM l y cc mL rt dF dL aw_gl as μ o') (hw : aw_ct K.1 idx y cc mL rt as.length) (hR : dF + 1 ≤ K.2.2.2.2.1 ∧ 8 + (mL + 11) + dL ≤ K.2.2.2.2.2) (hst : ∀ ad, ((st.map (aw_c ad)).map fun v => v.category).sum ≤ 8) (k : ∀ r, AW l K g n L (.long r.1 :: st) r.2 (h r)) : AW l K g pc L st0 μ (o'.bind h) := aw_callS hd hn hs hM hw hR hst k
theorem aw_callNl (host : String) {o' : Option (Int64 × aw_M)} {h : Int64 × aw_M → Option ρ} {st0 : List Value} (hd : decode K.2.1 pc = .ok (.invokestatic idx, 3)) (hn : pc + 3 = n) (hs : st0 = as.reverse ++ st) (hM : AM l y cc mL rt dF dL aw_gl as μ o') (hw : aw_cn K.1 idx y host cc mL rt as.length) (hR : dF + 1 ≤ K.2.2.2.2.1 ∧ 8 + (mL + 11) + dL ≤ K.2.2.2.2.2) (hst : ∀ ad, ((st.map (aw_c ad)).map fun v => v.category).sum ≤ 8) (k : ∀ r, AW l K g n L (.long r.1 :: st) r.2 (h r)) : AW l K g pc L st0 μ (o'.bind h) := aw_callN host hd hn hs hM hw hR hst k
theorem aw_callVv (q : vw_C) (ci : Nat) {o' : Option (aw_M)} {h : aw_M → Option ρ} {st0 : List Value} (hd : decode K.2.1 pc = .ok (.invokevirtual idx, 3)) (hn : pc + 3 = n) (hs : st0 = as.reverse ++ .ref b :: st) (hM : AM l y cc mL rt dF dL aw_gv (.ref b :: as) μ o') (hb : (aw_sh b).1 = ci + 5) (hc : ci < 12) (hq : vwCl[ci]? = some q) (hq1 : y.cls = q.1) (hw : aw_cv K.1 idx y cc mL rt as.length) (hR : dF + 1 ≤ K.2.2.2.2.1 ∧ 8 + (mL + 11) + dL ≤ K.2.2.2.2.2) (hst : ∀ ad, ((st.map (aw_c ad)).map fun v => v.category).sum ≤ 8) (k : ∀ r, AW l K g n L (st) r (h r)) : AW l K g pc L st0 μ (o'.bind h) := aw_callV q ci hd hn hs hM hb hc hq hq1 hw hR hst k
theorem aw_callSv {o' : Option (aw_M)} {h : aw_M → Option ρ} {st0 : List Value} (hd : decode K.2.1 pc = .ok (.invokestatic idx, 3)) (hn : pc + 3 = n) (hs : st0 = as.reverse ++ st) (hM : AM l y cc mL rt dF dL aw_gv as μ o') (hw : aw_ct K.1 idx y cc mL rt as.length) (hR : dF + 1 ≤ K.2.2.2.2.1 ∧ 8 + (mL + 11) + dL ≤ K.2.2.2.2.2) (hst : ∀ ad, ((st.map (aw_c ad)).map fun v => v.category).sum ≤ 8) (k : ∀ r, AW l K g n L (st) r (h r)) : AW l K g pc L st0 μ (o'.bind h) := aw_callS hd hn hs hM hw hR hst k
theorem aw_callNv (host : String) {o' : Option (aw_M)} {h : aw_M → Option ρ} {st0 : List Value} (hd : decode K.2.1 pc = .ok (.invokestatic idx, 3)) (hn : pc + 3 = n) (hs : st0 = as.reverse ++ st) (hM : AM l y cc mL rt dF dL aw_gv as μ o') (hw : aw_cn K.1 idx y host cc mL rt as.length) (hR : dF + 1 ≤ K.2.2.2.2.1 ∧ 8 + (mL + 11) + dL ≤ K.2.2.2.2.2) (hst : ∀ ad, ((st.map (aw_c ad)).map fun v => v.category).sum ≤ 8) (k : ∀ r, AW l K g n L (st) r (h r)) : AW l K g pc L st0 μ (o'.bind h) := aw_callN host hd hn hs hM hw hR hst k
end aw_calls2
