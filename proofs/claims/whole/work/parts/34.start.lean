theorem tb_24 : Cond.classLink RL 8 RX10 ∈ aw_TB := aw_tb 24 (by decide +kernel) (by decide +kernel)
theorem tb_1456 : Cond.classLink RL 22 RX11 ∈ aw_TB := aw_tb 1456 (by decide +kernel) (by decide +kernel)
theorem tb_25 : Cond.instantiable RX10 12 ∈ aw_TB := aw_tb 25 (by decide +kernel) (by decide +kernel)
theorem tb_1450 : Cond.instantiable RX11 52 ∈ aw_TB := aw_tb 1450 (by decide +kernel) (by decide +kernel)
theorem tb_26 : Cond.methodLink RL 21 yX10_init ∈ aw_TB := aw_tb 26 (by decide +kernel) (by decide +kernel)
theorem tb_1457 : Cond.methodLink RL 24 yX11_init ∈ aw_TB := aw_tb 1457 (by decide +kernel) (by decide +kernel)
theorem tb_27 : Cond.instanceMethod yX10_init ∈ aw_TB := aw_tb 27 (by decide +kernel) (by decide +kernel)
theorem tb_1458 : Cond.instanceMethod yX11_init ∈ aw_TB := aw_tb 1458 (by decide +kernel) (by decide +kernel)
theorem tb_28 : Cond.code yX10_init cX10_init 2 none ∈ aw_TB := aw_tb 28 (by decide +kernel) (by decide +kernel)
theorem tb_1459 : Cond.code yX11_init cX11_init 2 none ∈ aw_TB := aw_tb 1459 (by decide +kernel) (by decide +kernel)
theorem tb_20 : Cond.initialized "java/lang/Throwable" ∈ aw_TB := aw_tb 20 (by decide +kernel) (by decide +kernel)
theorem lw_in {w : Cond} (i : Nat) (h : tables_1[i]? = some w) : w ∈ lw_tbl := List.mem_append_right _ (List.mem_of_getElem? h)
theorem nl_RX8_87 : Cond.methodLinkNest RX8 87 yX10_copyRow RX10 ∈ lw_tbl := lw_in 774 (by decide +kernel)
theorem nl_RX0_76 : Cond.methodLinkNest RX0 76 yX10_copyRow RX10 ∈ lw_tbl := lw_in 840 (by decide +kernel)
theorem nl_RX2_34 : Cond.methodLinkNest RX2 34 yX10_copyRow RX10 ∈ lw_tbl := lw_in 880 (by decide +kernel)
theorem nl_RX3_32 : Cond.methodLinkNest RX3 32 yX10_copyRow RX10 ∈ lw_tbl := lw_in 926 (by decide +kernel)
theorem nl_RX9_78 : Cond.methodLinkNest RX9 78 yX10_copyRow RX10 ∈ lw_tbl := lw_in 1211 (by decide +kernel)
theorem nl_RX5_114 : Cond.methodLinkNest RX5 114 yX10_isPlan RX10 ∈ lw_tbl := lw_in 1260 (by decide +kernel)
theorem nl_RX10_18 : Cond.methodLinkNest RX10 18 yX4_init RX10 ∈ lw_tbl := lw_in 151 (by decide +kernel)
theorem nl_RX4_25 : Cond.methodLinkNest RX4 25 yX3_init RX10 ∈ lw_tbl := lw_in 298 (by decide +kernel)
theorem nl_RX10_47 : Cond.methodLinkNest RX10 47 yX3_init RX10 ∈ lw_tbl := lw_in 494 (by decide +kernel)
theorem nl_RX10_87 : Cond.methodLinkNest RX10 87 yX9_init RX10 ∈ lw_tbl := lw_in 563 (by decide +kernel)
theorem nl_all : ∀ q ∈ aw_NL, Cond.methodLinkNest q.1 q.2.1 q.2.2.1 q.2.2.2 ∈ lw_tbl := by
  intro q hq
  simp only [aw_NL, List.mem_cons, List.not_mem_nil, or_false] at hq
  rcases hq with rfl | rfl | rfl | rfl | rfl | rfl | rfl | rfl | rfl | rfl
  · exact nl_RX8_87
  · exact nl_RX0_76
  · exact nl_RX2_34
  · exact nl_RX3_32
  · exact nl_RX9_78
  · exact nl_RX5_114
  · exact nl_RX10_18
  · exact nl_RX4_25
  · exact nl_RX10_47
  · exact nl_RX10_87
theorem lw_Nk {s : State} {args : Array Value} (hts : ∀ w ∈ lw_tbl, w.before args s = true) : aw_Nk s := fun q hq => va_Nw.of rfl (hts _ (nl_all q hq))
theorem lw_TB {s : State} {args : Array Value} (hts : ∀ w ∈ lw_tbl, w.before args s = true) : ∀ w ∈ aw_TB, w.before args s = true := fun w hw => hts w (List.mem_filter.mp hw).1
theorem lw_kn {s : State} {args : Array Value} (hts : ∀ w ∈ aw_TB, w.before args s = true) : ∀ c : Nat, ∃ q : ClassId × (Nat → Nat), ∀ r : vw_C, vwCl[c]? = some r → u_Kn s r.1 r.2.1 r.2.2 q.1 q.2 := by
  intro c
  have key : ∀ (r : vw_C) (n : Nat), vwCl[c]? = some r → (∀ w ∈ u_ws r.1 r.2.1 r.2.2, w ∈ aw_TB) → Cond.instantiable r.1 n ∈ aw_TB → ∃ q : ClassId × (Nat → Nat), ∀ r : vw_C, vwCl[c]? = some r → u_Kn s r.1 r.2.1 r.2.2 q.1 q.2 := by
    intro r n hr hw hi
    obtain ⟨cC, iS, h⟩ := u_known hts hw (hts _ hi)
    exact ⟨(cC, iS), fun r' hr' => by cases Option.some.inj (hr.symm.trans hr'); exact h⟩
  rcases Nat.lt_or_ge c 12 with h | h
  · rcases (show c = 0 ∨ c = 1 ∨ c = 2 ∨ c = 3 ∨ c = 4 ∨ c = 5 ∨ c = 6 ∨ c = 7 ∨ c = 8 ∨ c = 9 ∨ c = 10 ∨ c = 11 by omega) with rfl | rfl | rfl | rfl | rfl | rfl | rfl | rfl | rfl | rfl | rfl | rfl
    · exact key (RX0, TX0, 20) 20 rfl inTB_0 tb_383
    · exact key (RX1, TX1, 12) 12 rfl inTB_1 tb_324
    · exact key (RX2, TX2, 4) 4 rfl inTB_2 tb_262
    · exact key (RX3, TX3, 6) 6 rfl inTB_3 tb_297
    · exact key (RX4, TX4, 5) 5 rfl inTB_4 tb_150
    · exact key (RX5, TX5, 12) 12 rfl inTB_5 tb_498
    · exact key (RX6, TX6, 13) 13 rfl inTB_6 tb_33
    · exact key (RX7, TX7, 4) 4 rfl inTB_7 tb_541
    · exact key (RX8, TX8, 20) 20 rfl inTB_8 tb_156
    · exact key (RX9, TX9, 13) 13 rfl inTB_9 tb_562
    · exact key (RX10, TX10, 12) 12 rfl inTB_10 tb_25
    · exact key (RX11, TX11, 52) 52 rfl inTB_11 tb_1450
  · refine ⟨(0, fun _ => 0), fun r hr => ?_⟩
    have : vwCl.length ≤ c := h
    rw [List.getElem?_eq_none this] at hr
    cases hr
theorem lw_arr {s : State} {args : Array Value} {ty : FieldType} (h : (Cond.arrayClass ty).before args s = true) : ∃ cA : ClassId, ArrOfT s cA ty ∧ s.vm.findClass ("[" ++ ty.toString) = some cA := by
  simp only [Cond.before, Cond.holds, Cond.value] at h
  cases h1 : s.vm.findClass ("[" ++ ty.toString) with
  | none => simp [h1] at h
  | some cA =>
    cases h2 : s.vm.classes[cA]? with
    | none => simp [h1, h2] at h
    | some kA =>
      simp only [h1, h2, Option.bind_some, Option.map_some] at h
      cases h3 : kA.kind with
      | array comp ty' =>
        rw [h3] at h
        have h4 : ty' = ty := by simpa using h
        subst h4
        exact ⟨cA, fun n z => ⟨fun k q => (by cases q), kA, h2, comp, h3⟩, rfl⟩
      | _ => rw [h3] at h; simp at h
theorem lw_arrS {s : State} {args : Array Value} {C : String} (h : (Cond.arrayOver (.object C)).before args s = true) : ∃ cA : ClassId, ArrOfT s cA (.object C) ∧ va_RA s cA (.object C) := by
  simp only [Cond.before, Cond.holds, Cond.value] at h
  cases h1 : s.vm.findClass C with
  | none => simp [h1] at h
  | some comp =>
    simp only [h1, Option.bind_some] at h
    generalize hf : (s.vm.classes.findIdx? fun (x : Class) => match x.kind with | .array component _ => component == comp | _ => false) = fo at h
    cases fo with
    | none => simp at h
    | some cA =>
      simp only [Option.bind_some] at h
      cases h2 : s.vm.classes[cA]? with
      | none => simp [h2] at h
      | some kA =>
        simp only [h2, Option.map_some] at h
        cases h3 : kA.kind with
        | array comp' ty' =>
          rw [h3] at h
          simp only [Option.getD_some, beq_iff_eq, Option.some.injEq, Bool.and_eq_true, decide_eq_true_eq] at h
          obtain ⟨h4, h5⟩ := h
          subst h4
          have h6 : comp' = comp := by
            obtain ⟨hlt, hp, -⟩ := Array.findIdx?_eq_some_iff_getElem.mp hf
            have e : s.vm.classes[cA] = kA := Option.some.inj ((Array.getElem?_eq_getElem hlt).symm.trans h2)
            rw [e, h3] at hp
            simpa using hp
          subst h6
          exact ⟨cA, fun n z => ⟨fun k q => (by cases q), kA, h2, comp', h3⟩, kA, comp', h2, h3, h1, h5⟩
        | _ => rw [h3] at h; simp at h
