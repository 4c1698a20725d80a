theorem tb_1354 : Cond.classLink RX10 146 ax_nse ∈ aw_TB := aw_tb 1354 (by decide +kernel) (by decide +kernel)
theorem tb_23 : Cond.initialized ax_nse ∈ aw_TB := aw_tb 23 (by decide +kernel) (by decide +kernel)
theorem tb_1349 : Cond.classLink RL 13 ax_nse ∈ aw_TB := aw_tb 1349 (by decide +kernel) (by decide +kernel)
def ax_X (A : Nat → Prop) (s : State) : Prop := (∀ w ∈ ax_B, va_Nw w s) ∧ vx_Zq Bundle.tN "UNASSIGNED_STACK" Bundle.steD A s s.heap ∧ vx_Zq Bundle.tN "SUPPRESSED_SENTINEL" Bundle.listD A s s.heap
theorem ax_Bw {s U : State} (hW : s.WarmedH U.vm) (h : ∀ w ∈ ax_B, va_Nw w s) : ∀ w ∈ ax_B, va_Nw w U := by
  intro w hw
  have h1 := h w hw
  simp only [ax_B, List.mem_cons, List.not_mem_nil, or_false] at hw
  rcases hw with rfl | rfl | rfl | rfl
  · exact va_Nw.warmC hW h1
  · exact va_Nw.warmD hW h1
  · exact va_Nw.warmD hW h1
  · exact va_Nw.warmD hW h1
theorem ax_Bs {s U : State} (e : s.vm = U.vm) (h : ∀ w ∈ ax_B, va_Nw w s) : ∀ w ∈ ax_B, va_Nw w U := by
  intro w hw
  have h1 := h w hw
  simp only [ax_B, List.mem_cons, List.not_mem_nil, or_false] at hw
  rcases hw with rfl | rfl | rfl | rfl <;> exact va_Nw.same rfl e h1
theorem ax_Bt {s : State} {args : Array Value} (h : ∀ w ∈ ax_B, va_Nw w s) : ∀ w ∈ ax_B, w.before args s = true := by
  intro w hw
  have h1 := h w hw
  simp only [ax_B, List.mem_cons, List.not_mem_nil, or_false] at hw
  rcases hw with rfl | rfl | rfl | rfl <;> exact va_Nw.use rfl h1
/-- the premise seen from a callee's start -/
theorem ax_X.to {A B : Nat → Prop} {s U : State} (h : ax_X A s) (hAB : ∀ q, B q → A q) (hW : s.WarmedH U.vm) (hq : ∀ a : Nat, a < s.heap.size → ¬ A a → U.heap[a]? = s.heap[a]?) : ax_X B U :=
  ⟨ax_Bw hW h.1, ((h.2.1.kept hq).narrow hAB).moved hW.alike, ((h.2.2.kept hq).narrow hAB).moved hW.alike⟩
theorem ax_X.same {A : Nat → Prop} {s U : State} (e : U.vm = s.vm) (eh : U.heap = s.heap) (h : ax_X A s) : ax_X A U := by
  have al : s.vm.Alike U.vm := by rw [e]; exact Vm.Alike.refl _
  refine ⟨ax_Bs e.symm h.1, ?_, ?_⟩
  · rw [eh]; exact vx_Zq.moved al h.2.1
  · rw [eh]; exact vx_Zq.moved al h.2.2
abbrev ax_r : Type := Option Int32 × aw_M
def ax_Qc (D : va_G) (C : Nat → ClassId) (ad : Nat → Nat) (A : Nat → Prop) (r : ax_r) : Array Value → State → Outcome → State → Prop := fun _ st oc t => ∃ v, r.1 = some v ∧ oc = .returned (some (.int v)) ∧ va_P D vwCl (aw_ws C ad r.2) t.heap ∧ va_K D vwCl (aw_tys C) t ∧ va_F A st t
def ax_XC (D : va_G) (C : Nat → ClassId) (ad : Nat → Nat) (A : Nat → Prop) (r : ax_r) : String → State → State → Prop := fun E st t => r.1 = none ∧ E = ax_nse ∧ va_P D vwCl (aw_ws C ad r.2) t.heap ∧ va_K D vwCl (aw_tys C) t ∧ va_F A st t
def ax_Tg : xw_Tg ax_r := fun below args s D C ad A r => vx_MQ below (ax_Qc D C ad A r) (ax_XC D C ad A r) args s 1 6 A
def ax_Px : (Nat → Nat) → (Nat → Prop) → State → Code → Prop := fun _ A s c => ax_X A s ∧ ∀ x ∈ c.exceptionTable.toList, False
def ax_Pre (D : va_G) (C : Nat → ClassId) (ad : Nat → Nat) (sz : Nat) (μ : aw_M) (U : State) : Prop := U.heap.size = sz ∧ va_P D vwCl (aw_ws C ad μ) U.heap ∧ va_K D vwCl (aw_tys C) U ∧ va_D (fun _ => True) (aw_ws C ad μ) ∧ aw_Nk U ∧ ax_X (aw_A ad sz) U
def AXM (l : Launch) (y : MethodName) (cc : ByteArray) (mL dF dL : Nat) (as : List Value) (μ : aw_M) (o : Option ax_r) : Prop :=
  ∀ (D : va_G) (C : Nat → ClassId) (ad : Nat → Nat) (sz : Nat) (r : ax_r), o = some r →
  vx_Met l y (.code y cc mL (some .int) :: aw_TB) ({ frames := dF, cells := 1, slots := 6, locals := dL }) (va_Pc (as.map (aw_c ad)) (ax_Pre D C ad sz μ)) (ax_Qc D C ad (aw_A ad sz) r) (ax_XC D C ad (aw_A ad sz) r) 1 6 (aw_A ad sz)
theorem ax_met {l : Launch} {y : MethodName} {cc : ByteArray} {mL dF dL : Nat} {as : List Value} {μ : aw_M} {o : Option ax_r} (L0 : List (Option Value)) (hy : plainName y.cls = true)
    (hL : ∀ ad, aw_lv ad 0 L0 = lv_args 0 (as.map (aw_c ad))) (hm : ∀ ad, (lg_sl (as.map (aw_c ad))).length ≤ mL) (body : XW l ((y.cls, cc, mL, some .int, dF, dL), 0, 0, 1) ax_Tg ax_Px 0 L0 [] μ 0 o) : AXM l y cc mL dF dL as μ o := by
  intro D C ad sz r hr
  refine vx_ofW (cc := cc) (maxL := mL) (ret := some .int) hy rfl ?_
  intro p e s m args below meth c s₁ B hml hT hv
  obtain ⟨rfl, hsz, hP, hK, hD0, hN, hX⟩ := hv
  have hts := atoms_spec (ws := .code y cc mL (some .int) :: aw_TB) B.pre
  have hown : s.vm.findClass y.cls = some m.cls := findClass_of_methodNamed B.named
  subst hsz
  have hi := aw_D_inj hD0
  have hD : va_D (aw_A ad s.heap.size) (aw_ws C ad μ) := aw_D_of ⟨hi.1, fun i h => Or.inl ⟨i, h, rfl⟩⟩
  have hl := lv_entry (as.map (aw_c ad)) (n := mL) (hm ad)
  rw [← hL ad] at hl
  rw [lg_entry_eq]
  exact body p e _ s m _ below meth c ⟨⟨B.exec, B.bytes, hml, hown, fun w h => hts w (List.mem_cons_of_mem _ h), B.returns, B.notSynchronized, Nat.le_refl _, Nat.le_refl _, hN⟩, Nat.le_refl _, Nat.le_refl _⟩ D C ad (aw_A ad s.heap.size) ⟨hX, hT⟩ s.heap [] ⟨hP, hK, hD, va_S.rf, fun q h => Or.inr h⟩ (Nat.zero_le _) _ hl r hr
theorem ax_ret {l : Launch} {K0 : aw_K} {pc : Nat} {L : List (Option Value)} {v : Int32} {μ : aw_M} (hd : decode K0.2.1 pc = .ok (.ireturn, 1)) (hr0 : K0.2.2.2.1 = some .int) : XW l (K0, 0, 0, 1) ax_Tg ax_Px pc L [.int v] μ 0 (some (some v, μ)) := by
  intro p e R s m args below meth c E D C ad A Y H locs X hk ls hl r hr
  cases hr
  obtain ⟨hP, hK, hD, hS, hA⟩ := X
  refine W.widen (k := 1) (n := 6) (Nat.zero_le _) (Nat.zero_le _) ?_
  refine vx_ret ?_
  exact W.iret E.1.1 E.1.2.1 (by rw [E.1.2.2.2.2.2.1]; exact hr0) (fun t ht hW => ⟨v, rfl, rfl, by rw [ht]; exact hP, va_K.moved hW.alike hK, hS.F ht⟩) hS.2.2 hd E.1.2.2.2.2.2.2.1
theorem ax_throw {l : Launch} (hfl : l.stackTraces = false) {K0 : aw_K} {pc : Nat} {L : List (Option Value)} {μ : aw_M} (hK : K0.1 = RX10) (d0 : decode K0.2.1 pc = .ok (.new 146, 3)) (d3 : decode K0.2.1 (pc + 3) = .ok (.dup, 1)) (d4 : decode K0.2.1 (pc + 4) = .ok (.invokespecial 148, 3)) (d7 : decode K0.2.1 (pc + 7) = .ok (.athrow, 1))
    (hR : 6 ≤ K0.2.2.2.2.1 ∧ 100 ≤ K0.2.2.2.2.2) : XW l (K0, 0, 0, 1) ax_Tg ax_Px pc L [] μ 0 (some (none, μ)) := by
  intro p e R s m args below meth c E D C ad A Y H locs X hk ls hl r hr
  cases hr
  obtain ⟨hP, hK9, hD, hS, hA⟩ := X
  obtain ⟨⟨hB, hU, hN⟩, hT⟩ := Y
  have hts := E.1.2.2.2.2.1
  have hown : s.vm.findClass RX10 = some m.cls := by rw [← hK]; exact E.1.2.2.2.1
  refine vx_throw0 (A := A) (cls := ax_nse) (names := ["java/lang/RuntimeException", "java/lang/Exception"]) E.1.1 E.1.2.1 hfl hown (by decide +kernel) (by decide +kernel) (hts _ tb_1354) (hts _ tb_23)
    (vx_hat (fun w hw => hts w (ax_gb w hw)) ax_nb (ax_Bt hB)) ax_ot hU hN hS (by rw [E.1.2.2.1]; exact hl.1) d0 d3 d4 d7 (fun x hx => (hT x hx).elim) ?_ ?_ (Nat.le_trans (Nat.le_refl _) E.2.1) (Nat.le_trans (Nat.le_refl _) E.2.2) E.1.2.2.2.2.2.2.1 ?_ hS.2.2 (Nat.le_refl _) (Nat.le_refl _)
  · have h9 : K0.2.2.2.2.1 ≤ R.frames := E.1.2.2.2.2.2.2.2.1
    show 2 + 3 < R.frames
    omega
  · have h9 : K0.2.2.2.2.2 ≤ R.locals := E.1.2.2.2.2.2.2.2.2.1
    show 0 + (13 * (2 + 1) + 42) ≤ R.locals
    omega
  · intro t hW hz hq
    refine ⟨rfl, rfl, hP.kept (fun k x hx => hq _ ((hP k x hx).lt)), va_K.moved hW hK9, Nat.le_trans hS.1 hz, fun q h1 h2 => ?_⟩
    rw [hq q (Nat.lt_of_lt_of_le h1 hS.1)]
    exact hS.2.1 q h1 h2
/-- a wrapper of the law's: it answers 0 and keeps the number, or 1 -/
def ax_w (o : Option ax_r) (a : Nat) : Option (Int32 × aw_M) := o.bind fun r => match r.1 with
  | some v => some (0, aw_wL r.2 a 0 v.toInt64)
  | none => some (1, r.2)
def AMC (l : Launch) (y : MethodName) (cc : ByteArray) (mL : Nat) (hh : List (Nat × Nat × Nat × Nat)) (dF dL : Nat) (as : List Value) (μ : aw_M) (o : Option (Int32 × aw_M)) : Prop :=
  ∀ (D : va_G) (C : Nat → ClassId) (ad : Nat → Nat) (sz : Nat) (r : Int32 × aw_M), o = some r →
  Met l y (.codeWith y cc mL (some .int) hh :: aw_TB) ({ frames := dF, cells := 1, slots := 6, locals := dL }) (va_Pc (as.map (aw_c ad)) (ax_Pre D C ad sz μ)) (aw_Q D C ad (aw_A ad sz) (aw_gi r)) 1 6 (aw_A ad sz)
theorem ax_blind {D : va_G} {C : Nat → ClassId} {ad : Nat → Nat} {sz : Nat} {μ : aw_M} {as : List Value} : FrameBlind (va_Pc (as.map (aw_c ad)) (ax_Pre D C ad sz μ)) :=
  fun a U g mk q => by
    obtain ⟨q0, q1, qP, qK, qD, qN, qX⟩ := q
    exact ⟨q0, q1, qP, va_K.moved (u := U) (U := U.calling g mk a) (Vm.Alike.refl U.vm) qK, qD, aw_Nk.same (s := U) (U := U.calling g mk a) rfl qN, ax_X.same (s := U) (U := U.calling g mk a) rfl rfl qX⟩
theorem ax_pre {s : State} {D : va_G} {C : Nat → ClassId} {ad : Nat → Nat} {A : Nat → Prop} {H : Heap} {locs : List Loc} {μ : aw_M} (X : aw_Rl D C ad A s H locs μ) (hN : aw_Nk s) (hX : ax_X A s) (as : List Value) : ∀ U : State, U.heap = H → s.WarmedH U.vm → va_Pc (as.map (aw_c ad)) (ax_Pre D C ad H.size μ) (as.map (aw_c ad)).toArray U :=
  fun U hU hW => ⟨rfl, by rw [hU], by rw [hU]; exact X.1, va_K.moved hW.alike X.2.1, aw_D_of ⟨(aw_D_inj X.2.2.1).1, fun _ _ => trivial⟩, hN.warm hW, by
    refine ax_X.to hX ?_ hW (fun a h1 h2 => by rw [hU]; exact X.2.2.2.1.2.1 a h1 h2)
    rintro q (⟨a, h1, rfl⟩ | h1)
    · exact (aw_D_inj X.2.2.1).2 a h1
    · exact X.2.2.2.2 q (Nat.le_trans X.2.2.2.1.1 h1)⟩
theorem amc_wrap (l : Launch) {yw yx : MethodName} {cw cx : ByteArray} {mLx dFx dLx idx : Nat} {t a3 : Nat} {a0 a1 : Int32} {μ : aw_M} {o : Option ax_r} (hp : plainName yw.cls = true) (hcl : yw.cls = RL) (hM : AXM l yx cx mLx dFx dLx [.ref t, .int a0, .int a1] μ o) (ht : (aw_sh t).1 = 15) (ha : aw_sh a3 = (3, 1)) (hq1 : yx.cls = RX10) (hw : aw_cv RL idx yx cx mLx (some .int) 2) (hmL : mLx ≤ 8)
    (d0 : decode cw 0 = .ok (.aload_n 3, 1)) (d1 : decode cw 1 = .ok (.iconst 0, 1)) (d2 : decode cw 2 = .ok (.aload_n 0, 1)) (d3 : decode cw 3 = .ok (.iload_n 1, 1)) (d4 : decode cw 4 = .ok (.iload_n 2, 1)) (d5 : decode cw 5 = .ok (.invokevirtual idx, 3)) (d8 : decode cw 8 = .ok (.i2l, 1)) (d9 : decode cw 9 = .ok (.lastore, 1)) (d10 : decode cw 10 = .ok (.goto 7, 3)) (d13 : decode cw 13 = .ok (.astore 4, 2)) (d15 : decode cw 15 = .ok (.iconst 1, 1)) (d16 : decode cw 16 = .ok (.ireturn, 1)) (d17 : decode cw 17 = .ok (.iconst 0, 1)) (d18 : decode cw 18 = .ok (.ireturn, 1)) :
    AMC l yw cw 5 [(0, 10, 13, 13)] (dFx + 1) (dLx + 27) [.ref t, .int a0, .int a1, .ref a3] μ (ax_w o a3) := by
  intro D C ad sz r hr
  obtain ⟨rx, ho, hr⟩ := aw_bind_some hr
  refine va_MetW (hh := [(0, 10, 13, 13)]) (cc := cw) (maxL := 5) (ret := some .int) hp rfl ?_
  intro p e s m args below meth c s₁ B hml hv
  obtain ⟨rfl, hsz, hP, hK, hD0, hN, hX⟩ := hv
  have hts := atoms_spec (ws := .codeWith yw cw 5 (some .int) [(0, 10, 13, 13)] :: aw_TB) B.pre
  have htab : c.exceptionTable.toList = tableOf [(0, 10, 13, 13)] := vx_table (x := yw) B (hts _ List.mem_cons_self)
  have htb : ∀ w ∈ aw_TB, w.before _ s = true := fun w h => hts w (List.mem_cons_of_mem _ h)
  have hown : s.vm.findClass RL = some m.cls := by rw [← hcl]; exact findClass_of_methodNamed B.named
  subst hsz
  have hi := aw_D_inj hD0
  have hD : va_D (aw_A ad s.heap.size) (aw_ws C ad μ) := aw_D_of ⟨hi.1, fun i h => Or.inl ⟨i, h, rfl⟩⟩
  have hl := lv_entry (([.ref t, .int a0, .int a1, .ref a3] : List Value).map (aw_c ad)) (n := 5) (Nat.le_of_ble_eq_true rfl)
  rw [lg_entry_eq]
  have hl : lv_has _ 5 [(0, .ref (ad t)), (1, .int a0), (2, .int a1), (3, .ref (ad a3))] := hl
  generalize (lg_sl (([.ref t, .int a0, .int a1, .ref a3] : List Value).map (aw_c ad)) ++ List.replicate (5 - (lg_sl (([.ref t, .int a0, .int a1, .ref a3] : List Value).map (aw_c ad))).length) Slot.unset).toArray = ls at hl ⊢
  have hx := B.exec
  have hb := B.bytes
  refine lv_aload_n hx hb d0 rfl (lv_at hl 3 rfl) ?_
  refine lv_iconst (v := 0) hx hb d1 (by decide) ?_
  refine lv_aload_n hx hb d2 rfl (lv_at hl 0 rfl) ?_
  refine lv_iload_n hx hb d3 rfl (lv_at hl 1 rfl) ?_
  refine lv_iload_n hx hb d4 rfl (lv_at hl 2 rfl) ?_
  obtain ⟨⟨w1, w2, w3, w4, w5⟩, w6, w7⟩ := hw
  have X : aw_Rl D C ad (aw_A ad s.heap.size) s s.heap [] μ := ⟨hP, hK, hD, va_S.rf, fun q h => Or.inr h⟩
  have hat : (aw_ws C ad μ)[t]? = some (ad t, .inr (10, (aw_ty 10).mapIdx (fun k t' => aw_val ad μ t k t'))) := by rw [aw_ws_at (aw_sh_lt ht (by decide)), aw_cell_O ht]
  have run := vx_runV (R := ({ frames := dFx + 1, cells := 1, slots := 6, locals := dLx + 27 } : Room)) (e := e) (below := below) (meth := meth) (locs := []) (cells := 0) (slots := 0) (C := yx.cls) (As := [.int a0, .int a1]) (rest := [.int 0, .ref (ad a3)]) (b := ad t) (g := F0 m 5 ls [.int a1, .int a0, .ref (ad t), .int 0, .ref (ad a3)]) ⟨hx, hb, hml, hown, htb⟩ (hM D C ad s.heap.size rx ho)
    ⟨⟨rfl, rfl, Nat.le_refl _, (show 8 + (mLx + 11) + dLx ≤ dLx + 27 by omega), aw_pay htb w1, List.mem_cons_self, htb _ w1, htb _ w2, w3, aw_par w4, htb _ w5⟩, htb _ w6, htb _ w7⟩
    ⟨ax_blind, by rw [hq1]; exact va_recv hK hP (q := (RX10, TX10, 12)) rfl hat, ax_pre (as := [.ref t, .int a0, .int a1]) X hN (by exact ⟨hX.1, hX.2.1, hX.2.2⟩)⟩ rfl rfl hl.1 rfl (lv_room (Nat.le_of_ble_eq_true rfl)) d5 ⟨Nat.le_refl _, Nat.le_refl _⟩
  intro T hT Y
  rcases run T hT Y with ⟨v, st₀, t1, T', L, h0, X', hL, e1, e2, ⟨v', hv1, hv2, hp1, hk1, hz, hq⟩, st⟩ | ⟨q, st₀, t1, T', L, E, ce, h0, X', hL, e1, e2, ⟨hn, rfl, hp1, hk1, hz, hq⟩, hce, hcv, hclE, st⟩
  · rw [h0] at hz hq
    cases hv2
    rw [hv1] at hr
    cases hr
    have hS1 : va_S (aw_A ad s.heap.size) s.heap T'.heap L := ⟨by rw [e1]; exact hz, fun q h1 h2 => by rw [e1]; exact hq q h1 h2, fun q hq => hL q hq⟩
    have hP1 : va_P D vwCl (aw_ws C ad rx.2) T'.heap := by rw [e1]; exact hp1
    have hD1 : va_D (aw_A ad s.heap.size) (aw_ws C ad rx.2) := aw_D_of ⟨hi.1, fun i h => Or.inl ⟨i, h, rfl⟩⟩
    have ha1 : (aw_sh a3).1 = 3 := by rw [ha]
    have hNa := aw_sh_lt ha1 (by decide)
    have go : W p l e ({ frames := dFx + 1, cells := 1, slots := 6, locals := dLx + 27 } : Room) s m ((([.ref t, .int a0, .int a1, .ref a3] : List Value).map (aw_c ad)).toArray) below meth c T'.heap ([] ++ L) (0 + 1) (0 + 6) (MQ below (aw_Q D C ad (aw_A ad s.heap.size) (aw_gi (0, aw_wL rx.2 a3 0 v'.toInt64))) ((([.ref t, .int a0, .int a1, .ref a3] : List Value).map (aw_c ad)).toArray) s 1 6 (aw_A ad s.heap.size)) (F0 m 8 ls [.int v', .int 0, .ref (ad a3)]) := by
      refine lv_i2l hx hb d8 rfl ?_
      refine va_last (D := D) hx hb hK hP1 hD1 hS1 a3 3 (by rw [aw_ws_at hNa, aw_cell_J ha1]) rfl (by rw [ha]; exact bw_in (by decide)) d9 (fun H1 locs1 q1 q2 q3 => ?_)
      rw [aw_ws_set (μ' := aw_wL rx.2 a3 0 v'.toInt64) hNa (by rw [aw_cell_J ha1, aw_wL_s]; rfl) (fun b hb => aw_cell_congr (⟨rfl, aw_wL_o hb⟩ : (aw_wL rx.2 a3 0 v'.toInt64).1 b = rx.2.1 b ∧ (aw_wL rx.2 a3 0 v'.toInt64).2 b = rx.2.2 b).1 (⟨rfl, aw_wL_o hb⟩ : (aw_wL rx.2 a3 0 v'.toInt64).1 b = rx.2.1 b ∧ (aw_wL rx.2 a3 0 v'.toInt64).2 b = rx.2.2 b).2)] at q1
      refine lv_goto (tgt := 17) hx hb d10 (by decide) ?_
      refine lv_iconst (v := 0) hx hb d17 (by decide) ?_
      exact W.iret hx hb B.returns (fun t ht hW => ⟨⟨rfl, by rw [ht]; exact q1, va_K.moved hW.alike hK⟩, q3.F ht⟩) q3.2.2 d18 B.notSynchronized
    obtain ⟨t2, g1, g2⟩ := go T' rfl X'
    exact ⟨t2, st t2 g1, g2⟩
  · rw [h0] at hz hq
    rw [hn] at hr
    cases hr
    have hS1 : va_S (aw_A ad s.heap.size) s.heap T'.heap L := ⟨by rw [e1]; exact hz, fun q h1 h2 => by rw [e1]; exact hq q h1 h2, fun q hq => hL q hq⟩
    have go : vx_W p l e ({ frames := dFx + 1, cells := 1, slots := 6, locals := dLx + 27 } : Room) s m ((([.ref t, .int a0, .int a1, .ref a3] : List Value).map (aw_c ad)).toArray) below meth c T'.heap ([] ++ L) (0 + 1) (0 + 6) (MQ below (aw_Q D C ad (aw_A ad s.heap.size) (aw_gi (1, rx.2))) ((([.ref t, .int a0, .int a1, .ref a3] : List Value).map (aw_c ad)).toArray) s 1 6 (aw_A ad s.heap.size)) (F0 m 5 ls [.int 0, .ref (ad a3)]) q := by
      refine vx_catch hown [] ⟨0, 10, 13, 13⟩ [] htab (fun z hz => nomatch hz) (by decide) (by decide) (htb _ tb_1349) (ax_Bt hX.1 _ List.mem_cons_self) (by rw [e1]; exact hce) hcv hclE ?_
      refine lv_astore hx hb d13 hl (Nat.le_of_ble_eq_true rfl) rfl (fun ls2 hl2 => ?_)
      refine lv_iconst (v := 1) hx hb d15 (by decide) ?_
      exact W.iret hx hb B.returns (fun t ht hW => ⟨⟨rfl, by rw [ht, e1]; exact hp1, va_K.moved hW.alike hK⟩, hS1.F ht⟩) hS1.2.2 d16 B.notSynchronized
    obtain ⟨t2, g1, g2⟩ := go T' rfl X'
    exact ⟨t2, st.trans g1, g2⟩
