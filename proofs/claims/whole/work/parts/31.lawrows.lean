abbrev k_L_law : aw_K := (RL, cL_law, 7, (some .boolean), 2048, 84000)
/-! THE CLAIM OUT OF ONE WALK OF THE LAW'S BODY. Your part is whole_start (and what it stands on); all else here is the same for every law, but numbers. -/
def R_law : String := "OrangeFightLaw"
def lw_P (b : Addr) (xs : List Int32) (args : Array Value) (s : State) : Prop := args = #[.ref b] ∧ s.IntsAt b xs ∧ xs.length ≤ 3072 ∧ (Jvm.Cond.and given_1 narrow_1).before args s = true
def lw_Q (_ : Array Value) (s : State) (o : Outcome) (t : State) : Prop := o = .returned (some (.int 1)) ∧ Framed s o t [] 601024 7293034
def lw_Z (below : List Frame) (a : Array Value) (s : State) : State → Prop := fun t => ∃ o, t.status = .running ∧ Ended t below o ∧ lw_Q a s o t
/-- the law's own end, with 1 on the stack, nothing written that was there before, its room as the claim has it -/
theorem lw_ret {p : Program} {l : Launch} {e : Env} {s : State} {m : MethodId} {below : List Frame} {meth : Method} {c : Code} {b : Nat} (hx : p.tables.exec = Jvm.exec) (hb : c.code = code) (hr : meth.sig.returnType = ret) (hlocks : meth.locks = false) {pc : Nat} {H : Heap} {ls : Array Slot} (hdg : decode code pc = .ok (.ireturn, 1)) : W p l e room_1 s m #[Value.ref b] below meth c H [] 601024 7293034 (lw_Z below #[Value.ref b] s) (F0 m pc ls [.int 1]) := by
  intro T hT X
  obtain ⟨fs, hret, hrun, hended, hW, hframe⟩ := X.leave (v := some (.int 1)) (hlocks := hlocks) (fun h => by rw [hr] at h; cases h)
  have hmeth' : T.vm.method? m = some meth := X.method'
  refine ⟨T.setFrames fs, ?_, .returned (some (.int 1)), hrun, hended, rfl, ⟨_, rfl⟩, hW, hframe⟩
  jvm_step X.here [X.here.top, hx, hb, hdg, hmeth', hr, ret, narrow_b1]
  (try refine ⟨rfl, ?_⟩); (try refine ⟨rfl, ?_⟩)
  first | (intro acts; rw [hret _ acts rfl rfl rfl]) | rw [hret _ _ rfl rfl rfl]
  exact Steps.refl _
/-- what holds at the law's entry: the machine, the code, the tables' words (any of lw_tbl by 'hts w (by decide +kernel)'), the script of L ints xs at the cell b, what the Statement gives of the start (any of its parts by flat_of_before) -/
def lw_At (p : Program) (s : State) (m : MethodId) (meth : Method) (c : Code) (b L : Nat) (xs : Nat → Int32) : Prop :=
  p.tables.exec = Jvm.exec ∧ c.code = code ∧ meth.sig.returnType = ret ∧ c.maxLocals = 7 ∧ s.vm.findClass R_law = some m.cls ∧ (∀ w ∈ lw_tbl, w.before #[Value.ref b] s = true) ∧ va_X b L xs s s.heap ∧ b < s.heap.size ∧ meth.locks = false ∧ (Jvm.Cond.and given_1 narrow_1).before #[Value.ref b] s = true
/-! the law's own body, from its loop on -/
def lw_Tg : xw_Tg Unit := fun below args s _ _ _ _ _ => lw_Z below args s
def lw_Px (b Ln : Nat) (xs : Nat → Int32) : (Nat → Nat) → (Nat → Prop) → State → Code → Prop := fun ad A s _ => ax_X A s ∧ va_X b Ln xs s s.heap ∧ b < s.heap.size ∧ (∀ q, A q → s.heap.size ≤ q) ∧ ad 1000 = b
theorem lw_ret2 {p : Program} {l : Launch} {e : Env} {R : Room} {s : State} {m : MethodId} {args : Array Value} {below : List Frame} {meth : Method} {c : Code} (hx : p.tables.exec = Jvm.exec) (hb : c.code = code) (hr : meth.sig.returnType = ret) (hlocks : meth.locks = false) {pc : Nat} {H : Heap} {ls : Array Slot} (hdg : decode code pc = .ok (.ireturn, 1)) : W p l e R s m args below meth c H [] 601024 7293034 (lw_Z below args s) (F0 m pc ls [.int 1]) := by
  intro T hT X
  obtain ⟨fs, hret, hrun, hended, hW, hframe⟩ := X.leave (v := some (.int 1)) (hlocks := hlocks) (fun h => by rw [hr] at h; cases h)
  have hmeth' : T.vm.method? m = some meth := X.method'
  refine ⟨T.setFrames fs, ?_, .returned (some (.int 1)), hrun, hended, rfl, ⟨_, rfl⟩, hW, hframe⟩
  jvm_step X.here [X.here.top, hx, hb, hdg, hmeth', hr, ret, narrow_b1]
  (try refine ⟨rfl, ?_⟩); (try refine ⟨rfl, ?_⟩)
  first | (intro acts; rw [hret _ acts rfl rfl rfl]) | rw [hret _ _ rfl rfl rfl]
  exact Steps.refl _
section xw_law
variable {ρ : Type} {l : Launch} {K : xw_K} {Tg : xw_Tg ρ} {b Ln : Nat} {xs : Nat → Int32} {pc n kc : Nat} {L : List (Option Value)} {st : List Value} {μ : aw_M} {o : Option ρ}
theorem xw_sld {i : Int32} (hd : decode K.1.2.1 pc = .ok (.iaload, 1)) (hn : pc + 1 = n) (k : XW l K Tg (lw_Px b Ln xs) n L (.int (xs i.toNatClampNeg) :: st) μ kc o) : XW l K Tg (lw_Px b Ln xs) pc L (.int i :: .ref 1000 :: st) μ kc (aw_g (aw_in i Ln) o) := by
  subst hn
  intro p e R s m args below meth c E D C ad A Y H locs X hk ls hl r hr
  obtain ⟨h1, hr⟩ := aw_g_some hr
  have h2 : aw_c ad (.ref 1000) = .ref b := by rw [← Y.2.2.2.2]; rfl
  rw [List.map_cons, List.map_cons, h2]
  exact va_sld E.1.1 E.1.2.1 Y.2.1 Y.2.2.1 (fun q => by have := Y.2.2.2.1 b q; have := Y.2.2.1; omega) X.2.2.2.1 (aw_in_vp h1) hd (k p e R s m args below meth c E D C ad A Y H locs X hk ls hl r hr)
theorem xw_slen (hd : decode K.1.2.1 pc = .ok (.arraylength, 1)) (hn : pc + 1 = n) (k : XW l K Tg (lw_Px b Ln xs) n L (.int (Int32.ofNat Ln) :: st) μ kc o) : XW l K Tg (lw_Px b Ln xs) pc L (.ref 1000 :: st) μ kc o := by
  subst hn
  intro p e R s m args below meth c E D C ad A Y H locs X hk ls hl r hr
  have h2 : aw_c ad (.ref 1000) = .ref b := by rw [← Y.2.2.2.2]; rfl
  rw [List.map_cons, h2]
  exact va_slen E.1.1 E.1.2.1 Y.2.1 Y.2.2.1 (fun q => by have := Y.2.2.2.1 b q; have := Y.2.2.1; omega) X.2.2.2.1 hd (k p e R s m args below meth c E D C ad A Y H locs X hk ls hl r hr)
theorem xw_law1 {k0 s0 : Nat} (hd : decode k_L_law.2.1 pc = .ok (.ireturn, 1)) (h1 : k0 + 1000 ≤ 601024 := by decide) (h2 : s0 + 6000 ≤ 7293034 := by decide) : XW l (k_L_law, k0, s0, 1000) lw_Tg (lw_Px b Ln xs) pc L [.int 1] μ kc (some ()) := by
  intro p e R s m args below meth c E D C ad A Y H locs X hk ls hl r hr
  have hk9 : kc ≤ 1000 := hk
  refine va_forget (fun q hq => Y.2.2.2.1 _ (X.2.2.2.1.2.2 q hq)) ?_
  refine W.widen (k := 601024) (n := 7293034) (show k0 + kc ≤ _ by omega) (show s0 + 6 * kc ≤ _ by omega) ?_
  exact lw_ret2 E.1.1 E.1.2.1 E.1.2.2.2.2.2.1 E.1.2.2.2.2.2.2.1 hd
theorem xw_callL {y : MethodName} {cc : ByteArray} {dF dL idx : Nat} {as : List Value} {hh : List (Nat × Nat × Nat × Nat)} {o' : Option (Int32 × aw_M)} {h : Int32 × aw_M → Option ρ} {st0 : List Value} (hd : decode K.1.2.1 pc = .ok (.invokestatic idx, 3)) (hn : pc + 3 = n) (hM : AMC l y cc 5 hh dF dL as μ o')
    (w1 : Cond.codeWith y cc 5 (some .int) hh ∈ aw_TB) (w2 : Cond.initialized y.cls ∈ aw_TB) (w3 : Cond.methodLink K.1.1 idx y ∈ aw_TB) (w4 : Cond.static y ∈ aw_TB) (w5 : y.cls ≠ "java/lang/invoke/MethodHandle" ∧ y.cls ≠ "java/lang/invoke/VarHandle") (w6 : (parseMethodDescriptor y.desc).map (fun d => d.parameters.length) = some as.length)
    (hR : dF + 1 ≤ K.1.2.2.2.2.1 ∧ 8 + (5 + 11) + dL ≤ K.1.2.2.2.2.2) (hst : ∀ ad, ((st.map (aw_c ad)).map fun v => v.category).sum ≤ 8) (hs : st0 = as.reverse ++ st) (k : ∀ r', XW l K Tg (lw_Px b Ln xs) n L (.int r'.1 :: st) r'.2 (kc + 1) (h r')) (hkm : K.2.2.2 = 1000 := by rfl) : XW l K Tg (lw_Px b Ln xs) pc L st0 μ kc (aw_g (decide (kc < 1000)) (o'.bind h)) := by
  subst hn
  subst hs
  intro p e R s m args below meth c E D C ad A Y H locs X hk ls hl r hr
  obtain ⟨hg, hr⟩ := aw_g_some hr
  have hg : kc < 1000 := of_decide_eq_true hg
  obtain ⟨r', hr1, hr2⟩ := aw_bind_some hr
  have hts := E.1.2.2.2.2.1
  have c1 : K.2.1 + kc + 1 ≤ R.cells := by have := E.2.1; omega
  have c2 : K.2.2.1 + 6 * kc + 6 ≤ R.slots := by have := E.2.2; omega
  have run := vx_runSW (R := R) (hh := hh) (e := e) (below := below) (meth := meth) (locs := locs) (cells := K.2.1 + kc) (slots := K.2.2.1 + 6 * kc) (As := as.map (aw_c ad)) (rest := st.map (aw_c ad)) (g := F0 m pc ls ((as.reverse ++ st).map (aw_c ad))) ⟨E.1.1, E.1.2.1, E.1.2.2.1, E.1.2.2.2.1, hts⟩ (hM D C ad H.size r' hr1)
    ⟨⟨rfl, rfl, Nat.le_trans hR.1 E.1.2.2.2.2.2.2.2.1, Nat.le_trans hR.2 E.1.2.2.2.2.2.2.2.2.1, aw_pay hts w1, List.mem_cons_self⟩, hts _ w1, hts _ w2, w5, aw_par w6, hts _ w3, hts _ w4⟩
    ⟨ax_blind, ax_pre X E.1.2.2.2.2.2.2.2.2.2 Y.1 as⟩ rfl (by rw [List.length_map]) hl.1 (by simp [List.map_append, List.map_reverse]) (lv_room (hst ad)) hd ⟨c1, c2⟩
  obtain ⟨hP, hK, hD, hS, hA⟩ := X
  have hi := aw_D_inj hD
  have hAA : ∀ q, aw_A ad H.size q → A q := by
    rintro q (⟨a, h1, rfl⟩ | h1)
    · exact hi.2 a h1
    · exact hA q (Nat.le_trans hS.1 h1)
  intro T hT Z
  obtain ⟨v, st₀, t, T', Lc, h0, X', hL, e1, e2, ⟨⟨hv, hp, hk1⟩, hz, hq⟩, st⟩ := run T hT Z
  rw [h0] at hz hq
  cases hv
  obtain ⟨t2, a1, b1⟩ := k r' p e R s m args below meth c E D C ad A Y T'.heap (locs ++ Lc) ⟨by rw [e1]; exact hp, hK, aw_D_of hi, ⟨Nat.le_trans hS.1 (by rw [e1]; exact hz), fun q h1 h2 => by rw [e1, hq q (Nat.lt_of_lt_of_le h1 hS.1) (fun z => h2 (hAA q z))]; exact hS.2.1 q h1 h2, fun q hq => by
      rcases List.mem_append.mp hq with h | h
      · exact hS.2.2 q h
      · exact hAA _ (hL q h)⟩, hA⟩ (by omega) ls hl r hr2 T' rfl X'
  exact ⟨t2, st t2 a1, b1⟩
end xw_law
theorem xw_loop_okN {ρ σ : Type} {l : Launch} {K : xw_K} {Tg : xw_Tg ρ} {Px : (Nat → Nat) → (Nat → Prop) → State → Code → Prop} {pc : Nat} {f : (σ → Option ρ) → σ → Option ρ} {Ls : σ → List (Option Value)} {ms : σ → aw_M} {kcs : σ → Nat} (h : ∀ k : σ → Option ρ, (∀ s, XW l K Tg Px pc (Ls s) [] (ms s) (kcs s) (k s)) → ∀ s, XW l K Tg Px pc (Ls s) [] (ms s) (kcs s) (f k s)) : ∀ (F : Nat) (s : σ), XW l K Tg Px pc (Ls s) [] (ms s) (kcs s) (aw_loop f F s)
  | 0, _ => xw_none
  | F + 1, s => h _ (xw_loop_okN h F) s
