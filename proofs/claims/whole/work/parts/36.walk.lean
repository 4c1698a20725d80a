def bw_0 : bw_T := ((fun _ _ => 0, fun _ _ => 0), fun _ _ => none)
def bw_1 : bw_T := bi_X10_init_0 (bz bw_0 0)
def bw_2 : bw_T := bi_X11_init_203 (bz bw_1 203)
def bw_3 : bw_T := bz bw_2 230
/-- the memory when all is made -/
def mu_0 : aw_M := bw_3.1
def bw_refs (w : bw_T) : Bool := (List.range 231).all fun a => match (aw_sh a).1 with
  | 4 => w.2 a 0 == some (aw_rf a 0) && w.2 a 1 == some (aw_rf a 1)
  | ci + 5 => (List.range (aw_ty ci).length).all fun k => (aw_ty ci).getD k 0 != 2 || w.2 a k == some (aw_rf a k)
  | _ => true
theorem bw_3_refs : bw_refs bw_3 = true := by decide +kernel
theorem bw_small : (List.range 231).all (fun a => (aw_sh a).1 != 4 || (aw_sh a).2 == 2) = true := by decide +kernel
theorem aw_ty_small : ∀ ci, ci < 12 → ∀ k, k < (aw_ty ci).length → (aw_ty ci).getD k 0 < 3 := by decide +kernel
theorem aw_sh_small : ∀ a, a < 231 → (aw_sh a).1 < 17 := by decide +kernel
theorem arrV_congr {cA : ClassId} {n : Nat} {f g : Nat → Value} (h : ∀ j, j < n → f j = g j) : arrV cA n f = arrV cA n g := by
  unfold arrV
  congr 1
  apply Array.ext
  · simp
  · intro i h1 h2
    simp only [Array.getElem_ofFn]
    exact h i (by simpa using h1)
theorem bw_to_at {D : va_G} {C : Nat → ClassId} {B : Nat} {w : bw_T} {H : Heap} {ad : Nat → Nat} (had : ∀ i, i < 231 → ad i = B + i) (hr : bw_refs w = true) (hrf : ∀ a, a < 231 → ∀ k, (∃ ci, (aw_sh a).1 = ci + 5 ∧ (aw_ty ci)[k]? = some 2) ∨ (aw_sh a).1 = 4 ∧ k < 2 → aw_rf a k < 231) {a : Nat} (ha : a < 231) (h : va_at D vwCl (B + a, bw_cell C B w a) H) : va_at D vwCl (ad a, aw_cell C ad w.1 a) H := by
  rw [had a ha]
  have hk := List.all_eq_true.mp hr a (List.mem_range.mpr ha)
  have hk16 := aw_sh_small a ha
  have e4 := List.all_eq_true.mp bw_small a (List.mem_range.mpr ha)
  generalize hsh : (aw_sh a).1 = kd at hk hk16 e4
  unfold bw_cell at h
  unfold aw_cell
  rw [hsh] at h ⊢
  match kd, hk, h with
  | 0, _, h => exact h
  | 1, _, h => exact h
  | 2, _, h => exact h
  | 3, _, h => exact h
  | 4, hk, h =>
    simp only [Bool.and_eq_true, beq_iff_eq] at hk
    have e5 : (aw_sh a).2 = 2 := by simpa using e4
    show H[B + a]? = some (vp_cell (C 4) ((aw_sh a).2, .inr (.inr (.inr (.inr (fun j => some (ad (aw_rf a j))))))))
    have h : H[B + a]? = some (vp_cell (C 4) ((aw_sh a).2, .inr (.inr (.inr (.inr (fun j => (w.2 a j).map (fun i => B + i))))))) := h
    rw [h]
    congr 1
    rw [vp_cell_q, vp_cell_q]
    refine arrV_congr (fun j hj => ?_)
    have hj : j < (aw_sh a).2 := hj
    rw [e5] at hj
    have q : w.2 a j = some (aw_rf a j) := by
      rcases (show j = 0 ∨ j = 1 by omega) with rfl | rfl
      · exact hk.1
      · exact hk.2
    rw [q, had _ (hrf a ha j (Or.inr ⟨hsh, hj⟩))]
    rfl
  | ci + 5, hk, h =>
    have e : (aw_ty ci).mapIdx (fun k t => bw_val B w a k t) = (aw_ty ci).mapIdx (fun k t => aw_val ad w.1 a k t) := by
      apply List.ext_getElem?
      intro k
      rw [List.getElem?_mapIdx, List.getElem?_mapIdx]
      cases ht : (aw_ty ci)[k]? with
      | none => rfl
      | some t =>
        have hkl := (List.getElem?_eq_some_iff.mp ht).1
        have hk2 := List.all_eq_true.mp hk k (List.mem_range.mpr hkl)
        have hg : (aw_ty ci).getD k 0 = t := by rw [List.getD_eq_getElem?_getD, ht]; rfl
        have h3 := aw_ty_small ci (by omega) k hkl
        rw [hg] at hk2 h3
        match t, hk2, h3 with
        | 0, _, _ => rfl
        | 1, _, _ => rfl
        | 2, hk2, _ =>
          have q : w.2 a k = some (aw_rf a k) := by simpa using hk2
          show some (va_rf ((w.2 a k).map (fun i => B + i))) = some (Value.ref (ad (aw_rf a k)))
          rw [q, had _ (hrf a ha k (Or.inl ⟨ci, hsh, ht⟩))]
          rfl
        | t + 3, _, h3 => omega
    show va_at D vwCl (B + a, .inr (ci, (aw_ty ci).mapIdx (fun k t => aw_val ad w.1 a k t))) H
    rw [← e]
    exact h
def rf_small : Bool := (List.range 231).all fun a => match (aw_sh a).1 with
  | 4 => decide (aw_rf a 0 < 231) && decide (aw_rf a 1 < 231)
  | ci + 5 => (List.range (aw_ty ci).length).all fun k => (aw_ty ci).getD k 0 != 2 || decide (aw_rf a k < 231)
  | _ => true
theorem rf_small_ok : rf_small = true := by decide +kernel
theorem rf_lt : ∀ a, a < 231 → ∀ k, (∃ ci, (aw_sh a).1 = ci + 5 ∧ (aw_ty ci)[k]? = some 2) ∨ (aw_sh a).1 = 4 ∧ k < 2 → aw_rf a k < 231 := by
  intro a ha k h
  have hk := List.all_eq_true.mp rf_small_ok a (List.mem_range.mpr ha)
  rcases h with ⟨ci, h1, h2⟩ | ⟨h1, h2⟩
  · rw [h1] at hk
    have hkl := (List.getElem?_eq_some_iff.mp h2).1
    have hk2 := List.all_eq_true.mp hk k (List.mem_range.mpr hkl)
    have hg : (aw_ty ci).getD k 0 = 2 := by rw [List.getD_eq_getElem?_getD, h2]; rfl
    rw [hg] at hk2
    simpa using hk2
  · rw [h1] at hk
    simp only [Bool.and_eq_true, decide_eq_true_eq] at hk
    rcases (show k = 0 ∨ k = 1 by omega) with rfl | rfl
    · exact hk.1
    · exact hk.2
section raw
variable {p : Program} {l : Launch} {e : Env} {R : Room} {s : State} {m : MethodId} {args : Array Value} {below : List Frame} {meth : Method} {c : Code} {H : Heap} {locs : List Loc} {kc ks n : Nat} {w : bw_T} {Q : State → Prop} {D : va_G} {C : Nat → ClassId} {B pc : Nat} {ls : Array Slot} {rest : List Value} {K : aw_K}
theorem bw_objcell {H1 : Heap} {kC : Class} (ci : Nat) (q : vw_C) (ty : Nat → FieldType) (hts : ∀ w ∈ aw_TB, w.before args s = true) (hK : va_K D vwCl (aw_tys C) s) (hq : vwCl[ci]? = some q) (h4 : ∀ w ∈ u_ws q.1 q.2.1 q.2.2, w ∈ aw_TB)
    (hty : ∀ k, k < q.2.2 → parseFieldDescriptor (q.2.1 k).2.2.1 = some (ty k)) (hsh : aw_sh n = (ci + 5, q.2.2)) (hfs : ∀ j, j < q.2.2 → ∃ t, (aw_ty ci)[j]? = some t ∧ defaultValue (ty j) = (match t with | 0 => .int 0 | 1 => .long 0 | _ => .null)) (hkC : s.vm.classes[D.1 ci]? = some kC) (e1 : H1[B + n]? = some (blank (D.1 ci) kC)) : va_at D vwCl (B + n, bw_cell C B (bz w n) n) H1 := by
  obtain ⟨qn, qT, qN⟩ := q
  have hKn := hK.1 ci _ hq
  have hcell : bw_cell C B (bz w n) n = .inr (ci, (aw_ty ci).mapIdx (fun k t => bw_val B (bz w n) n k t)) := by unfold bw_cell; rw [hsh]
  rw [hcell]
  refine ⟨_, hq, (u_born ty hts h4 hKn hkC e1 hty).to (fun j hj => ?_)⟩
  obtain ⟨t, ht, hv⟩ := hfs j hj
  show defaultValue (ty j) = ((aw_ty ci).mapIdx (fun k t => bw_val B (bz w n) n k t)).getD j .null
  rw [hv, List.getD_eq_getElem?_getD, List.getElem?_mapIdx, ht]
  have z1 : (bz w n).1.1 n = fun _ => 0 := va_up_self _ _ _
  have z2 : (bz w n).1.2 n = fun _ => 0 := va_up_self _ _ _
  have z3 : (bz w n).2 n = fun _ => none := va_up_self _ _ _
  show _ = bw_val B (bz w n) n j t
  unfold bw_val
  rw [z1, z2, z3]
  match t with
  | 0 => rfl
  | 1 => rfl
  | t + 2 => rfl
theorem bw_rawI {y : MethodName} {cc : ByteArray} {mL dF dL mc ms idx n1 b : Nat} {w1 : bw_T} (E : aw_E K p R s m args meth c) (X : bw_Rl D C B s H locs n kc w) (hM : BM l y cc mL dF dL mc ms [.ref b] n w n1 w1) (hw : aw_cs K.1 idx y cc mL none 0) (hy : y.name = "<init>") (hi : Cond.instanceMethod y ∈ aw_TB) (hd : decode K.2.1 pc = .ok (.invokespecial idx, 3))
    (hR : dF + 1 ≤ K.2.2.2.2.1 ∧ 8 + (mL + 11) + dL ≤ K.2.2.2.2.2) (hsz : ls.size = K.2.2.1) (hst : (rest.map fun v => v.category).sum ≤ 8) (hn1 : n1 = n + mc) (hc : kc + mc ≤ R.cells) (hk : ks + ms ≤ R.slots)
    (kk : ∀ (H1 : Heap) (locs1 : List Loc), bw_Rl D C B s H1 locs1 n1 (kc + mc) w1 → W p l e R s m args below meth c H1 locs1 (kc + mc) (ks + ms) Q (F0 m (pc + 3) ls rest)) : W p l e R s m args below meth c H locs kc ks Q (F0 m pc ls (.ref (B + b) :: rest)) := by
  refine bw_sz X (fun hz => ?_)
  obtain ⟨w1', w2, w3, w4, w5⟩ := hw
  have hts := E.2.2.2.2.1
  have run := va_runI (e := e) (below := below) (meth := meth) (locs := locs) (cells := kc) (slots := ks) (As := []) (rest := rest) (b := B + b) (g := F0 m pc ls (.ref (B + b) :: rest)) ⟨E.1, E.2.1, E.2.2.1, E.2.2.2.1, hts⟩ (hM D C B)
    ⟨⟨rfl, rfl, Nat.le_trans hR.1 E.2.2.2.2.2.2.2.1, Nat.le_trans hR.2 E.2.2.2.2.2.2.2.2.1, aw_pay hts w1', List.mem_cons_self, hts _ w1', hts _ w2, w3, aw_par w4, hts _ w5⟩, hy, hts _ hi⟩
    ⟨bw_blind, bw_pre X E.2.2.2.2.2.2.2.2.2 hz [.ref b]⟩ rfl rfl hsz rfl (lv_room hst) hd ⟨hc, hk⟩
  exact bw_cont run X hn1 kk
end raw
/-- from the law's entry: what is left is the loop over a memory all made -/
theorem whole_from {p : Program} {e : Env} {s : State} {m : MethodId} {below : List Frame} {meth : Method} {c : Code} (l : Launch) (hfl : l.stackTraces = false) {b L : Nat} {xs : Nat → Int32} (C0 : lw_At p s m meth c b L xs) (F : Nat) (hF : f_L_law F xs L mu_0 0 = some ()) : W p l e room_1 s m #[Value.ref b] below meth c s.heap [] 0 0 (lw_Z below #[Value.ref b] s) (entryFrame m ([Value.ref b] : List Value).toArray 7) := by
  obtain ⟨hx, hb, hret, hml, hown, hts, hX, hbl, hlk, hgv⟩ := C0
  have ht := lw_TB hts
  obtain ⟨D, C, hK⟩ := lw_vK hts
  have hbX := lw_bX hts hgv
  have haX := lw_aX hts hgv
  have E : aw_E k_L_law p room_1 s m #[Value.ref b] meth c := ⟨hx, hb, hml, hown, ht, hret, hlk, Nat.le_refl _, Nat.le_refl _, lw_Nk hts⟩
  have hl := lv_entry ([Value.ref b]) (n := 7) (Nat.le_of_ble_eq_true rfl)
  rw [lg_entry_eq]
  have hl : lv_has _ 7 [(0, .ref b)] := hl
  generalize (lg_sl ([Value.ref b]) ++ List.replicate (7 - (lg_sl ([Value.ref b])).length) Slot.unset).toArray = ls at hl ⊢
  have c1 : room_1.cells = 601024 := rfl
  have c2 : room_1.slots = 7293034 := rfl
  refine W.newcK (h := s.heap.size) hx hb hown (ht _ tb_24) (ht _ tb_25) (ht _ tb_1) rfl dL_law_0 (by rw [c1]; decide) (by rw [c2]; decide) (hK.1 10 _ rfl).2.1 rfl (fun H1 kC hkC e1 z1 o1 => ?_)
  have X1 : bw_Rl D C s.heap.size s H1 [] 1 1 (bz bw_0 0) := by
    refine ⟨fun k q hq => ?_, hK, ⟨by omega, fun q h1 h2 => o1 q h1, fun q h => by cases h⟩, ⟨rfl, by decide⟩, hbX⟩
    obtain ⟨h1, rfl⟩ := bw_get hq
    rw [show k = 0 by omega]
    exact bw_objcell 10 (RX10, TX10, 12) tyX10 ht hK rfl inTB_10 tyX10_ok rfl bnf_10 hkC e1
  refine lv_dup hx hb dL_law_3 rfl ?_
  refine bw_rawI (K := k_L_law) (b := 0) E X1 (mbi_X10_init_0 l _) ⟨tb_28, tb_1, ⟨by decide, by decide⟩, by decide +kernel, tb_26⟩ rfl tb_27 dL_law_4 ⟨Nat.le_of_ble_eq_true rfl, Nat.le_of_ble_eq_true rfl⟩ hl.1 (Nat.le_of_ble_eq_true rfl) rfl (by rw [c1]; decide) (by rw [c2]; decide) (fun H2 locs2 X2 => ?_)
  refine lv_astore_n hx hb dL_law_7 rfl hl (Nat.le_of_ble_eq_true rfl) rfl (fun ls2 hl2 => ?_)
  have hl2 : lv_has ls2 7 [(1, .ref s.heap.size), (0, .ref b)] := hl2
  refine bw_sz X2 (fun hz2 => ?_)
  refine W.newcK (h := H2.size) hx hb hown (ht _ tb_1456) (ht _ tb_1450) (ht _ tb_17) rfl dL_law_8 (by rw [c1]; decide) (by rw [c2]; decide) (hK.1 11 _ rfl).2.1 rfl (fun H3 kC3 hkC3 e3 z3 o3 => ?_)
  rw [hz2] at e3
  have X3 := bw_born X2 (bw_objcell 11 (RX11, TX11, 52) tyX11 ht hK rfl inTB_11 tyX11_ok rfl bnf_11 hkC3 e3) z3 o3
  rw [hz2]
  refine lv_dup hx hb dL_law_11 rfl ?_
  refine bw_rawI (K := k_L_law) (b := 203) E X3 (mbi_X11_init_203 l _) ⟨tb_1459, tb_17, ⟨by decide, by decide⟩, by decide +kernel, tb_1457⟩ rfl tb_1458 dL_law_12 ⟨Nat.le_of_ble_eq_true rfl, Nat.le_of_ble_eq_true rfl⟩ hl2.1 (Nat.le_of_ble_eq_true rfl) rfl (by rw [c1]; decide) (by rw [c2]; decide) (fun H4 locs4 X4 => ?_)
  refine lv_astore_n hx hb dL_law_15 rfl hl2 (Nat.le_of_ble_eq_true rfl) rfl (fun ls4 hl4 => ?_)
  have hl4 : lv_has ls4 7 [(2, .ref (s.heap.size + 203)), (1, .ref s.heap.size), (0, .ref b)] := hl4
  refine lv_iconst (v := 1) hx hb dL_law_16 (by decide) ?_
  refine bw_sz X4 (fun hz4 => ?_)
  refine va_newaK (atype := .long) hx hb (ht _ tb_147) rfl dL_law_17 rfl (by decide) (by decide : (1 : Int32).toNatClampNeg = 1) (by decide) (by rw [c1]; decide) (by rw [c2]; decide) hz4 (fun H5 cA e5 z5 o5 hAr hNm => ?_)
  have hcA : C 3 = cA := Option.some.inj (((hK.2 3 (C 3, .long) rfl).2).symm.trans hNm)
  have X5 : bw_Rl D C s.heap.size s H5 locs4 231 231 bw_3 := bw_born X4 (by
    have hcell : bw_cell C s.heap.size (bz bw_2 230) 230 = .inl (C 3, 1, .inr (.inl (fun _ => 0))) := by
      have hs : aw_sh 230 = (3, 1) := rfl
      unfold bw_cell
      rw [hs]
      show Sum.inl (C 3, 1, Sum.inr (Sum.inl (va_up bw_2.1.2 230 (fun _ => 0) 230))) = _
      rw [va_up_self]
    show va_at D vwCl (s.heap.size + 230, bw_cell C s.heap.size (bz bw_2 230) 230) H5
    rw [hcell, hcA]
    exact e5) (by rw [z5, hz4]) (fun q hq => o5 q (by rw [← hz4]; exact hq))
  refine lv_astore_n hx hb dL_law_19 rfl hl4 (Nat.le_of_ble_eq_true rfl) rfl (fun ls5 hl5 => ?_)
  have hl5 : lv_has ls5 7 [(3, .ref (s.heap.size + 230)), (2, .ref (s.heap.size + 203)), (1, .ref s.heap.size), (0, .ref b)] := hl5
  obtain ⟨ad, had⟩ : ∃ ad : Nat → Nat, ad = fun i => if i = 1000 then b else s.heap.size + i := ⟨_, rfl⟩
  have had1 : ∀ i, i < 231 → ad i = s.heap.size + i := fun i hi => by rw [had]; exact if_neg (by omega)
  have had2 : ad 1000 = b := by rw [had]; exact if_pos rfl
  have XR : aw_Rl D C ad (fun q => s.heap.size ≤ q) s H5 locs4 mu_0 := by
    obtain ⟨hP, -, hS, -, -⟩ := X5
    refine ⟨fun k q hq => ?_, hK, aw_D_of ⟨fun i j hi hj h => ?_, fun i hi => ?_⟩, hS, fun q h => h⟩
    · obtain ⟨h1, rfl⟩ := aw_ws_get hq
      exact bw_to_at had1 bw_3_refs rf_lt h1 (hP k _ (bw_at h1))
    · rw [had1 i hi, had1 j hj] at h
      omega
    · rw [had1 i hi]
      exact Nat.le_add_right _ _
  have main := m_L_law l hfl F xs L b mu_0 0 p e room_1 s m #[Value.ref b] below meth c ⟨E, by rw [c1]; decide, by rw [c2]; decide⟩ D C ad (fun q => s.heap.size ≤ q) ⟨haX, hX, hbl, fun q h => h, had2⟩ H5 locs4 XR (Nat.zero_le _) ls5 (lv_has_of hl5 (fun q hq => ?_)) () hF
  · exact main
  · simp only [aw_lv, aw_c, had1 0 (by decide), had1 203 (by decide), had1 230 (by decide), had2, List.mem_cons, List.not_mem_nil, or_false] at hq ⊢
    rcases hq with rfl | rfl | rfl | rfl
    · simp
    · simp
    · simp
    · simp
