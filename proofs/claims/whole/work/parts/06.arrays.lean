/-! arrays, Math, arraycopy -/
def aw_cok (sp dp z : Int32) (n0 n1 : Nat) : Bool := decide (0 ≤ sp.toInt) && decide (0 ≤ dp.toInt) && decide (0 ≤ z.toInt) && decide (sp.toInt + z.toInt ≤ n0) && decide (dp.toInt + z.toInt ≤ n1)
theorem aw_nn {x : Int32} (h : 0 ≤ x.toInt) : ¬ x < 0 := by
  rw [Int32.lt_iff_toInt_lt]
  have : (0 : Int32).toInt = 0 := by decide
  omega
theorem aw_cl {x : Int32} (h : 0 ≤ x.toInt) : (x.toNatClampNeg : Int) = x.toInt := by
  show ((x.toInt.toNat : Nat) : Int) = x.toInt
  omega
theorem aw_cok_of {sp dp z : Int32} {n0 n1 : Nat} (h : aw_cok sp dp z n0 n1 = true) : ¬ sp < 0 ∧ ¬ dp < 0 ∧ ¬ z < 0 ∧ sp.toNatClampNeg + z.toNatClampNeg ≤ n0 ∧ dp.toNatClampNeg + z.toNatClampNeg ≤ n1 := by
  simp only [aw_cok, Bool.and_eq_true, decide_eq_true_eq] at h
  obtain ⟨⟨⟨⟨h1, h2⟩, h3⟩, h4⟩, h5⟩ := h
  have e1 := aw_cl h1
  have e2 := aw_cl h2
  have e3 := aw_cl h3
  exact ⟨aw_nn h1, aw_nn h2, aw_nn h3, by omega, by omega⟩
theorem aw_tb {w : Cond} (i : Nat) (h : tables_1[i]? = some w) (hg : goodWord w = true) : w ∈ aw_TB := List.mem_filter.mpr ⟨List.mem_append_right _ (List.mem_of_getElem? h), hg⟩
theorem aw_tbs {w : Cond} (i : Nat) (h : (k2_sels lw_privs)[i]? = some w) (hg : goodWord w = true) : w ∈ aw_TB := List.mem_filter.mpr ⟨List.mem_append_left _ (List.mem_of_getElem? h), hg⟩
theorem aw_w_max1 : Cond.static Lib.Math.max.name ∈ aw_TB := aw_tb 987 (by decide +kernel) (by decide +kernel)
theorem aw_w_max2 : Cond.code Lib.Math.max.name Lib.Math.max.code 2 (some .int) ∈ aw_TB := aw_tb 988 (by decide +kernel) (by decide +kernel)
theorem aw_w_min1 : Cond.static Lib.Math.min.name ∈ aw_TB := aw_tb 778 (by decide +kernel) (by decide +kernel)
theorem aw_w_min2 : Cond.code Lib.Math.min.name Lib.Math.min.code 2 (some .int) ∈ aw_TB := aw_tb 779 (by decide +kernel) (by decide +kernel)
theorem aw_w_abs1 : Cond.static Lib.Math.abs.name ∈ aw_TB := aw_tb 793 (by decide +kernel) (by decide +kernel)
theorem aw_w_abs2 : Cond.code Lib.Math.abs.name Lib.Math.abs.code 1 (some .int) ∈ aw_TB := aw_tb 794 (by decide +kernel) (by decide +kernel)
theorem aw_w_math : Cond.initialized "java/lang/Math" ∈ aw_TB := aw_tb 19 (by decide +kernel) (by decide +kernel)
theorem aw_w_sys : Cond.initialized "java/lang/System" ∈ aw_TB := aw_tb 18 (by decide +kernel) (by decide +kernel)
theorem aw_w_cp1 : Cond.native arraycopyName ∈ aw_TB := aw_tb 773 (by decide +kernel) (by decide +kernel)
theorem aw_w_cp2 : Cond.static arraycopyName ∈ aw_TB := aw_tb 772 (by decide +kernel) (by decide +kernel)
section aw_arr
variable {ρ : Type} {l : Launch} {K : aw_K} {g : ρ → Option Value × aw_M} {pc n : Nat} {L : List (Option Value)} {st : List Value} {μ : aw_M} {o : Option ρ}
theorem aw_iaload (len : Nat) {a : Nat} {i : Int32} (hd : decode K.2.1 pc = .ok (.iaload, 1)) (hn : pc + 1 = n) (ha : aw_sh a = (0, len)) (k : AW l K g n L (.int (μ.1 a i.toNatClampNeg) :: st) μ o) : AW l K g pc L (.int i :: .ref a :: st) μ (aw_g (aw_in i len) o) := by
  subst hn
  intro p e R s m args below meth c E D C ad A H locs X ls hl r hr
  obtain ⟨h1, hr⟩ := aw_g_some hr
  have ha1 : (aw_sh a).1 = 0 := by rw [ha]
  have ha2 : (aw_sh a).2 = len := by rw [ha]
  exact va_iald (D := D) E.1 E.2.1 X.2.1 X.1 a 0 (by rw [aw_ws_at (aw_sh_lt ha1 (by omega)), aw_cell_I ha1]) rfl (by rw [ha2]; exact aw_in_vp h1) hd (k p e R s m args below meth c E D C ad A H locs X ls hl r hr)
theorem aw_baload (len : Nat) {a : Nat} {i : Int32} (hd : decode K.2.1 pc = .ok (.baload, 1)) (hn : pc + 1 = n) (ha : aw_sh a = (1, len)) (k : AW l K g n L (.int (μ.1 a i.toNatClampNeg) :: st) μ o) : AW l K g pc L (.int i :: .ref a :: st) μ (aw_g (aw_in i len) o) := by
  subst hn
  intro p e R s m args below meth c E D C ad A H locs X ls hl r hr
  obtain ⟨h1, hr⟩ := aw_g_some hr
  have ha1 : (aw_sh a).1 = 1 := by rw [ha]
  have ha2 : (aw_sh a).2 = len := by rw [ha]
  exact va_bald (D := D) E.1 E.2.1 X.2.1 X.1 a 1 (by rw [aw_ws_at (aw_sh_lt ha1 (by omega)), aw_cell_B ha1]) rfl (by rw [ha2]; exact aw_in_vp h1) hd (k p e R s m args below meth c E D C ad A H locs X ls hl r hr)
theorem aw_zaload (len : Nat) {a : Nat} {i : Int32} (hd : decode K.2.1 pc = .ok (.baload, 1)) (hn : pc + 1 = n) (ha : aw_sh a = (2, len)) (k : AW l K g n L (.int (μ.1 a i.toNatClampNeg) :: st) μ o) : AW l K g pc L (.int i :: .ref a :: st) μ (aw_g (aw_in i len) o) := by
  subst hn
  intro p e R s m args below meth c E D C ad A H locs X ls hl r hr
  obtain ⟨h1, hr⟩ := aw_g_some hr
  have ha1 : (aw_sh a).1 = 2 := by rw [ha]
  have ha2 : (aw_sh a).2 = len := by rw [ha]
  exact va_zald (D := D) E.1 E.2.1 X.2.1 X.1 a 2 (by rw [aw_ws_at (aw_sh_lt ha1 (by omega)), aw_cell_Z ha1]) rfl (by rw [ha2]; exact aw_in_vp h1) hd (k p e R s m args below meth c E D C ad A H locs X ls hl r hr)
theorem aw_laload (len : Nat) {a : Nat} {i : Int32} (hd : decode K.2.1 pc = .ok (.laload, 1)) (hn : pc + 1 = n) (ha : aw_sh a = (3, len)) (k : AW l K g n L (.long (μ.2 a i.toNatClampNeg) :: st) μ o) : AW l K g pc L (.int i :: .ref a :: st) μ (aw_g (aw_in i len) o) := by
  subst hn
  intro p e R s m args below meth c E D C ad A H locs X ls hl r hr
  obtain ⟨h1, hr⟩ := aw_g_some hr
  have ha1 : (aw_sh a).1 = 3 := by rw [ha]
  have ha2 : (aw_sh a).2 = len := by rw [ha]
  exact va_lald (D := D) E.1 E.2.1 X.2.1 X.1 a 3 (by rw [aw_ws_at (aw_sh_lt ha1 (by omega)), aw_cell_J ha1]) rfl (by rw [ha2]; exact aw_in_vp h1) hd (k p e R s m args below meth c E D C ad A H locs X ls hl r hr)
theorem aw_aaload (len : Nat) {a : Nat} {i : Int32} (hd : decode K.2.1 pc = .ok (.aaload, 1)) (hn : pc + 1 = n) (ha : aw_sh a = (4, len)) (k : AW l K g n L (.ref (aw_rf a i.toNatClampNeg) :: st) μ o) : AW l K g pc L (.int i :: .ref a :: st) μ (aw_g (aw_in i len) o) := by
  subst hn
  intro p e R s m args below meth c E D C ad A H locs X ls hl r hr
  obtain ⟨h1, hr⟩ := aw_g_some hr
  have ha1 : (aw_sh a).1 = 4 := by rw [ha]
  have ha2 : (aw_sh a).2 = len := by rw [ha]
  exact va_aldq (D := D) (f := fun j => some (ad (aw_rf a j))) E.1 E.2.1 X.2.1 X.1 a 4 (by rw [aw_ws_at (aw_sh_lt ha1 (by omega)), aw_cell_S ha1]) rfl (by rw [ha2]; exact aw_in_vp h1) hd (k p e R s m args below meth c E D C ad A H locs X ls hl r hr)
theorem aw_iastore (len : Nat) {a : Nat} {i : Int32} {x : Int32} {h : aw_M → Option ρ} (hd : decode K.2.1 pc = .ok (.iastore, 1)) (hn : pc + 1 = n) (ha : aw_sh a = (0, len)) (k : ∀ μ2, AW l K g n L st μ2 (h μ2)) : AW l K g pc L (.int x :: .int i :: .ref a :: st) μ (aw_g (aw_in i len) (aw_let (aw_wI μ a i.toNatClampNeg x) h)) := by
  subst hn
  intro p e R s m args below meth c E D C ad A H locs X ls hl r hr
  obtain ⟨h1, hr⟩ := aw_g_some hr
  obtain ⟨hP, hK, hD, hS, hA⟩ := id X
  have ha1 : (aw_sh a).1 = 0 := by rw [ha]
  have ha2 : (aw_sh a).2 = len := by rw [ha]
  have hN := aw_sh_lt ha1 (by omega)
  refine va_iast (D := D) E.1 E.2.1 hK hP hD hS a 0 (by rw [aw_ws_at hN, aw_cell_I ha1]) rfl (by rw [ha2]; exact aw_in_vp h1) hd (fun H1 locs1 q1 q2 q3 => ?_)
  rw [aw_ws_set (μ' := aw_wI μ a i.toNatClampNeg x) hN (by rw [aw_cell_I ha1, aw_wI_s]) (fun b hb => aw_cell_congr (⟨aw_wI_o hb, rfl⟩ : (aw_wI μ a i.toNatClampNeg x).1 b = μ.1 b ∧ (aw_wI μ a i.toNatClampNeg x).2 b = μ.2 b).1 (⟨aw_wI_o hb, rfl⟩ : (aw_wI μ a i.toNatClampNeg x).1 b = μ.1 b ∧ (aw_wI μ a i.toNatClampNeg x).2 b = μ.2 b).2)] at q1 q2
  exact k _ p e R s m args below meth c E D C ad A H1 locs1 ⟨q1, hK, q2, q3, hA⟩ ls hl r hr
theorem aw_bastore (len : Nat) {a : Nat} {i : Int32} {x : Int32} {h : aw_M → Option ρ} (hd : decode K.2.1 pc = .ok (.bastore, 1)) (hn : pc + 1 = n) (ha : aw_sh a = (1, len)) (k : ∀ μ2, AW l K g n L st μ2 (h μ2)) : AW l K g pc L (.int x :: .int i :: .ref a :: st) μ (aw_g (aw_in i len) (aw_let (aw_wI μ a i.toNatClampNeg (vp_nar .byte x)) h)) := by
  subst hn
  intro p e R s m args below meth c E D C ad A H locs X ls hl r hr
  obtain ⟨h1, hr⟩ := aw_g_some hr
  obtain ⟨hP, hK, hD, hS, hA⟩ := id X
  have ha1 : (aw_sh a).1 = 1 := by rw [ha]
  have ha2 : (aw_sh a).2 = len := by rw [ha]
  have hN := aw_sh_lt ha1 (by omega)
  refine va_bast (D := D) E.1 E.2.1 hK hP hD hS a 1 (by rw [aw_ws_at hN, aw_cell_B ha1]) rfl (by rw [ha2]; exact aw_in_vp h1) hd (fun H1 locs1 q1 q2 q3 => ?_)
  rw [aw_ws_set (μ' := aw_wI μ a i.toNatClampNeg (vp_nar .byte x)) hN (by rw [aw_cell_B ha1, aw_wI_s]) (fun b hb => aw_cell_congr (⟨aw_wI_o hb, rfl⟩ : (aw_wI μ a i.toNatClampNeg (vp_nar .byte x)).1 b = μ.1 b ∧ (aw_wI μ a i.toNatClampNeg (vp_nar .byte x)).2 b = μ.2 b).1 (⟨aw_wI_o hb, rfl⟩ : (aw_wI μ a i.toNatClampNeg (vp_nar .byte x)).1 b = μ.1 b ∧ (aw_wI μ a i.toNatClampNeg (vp_nar .byte x)).2 b = μ.2 b).2)] at q1 q2
  exact k _ p e R s m args below meth c E D C ad A H1 locs1 ⟨q1, hK, q2, q3, hA⟩ ls hl r hr
theorem aw_zastore (len : Nat) {a : Nat} {i : Int32} {x : Int32} {h : aw_M → Option ρ} (hd : decode K.2.1 pc = .ok (.bastore, 1)) (hn : pc + 1 = n) (ha : aw_sh a = (2, len)) (k : ∀ μ2, AW l K g n L st μ2 (h μ2)) : AW l K g pc L (.int x :: .int i :: .ref a :: st) μ (aw_g (aw_in i len) (aw_let (aw_wI μ a i.toNatClampNeg (vp_nar .boolean x)) h)) := by
  subst hn
  intro p e R s m args below meth c E D C ad A H locs X ls hl r hr
  obtain ⟨h1, hr⟩ := aw_g_some hr
  obtain ⟨hP, hK, hD, hS, hA⟩ := id X
  have ha1 : (aw_sh a).1 = 2 := by rw [ha]
  have ha2 : (aw_sh a).2 = len := by rw [ha]
  have hN := aw_sh_lt ha1 (by omega)
  refine va_zast (D := D) E.1 E.2.1 hK hP hD hS a 2 (by rw [aw_ws_at hN, aw_cell_Z ha1]) rfl (by rw [ha2]; exact aw_in_vp h1) hd (fun H1 locs1 q1 q2 q3 => ?_)
  rw [aw_ws_set (μ' := aw_wI μ a i.toNatClampNeg (vp_nar .boolean x)) hN (by rw [aw_cell_Z ha1, aw_wI_s]) (fun b hb => aw_cell_congr (⟨aw_wI_o hb, rfl⟩ : (aw_wI μ a i.toNatClampNeg (vp_nar .boolean x)).1 b = μ.1 b ∧ (aw_wI μ a i.toNatClampNeg (vp_nar .boolean x)).2 b = μ.2 b).1 (⟨aw_wI_o hb, rfl⟩ : (aw_wI μ a i.toNatClampNeg (vp_nar .boolean x)).1 b = μ.1 b ∧ (aw_wI μ a i.toNatClampNeg (vp_nar .boolean x)).2 b = μ.2 b).2)] at q1 q2
  exact k _ p e R s m args below meth c E D C ad A H1 locs1 ⟨q1, hK, q2, q3, hA⟩ ls hl r hr
theorem aw_lastore (len : Nat) {a : Nat} {i : Int32} {x : Int64} {h : aw_M → Option ρ} (hd : decode K.2.1 pc = .ok (.lastore, 1)) (hn : pc + 1 = n) (ha : aw_sh a = (3, len)) (k : ∀ μ2, AW l K g n L st μ2 (h μ2)) : AW l K g pc L (.long x :: .int i :: .ref a :: st) μ (aw_g (aw_in i len) (aw_let (aw_wL μ a i.toNatClampNeg x) h)) := by
  subst hn
  intro p e R s m args below meth c E D C ad A H locs X ls hl r hr
  obtain ⟨h1, hr⟩ := aw_g_some hr
  obtain ⟨hP, hK, hD, hS, hA⟩ := id X
  have ha1 : (aw_sh a).1 = 3 := by rw [ha]
  have ha2 : (aw_sh a).2 = len := by rw [ha]
  have hN := aw_sh_lt ha1 (by omega)
  refine va_last (D := D) E.1 E.2.1 hK hP hD hS a 3 (by rw [aw_ws_at hN, aw_cell_J ha1]) rfl (by rw [ha2]; exact aw_in_vp h1) hd (fun H1 locs1 q1 q2 q3 => ?_)
  rw [aw_ws_set (μ' := aw_wL μ a i.toNatClampNeg x) hN (by rw [aw_cell_J ha1, aw_wL_s]) (fun b hb => aw_cell_congr (⟨rfl, aw_wL_o hb⟩ : (aw_wL μ a i.toNatClampNeg x).1 b = μ.1 b ∧ (aw_wL μ a i.toNatClampNeg x).2 b = μ.2 b).1 (⟨rfl, aw_wL_o hb⟩ : (aw_wL μ a i.toNatClampNeg x).1 b = μ.1 b ∧ (aw_wL μ a i.toNatClampNeg x).2 b = μ.2 b).2)] at q1 q2
  exact k _ p e R s m args below meth c E D C ad A H1 locs1 ⟨q1, hK, q2, q3, hA⟩ ls hl r hr
theorem aw_alen {a : Nat} (v : Int32) (hd : decode K.2.1 pc = .ok (.arraylength, 1)) (hn : pc + 1 = n) (ha : (aw_sh a).1 = 0) (hv : Int32.ofNat (aw_sh a).2 = v) (k : AW l K g n L (.int v :: st) μ o) : AW l K g pc L (.ref a :: st) μ o := by
  subst hn
  intro p e R s m args below meth c E D C ad A H locs X ls hl r hr
  exact va_alen (D := D) E.1 E.2.1 X.2.1 X.1 a 0 (by rw [aw_ws_at (aw_sh_lt ha (by omega)), aw_cell_I ha]) rfl hv hd (k p e R s m args below meth c E D C ad A H locs X ls hl r hr)
theorem aw_mmax {x y : Int32} {idx : Nat} (hd : decode K.2.1 pc = .ok (.invokestatic idx, 3)) (hn : pc + 3 = n) (hw : Cond.methodLink K.1 idx Lib.Math.max.name ∈ aw_TB) (hf : 1 ≤ K.2.2.2.2.1) (hlo : ∀ ad, ((st.map (aw_c ad)).map fun v => v.category).sum + 13 ≤ K.2.2.2.2.2) (k : AW l K g n L (.int (if x < y then y else x) :: st) μ o) : AW l K g pc L (.int y :: .int x :: st) μ o := by
  subst hn
  intro p e R s m args below meth c E D C ad A H locs X ls hl r hr
  exact va_mmax E.1 E.2.1 (by rw [E.2.2.1]; exact hl.1.symm) E.2.2.2.1 (E.2.2.2.2.1 _ hw) (E.2.2.2.2.1 _ aw_w_max1) (E.2.2.2.2.1 _ aw_w_math) (E.2.2.2.2.1 _ aw_w_max2) (Nat.le_trans hf E.2.2.2.2.2.2.2.1) (Nat.le_trans (hlo ad) E.2.2.2.2.2.2.2.2.1) (Nat.zero_le _) (Nat.zero_le _) hd (k p e R s m args below meth c E D C ad A H locs X ls hl r hr)
theorem aw_mmin {x y : Int32} {idx : Nat} (hd : decode K.2.1 pc = .ok (.invokestatic idx, 3)) (hn : pc + 3 = n) (hw : Cond.methodLink K.1 idx Lib.Math.min.name ∈ aw_TB) (hf : 1 ≤ K.2.2.2.2.1) (hlo : ∀ ad, ((st.map (aw_c ad)).map fun v => v.category).sum + 13 ≤ K.2.2.2.2.2) (k : AW l K g n L (.int (if y < x then y else x) :: st) μ o) : AW l K g pc L (.int y :: .int x :: st) μ o := by
  subst hn
  intro p e R s m args below meth c E D C ad A H locs X ls hl r hr
  exact va_mmin E.1 E.2.1 (by rw [E.2.2.1]; exact hl.1.symm) E.2.2.2.1 (E.2.2.2.2.1 _ hw) (E.2.2.2.2.1 _ aw_w_min1) (E.2.2.2.2.1 _ aw_w_math) (E.2.2.2.2.1 _ aw_w_min2) (Nat.le_trans hf E.2.2.2.2.2.2.2.1) (Nat.le_trans (hlo ad) E.2.2.2.2.2.2.2.2.1) (Nat.zero_le _) (Nat.zero_le _) hd (k p e R s m args below meth c E D C ad A H locs X ls hl r hr)
theorem aw_mabs {x : Int32} {idx : Nat} (hd : decode K.2.1 pc = .ok (.invokestatic idx, 3)) (hn : pc + 3 = n) (hw : Cond.methodLink K.1 idx Lib.Math.abs.name ∈ aw_TB) (hf : 1 ≤ K.2.2.2.2.1) (hlo : ∀ ad, ((st.map (aw_c ad)).map fun v => v.category).sum + 13 ≤ K.2.2.2.2.2) (k : AW l K g n L (.int (if 0 ≤ x then x else 0 - x) :: st) μ o) : AW l K g pc L (.int x :: st) μ o := by
  subst hn
  intro p e R s m args below meth c E D C ad A H locs X ls hl r hr
  exact va_mabs E.1 E.2.1 (by rw [E.2.2.1]; exact hl.1.symm) E.2.2.2.1 (E.2.2.2.2.1 _ hw) (E.2.2.2.2.1 _ aw_w_abs1) (E.2.2.2.2.1 _ aw_w_math) (E.2.2.2.2.1 _ aw_w_abs2) (Nat.le_trans hf E.2.2.2.2.2.2.2.1) (Nat.le_trans (hlo ad) E.2.2.2.2.2.2.2.2.1) (Nat.zero_le _) (Nat.zero_le _) hd (k p e R s m args below meth c E D C ad A H locs X ls hl r hr)
theorem aw_copyi (n0 n1 : Nat) {a b idx : Nat} {sp dp z : Int32} {h : aw_M → Option ρ} (hd : decode K.2.1 pc = .ok (.invokestatic idx, 3)) (hn : pc + 3 = n) (hw : Cond.methodLink K.1 idx arraycopyName ∈ aw_TB) (hf : 1 ≤ K.2.2.2.2.1) (hlo : ∀ ad, ((st.map (aw_c ad)).map fun v => v.category).sum + (nativeFrameWords "java/lang/System" "arraycopy" 5 + 11) ≤ K.2.2.2.2.2) (ha : aw_sh a = (0, n0)) (hb : aw_sh b = (0, n1)) (k : ∀ μ2, AW l K g n L st μ2 (h μ2)) : AW l K g pc L (.int z :: .int dp :: .ref b :: .int sp :: .ref a :: st) μ (aw_g (aw_cok sp dp z n0 n1) (aw_let (aw_cp μ a b sp.toNatClampNeg dp.toNatClampNeg z.toNatClampNeg) h)) := by
  subst hn
  intro p e R s m args below meth c E D C ad A H locs X ls hl r hr
  obtain ⟨h1, hr⟩ := aw_g_some hr
  obtain ⟨hP, hK, hD, hS, hA⟩ := id X
  have ha1 : (aw_sh a).1 = 0 := by rw [ha]
  have ha2 : (aw_sh a).2 = n0 := by rw [ha]
  have hb1 : (aw_sh b).1 = 0 := by rw [hb]
  have hb2 : (aw_sh b).2 = n1 := by rw [hb]
  have hN := aw_sh_lt hb1 (by omega)
  obtain ⟨c1, c2, c3, c4, c5⟩ := aw_cok_of h1
  refine va_copyi (D := D) E.1 E.2.1 (by rw [E.2.2.1]; exact hl.1.symm) E.2.2.2.1 (E.2.2.2.2.1 _ hw) (E.2.2.2.2.1 _ aw_w_cp1) (E.2.2.2.2.1 _ aw_w_cp2) (E.2.2.2.2.1 _ aw_w_sys) hK hP hD hS a b 0 0 (by rw [aw_ws_at (aw_sh_lt ha1 (by omega)), aw_cell_I ha1]) (by rw [aw_ws_at hN, aw_cell_I hb1]) rfl rfl rfl c1 c2 c3 (by rw [ha2]; exact c4) (by rw [hb2]; exact c5) (fun _ _ => rfl) (Nat.le_trans hf E.2.2.2.2.2.2.2.1) (Nat.le_trans (hlo ad) E.2.2.2.2.2.2.2.2.1) hd (fun H1 locs1 q1 q2 q3 => ?_)
  rw [aw_ws_set (μ' := aw_cp μ a b sp.toNatClampNeg dp.toNatClampNeg z.toNatClampNeg) hN (by rw [aw_cell_I hb1]; unfold aw_cp; simp only [va_up, if_true]) (fun b' hb => aw_cell_congr (⟨if_neg hb, rfl⟩ : (aw_cp μ a b sp.toNatClampNeg dp.toNatClampNeg z.toNatClampNeg).1 b' = μ.1 b' ∧ (aw_cp μ a b sp.toNatClampNeg dp.toNatClampNeg z.toNatClampNeg).2 b' = μ.2 b').1 (⟨if_neg hb, rfl⟩ : (aw_cp μ a b sp.toNatClampNeg dp.toNatClampNeg z.toNatClampNeg).1 b' = μ.1 b' ∧ (aw_cp μ a b sp.toNatClampNeg dp.toNatClampNeg z.toNatClampNeg).2 b' = μ.2 b').2)] at q1 q2
  exact k _ p e R s m args below meth c E D C ad A H1 locs1 ⟨q1, hK, q2, q3, hA⟩ ls hl r hr
theorem aw_copyl (n0 n1 : Nat) {a b idx : Nat} {sp dp z : Int32} {h : aw_M → Option ρ} (hd : decode K.2.1 pc = .ok (.invokestatic idx, 3)) (hn : pc + 3 = n) (hw : Cond.methodLink K.1 idx arraycopyName ∈ aw_TB) (hf : 1 ≤ K.2.2.2.2.1) (hlo : ∀ ad, ((st.map (aw_c ad)).map fun v => v.category).sum + (nativeFrameWords "java/lang/System" "arraycopy" 5 + 11) ≤ K.2.2.2.2.2) (ha : aw_sh a = (3, n0)) (hb : aw_sh b = (3, n1)) (k : ∀ μ2, AW l K g n L st μ2 (h μ2)) : AW l K g pc L (.int z :: .int dp :: .ref b :: .int sp :: .ref a :: st) μ (aw_g (aw_cok sp dp z n0 n1) (aw_let (aw_cpL μ a b sp.toNatClampNeg dp.toNatClampNeg z.toNatClampNeg) h)) := by
  subst hn
  intro p e R s m args below meth c E D C ad A H locs X ls hl r hr
  obtain ⟨h1, hr⟩ := aw_g_some hr
  obtain ⟨hP, hK, hD, hS, hA⟩ := id X
  have ha1 : (aw_sh a).1 = 3 := by rw [ha]
  have ha2 : (aw_sh a).2 = n0 := by rw [ha]
  have hb1 : (aw_sh b).1 = 3 := by rw [hb]
  have hb2 : (aw_sh b).2 = n1 := by rw [hb]
  have hN := aw_sh_lt hb1 (by omega)
  obtain ⟨c1, c2, c3, c4, c5⟩ := aw_cok_of h1
  refine va_copyl (D := D) E.1 E.2.1 (by rw [E.2.2.1]; exact hl.1.symm) E.2.2.2.1 (E.2.2.2.2.1 _ hw) (E.2.2.2.2.1 _ aw_w_cp1) (E.2.2.2.2.1 _ aw_w_cp2) (E.2.2.2.2.1 _ aw_w_sys) hK hP hD hS a b 3 3 (by rw [aw_ws_at (aw_sh_lt ha1 (by omega)), aw_cell_J ha1]) (by rw [aw_ws_at hN, aw_cell_J hb1]) rfl rfl rfl c1 c2 c3 (by rw [ha2]; exact c4) (by rw [hb2]; exact c5) (fun _ _ => rfl) (Nat.le_trans hf E.2.2.2.2.2.2.2.1) (Nat.le_trans (hlo ad) E.2.2.2.2.2.2.2.2.1) hd (fun H1 locs1 q1 q2 q3 => ?_)
  rw [aw_ws_set (μ' := aw_cpL μ a b sp.toNatClampNeg dp.toNatClampNeg z.toNatClampNeg) hN (by rw [aw_cell_J hb1]; unfold aw_cpL; simp only [va_up, if_true]) (fun b' hb => aw_cell_congr (⟨rfl, if_neg hb⟩ : (aw_cpL μ a b sp.toNatClampNeg dp.toNatClampNeg z.toNatClampNeg).1 b' = μ.1 b' ∧ (aw_cpL μ a b sp.toNatClampNeg dp.toNatClampNeg z.toNatClampNeg).2 b' = μ.2 b').1 (⟨rfl, if_neg hb⟩ : (aw_cpL μ a b sp.toNatClampNeg dp.toNatClampNeg z.toNatClampNeg).1 b' = μ.1 b' ∧ (aw_cpL μ a b sp.toNatClampNeg dp.toNatClampNeg z.toNatClampNeg).2 b' = μ.2 b').2)] at q1 q2
  exact k _ p e R s m args below meth c E D C ad A H1 locs1 ⟨q1, hK, q2, q3, hA⟩ ls hl r hr
end aw_arr
