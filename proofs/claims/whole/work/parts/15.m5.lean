abbrev k_X3_forget : aw_K := (RX3, cX3_forget, 1, none, 1, 120)
def f_X3_forget (F : Nat) (t : Nat) (μ : aw_M) : Option (aw_M) :=
  aw_let (aw_wI μ t 0 0) fun μ1 =>
  aw_let (aw_wI μ1 t 1 0) fun μ2 =>
  some μ2
theorem m_X3_forget (l : Launch) (F : Nat) (t : Nat) (ht : (aw_sh t).1 = 8) (μ : aw_M) : AM l yX3_forget cX3_forget 1 none 1 120 aw_gv [.ref t] μ (f_X3_forget F t μ) := by
  refine aw_met [some (.ref t)] (by decide) (fun _ => rfl) (fun _ => Nat.le_of_ble_eq_true rfl) ?_
  show AW l k_X3_forget aw_gv 0 [some (.ref t)] [] μ _
  unfold f_X3_forget
  refine aw_aload_n (n := 1) dX3_forget_0 rfl rfl ?_
  refine aw_iconst (n := 2) 0 dX3_forget_1 rfl (by decide) ?_
  refine aw_putI (n := 5) (RX3, TX3, 6) 3 0 dX3_forget_2 rfl ht (by decide) fp_RX3_25 (fun μ1 => ?_)
  refine aw_aload_n (n := 6) dX3_forget_5 rfl rfl ?_
  refine aw_iconst (n := 7) 0 dX3_forget_6 rfl (by decide) ?_
  refine aw_putI (n := 10) (RX3, TX3, 6) 3 1 dX3_forget_7 rfl ht (by decide) fp_RX3_29 (fun μ2 => ?_)
  exact aw_vreturn dX3_forget_10 rfl rfl
abbrev k_X3_takeFrom : aw_K := (RX3, cX3_takeFrom, 2, none, 2, 141)
def f_X3_takeFrom (F : Nat) (t a0 : Nat) (μ : aw_M) : Option (aw_M) :=
  aw_let (aw_wI μ t 0 (μ.1 a0 0)) fun μ1 =>
  aw_let (aw_wI μ1 t 1 (μ1.1 a0 1)) fun μ2 =>
  (f_X10_copyRow F (aw_rf a0 2) (aw_rf t 2) μ2).bind fun r3 =>
  (f_X10_copyRow F (aw_rf a0 3) (aw_rf t 3) r3).bind fun r4 =>
  (f_X10_copyRow F (aw_rf a0 4) (aw_rf t 4) r4).bind fun r5 =>
  some r5
theorem m_X3_takeFrom (l : Launch) (F : Nat) (t : Nat) (ht : (aw_sh t).1 = 8) (a0 : Nat) (ha0 : (aw_sh a0).1 = 8) (μ : aw_M) : AM l yX3_takeFrom cX3_takeFrom 2 none 2 141 aw_gv [.ref t, .ref a0] μ (f_X3_takeFrom F t a0 μ) := by
  refine aw_met [some (.ref t), some (.ref a0)] (by decide) (fun _ => rfl) (fun _ => Nat.le_of_ble_eq_true rfl) ?_
  show AW l k_X3_takeFrom aw_gv 0 [some (.ref t), some (.ref a0)] [] μ _
  unfold f_X3_takeFrom
  refine aw_aload_n (n := 1) dX3_takeFrom_0 rfl rfl ?_
  refine aw_aload_n (n := 2) dX3_takeFrom_1 rfl rfl ?_
  refine aw_getI (n := 5) (RX3, TX3, 6) 3 0 dX3_takeFrom_2 rfl ha0 (by decide) fd_RX3_25 ?_
  refine aw_putI (n := 8) (RX3, TX3, 6) 3 0 dX3_takeFrom_5 rfl ht (by decide) fp_RX3_25 (fun μ1 => ?_)
  refine aw_aload_n (n := 9) dX3_takeFrom_8 rfl rfl ?_
  refine aw_aload_n (n := 10) dX3_takeFrom_9 rfl rfl ?_
  refine aw_getI (n := 13) (RX3, TX3, 6) 3 1 dX3_takeFrom_10 rfl ha0 (by decide) fd_RX3_29 ?_
  refine aw_putI (n := 16) (RX3, TX3, 6) 3 1 dX3_takeFrom_13 rfl ht (by decide) fp_RX3_29 (fun μ2 => ?_)
  refine aw_aload_n (n := 17) dX3_takeFrom_16 rfl rfl ?_
  refine aw_getR (n := 20) (RX3, TX3, 6) 3 2 dX3_takeFrom_17 rfl ha0 (by decide) fd_RX3_11 ?_
  refine aw_aload_n (n := 21) dX3_takeFrom_20 rfl rfl ?_
  refine aw_getR (n := 24) (RX3, TX3, 6) 3 2 dX3_takeFrom_21 rfl ht (by decide) fd_RX3_11 ?_
  refine aw_callNv (n := 27) (as := [.ref (aw_rf a0 2), .ref (aw_rf t 2)]) (st := []) RX10 dX3_takeFrom_24 rfl rfl (m_X10_copyRow l F (aw_rf a0 2) (aw_arr (sf_3_2 ha0)) (aw_rf t 2) (aw_arr (sf_3_2 ht)) μ2) cw_RX3_32 ⟨Nat.le_of_ble_eq_true rfl, Nat.le_of_ble_eq_true rfl⟩ (fun _ => Nat.le_of_ble_eq_true rfl) (fun r3 => ?_)
  refine aw_aload_n (n := 28) dX3_takeFrom_27 rfl rfl ?_
  refine aw_getR (n := 31) (RX3, TX3, 6) 3 3 dX3_takeFrom_28 rfl ha0 (by decide) fd_RX3_15 ?_
  refine aw_aload_n (n := 32) dX3_takeFrom_31 rfl rfl ?_
  refine aw_getR (n := 35) (RX3, TX3, 6) 3 3 dX3_takeFrom_32 rfl ht (by decide) fd_RX3_15 ?_
  refine aw_callNv (n := 38) (as := [.ref (aw_rf a0 3), .ref (aw_rf t 3)]) (st := []) RX10 dX3_takeFrom_35 rfl rfl (m_X10_copyRow l F (aw_rf a0 3) (aw_arr (sf_3_3 ha0)) (aw_rf t 3) (aw_arr (sf_3_3 ht)) r3) cw_RX3_32 ⟨Nat.le_of_ble_eq_true rfl, Nat.le_of_ble_eq_true rfl⟩ (fun _ => Nat.le_of_ble_eq_true rfl) (fun r4 => ?_)
  refine aw_aload_n (n := 39) dX3_takeFrom_38 rfl rfl ?_
  refine aw_getR (n := 42) (RX3, TX3, 6) 3 4 dX3_takeFrom_39 rfl ha0 (by decide) fd_RX3_18 ?_
  refine aw_aload_n (n := 43) dX3_takeFrom_42 rfl rfl ?_
  refine aw_getR (n := 46) (RX3, TX3, 6) 3 4 dX3_takeFrom_43 rfl ht (by decide) fd_RX3_18 ?_
  refine aw_callNv (n := 49) (as := [.ref (aw_rf a0 4), .ref (aw_rf t 4)]) (st := []) RX10 dX3_takeFrom_46 rfl rfl (m_X10_copyRow l F (aw_rf a0 4) (aw_arr (sf_3_4 ha0)) (aw_rf t 4) (aw_arr (sf_3_4 ht)) r4) cw_RX3_32 ⟨Nat.le_of_ble_eq_true rfl, Nat.le_of_ble_eq_true rfl⟩ (fun _ => Nat.le_of_ble_eq_true rfl) (fun r5 => ?_)
  exact aw_vreturn dX3_takeFrom_49 rfl rfl
abbrev k_X3_isTold : aw_K := (RX3, cX3_isTold, 1, (some .boolean), 1, 120)
def f_X3_isTold (F : Nat) (t : Nat) (μ : aw_M) : Option (Bool × aw_M) :=
  (if (μ.1 t 1) ≤ 0 then
  some (false, μ)
  else
  some (true, μ))
theorem m_X3_isTold (l : Launch) (F : Nat) (t : Nat) (ht : (aw_sh t).1 = 8) (μ : aw_M) : AM l yX3_isTold cX3_isTold 1 (some .boolean) 1 120 aw_gz [.ref t] μ (f_X3_isTold F t μ) := by
  refine aw_met [some (.ref t)] (by decide) (fun _ => rfl) (fun _ => Nat.le_of_ble_eq_true rfl) ?_
  show AW l k_X3_isTold aw_gz 0 [some (.ref t)] [] μ _
  unfold f_X3_isTold
  refine aw_aload_n (n := 1) dX3_isTold_0 rfl rfl ?_
  refine aw_getI (n := 4) (RX3, TX3, 6) 3 1 dX3_isTold_1 rfl ht (by decide) fd_RX3_29 ?_
  refine aw_if_le (n := 7) 11 dX3_isTold_4 (by decide) rfl ?_ ?_
  · refine aw_iconst (n := 12) 0 dX3_isTold_11 rfl (by decide) ?_
    exact aw_zreturn (b := false) dX3_isTold_12 rfl rfl
  · refine aw_iconst (n := 8) 1 dX3_isTold_7 rfl (by decide) ?_
    refine aw_goto 12 dX3_isTold_8 (by decide) ?_
    exact aw_zreturn (b := true) dX3_isTold_12 rfl rfl
abbrev k_X3_addStep : aw_K := (RX3, cX3_addStep, 4, (some .boolean), 1, 120)
def f_X3_addStep (F : Nat) (t : Nat) (a0 : Int32) (a1 : Int32) (a2 : Int32) (μ : aw_M) : Option (Bool × aw_M) :=
  (if 40 ≤ (μ.1 t 1) then
  some (true, μ)
  else
  aw_g (aw_in (μ.1 t 1) 40) (aw_let (aw_wI μ (aw_rf t 2) (μ.1 t 1).toNatClampNeg a0) fun μ1 =>
  aw_g (aw_in (μ1.1 t 1) 40) (aw_let (aw_wI μ1 (aw_rf t 3) (μ1.1 t 1).toNatClampNeg a1) fun μ2 =>
  aw_g (aw_in (μ2.1 t 1) 40) (aw_let (aw_wI μ2 (aw_rf t 4) (μ2.1 t 1).toNatClampNeg a2) fun μ3 =>
  aw_let (aw_wI μ3 t 1 ((μ3.1 t 1) + 1)) fun μ4 =>
  some (true, μ4)))))
theorem m_X3_addStep (l : Launch) (F : Nat) (t : Nat) (ht : (aw_sh t).1 = 8) (a0 : Int32) (a1 : Int32) (a2 : Int32) (μ : aw_M) : AM l yX3_addStep cX3_addStep 4 (some .boolean) 1 120 aw_gz [.ref t, .int a0, .int a1, .int a2] μ (f_X3_addStep F t a0 a1 a2 μ) := by
  refine aw_met [some (.ref t), some (.int a0), some (.int a1), some (.int a2)] (by decide) (fun _ => rfl) (fun _ => Nat.le_of_ble_eq_true rfl) ?_
  show AW l k_X3_addStep aw_gz 0 [some (.ref t), some (.int a0), some (.int a1), some (.int a2)] [] μ _
  unfold f_X3_addStep
  refine aw_aload_n (n := 1) dX3_addStep_0 rfl rfl ?_
  refine aw_getI (n := 4) (RX3, TX3, 6) 3 1 dX3_addStep_1 rfl ht (by decide) fd_RX3_29 ?_
  refine aw_bipush (n := 6) 40 dX3_addStep_4 rfl (by decide) ?_
  refine aw_icmp_ge (n := 9) 49 dX3_addStep_6 (by decide) rfl ?_ ?_
  · refine aw_iconst (n := 50) 1 dX3_addStep_49 rfl (by decide) ?_
    exact aw_zreturn (b := true) dX3_addStep_50 rfl rfl
  · refine aw_aload_n (n := 10) dX3_addStep_9 rfl rfl ?_
    refine aw_getR (n := 13) (RX3, TX3, 6) 3 2 dX3_addStep_10 rfl ht (by decide) fd_RX3_11 ?_
    refine aw_aload_n (n := 14) dX3_addStep_13 rfl rfl ?_
    refine aw_getI (n := 17) (RX3, TX3, 6) 3 1 dX3_addStep_14 rfl ht (by decide) fd_RX3_29 ?_
    refine aw_iload_n (n := 18) dX3_addStep_17 rfl rfl ?_
    refine aw_iastore (n := 19) 40 dX3_addStep_18 rfl (sf_3_2 ht) (fun μ1 => ?_)
    refine aw_aload_n (n := 20) dX3_addStep_19 rfl rfl ?_
    refine aw_getR (n := 23) (RX3, TX3, 6) 3 3 dX3_addStep_20 rfl ht (by decide) fd_RX3_15 ?_
    refine aw_aload_n (n := 24) dX3_addStep_23 rfl rfl ?_
    refine aw_getI (n := 27) (RX3, TX3, 6) 3 1 dX3_addStep_24 rfl ht (by decide) fd_RX3_29 ?_
    refine aw_iload_n (n := 28) dX3_addStep_27 rfl rfl ?_
    refine aw_iastore (n := 29) 40 dX3_addStep_28 rfl (sf_3_3 ht) (fun μ2 => ?_)
    refine aw_aload_n (n := 30) dX3_addStep_29 rfl rfl ?_
    refine aw_getR (n := 33) (RX3, TX3, 6) 3 4 dX3_addStep_30 rfl ht (by decide) fd_RX3_18 ?_
    refine aw_aload_n (n := 34) dX3_addStep_33 rfl rfl ?_
    refine aw_getI (n := 37) (RX3, TX3, 6) 3 1 dX3_addStep_34 rfl ht (by decide) fd_RX3_29 ?_
    refine aw_iload_n (n := 38) dX3_addStep_37 rfl rfl ?_
    refine aw_iastore (n := 39) 40 dX3_addStep_38 rfl (sf_3_4 ht) (fun μ3 => ?_)
    refine aw_aload_n (n := 40) dX3_addStep_39 rfl rfl ?_
    refine aw_dup (n := 41) dX3_addStep_40 rfl (fun _ => rfl) ?_
    refine aw_getI (n := 44) (RX3, TX3, 6) 3 1 dX3_addStep_41 rfl ht (by decide) fd_RX3_29 ?_
    refine aw_iconst (n := 45) 1 dX3_addStep_44 rfl (by decide) ?_
    refine aw_iadd (n := 46) dX3_addStep_45 rfl ?_
    refine aw_putI (n := 49) (RX3, TX3, 6) 3 1 dX3_addStep_46 rfl ht (by decide) fp_RX3_29 (fun μ4 => ?_)
    refine aw_iconst (n := 50) 1 dX3_addStep_49 rfl (by decide) ?_
    exact aw_zreturn (b := true) dX3_addStep_50 rfl rfl
abbrev k_X3_readJoins : aw_K := (RX3, cX3_readJoins, 4, (some .boolean), 3, 163)
def f_X3_readJoins (F : Nat) (t a0 a1 : Nat) (μ : aw_M) : Option (Bool × aw_M) :=
  (f_X6_atName F a0 μ).bind fun r1 =>
  (if r1.1 = true then
  (f_X8_quarterNamed F a1 (r1.2.2 a0 8) r1.2).bind fun r2 =>
  (if r2.1 = (-1) then
  (f_X6_fail F a0 3 r2.2).bind fun r5 =>
  some (r5.1, r5.2)
  else
  (f_X6_step F a0 r2.2).bind fun r3 =>
  (f_X3_addStep F t 13 0 r2.1 r3).bind fun r4 =>
  some (r4.1, r4.2))
  else
  (f_X6_fail F a0 1 r1.2).bind fun r6 =>
  some (r6.1, r6.2))
theorem m_X3_readJoins (l : Launch) (F : Nat) (t : Nat) (ht : (aw_sh t).1 = 8) (a0 : Nat) (ha0 : (aw_sh a0).1 = 11) (a1 : Nat) (ha1 : (aw_sh a1).1 = 13) (μ : aw_M) : AM l yX3_readJoins cX3_readJoins 4 (some .boolean) (3) (163) aw_gz [.ref t, .ref a0, .ref a1] μ (f_X3_readJoins F t a0 a1 μ) := by
  refine aw_met [some (.ref t), some (.ref a0), some (.ref a1), none] (by decide) (fun _ => rfl) (fun _ => Nat.le_of_ble_eq_true rfl) ?_
  show AW l k_X3_readJoins aw_gz 0 [some (.ref t), some (.ref a0), some (.ref a1), none] [] μ _
  unfold f_X3_readJoins
  refine aw_aload_n (n := 1) dX3_readJoins_0 rfl rfl ?_
  refine aw_callVz (n := 4) (as := []) (st := []) (RX6, TX6, 13) 6 dX3_readJoins_1 rfl rfl (m_X6_atName l F a0 ha0 μ) ha0 (by decide) rfl rfl cw_RX3_89 ⟨Nat.le_of_ble_eq_true rfl, Nat.le_of_ble_eq_true rfl⟩ (fun _ => Nat.le_of_ble_eq_true rfl) (fun r1 => ?_)
  refine aw_ifb_ne (n := 7) 13 dX3_readJoins_4 (by decide) rfl ?_ ?_
  · refine aw_aload_n (n := 14) dX3_readJoins_13 rfl rfl ?_
    refine aw_aload_n (n := 15) dX3_readJoins_14 rfl rfl ?_
    refine aw_getL (n := 18) (RX6, TX6, 13) 6 8 dX3_readJoins_15 rfl ha0 (by decide) fd_RX3_93 ?_
    refine aw_callVi (n := 21) (as := [.long (r1.2.2 a0 8)]) (st := []) (RX8, TX8, 20) 8 dX3_readJoins_18 rfl rfl (m_X8_quarterNamed l F a1 ha1 (r1.2.2 a0 8) r1.2) ha1 (by decide) rfl rfl cw_RX3_97 ⟨Nat.le_of_ble_eq_true rfl, Nat.le_of_ble_eq_true rfl⟩ (fun _ => Nat.le_of_ble_eq_true rfl) (fun r2 => ?_)
    refine aw_istore_n (n := 22) [some (.ref t), some (.ref a0), some (.ref a1), some (.int r2.1)] dX3_readJoins_21 rfl rfl (Nat.le_of_ble_eq_true rfl) (Nat.le_of_ble_eq_true rfl) rfl ?_
    refine aw_iload_n (n := 23) dX3_readJoins_22 rfl rfl ?_
    refine aw_iconst (n := 24) (-1) dX3_readJoins_23 rfl (by decide) ?_
    refine aw_icmp_ne (n := 27) 33 dX3_readJoins_24 (by decide) rfl ?_ ?_
    · refine aw_aload_n (n := 34) dX3_readJoins_33 rfl rfl ?_
      refine aw_callVv (n := 37) (as := []) (st := []) (RX6, TX6, 13) 6 dX3_readJoins_34 rfl rfl (m_X6_step l F a0 ha0 r2.2) ha0 (by decide) rfl rfl cw_RX3_62 ⟨Nat.le_of_ble_eq_true rfl, Nat.le_of_ble_eq_true rfl⟩ (fun _ => Nat.le_of_ble_eq_true rfl) (fun r3 => ?_)
      refine aw_aload_n (n := 38) dX3_readJoins_37 rfl rfl ?_
      refine aw_bipush (n := 40) 13 dX3_readJoins_38 rfl (by decide) ?_
      refine aw_iconst (n := 41) 0 dX3_readJoins_40 rfl (by decide) ?_
      refine aw_iload_n (n := 42) dX3_readJoins_41 rfl rfl ?_
      refine aw_callVz (n := 45) (as := [.int 13, .int 0, .int r2.1]) (st := []) (RX3, TX3, 6) 3 dX3_readJoins_42 rfl rfl (m_X3_addStep l F t ht 13 0 r2.1 r3) ht (by decide) rfl rfl cw_RX3_65 ⟨Nat.le_of_ble_eq_true rfl, Nat.le_of_ble_eq_true rfl⟩ (fun _ => Nat.le_of_ble_eq_true rfl) (fun r4 => ?_)
      exact aw_zreturn (b := r4.1) dX3_readJoins_45 rfl rfl
    · refine aw_aload_n (n := 28) dX3_readJoins_27 rfl rfl ?_
      refine aw_iconst (n := 29) 3 dX3_readJoins_28 rfl (by decide) ?_
      refine aw_callVz (n := 32) (as := [.int 3]) (st := []) (RX6, TX6, 13) 6 dX3_readJoins_29 rfl rfl (m_X6_fail l F a0 ha0 3 r2.2) ha0 (by decide) rfl rfl cw_RX3_52 ⟨Nat.le_of_ble_eq_true rfl, Nat.le_of_ble_eq_true rfl⟩ (fun _ => Nat.le_of_ble_eq_true rfl) (fun r5 => ?_)
      exact aw_zreturn (b := r5.1) dX3_readJoins_32 rfl rfl
  · refine aw_aload_n (n := 8) dX3_readJoins_7 rfl rfl ?_
    refine aw_iconst (n := 9) 1 dX3_readJoins_8 rfl (by decide) ?_
    refine aw_callVz (n := 12) (as := [.int 1]) (st := []) (RX6, TX6, 13) 6 dX3_readJoins_9 rfl rfl (m_X6_fail l F a0 ha0 1 r1.2) ha0 (by decide) rfl rfl cw_RX3_52 ⟨Nat.le_of_ble_eq_true rfl, Nat.le_of_ble_eq_true rfl⟩ (fun _ => Nat.le_of_ble_eq_true rfl) (fun r6 => ?_)
    exact aw_zreturn (b := r6.1) dX3_readJoins_12 rfl rfl
abbrev k_X3_readMeasure : aw_K := (RX3, cX3_readMeasure, 4, (some .boolean), 3, 163)
def f_X3_readMeasure_33 (F : Nat) (t a0 : Nat) (x2 : Int32) (μ : aw_M) : Option (Bool × aw_M) :=
  aw_let ((μ.1 a0 10)) fun v11 =>
  (f_X6_step F a0 μ).bind fun r12 =>
  (if (r12.1 a0 6) = 2 then
  (f_X3_addStep F t x2 v11 (r12.1 a0 7) r12).bind fun r13 =>
  (f_X6_step F a0 r13.2).bind fun r14 =>
  some (true, r14)
  else
  (f_X6_fail F a0 1 r12).bind fun r15 =>
  some (r15.1, r15.2))
theorem c_X3_readMeasure_33 (l : Launch) (F : Nat) (t : Nat) (ht : (aw_sh t).1 = 8) (a0 : Nat) (ha0 : (aw_sh a0).1 = 11) (x2 : Int32) (μ : aw_M) : AW l k_X3_readMeasure aw_gz 33 [some (.ref t), some (.ref a0), some (.int x2), none] [] μ (f_X3_readMeasure_33 F t a0 x2 μ) := by
  unfold f_X3_readMeasure_33
  refine aw_aload_n (n := 34) dX3_readMeasure_33 rfl rfl ?_
  refine aw_getI (n := 37) (RX6, TX6, 13) 6 10 dX3_readMeasure_34 rfl ha0 (by decide) fd_RX3_103 ?_
  refine aw_nmI (fun v11 => ?_)
  refine aw_istore_n (n := 38) [some (.ref t), some (.ref a0), some (.int x2), some (.int v11)] dX3_readMeasure_37 rfl rfl (Nat.le_of_ble_eq_true rfl) (Nat.le_of_ble_eq_true rfl) rfl ?_
  refine aw_aload_n (n := 39) dX3_readMeasure_38 rfl rfl ?_
  refine aw_callVv (n := 42) (as := []) (st := []) (RX6, TX6, 13) 6 dX3_readMeasure_39 rfl rfl (m_X6_step l F a0 ha0 μ) ha0 (by decide) rfl rfl cw_RX3_62 ⟨Nat.le_of_ble_eq_true rfl, Nat.le_of_ble_eq_true rfl⟩ (fun _ => Nat.le_of_ble_eq_true rfl) (fun r12 => ?_)
  refine aw_aload_n (n := 43) dX3_readMeasure_42 rfl rfl ?_
  refine aw_getI (n := 46) (RX6, TX6, 13) 6 6 dX3_readMeasure_43 rfl ha0 (by decide) fd_RX3_49 ?_
  refine aw_iconst (n := 47) 2 dX3_readMeasure_46 rfl (by decide) ?_
  refine aw_icmp_eq (n := 50) 56 dX3_readMeasure_47 (by decide) rfl ?_ ?_
  · refine aw_aload_n (n := 57) dX3_readMeasure_56 rfl rfl ?_
    refine aw_iload_n (n := 58) dX3_readMeasure_57 rfl rfl ?_
    refine aw_iload_n (n := 59) dX3_readMeasure_58 rfl rfl ?_
    refine aw_aload_n (n := 60) dX3_readMeasure_59 rfl rfl ?_
    refine aw_getI (n := 63) (RX6, TX6, 13) 6 7 dX3_readMeasure_60 rfl ha0 (by decide) fd_RX3_105 ?_
    refine aw_callVz (n := 66) (as := [.int x2, .int v11, .int (r12.1 a0 7)]) (st := []) (RX3, TX3, 6) 3 dX3_readMeasure_63 rfl rfl (m_X3_addStep l F t ht x2 v11 (r12.1 a0 7) r12) ht (by decide) rfl rfl cw_RX3_65 ⟨Nat.le_of_ble_eq_true rfl, Nat.le_of_ble_eq_true rfl⟩ (fun _ => Nat.le_of_ble_eq_true rfl) (fun r13 => ?_)
    refine aw_pop (n := 67) dX3_readMeasure_66 rfl (fun _ => rfl) ?_
    refine aw_aload_n (n := 68) dX3_readMeasure_67 rfl rfl ?_
    refine aw_callVv (n := 71) (as := []) (st := []) (RX6, TX6, 13) 6 dX3_readMeasure_68 rfl rfl (m_X6_step l F a0 ha0 r13.2) ha0 (by decide) rfl rfl cw_RX3_62 ⟨Nat.le_of_ble_eq_true rfl, Nat.le_of_ble_eq_true rfl⟩ (fun _ => Nat.le_of_ble_eq_true rfl) (fun r14 => ?_)
    refine aw_iconst (n := 72) 1 dX3_readMeasure_71 rfl (by decide) ?_
    exact aw_zreturn (b := true) dX3_readMeasure_72 rfl rfl
  · refine aw_aload_n (n := 51) dX3_readMeasure_50 rfl rfl ?_
    refine aw_iconst (n := 52) 1 dX3_readMeasure_51 rfl (by decide) ?_
    refine aw_callVz (n := 55) (as := [.int 1]) (st := []) (RX6, TX6, 13) 6 dX3_readMeasure_52 rfl rfl (m_X6_fail l F a0 ha0 1 r12) ha0 (by decide) rfl rfl cw_RX3_52 ⟨Nat.le_of_ble_eq_true rfl, Nat.le_of_ble_eq_true rfl⟩ (fun _ => Nat.le_of_ble_eq_true rfl) (fun r15 => ?_)
    exact aw_zreturn (b := r15.1) dX3_readMeasure_55 rfl rfl
def f_X3_readMeasure (F : Nat) (t a0 : Nat) (a1 : Int32) (μ : aw_M) : Option (Bool × aw_M) :=
  (f_X6_atSign F a0 60 μ).bind fun r10 =>
  (if r10.1 = true then
  f_X3_readMeasure_33 F t a0 a1 r10.2
  else
  (f_X6_atSign F a0 61 r10.2).bind fun r16 =>
  (if r16.1 = true then
  f_X3_readMeasure_33 F t a0 a1 r16.2
  else
  (f_X6_atSign F a0 62 r16.2).bind fun r17 =>
  (if r17.1 = true then
  f_X3_readMeasure_33 F t a0 a1 r17.2
  else
  (f_X6_fail F a0 1 r17.2).bind fun r18 =>
  some (r18.1, r18.2))))
theorem m_X3_readMeasure (l : Launch) (F : Nat) (t : Nat) (ht : (aw_sh t).1 = 8) (a0 : Nat) (ha0 : (aw_sh a0).1 = 11) (a1 : Int32) (μ : aw_M) : AM l yX3_readMeasure cX3_readMeasure 4 (some .boolean) (3) (163) aw_gz [.ref t, .ref a0, .int a1] μ (f_X3_readMeasure F t a0 a1 μ) := by
  refine aw_met [some (.ref t), some (.ref a0), some (.int a1), none] (by decide) (fun _ => rfl) (fun _ => Nat.le_of_ble_eq_true rfl) ?_
  show AW l k_X3_readMeasure aw_gz 0 [some (.ref t), some (.ref a0), some (.int a1), none] [] μ _
  unfold f_X3_readMeasure
  refine aw_aload_n (n := 1) dX3_readMeasure_0 rfl rfl ?_
  refine aw_bipush (n := 3) 60 dX3_readMeasure_1 rfl (by decide) ?_
  refine aw_callVz (n := 6) (as := [.int 60]) (st := []) (RX6, TX6, 13) 6 dX3_readMeasure_3 rfl rfl (m_X6_atSign l F a0 ha0 60 μ) ha0 (by decide) rfl rfl cw_RX3_72 ⟨Nat.le_of_ble_eq_true rfl, Nat.le_of_ble_eq_true rfl⟩ (fun _ => Nat.le_of_ble_eq_true rfl) (fun r10 => ?_)
  refine aw_ifb_ne (n := 9) 33 dX3_readMeasure_6 (by decide) rfl ?_ ?_
  · exact aw_weak (c_X3_readMeasure_33 l F t ht a0 ha0 a1 r10.2) (aw_ss (aw_ss (aw_ss (aw_sn aw_s0))))
  · refine aw_aload_n (n := 10) dX3_readMeasure_9 rfl rfl ?_
    refine aw_bipush (n := 12) 61 dX3_readMeasure_10 rfl (by decide) ?_
    refine aw_callVz (n := 15) (as := [.int 61]) (st := []) (RX6, TX6, 13) 6 dX3_readMeasure_12 rfl rfl (m_X6_atSign l F a0 ha0 61 r10.2) ha0 (by decide) rfl rfl cw_RX3_72 ⟨Nat.le_of_ble_eq_true rfl, Nat.le_of_ble_eq_true rfl⟩ (fun _ => Nat.le_of_ble_eq_true rfl) (fun r16 => ?_)
    refine aw_ifb_ne (n := 18) 33 dX3_readMeasure_15 (by decide) rfl ?_ ?_
    · exact aw_weak (c_X3_readMeasure_33 l F t ht a0 ha0 a1 r16.2) (aw_ss (aw_ss (aw_ss (aw_sn aw_s0))))
    · refine aw_aload_n (n := 19) dX3_readMeasure_18 rfl rfl ?_
      refine aw_bipush (n := 21) 62 dX3_readMeasure_19 rfl (by decide) ?_
      refine aw_callVz (n := 24) (as := [.int 62]) (st := []) (RX6, TX6, 13) 6 dX3_readMeasure_21 rfl rfl (m_X6_atSign l F a0 ha0 62 r16.2) ha0 (by decide) rfl rfl cw_RX3_72 ⟨Nat.le_of_ble_eq_true rfl, Nat.le_of_ble_eq_true rfl⟩ (fun _ => Nat.le_of_ble_eq_true rfl) (fun r17 => ?_)
      refine aw_ifb_ne (n := 27) 33 dX3_readMeasure_24 (by decide) rfl ?_ ?_
      · exact aw_weak (c_X3_readMeasure_33 l F t ht a0 ha0 a1 r17.2) (aw_ss (aw_ss (aw_ss (aw_sn aw_s0))))
      · refine aw_aload_n (n := 28) dX3_readMeasure_27 rfl rfl ?_
        refine aw_iconst (n := 29) 1 dX3_readMeasure_28 rfl (by decide) ?_
        refine aw_callVz (n := 32) (as := [.int 1]) (st := []) (RX6, TX6, 13) 6 dX3_readMeasure_29 rfl rfl (m_X6_fail l F a0 ha0 1 r17.2) ha0 (by decide) rfl rfl cw_RX3_52 ⟨Nat.le_of_ble_eq_true rfl, Nat.le_of_ble_eq_true rfl⟩ (fun _ => Nat.le_of_ble_eq_true rfl) (fun r18 => ?_)
        exact aw_zreturn (b := r18.1) dX3_readMeasure_32 rfl rfl
abbrev k_X3_holdsLeaf : aw_K := (RX3, cX3_holdsLeaf, 5, (some .boolean), 5, 218)
def f_X3_holdsLeaf (F : Nat) (t a2 : Nat) (a0 : Int32) (a1 : Int32) (μ : aw_M) : Option (Bool × aw_M) :=
  aw_g (aw_in a0 40) ((if (μ.1 (aw_rf t 2) a0.toNatClampNeg) = 12 then
  aw_g (aw_in a1 9) ((if (μ.1 (aw_rf (aw_rf a2 1) 3) a1.toNatClampNeg) = 1 then
  some (true, μ)
  else
  some (false, μ)))
  else
  aw_g (aw_in a0 40) ((if (μ.1 (aw_rf t 2) a0.toNatClampNeg) = 13 then
  aw_g (aw_in a0 40) ((f_X0_wouldJoin F a2 a1 (μ.1 (aw_rf t 4) a0.toNatClampNeg) μ).bind fun r2 =>
  some (r2.1, r2.2))
  else
  aw_g (aw_in a0 40) ((f_X0_measure F a2 a1 (μ.1 (aw_rf t 2) a0.toNatClampNeg) μ).bind fun r1 =>
  aw_g (aw_in a0 40) ((if (r1.2.1 (aw_rf t 3) a0.toNatClampNeg) = 60 then
  aw_g (aw_in a0 40) ((if (r1.2.1 (aw_rf t 4) a0.toNatClampNeg) ≤ r1.1 then
  some (false, r1.2)
  else
  some (true, r1.2)))
  else
  aw_g (aw_in a0 40) ((if (r1.2.1 (aw_rf t 3) a0.toNatClampNeg) = 62 then
  aw_g (aw_in a0 40) ((if r1.1 ≤ (r1.2.1 (aw_rf t 4) a0.toNatClampNeg) then
  some (false, r1.2)
  else
  some (true, r1.2)))
  else
  aw_g (aw_in a0 40) ((if r1.1 = (r1.2.1 (aw_rf t 4) a0.toNatClampNeg) then
  some (true, r1.2)
  else
  some (false, r1.2))))))))))))
theorem m_X3_holdsLeaf (l : Launch) (F : Nat) (t : Nat) (ht : (aw_sh t).1 = 8) (a2 : Nat) (ha2 : (aw_sh a2).1 = 5) (a0 : Int32) (a1 : Int32) (μ : aw_M) : AM l yX3_holdsLeaf cX3_holdsLeaf 5 (some .boolean) 5 218 aw_gz [.ref t, .int a0, .int a1, .ref a2] μ (f_X3_holdsLeaf F t a2 a0 a1 μ) := by
  refine aw_met [some (.ref t), some (.int a0), some (.int a1), some (.ref a2), none] (by decide) (fun _ => rfl) (fun _ => Nat.le_of_ble_eq_true rfl) ?_
  show AW l k_X3_holdsLeaf aw_gz 0 [some (.ref t), some (.int a0), some (.int a1), some (.ref a2), none] [] μ _
  unfold f_X3_holdsLeaf
  refine aw_aload_n (n := 1) dX3_holdsLeaf_0 rfl rfl ?_
  refine aw_getR (n := 4) (RX3, TX3, 6) 3 2 dX3_holdsLeaf_1 rfl ht (by decide) fd_RX3_11 ?_
  refine aw_iload_n (n := 5) dX3_holdsLeaf_4 rfl rfl ?_
  refine aw_iaload (n := 6) 40 dX3_holdsLeaf_5 rfl (sf_3_2 ht) ?_
  refine aw_bipush (n := 8) 12 dX3_holdsLeaf_6 rfl (by decide) ?_
  refine aw_icmp_ne (n := 11) 30 dX3_holdsLeaf_8 (by decide) rfl ?_ ?_
  · refine aw_aload_n (n := 31) dX3_holdsLeaf_30 rfl rfl ?_
    refine aw_getR (n := 34) (RX3, TX3, 6) 3 2 dX3_holdsLeaf_31 rfl ht (by decide) fd_RX3_11 ?_
    refine aw_iload_n (n := 35) dX3_holdsLeaf_34 rfl rfl ?_
    refine aw_iaload (n := 36) 40 dX3_holdsLeaf_35 rfl (sf_3_2 ht) ?_
    refine aw_bipush (n := 38) 13 dX3_holdsLeaf_36 rfl (by decide) ?_
    refine aw_icmp_ne (n := 41) 53 dX3_holdsLeaf_38 (by decide) rfl ?_ ?_
    · refine aw_aload_n (n := 54) dX3_holdsLeaf_53 rfl rfl ?_
      refine aw_iload_n (n := 55) dX3_holdsLeaf_54 rfl rfl ?_
      refine aw_aload_n (n := 56) dX3_holdsLeaf_55 rfl rfl ?_
      refine aw_getR (n := 59) (RX3, TX3, 6) 3 2 dX3_holdsLeaf_56 rfl ht (by decide) fd_RX3_11 ?_
      refine aw_iload_n (n := 60) dX3_holdsLeaf_59 rfl rfl ?_
      refine aw_iaload (n := 61) 40 dX3_holdsLeaf_60 rfl (sf_3_2 ht) ?_
      refine aw_callVi (n := 64) (as := [.int a1, .int (μ.1 (aw_rf t 2) a0.toNatClampNeg)]) (st := []) (RX0, TX0, 20) 0 dX3_holdsLeaf_61 rfl rfl (m_X0_measure l F a2 ha2 a1 (μ.1 (aw_rf t 2) a0.toNatClampNeg) μ) ha2 (by decide) rfl rfl cw_RX3_126 ⟨Nat.le_of_ble_eq_true rfl, Nat.le_of_ble_eq_true rfl⟩ (fun _ => Nat.le_of_ble_eq_true rfl) (fun r1 => ?_)
      refine aw_istore (n := 66) [some (.ref t), some (.int a0), some (.int a1), some (.ref a2), some (.int r1.1)] dX3_holdsLeaf_64 rfl rfl (Nat.le_of_ble_eq_true rfl) (Nat.le_of_ble_eq_true rfl) rfl ?_
      refine aw_aload_n (n := 67) dX3_holdsLeaf_66 rfl rfl ?_
      refine aw_getR (n := 70) (RX3, TX3, 6) 3 3 dX3_holdsLeaf_67 rfl ht (by decide) fd_RX3_15 ?_
      refine aw_iload_n (n := 71) dX3_holdsLeaf_70 rfl rfl ?_
      refine aw_iaload (n := 72) 40 dX3_holdsLeaf_71 rfl (sf_3_3 ht) ?_
      refine aw_bipush (n := 74) 60 dX3_holdsLeaf_72 rfl (by decide) ?_
      refine aw_icmp_ne (n := 77) 96 dX3_holdsLeaf_74 (by decide) rfl ?_ ?_
      · refine aw_aload_n (n := 97) dX3_holdsLeaf_96 rfl rfl ?_
        refine aw_getR (n := 100) (RX3, TX3, 6) 3 3 dX3_holdsLeaf_97 rfl ht (by decide) fd_RX3_15 ?_
        refine aw_iload_n (n := 101) dX3_holdsLeaf_100 rfl rfl ?_
        refine aw_iaload (n := 102) 40 dX3_holdsLeaf_101 rfl (sf_3_3 ht) ?_
        refine aw_bipush (n := 104) 62 dX3_holdsLeaf_102 rfl (by decide) ?_
        refine aw_icmp_ne (n := 107) 126 dX3_holdsLeaf_104 (by decide) rfl ?_ ?_
        · refine aw_iload (n := 128) dX3_holdsLeaf_126 rfl rfl ?_
          refine aw_aload_n (n := 129) dX3_holdsLeaf_128 rfl rfl ?_
          refine aw_getR (n := 132) (RX3, TX3, 6) 3 4 dX3_holdsLeaf_129 rfl ht (by decide) fd_RX3_18 ?_
          refine aw_iload_n (n := 133) dX3_holdsLeaf_132 rfl rfl ?_
          refine aw_iaload (n := 134) 40 dX3_holdsLeaf_133 rfl (sf_3_4 ht) ?_
          refine aw_icmp_ne (n := 137) 141 dX3_holdsLeaf_134 (by decide) rfl ?_ ?_
          · refine aw_iconst (n := 142) 0 dX3_holdsLeaf_141 rfl (by decide) ?_
            exact aw_zreturn (b := false) dX3_holdsLeaf_142 rfl rfl
          · refine aw_iconst (n := 138) 1 dX3_holdsLeaf_137 rfl (by decide) ?_
            refine aw_goto 142 dX3_holdsLeaf_138 (by decide) ?_
            exact aw_zreturn (b := true) dX3_holdsLeaf_142 rfl rfl
        · refine aw_iload (n := 109) dX3_holdsLeaf_107 rfl rfl ?_
          refine aw_aload_n (n := 110) dX3_holdsLeaf_109 rfl rfl ?_
          refine aw_getR (n := 113) (RX3, TX3, 6) 3 4 dX3_holdsLeaf_110 rfl ht (by decide) fd_RX3_18 ?_
          refine aw_iload_n (n := 114) dX3_holdsLeaf_113 rfl rfl ?_
          refine aw_iaload (n := 115) 40 dX3_holdsLeaf_114 rfl (sf_3_4 ht) ?_
          refine aw_icmp_le (n := 118) 122 dX3_holdsLeaf_115 (by decide) rfl ?_ ?_
          · refine aw_iconst (n := 123) 0 dX3_holdsLeaf_122 rfl (by decide) ?_
            refine aw_goto 142 dX3_holdsLeaf_123 (by decide) ?_
            exact aw_zreturn (b := false) dX3_holdsLeaf_142 rfl rfl
          · refine aw_iconst (n := 119) 1 dX3_holdsLeaf_118 rfl (by decide) ?_
            refine aw_goto 142 dX3_holdsLeaf_119 (by decide) ?_
            exact aw_zreturn (b := true) dX3_holdsLeaf_142 rfl rfl
      · refine aw_iload (n := 79) dX3_holdsLeaf_77 rfl rfl ?_
        refine aw_aload_n (n := 80) dX3_holdsLeaf_79 rfl rfl ?_
        refine aw_getR (n := 83) (RX3, TX3, 6) 3 4 dX3_holdsLeaf_80 rfl ht (by decide) fd_RX3_18 ?_
        refine aw_iload_n (n := 84) dX3_holdsLeaf_83 rfl rfl ?_
        refine aw_iaload (n := 85) 40 dX3_holdsLeaf_84 rfl (sf_3_4 ht) ?_
        refine aw_icmp_ge (n := 88) 92 dX3_holdsLeaf_85 (by decide) rfl ?_ ?_
        · refine aw_iconst (n := 93) 0 dX3_holdsLeaf_92 rfl (by decide) ?_
          refine aw_goto 142 dX3_holdsLeaf_93 (by decide) ?_
          exact aw_zreturn (b := false) dX3_holdsLeaf_142 rfl rfl
        · refine aw_iconst (n := 89) 1 dX3_holdsLeaf_88 rfl (by decide) ?_
          refine aw_goto 142 dX3_holdsLeaf_89 (by decide) ?_
          exact aw_zreturn (b := true) dX3_holdsLeaf_142 rfl rfl
    · refine aw_aload_n (n := 42) dX3_holdsLeaf_41 rfl rfl ?_
      refine aw_iload_n (n := 43) dX3_holdsLeaf_42 rfl rfl ?_
      refine aw_aload_n (n := 44) dX3_holdsLeaf_43 rfl rfl ?_
      refine aw_getR (n := 47) (RX3, TX3, 6) 3 4 dX3_holdsLeaf_44 rfl ht (by decide) fd_RX3_18 ?_
      refine aw_iload_n (n := 48) dX3_holdsLeaf_47 rfl rfl ?_
      refine aw_iaload (n := 49) 40 dX3_holdsLeaf_48 rfl (sf_3_4 ht) ?_
      refine aw_callVz (n := 52) (as := [.int a1, .int (μ.1 (aw_rf t 4) a0.toNatClampNeg)]) (st := []) (RX0, TX0, 20) 0 dX3_holdsLeaf_49 rfl rfl (m_X0_wouldJoin l F a2 ha2 a1 (μ.1 (aw_rf t 4) a0.toNatClampNeg) μ) ha2 (by decide) rfl rfl cw_RX3_122 ⟨Nat.le_of_ble_eq_true rfl, Nat.le_of_ble_eq_true rfl⟩ (fun _ => Nat.le_of_ble_eq_true rfl) (fun r2 => ?_)
      exact aw_zreturn (b := r2.1) dX3_holdsLeaf_52 rfl rfl
  · refine aw_aload_n (n := 12) dX3_holdsLeaf_11 rfl rfl ?_
    refine aw_getR (n := 15) (RX0, TX0, 20) 0 1 dX3_holdsLeaf_12 rfl ha2 (by decide) fd_RX3_111 ?_
    refine aw_getR (n := 18) (RX2, TX2, 4) 2 3 dX3_holdsLeaf_15 rfl (sf_0_1 ha2) (by decide) fd_RX3_117 ?_
    refine aw_iload_n (n := 19) dX3_holdsLeaf_18 rfl rfl ?_
    refine aw_iaload (n := 20) 9 dX3_holdsLeaf_19 rfl (sf_2_3 (sf_0_1 ha2)) ?_
    refine aw_iconst (n := 21) 1 dX3_holdsLeaf_20 rfl (by decide) ?_
    refine aw_icmp_ne (n := 24) 28 dX3_holdsLeaf_21 (by decide) rfl ?_ ?_
    · refine aw_iconst (n := 29) 0 dX3_holdsLeaf_28 rfl (by decide) ?_
      exact aw_zreturn (b := false) dX3_holdsLeaf_29 rfl rfl
    · refine aw_iconst (n := 25) 1 dX3_holdsLeaf_24 rfl (by decide) ?_
      refine aw_goto 29 dX3_holdsLeaf_25 (by decide) ?_
      exact aw_zreturn (b := true) dX3_holdsLeaf_29 rfl rfl
abbrev k_X3_holds : aw_K := (RX3, cX3_holds, 5, (some .boolean), 6, 242)
def f_X3_holds_194 (F : Nat) (t a1 : Nat) (x3 : Int32) (μ : aw_M) : Option (Bool × aw_M) :=
  (if x3 ≤ 0 then
  some (false, μ)
  else
  aw_g (aw_in 0 20) ((if (μ.1 (aw_rf t 5) (0 : Int32).toNatClampNeg) = 0 then
  some (false, μ)
  else
  some (true, μ))))
theorem c_X3_holds_194 (l : Launch) (F : Nat) (t : Nat) (ht : (aw_sh t).1 = 8) (a1 : Nat) (ha1 : (aw_sh a1).1 = 5) (x3 : Int32) (μ : aw_M) : AW l k_X3_holds aw_gz 194 [some (.ref t), none, none, some (.int x3), none] [] μ (f_X3_holds_194 F t a1 x3 μ) := by
  unfold f_X3_holds_194
  refine aw_iload_n (n := 195) dX3_holds_194 rfl rfl ?_
  refine aw_if_le (n := 198) 211 dX3_holds_195 (by decide) rfl ?_ ?_
  · refine aw_iconst (n := 212) 0 dX3_holds_211 rfl (by decide) ?_
    exact aw_zreturn (b := false) dX3_holds_212 rfl rfl
  · refine aw_aload_n (n := 199) dX3_holds_198 rfl rfl ?_
    refine aw_getR (n := 202) (RX3, TX3, 6) 3 5 dX3_holds_199 rfl ht (by decide) fd_RX3_21 ?_
    refine aw_iconst (n := 203) 0 dX3_holds_202 rfl (by decide) ?_
    refine aw_zaload (n := 204) 20 dX3_holds_203 rfl (sf_3_5 ht) ?_
    refine aw_if_eq (n := 207) 211 dX3_holds_204 (by decide) rfl ?_ ?_
    · refine aw_iconst (n := 212) 0 dX3_holds_211 rfl (by decide) ?_
      exact aw_zreturn (b := false) dX3_holds_212 rfl rfl
    · refine aw_iconst (n := 208) 1 dX3_holds_207 rfl (by decide) ?_
      refine aw_goto 212 dX3_holds_208 (by decide) ?_
      exact aw_zreturn (b := true) dX3_holds_212 rfl rfl
def f_X3_holds_188 (F : Nat) (t a1 : Nat) (k5 : Int32 × Int32 × Int32 × aw_M → Option (Bool × aw_M)) (x1 : Int32) (x3 : Int32) (x4 : Int32) (μ : aw_M) : Option (Bool × aw_M) :=
  k5 (x1, x3, (x4 + 1), μ)
theorem c_X3_holds_188 (l : Launch) (F : Nat) (t : Nat) (ht : (aw_sh t).1 = 8) (a1 : Nat) (ha1 : (aw_sh a1).1 = 5) (k5 : Int32 × Int32 × Int32 × aw_M → Option (Bool × aw_M)) (hk5 : ∀ s : Int32 × Int32 × Int32 × aw_M, AW l k_X3_holds aw_gz 5 [some (.ref t), some (.int s.1), some (.ref a1), some (.int s.2.1), some (.int s.2.2.1)] [] s.2.2.2 (k5 s)) (x1 : Int32) (x3 : Int32) (x4 : Int32) (μ : aw_M) : AW l k_X3_holds aw_gz 188 [some (.ref t), some (.int x1), some (.ref a1), some (.int x3), some (.int x4)] [] μ (f_X3_holds_188 F t a1 k5 x1 x3 x4 μ) := by
  unfold f_X3_holds_188
  refine aw_iinc (n := 191) (x4 + 1) [some (.ref t), some (.int x1), some (.ref a1), some (.int x3), some (.int (x4 + 1))] dX3_holds_188 rfl rfl (by rfl) rfl (Nat.le_of_ble_eq_true rfl) rfl ?_
  refine aw_goto 5 dX3_holds_191 (by decide) ?_
  exact aw_weak (hk5 (x1, x3, (x4 + 1), μ)) (aw_ss (aw_ss (aw_ss (aw_ss (aw_ss aw_s0)))))
def f_X3_holds_161 (F : Nat) (t a1 : Nat) (k5 : Int32 × Int32 × Int32 × aw_M → Option (Bool × aw_M)) (x1 : Int32) (x3 : Int32) (x4 : Int32) (z0 : Bool) (z1 : Int32) (μ : aw_M) : Option (Bool × aw_M) :=
  aw_g (aw_in z1 20) (aw_let (aw_wI μ (aw_rf t 5) z1.toNatClampNeg (vp_nar .boolean (aw_b z0))) fun μ13 =>
  f_X3_holds_188 F t a1 k5 x1 x3 x4 μ13)
theorem c_X3_holds_161 (l : Launch) (F : Nat) (t : Nat) (ht : (aw_sh t).1 = 8) (a1 : Nat) (ha1 : (aw_sh a1).1 = 5) (k5 : Int32 × Int32 × Int32 × aw_M → Option (Bool × aw_M)) (hk5 : ∀ s : Int32 × Int32 × Int32 × aw_M, AW l k_X3_holds aw_gz 5 [some (.ref t), some (.int s.1), some (.ref a1), some (.int s.2.1), some (.int s.2.2.1)] [] s.2.2.2 (k5 s)) (x1 : Int32) (x3 : Int32) (x4 : Int32) (z0 : Bool) (z1 : Int32) (μ : aw_M) : AW l k_X3_holds aw_gz 161 [some (.ref t), some (.int x1), some (.ref a1), some (.int x3), some (.int x4)] [.int (aw_b z0), .int z1, .ref (aw_rf t 5)] μ (f_X3_holds_161 F t a1 k5 x1 x3 x4 z0 z1 μ) := by
  unfold f_X3_holds_161
  refine aw_zastore (n := 162) 20 dX3_holds_161 rfl (sf_3_5 ht) (fun μ13 => ?_)
  refine aw_goto 188 dX3_holds_162 (by decide) ?_
  exact aw_weak (c_X3_holds_188 l F t ht a1 ha1 k5 hk5 x1 x3 x4 μ13) (aw_ss (aw_ss (aw_ss (aw_ss (aw_ss aw_s0)))))
def f_X3_holds_156 (F : Nat) (t a1 : Nat) (k5 : Int32 × Int32 × Int32 × aw_M → Option (Bool × aw_M)) (x1 : Int32) (x3 : Int32) (x4 : Int32) (z0 : Int32) (μ : aw_M) : Option (Bool × aw_M) :=
  f_X3_holds_161 F t a1 k5 x1 x3 x4 true z0 μ
theorem c_X3_holds_156 (l : Launch) (F : Nat) (t : Nat) (ht : (aw_sh t).1 = 8) (a1 : Nat) (ha1 : (aw_sh a1).1 = 5) (k5 : Int32 × Int32 × Int32 × aw_M → Option (Bool × aw_M)) (hk5 : ∀ s : Int32 × Int32 × Int32 × aw_M, AW l k_X3_holds aw_gz 5 [some (.ref t), some (.int s.1), some (.ref a1), some (.int s.2.1), some (.int s.2.2.1)] [] s.2.2.2 (k5 s)) (x1 : Int32) (x3 : Int32) (x4 : Int32) (z0 : Int32) (μ : aw_M) : AW l k_X3_holds aw_gz 156 [some (.ref t), some (.int x1), some (.ref a1), some (.int x3), some (.int x4)] [.int z0, .ref (aw_rf t 5)] μ (f_X3_holds_156 F t a1 k5 x1 x3 x4 z0 μ) := by
  unfold f_X3_holds_156
  refine aw_iconst (n := 157) 1 dX3_holds_156 rfl (by decide) ?_
  refine aw_goto 161 dX3_holds_157 (by decide) ?_
  exact aw_weak (c_X3_holds_161 l F t ht a1 ha1 k5 hk5 x1 x3 x4 true z0 μ) (aw_ss (aw_ss (aw_ss (aw_ss (aw_ss aw_s0)))))
def f_X3_holds_132 (F : Nat) (t a1 : Nat) (k5 : Int32 × Int32 × Int32 × aw_M → Option (Bool × aw_M)) (x1 : Int32) (x3 : Int32) (x4 : Int32) (z0 : Int32) (μ : aw_M) : Option (Bool × aw_M) :=
  f_X3_holds_161 F t a1 k5 x1 x3 x4 false z0 μ
theorem c_X3_holds_132 (l : Launch) (F : Nat) (t : Nat) (ht : (aw_sh t).1 = 8) (a1 : Nat) (ha1 : (aw_sh a1).1 = 5) (k5 : Int32 × Int32 × Int32 × aw_M → Option (Bool × aw_M)) (hk5 : ∀ s : Int32 × Int32 × Int32 × aw_M, AW l k_X3_holds aw_gz 5 [some (.ref t), some (.int s.1), some (.ref a1), some (.int s.2.1), some (.int s.2.2.1)] [] s.2.2.2 (k5 s)) (x1 : Int32) (x3 : Int32) (x4 : Int32) (z0 : Int32) (μ : aw_M) : AW l k_X3_holds aw_gz 132 [some (.ref t), some (.int x1), some (.ref a1), some (.int x3), some (.int x4)] [.int z0, .ref (aw_rf t 5)] μ (f_X3_holds_132 F t a1 k5 x1 x3 x4 z0 μ) := by
  unfold f_X3_holds_132
  refine aw_iconst (n := 133) 0 dX3_holds_132 rfl (by decide) ?_
  refine aw_goto 161 dX3_holds_133 (by decide) ?_
  exact aw_weak (c_X3_holds_161 l F t ht a1 ha1 k5 hk5 x1 x3 x4 false z0 μ) (aw_ss (aw_ss (aw_ss (aw_ss (aw_ss aw_s0)))))
def f_X3_holds_81 (F : Nat) (t a1 : Nat) (k5 : Int32 × Int32 × Int32 × aw_M → Option (Bool × aw_M)) (x1 : Int32) (x3 : Int32) (x4 : Int32) (μ : aw_M) : Option (Bool × aw_M) :=
  (if x3 ≤ 1 then
  f_X3_holds_188 F t a1 k5 x1 x3 x4 μ
  else
  aw_g (aw_in x4 40) ((if (μ.1 (aw_rf t 2) x4.toNatClampNeg) = 10 then
  aw_g (aw_in ((x3 + (-1)) - 1) 20) ((if (μ.1 (aw_rf t 5) ((x3 + (-1)) - 1).toNatClampNeg) = 0 then
  f_X3_holds_132 F t a1 k5 x1 (x3 + (-1)) x4 ((x3 + (-1)) - 1) μ
  else
  aw_g (aw_in (x3 + (-1)) 20) ((if (μ.1 (aw_rf t 5) (x3 + (-1)).toNatClampNeg) = 0 then
  f_X3_holds_132 F t a1 k5 x1 (x3 + (-1)) x4 ((x3 + (-1)) - 1) μ
  else
  f_X3_holds_161 F t a1 k5 x1 (x3 + (-1)) x4 true ((x3 + (-1)) - 1) μ))))
  else
  aw_g (aw_in ((x3 + (-1)) - 1) 20) ((if (μ.1 (aw_rf t 5) ((x3 + (-1)) - 1).toNatClampNeg) = 0 then
  aw_g (aw_in (x3 + (-1)) 20) ((if (μ.1 (aw_rf t 5) (x3 + (-1)).toNatClampNeg) = 0 then
  f_X3_holds_161 F t a1 k5 x1 (x3 + (-1)) x4 false ((x3 + (-1)) - 1) μ
  else
  f_X3_holds_156 F t a1 k5 x1 (x3 + (-1)) x4 ((x3 + (-1)) - 1) μ))
  else
  f_X3_holds_156 F t a1 k5 x1 (x3 + (-1)) x4 ((x3 + (-1)) - 1) μ)))))
theorem c_X3_holds_81 (l : Launch) (F : Nat) (t : Nat) (ht : (aw_sh t).1 = 8) (a1 : Nat) (ha1 : (aw_sh a1).1 = 5) (k5 : Int32 × Int32 × Int32 × aw_M → Option (Bool × aw_M)) (hk5 : ∀ s : Int32 × Int32 × Int32 × aw_M, AW l k_X3_holds aw_gz 5 [some (.ref t), some (.int s.1), some (.ref a1), some (.int s.2.1), some (.int s.2.2.1)] [] s.2.2.2 (k5 s)) (x1 : Int32) (x3 : Int32) (x4 : Int32) (μ : aw_M) : AW l k_X3_holds aw_gz 81 [some (.ref t), some (.int x1), some (.ref a1), some (.int x3), some (.int x4)] [] μ (f_X3_holds_81 F t a1 k5 x1 x3 x4 μ) := by
  unfold f_X3_holds_81
  refine aw_iload_n (n := 82) dX3_holds_81 rfl rfl ?_
  refine aw_iconst (n := 83) 1 dX3_holds_82 rfl (by decide) ?_
  refine aw_icmp_le (n := 86) 188 dX3_holds_83 (by decide) rfl ?_ ?_
  · exact aw_weak (c_X3_holds_188 l F t ht a1 ha1 k5 hk5 x1 x3 x4 μ) (aw_ss (aw_ss (aw_ss (aw_ss (aw_ss aw_s0)))))
  · refine aw_iinc (n := 89) (x3 + (-1)) [some (.ref t), some (.int x1), some (.ref a1), some (.int (x3 + (-1))), some (.int x4)] dX3_holds_86 rfl rfl (by rfl) rfl (Nat.le_of_ble_eq_true rfl) rfl ?_
    refine aw_aload_n (n := 90) dX3_holds_89 rfl rfl ?_
    refine aw_getR (n := 93) (RX3, TX3, 6) 3 5 dX3_holds_90 rfl ht (by decide) fd_RX3_21 ?_
    refine aw_iload_n (n := 94) dX3_holds_93 rfl rfl ?_
    refine aw_iconst (n := 95) 1 dX3_holds_94 rfl (by decide) ?_
    refine aw_isub (n := 96) dX3_holds_95 rfl ?_
    refine aw_aload_n (n := 97) dX3_holds_96 rfl rfl ?_
    refine aw_getR (n := 100) (RX3, TX3, 6) 3 2 dX3_holds_97 rfl ht (by decide) fd_RX3_11 ?_
    refine aw_iload (n := 102) dX3_holds_100 rfl rfl ?_
    refine aw_iaload (n := 103) 40 dX3_holds_102 rfl (sf_3_2 ht) ?_
    refine aw_bipush (n := 105) 10 dX3_holds_103 rfl (by decide) ?_
    refine aw_icmp_ne (n := 108) 136 dX3_holds_105 (by decide) rfl ?_ ?_
    · refine aw_aload_n (n := 137) dX3_holds_136 rfl rfl ?_
      refine aw_getR (n := 140) (RX3, TX3, 6) 3 5 dX3_holds_137 rfl ht (by decide) fd_RX3_21 ?_
      refine aw_iload_n (n := 141) dX3_holds_140 rfl rfl ?_
      refine aw_iconst (n := 142) 1 dX3_holds_141 rfl (by decide) ?_
      refine aw_isub (n := 143) dX3_holds_142 rfl ?_
      refine aw_zaload (n := 144) 20 dX3_holds_143 rfl (sf_3_5 ht) ?_
      refine aw_if_ne (n := 147) 156 dX3_holds_144 (by decide) rfl ?_ ?_
      · exact aw_weak (c_X3_holds_156 l F t ht a1 ha1 k5 hk5 x1 (x3 + (-1)) x4 ((x3 + (-1)) - 1) μ) (aw_ss (aw_ss (aw_ss (aw_ss (aw_ss aw_s0)))))
      · refine aw_aload_n (n := 148) dX3_holds_147 rfl rfl ?_
        refine aw_getR (n := 151) (RX3, TX3, 6) 3 5 dX3_holds_148 rfl ht (by decide) fd_RX3_21 ?_
        refine aw_iload_n (n := 152) dX3_holds_151 rfl rfl ?_
        refine aw_zaload (n := 153) 20 dX3_holds_152 rfl (sf_3_5 ht) ?_
        refine aw_if_eq (n := 156) 160 dX3_holds_153 (by decide) rfl ?_ ?_
        · refine aw_iconst (n := 161) 0 dX3_holds_160 rfl (by decide) ?_
          exact aw_weak (c_X3_holds_161 l F t ht a1 ha1 k5 hk5 x1 (x3 + (-1)) x4 false ((x3 + (-1)) - 1) μ) (aw_ss (aw_ss (aw_ss (aw_ss (aw_ss aw_s0)))))
        · exact aw_weak (c_X3_holds_156 l F t ht a1 ha1 k5 hk5 x1 (x3 + (-1)) x4 ((x3 + (-1)) - 1) μ) (aw_ss (aw_ss (aw_ss (aw_ss (aw_ss aw_s0)))))
    · refine aw_aload_n (n := 109) dX3_holds_108 rfl rfl ?_
      refine aw_getR (n := 112) (RX3, TX3, 6) 3 5 dX3_holds_109 rfl ht (by decide) fd_RX3_21 ?_
      refine aw_iload_n (n := 113) dX3_holds_112 rfl rfl ?_
      refine aw_iconst (n := 114) 1 dX3_holds_113 rfl (by decide) ?_
      refine aw_isub (n := 115) dX3_holds_114 rfl ?_
      refine aw_zaload (n := 116) 20 dX3_holds_115 rfl (sf_3_5 ht) ?_
      refine aw_if_eq (n := 119) 132 dX3_holds_116 (by decide) rfl ?_ ?_
      · exact aw_weak (c_X3_holds_132 l F t ht a1 ha1 k5 hk5 x1 (x3 + (-1)) x4 ((x3 + (-1)) - 1) μ) (aw_ss (aw_ss (aw_ss (aw_ss (aw_ss aw_s0)))))
      · refine aw_aload_n (n := 120) dX3_holds_119 rfl rfl ?_
        refine aw_getR (n := 123) (RX3, TX3, 6) 3 5 dX3_holds_120 rfl ht (by decide) fd_RX3_21 ?_
        refine aw_iload_n (n := 124) dX3_holds_123 rfl rfl ?_
        refine aw_zaload (n := 125) 20 dX3_holds_124 rfl (sf_3_5 ht) ?_
        refine aw_if_eq (n := 128) 132 dX3_holds_125 (by decide) rfl ?_ ?_
        · exact aw_weak (c_X3_holds_132 l F t ht a1 ha1 k5 hk5 x1 (x3 + (-1)) x4 ((x3 + (-1)) - 1) μ) (aw_ss (aw_ss (aw_ss (aw_ss (aw_ss aw_s0)))))
        · refine aw_iconst (n := 129) 1 dX3_holds_128 rfl (by decide) ?_
          refine aw_goto 161 dX3_holds_129 (by decide) ?_
          exact aw_weak (c_X3_holds_161 l F t ht a1 ha1 k5 hk5 x1 (x3 + (-1)) x4 true ((x3 + (-1)) - 1) μ) (aw_ss (aw_ss (aw_ss (aw_ss (aw_ss aw_s0)))))
def f_X3_holds_53 (F : Nat) (t a1 : Nat) (k5 : Int32 × Int32 × Int32 × aw_M → Option (Bool × aw_M)) (x1 : Int32) (x3 : Int32) (x4 : Int32) (z0 : Bool) (z1 : Int32) (μ : aw_M) : Option (Bool × aw_M) :=
  aw_g (aw_in z1 20) (aw_let (aw_wI μ (aw_rf t 5) z1.toNatClampNeg (vp_nar .boolean (aw_b z0))) fun μ16 =>
  f_X3_holds_188 F t a1 k5 x1 x3 x4 μ16)
theorem c_X3_holds_53 (l : Launch) (F : Nat) (t : Nat) (ht : (aw_sh t).1 = 8) (a1 : Nat) (ha1 : (aw_sh a1).1 = 5) (k5 : Int32 × Int32 × Int32 × aw_M → Option (Bool × aw_M)) (hk5 : ∀ s : Int32 × Int32 × Int32 × aw_M, AW l k_X3_holds aw_gz 5 [some (.ref t), some (.int s.1), some (.ref a1), some (.int s.2.1), some (.int s.2.2.1)] [] s.2.2.2 (k5 s)) (x1 : Int32) (x3 : Int32) (x4 : Int32) (z0 : Bool) (z1 : Int32) (μ : aw_M) : AW l k_X3_holds aw_gz 53 [some (.ref t), some (.int x1), some (.ref a1), some (.int x3), some (.int x4)] [.int (aw_b z0), .int z1, .ref (aw_rf t 5)] μ (f_X3_holds_53 F t a1 k5 x1 x3 x4 z0 z1 μ) := by
  unfold f_X3_holds_53
  refine aw_zastore (n := 54) 20 dX3_holds_53 rfl (sf_3_5 ht) (fun μ16 => ?_)
  refine aw_goto 188 dX3_holds_54 (by decide) ?_
  exact aw_weak (c_X3_holds_188 l F t ht a1 ha1 k5 hk5 x1 x3 x4 μ16) (aw_ss (aw_ss (aw_ss (aw_ss (aw_ss aw_s0)))))
def f_X3_holds_5 (F : Nat) (t a1 : Nat) (k5 : Int32 × Int32 × Int32 × aw_M → Option (Bool × aw_M)) (x1 : Int32) (x3 : Int32) (x4 : Int32) (μ : aw_M) : Option (Bool × aw_M) :=
  (if (μ.1 t 1) ≤ x4 then
  f_X3_holds_194 F t a1 x3 μ
  else
  aw_g (aw_in x4 40) ((if (μ.1 (aw_rf t 2) x4.toNatClampNeg) = 11 then
  (if x3 ≤ 0 then
  f_X3_holds_188 F t a1 k5 x1 x3 x4 μ
  else
  aw_g (aw_in (x3 - 1) 20) ((if (μ.1 (aw_rf t 5) (x3 - 1).toNatClampNeg) = 0 then
  f_X3_holds_53 F t a1 k5 x1 x3 x4 true (x3 - 1) μ
  else
  f_X3_holds_53 F t a1 k5 x1 x3 x4 false (x3 - 1) μ)))
  else
  aw_g (aw_in x4 40) ((if (μ.1 (aw_rf t 2) x4.toNatClampNeg) = 10 then
  f_X3_holds_81 F t a1 k5 x1 x3 x4 μ
  else
  aw_g (aw_in x4 40) ((if (μ.1 (aw_rf t 2) x4.toNatClampNeg) = 9 then
  f_X3_holds_81 F t a1 k5 x1 x3 x4 μ
  else
  (if 20 ≤ x3 then
  f_X3_holds_188 F t a1 k5 x1 x3 x4 μ
  else
  (f_X3_holdsLeaf F t a1 x4 x1 μ).bind fun r14 =>
  aw_g (aw_in x3 20) (aw_let (aw_wI r14.2 (aw_rf t 5) x3.toNatClampNeg (vp_nar .boolean (aw_b r14.1))) fun μ15 =>
  f_X3_holds_188 F t a1 k5 x1 (x3 + 1) x4 μ15)))))))))
theorem c_X3_holds_5 (l : Launch) (F : Nat) (t : Nat) (ht : (aw_sh t).1 = 8) (a1 : Nat) (ha1 : (aw_sh a1).1 = 5) : ∀ (N : Nat) (s : Int32 × Int32 × Int32 × aw_M), AW l k_X3_holds aw_gz 5 [some (.ref t), some (.int s.1), some (.ref a1), some (.int s.2.1), some (.int s.2.2.1)] [] s.2.2.2 (aw_loop (fun k s => f_X3_holds_5 F t a1 k s.1 s.2.1 s.2.2.1 s.2.2.2) N s) := by
  refine aw_loop_ok (f := fun k s => f_X3_holds_5 F t a1 k s.1 s.2.1 s.2.2.1 s.2.2.2) (Ls := fun s => [some (.ref t), some (.int s.1), some (.ref a1), some (.int s.2.1), some (.int s.2.2.1)]) (ms := fun s => s.2.2.2) ?_
  intro k5 hk5 s
  obtain ⟨x1, x3, x4, μ⟩ := s
  show AW l k_X3_holds aw_gz 5 [some (.ref t), some (.int x1), some (.ref a1), some (.int x3), some (.int x4)] [] μ (f_X3_holds_5 F t a1 k5 x1 x3 x4 μ)
  unfold f_X3_holds_5
  refine aw_iload (n := 7) dX3_holds_5 rfl rfl ?_
  refine aw_aload_n (n := 8) dX3_holds_7 rfl rfl ?_
  refine aw_getI (n := 11) (RX3, TX3, 6) 3 1 dX3_holds_8 rfl ht (by decide) fd_RX3_29 ?_
  refine aw_icmp_ge (n := 14) 194 dX3_holds_11 (by decide) rfl ?_ ?_
  · exact aw_weak (c_X3_holds_194 l F t ht a1 ha1 x3 μ) (aw_ss (aw_sn (aw_sn (aw_ss (aw_sn aw_s0)))))
  · refine aw_aload_n (n := 15) dX3_holds_14 rfl rfl ?_
    refine aw_getR (n := 18) (RX3, TX3, 6) 3 2 dX3_holds_15 rfl ht (by decide) fd_RX3_11 ?_
    refine aw_iload (n := 20) dX3_holds_18 rfl rfl ?_
    refine aw_iaload (n := 21) 40 dX3_holds_20 rfl (sf_3_2 ht) ?_
    refine aw_bipush (n := 23) 11 dX3_holds_21 rfl (by decide) ?_
    refine aw_icmp_ne (n := 26) 57 dX3_holds_23 (by decide) rfl ?_ ?_
    · refine aw_aload_n (n := 58) dX3_holds_57 rfl rfl ?_
      refine aw_getR (n := 61) (RX3, TX3, 6) 3 2 dX3_holds_58 rfl ht (by decide) fd_RX3_11 ?_
      refine aw_iload (n := 63) dX3_holds_61 rfl rfl ?_
      refine aw_iaload (n := 64) 40 dX3_holds_63 rfl (sf_3_2 ht) ?_
      refine aw_bipush (n := 66) 10 dX3_holds_64 rfl (by decide) ?_
      refine aw_icmp_eq (n := 69) 81 dX3_holds_66 (by decide) rfl ?_ ?_
      · exact aw_weak (c_X3_holds_81 l F t ht a1 ha1 k5 hk5 x1 x3 x4 μ) (aw_ss (aw_ss (aw_ss (aw_ss (aw_ss aw_s0)))))
      · refine aw_aload_n (n := 70) dX3_holds_69 rfl rfl ?_
        refine aw_getR (n := 73) (RX3, TX3, 6) 3 2 dX3_holds_70 rfl ht (by decide) fd_RX3_11 ?_
        refine aw_iload (n := 75) dX3_holds_73 rfl rfl ?_
        refine aw_iaload (n := 76) 40 dX3_holds_75 rfl (sf_3_2 ht) ?_
        refine aw_bipush (n := 78) 9 dX3_holds_76 rfl (by decide) ?_
        refine aw_icmp_ne (n := 81) 165 dX3_holds_78 (by decide) rfl ?_ ?_
        · refine aw_iload_n (n := 166) dX3_holds_165 rfl rfl ?_
          refine aw_bipush (n := 168) 20 dX3_holds_166 rfl (by decide) ?_
          refine aw_icmp_ge (n := 171) 188 dX3_holds_168 (by decide) rfl ?_ ?_
          · exact aw_weak (c_X3_holds_188 l F t ht a1 ha1 k5 hk5 x1 x3 x4 μ) (aw_ss (aw_ss (aw_ss (aw_ss (aw_ss aw_s0)))))
          · refine aw_aload_n (n := 172) dX3_holds_171 rfl rfl ?_
            refine aw_getR (n := 175) (RX3, TX3, 6) 3 5 dX3_holds_172 rfl ht (by decide) fd_RX3_21 ?_
            refine aw_iload_n (n := 176) dX3_holds_175 rfl rfl ?_
            refine aw_aload_n (n := 177) dX3_holds_176 rfl rfl ?_
            refine aw_iload (n := 179) dX3_holds_177 rfl rfl ?_
            refine aw_iload_n (n := 180) dX3_holds_179 rfl rfl ?_
            refine aw_aload_n (n := 181) dX3_holds_180 rfl rfl ?_
            refine aw_callVz (n := 184) (as := [.int x4, .int x1, .ref a1]) (st := [.int x3, .ref (aw_rf t 5)]) (RX3, TX3, 6) 3 dX3_holds_181 rfl rfl (m_X3_holdsLeaf l F t ht a1 ha1 x4 x1 μ) ht (by decide) rfl rfl cw_RX3_107 ⟨Nat.le_of_ble_eq_true rfl, Nat.le_of_ble_eq_true rfl⟩ (fun _ => Nat.le_of_ble_eq_true rfl) (fun r14 => ?_)
            refine aw_zastore (n := 185) 20 dX3_holds_184 rfl (sf_3_5 ht) (fun μ15 => ?_)
            refine aw_iinc (n := 188) (x3 + 1) [some (.ref t), some (.int x1), some (.ref a1), some (.int (x3 + 1)), some (.int x4)] dX3_holds_185 rfl rfl (by rfl) rfl (Nat.le_of_ble_eq_true rfl) rfl ?_
            exact aw_weak (c_X3_holds_188 l F t ht a1 ha1 k5 hk5 x1 (x3 + 1) x4 μ15) (aw_ss (aw_ss (aw_ss (aw_ss (aw_ss aw_s0)))))
        · exact aw_weak (c_X3_holds_81 l F t ht a1 ha1 k5 hk5 x1 x3 x4 μ) (aw_ss (aw_ss (aw_ss (aw_ss (aw_ss aw_s0)))))
    · refine aw_iload_n (n := 27) dX3_holds_26 rfl rfl ?_
      refine aw_if_le (n := 30) 188 dX3_holds_27 (by decide) rfl ?_ ?_
      · exact aw_weak (c_X3_holds_188 l F t ht a1 ha1 k5 hk5 x1 x3 x4 μ) (aw_ss (aw_ss (aw_ss (aw_ss (aw_ss aw_s0)))))
      · refine aw_aload_n (n := 31) dX3_holds_30 rfl rfl ?_
        refine aw_getR (n := 34) (RX3, TX3, 6) 3 5 dX3_holds_31 rfl ht (by decide) fd_RX3_21 ?_
        refine aw_iload_n (n := 35) dX3_holds_34 rfl rfl ?_
        refine aw_iconst (n := 36) 1 dX3_holds_35 rfl (by decide) ?_
        refine aw_isub (n := 37) dX3_holds_36 rfl ?_
        refine aw_aload_n (n := 38) dX3_holds_37 rfl rfl ?_
        refine aw_getR (n := 41) (RX3, TX3, 6) 3 5 dX3_holds_38 rfl ht (by decide) fd_RX3_21 ?_
        refine aw_iload_n (n := 42) dX3_holds_41 rfl rfl ?_
        refine aw_iconst (n := 43) 1 dX3_holds_42 rfl (by decide) ?_
        refine aw_isub (n := 44) dX3_holds_43 rfl ?_
        refine aw_zaload (n := 45) 20 dX3_holds_44 rfl (sf_3_5 ht) ?_
        refine aw_if_ne (n := 48) 52 dX3_holds_45 (by decide) rfl ?_ ?_
        · refine aw_iconst (n := 53) 0 dX3_holds_52 rfl (by decide) ?_
          exact aw_weak (c_X3_holds_53 l F t ht a1 ha1 k5 hk5 x1 x3 x4 false (x3 - 1) μ) (aw_ss (aw_ss (aw_ss (aw_ss (aw_ss aw_s0)))))
        · refine aw_iconst (n := 49) 1 dX3_holds_48 rfl (by decide) ?_
          refine aw_goto 53 dX3_holds_49 (by decide) ?_
          exact aw_weak (c_X3_holds_53 l F t ht a1 ha1 k5 hk5 x1 x3 x4 true (x3 - 1) μ) (aw_ss (aw_ss (aw_ss (aw_ss (aw_ss aw_s0)))))
def f_X3_holds (F : Nat) (t a1 : Nat) (a0 : Int32) (μ : aw_M) : Option (Bool × aw_M) :=
  aw_loop (fun k s => f_X3_holds_5 F t a1 k s.1 s.2.1 s.2.2.1 s.2.2.2) F (a0, 0, 0, μ)
theorem m_X3_holds (l : Launch) (F : Nat) (t : Nat) (ht : (aw_sh t).1 = 8) (a1 : Nat) (ha1 : (aw_sh a1).1 = 5) (a0 : Int32) (μ : aw_M) : AM l yX3_holds cX3_holds 5 (some .boolean) 6 242 aw_gz [.ref t, .int a0, .ref a1] μ (f_X3_holds F t a1 a0 μ) := by
  refine aw_met [some (.ref t), some (.int a0), some (.ref a1), none, none] (by decide) (fun _ => rfl) (fun _ => Nat.le_of_ble_eq_true rfl) ?_
  show AW l k_X3_holds aw_gz 0 [some (.ref t), some (.int a0), some (.ref a1), none, none] [] μ _
  unfold f_X3_holds
  refine aw_iconst (n := 1) 0 dX3_holds_0 rfl (by decide) ?_
  refine aw_istore_n (n := 2) [some (.ref t), some (.int a0), some (.ref a1), some (.int 0), none] dX3_holds_1 rfl rfl (Nat.le_of_ble_eq_true rfl) (Nat.le_of_ble_eq_true rfl) rfl ?_
  refine aw_iconst (n := 3) 0 dX3_holds_2 rfl (by decide) ?_
  refine aw_istore (n := 5) [some (.ref t), some (.int a0), some (.ref a1), some (.int 0), some (.int 0)] dX3_holds_3 rfl rfl (Nat.le_of_ble_eq_true rfl) (Nat.le_of_ble_eq_true rfl) rfl ?_
  exact aw_weak (c_X3_holds_5 l F t ht a1 ha1 F (a0, 0, 0, μ)) (aw_ss (aw_ss (aw_ss (aw_ss (aw_ss aw_s0)))))
abbrev k_X4_becomeTown : aw_K := (RX4, cX4_becomeTown, 2, none, 4, 189)
def f_X4_becomeTown (F : Nat) (t a0 : Nat) (μ : aw_M) : Option (aw_M) :=
  (f_X8_takeFrom F (aw_rf t 0) a0 μ).bind fun r1 =>
  (f_X1_derive F (aw_rf t 3) (aw_rf t 0) r1).bind fun r2 =>
  (f_X2_forget F (aw_rf t 1) r2).bind fun r3 =>
  (f_X3_forget F (aw_rf t 2) r3).bind fun r4 =>
  (f_X0_clearSand F (aw_rf t 4) r4).bind fun r5 =>
  (f_X0_restart F (aw_rf t 4) 0 r5).bind fun r6 =>
  some r6
theorem m_X4_becomeTown (l : Launch) (F : Nat) (t : Nat) (ht : (aw_sh t).1 = 9) (a0 : Nat) (ha0 : (aw_sh a0).1 = 13) (μ : aw_M) : AM l yX4_becomeTown cX4_becomeTown 2 none 4 189 aw_gv [.ref t, .ref a0] μ (f_X4_becomeTown F t a0 μ) := by
  refine aw_met [some (.ref t), some (.ref a0)] (by decide) (fun _ => rfl) (fun _ => Nat.le_of_ble_eq_true rfl) ?_
  show AW l k_X4_becomeTown aw_gv 0 [some (.ref t), some (.ref a0)] [] μ _
  unfold f_X4_becomeTown
  refine aw_aload_n (n := 1) dX4_becomeTown_0 rfl rfl ?_
  refine aw_getR (n := 4) (RX4, TX4, 5) 4 0 dX4_becomeTown_1 rfl ht (by decide) fd_RX4_10 ?_
  refine aw_aload_n (n := 5) dX4_becomeTown_4 rfl rfl ?_
  refine aw_callVv (n := 8) (as := [.ref a0]) (st := []) (RX8, TX8, 20) 8 dX4_becomeTown_5 rfl rfl (m_X8_takeFrom l F (aw_rf t 0) (sf_4_0 ht) a0 ha0 μ) (sf_4_0 ht) (by decide) rfl rfl cw_RX4_46 ⟨Nat.le_of_ble_eq_true rfl, Nat.le_of_ble_eq_true rfl⟩ (fun _ => Nat.le_of_ble_eq_true rfl) (fun r1 => ?_)
  refine aw_aload_n (n := 9) dX4_becomeTown_8 rfl rfl ?_
  refine aw_getR (n := 12) (RX4, TX4, 5) 4 3 dX4_becomeTown_9 rfl ht (by decide) fd_RX4_33 ?_
  refine aw_aload_n (n := 13) dX4_becomeTown_12 rfl rfl ?_
  refine aw_getR (n := 16) (RX4, TX4, 5) 4 0 dX4_becomeTown_13 rfl ht (by decide) fd_RX4_10 ?_
  refine aw_callVv (n := 19) (as := [.ref (aw_rf t 0)]) (st := []) (RX1, TX1, 12) 1 dX4_becomeTown_16 rfl rfl (m_X1_derive l F (aw_rf t 3) (sf_4_3 ht) (aw_rf t 0) (sf_4_0 ht) r1) (sf_4_3 ht) (by decide) rfl rfl cw_RX4_50 ⟨Nat.le_of_ble_eq_true rfl, Nat.le_of_ble_eq_true rfl⟩ (fun _ => Nat.le_of_ble_eq_true rfl) (fun r2 => ?_)
  refine aw_aload_n (n := 20) dX4_becomeTown_19 rfl rfl ?_
  refine aw_getR (n := 23) (RX4, TX4, 5) 4 1 dX4_becomeTown_20 rfl ht (by decide) fd_RX4_19 ?_
  refine aw_callVv (n := 26) (as := []) (st := []) (RX2, TX2, 4) 2 dX4_becomeTown_23 rfl rfl (m_X2_forget l F (aw_rf t 1) (sf_4_1 ht) r2) (sf_4_1 ht) (by decide) rfl rfl cw_RX4_53 ⟨Nat.le_of_ble_eq_true rfl, Nat.le_of_ble_eq_true rfl⟩ (fun _ => Nat.le_of_ble_eq_true rfl) (fun r3 => ?_)
  refine aw_aload_n (n := 27) dX4_becomeTown_26 rfl rfl ?_
  refine aw_getR (n := 30) (RX4, TX4, 5) 4 2 dX4_becomeTown_27 rfl ht (by decide) fd_RX4_26 ?_
  refine aw_callVv (n := 33) (as := []) (st := []) (RX3, TX3, 6) 3 dX4_becomeTown_30 rfl rfl (m_X3_forget l F (aw_rf t 2) (sf_4_2 ht) r3) (sf_4_2 ht) (by decide) rfl rfl cw_RX4_56 ⟨Nat.le_of_ble_eq_true rfl, Nat.le_of_ble_eq_true rfl⟩ (fun _ => Nat.le_of_ble_eq_true rfl) (fun r4 => ?_)
  refine aw_aload_n (n := 34) dX4_becomeTown_33 rfl rfl ?_
  refine aw_getR (n := 37) (RX4, TX4, 5) 4 4 dX4_becomeTown_34 rfl ht (by decide) fd_RX4_42 ?_
  refine aw_callVv (n := 40) (as := []) (st := []) (RX0, TX0, 20) 0 dX4_becomeTown_37 rfl rfl (m_X0_clearSand l F (aw_rf t 4) (sf_4_4 ht) r4) (sf_4_4 ht) (by decide) rfl rfl cw_RX4_57 ⟨Nat.le_of_ble_eq_true rfl, Nat.le_of_ble_eq_true rfl⟩ (fun _ => Nat.le_of_ble_eq_true rfl) (fun r5 => ?_)
  refine aw_aload_n (n := 41) dX4_becomeTown_40 rfl rfl ?_
  refine aw_getR (n := 44) (RX4, TX4, 5) 4 4 dX4_becomeTown_41 rfl ht (by decide) fd_RX4_42 ?_
  refine aw_iconst (n := 45) 0 dX4_becomeTown_44 rfl (by decide) ?_
  refine aw_callVv (n := 48) (as := [.int 0]) (st := []) (RX0, TX0, 20) 0 dX4_becomeTown_45 rfl rfl (m_X0_restart l F (aw_rf t 4) (sf_4_4 ht) 0 r5) (sf_4_4 ht) (by decide) rfl rfl cw_RX4_60 ⟨Nat.le_of_ble_eq_true rfl, Nat.le_of_ble_eq_true rfl⟩ (fun _ => Nat.le_of_ble_eq_true rfl) (fun r6 => ?_)
  exact aw_vreturn dX4_becomeTown_48 rfl rfl
abbrev k_X4_takeFrom : aw_K := (RX4, cX4_takeFrom, 2, none, 4, 189)
def f_X4_takeFrom (F : Nat) (t a0 : Nat) (μ : aw_M) : Option (aw_M) :=
  (f_X8_takeFrom F (aw_rf t 0) (aw_rf a0 0) μ).bind fun r1 =>
  (f_X1_derive F (aw_rf t 3) (aw_rf t 0) r1).bind fun r2 =>
  (f_X2_takeFrom F (aw_rf t 1) (aw_rf a0 1) r2).bind fun r3 =>
  (f_X3_takeFrom F (aw_rf t 2) (aw_rf a0 2) r3).bind fun r4 =>
  (f_X0_takeFrom F (aw_rf t 4) (aw_rf a0 4) r4).bind fun r5 =>
  some r5
theorem m_X4_takeFrom (l : Launch) (F : Nat) (t : Nat) (ht : (aw_sh t).1 = 9) (a0 : Nat) (ha0 : (aw_sh a0).1 = 9) (μ : aw_M) : AM l yX4_takeFrom cX4_takeFrom 2 none 4 189 aw_gv [.ref t, .ref a0] μ (f_X4_takeFrom F t a0 μ) := by
  refine aw_met [some (.ref t), some (.ref a0)] (by decide) (fun _ => rfl) (fun _ => Nat.le_of_ble_eq_true rfl) ?_
  show AW l k_X4_takeFrom aw_gv 0 [some (.ref t), some (.ref a0)] [] μ _
  unfold f_X4_takeFrom
  refine aw_aload_n (n := 1) dX4_takeFrom_0 rfl rfl ?_
  refine aw_getR (n := 4) (RX4, TX4, 5) 4 0 dX4_takeFrom_1 rfl ht (by decide) fd_RX4_10 ?_
  refine aw_aload_n (n := 5) dX4_takeFrom_4 rfl rfl ?_
  refine aw_getR (n := 8) (RX4, TX4, 5) 4 0 dX4_takeFrom_5 rfl ha0 (by decide) fd_RX4_10 ?_
  refine aw_callVv (n := 11) (as := [.ref (aw_rf a0 0)]) (st := []) (RX8, TX8, 20) 8 dX4_takeFrom_8 rfl rfl (m_X8_takeFrom l F (aw_rf t 0) (sf_4_0 ht) (aw_rf a0 0) (sf_4_0 ha0) μ) (sf_4_0 ht) (by decide) rfl rfl cw_RX4_46 ⟨Nat.le_of_ble_eq_true rfl, Nat.le_of_ble_eq_true rfl⟩ (fun _ => Nat.le_of_ble_eq_true rfl) (fun r1 => ?_)
  refine aw_aload_n (n := 12) dX4_takeFrom_11 rfl rfl ?_
  refine aw_getR (n := 15) (RX4, TX4, 5) 4 3 dX4_takeFrom_12 rfl ht (by decide) fd_RX4_33 ?_
  refine aw_aload_n (n := 16) dX4_takeFrom_15 rfl rfl ?_
  refine aw_getR (n := 19) (RX4, TX4, 5) 4 0 dX4_takeFrom_16 rfl ht (by decide) fd_RX4_10 ?_
  refine aw_callVv (n := 22) (as := [.ref (aw_rf t 0)]) (st := []) (RX1, TX1, 12) 1 dX4_takeFrom_19 rfl rfl (m_X1_derive l F (aw_rf t 3) (sf_4_3 ht) (aw_rf t 0) (sf_4_0 ht) r1) (sf_4_3 ht) (by decide) rfl rfl cw_RX4_50 ⟨Nat.le_of_ble_eq_true rfl, Nat.le_of_ble_eq_true rfl⟩ (fun _ => Nat.le_of_ble_eq_true rfl) (fun r2 => ?_)
  refine aw_aload_n (n := 23) dX4_takeFrom_22 rfl rfl ?_
  refine aw_getR (n := 26) (RX4, TX4, 5) 4 1 dX4_takeFrom_23 rfl ht (by decide) fd_RX4_19 ?_
  refine aw_aload_n (n := 27) dX4_takeFrom_26 rfl rfl ?_
  refine aw_getR (n := 30) (RX4, TX4, 5) 4 1 dX4_takeFrom_27 rfl ha0 (by decide) fd_RX4_19 ?_
  refine aw_callVv (n := 33) (as := [.ref (aw_rf a0 1)]) (st := []) (RX2, TX2, 4) 2 dX4_takeFrom_30 rfl rfl (m_X2_takeFrom l F (aw_rf t 1) (sf_4_1 ht) (aw_rf a0 1) (sf_4_1 ha0) r2) (sf_4_1 ht) (by decide) rfl rfl cw_RX4_64 ⟨Nat.le_of_ble_eq_true rfl, Nat.le_of_ble_eq_true rfl⟩ (fun _ => Nat.le_of_ble_eq_true rfl) (fun r3 => ?_)
  refine aw_aload_n (n := 34) dX4_takeFrom_33 rfl rfl ?_
  refine aw_getR (n := 37) (RX4, TX4, 5) 4 2 dX4_takeFrom_34 rfl ht (by decide) fd_RX4_26 ?_
  refine aw_aload_n (n := 38) dX4_takeFrom_37 rfl rfl ?_
  refine aw_getR (n := 41) (RX4, TX4, 5) 4 2 dX4_takeFrom_38 rfl ha0 (by decide) fd_RX4_26 ?_
  refine aw_callVv (n := 44) (as := [.ref (aw_rf a0 2)]) (st := []) (RX3, TX3, 6) 3 dX4_takeFrom_41 rfl rfl (m_X3_takeFrom l F (aw_rf t 2) (sf_4_2 ht) (aw_rf a0 2) (sf_4_2 ha0) r3) (sf_4_2 ht) (by decide) rfl rfl cw_RX4_67 ⟨Nat.le_of_ble_eq_true rfl, Nat.le_of_ble_eq_true rfl⟩ (fun _ => Nat.le_of_ble_eq_true rfl) (fun r4 => ?_)
  refine aw_aload_n (n := 45) dX4_takeFrom_44 rfl rfl ?_
  refine aw_getR (n := 48) (RX4, TX4, 5) 4 4 dX4_takeFrom_45 rfl ht (by decide) fd_RX4_42 ?_
  refine aw_aload_n (n := 49) dX4_takeFrom_48 rfl rfl ?_
  refine aw_getR (n := 52) (RX4, TX4, 5) 4 4 dX4_takeFrom_49 rfl ha0 (by decide) fd_RX4_42 ?_
  refine aw_callVv (n := 55) (as := [.ref (aw_rf a0 4)]) (st := []) (RX0, TX0, 20) 0 dX4_takeFrom_52 rfl rfl (m_X0_takeFrom l F (aw_rf t 4) (sf_4_4 ht) (aw_rf a0 4) (sf_4_4 ha0) r4) (sf_4_4 ht) (by decide) rfl rfl cw_RX4_70 ⟨Nat.le_of_ble_eq_true rfl, Nat.le_of_ble_eq_true rfl⟩ (fun _ => Nat.le_of_ble_eq_true rfl) (fun r5 => ?_)
  exact aw_vreturn dX4_takeFrom_55 rfl rfl
abbrev k_X9_serve : aw_K := (RX9, cX9_serve, 5, none, 1, 120)
def f_X9_serve_48 (F : Nat) (t : Nat) (k8 : Int32 × Int32 × Int32 × Int32 × aw_M → Option (aw_M)) (x1 : Int32) (x2 : Int32) (x3 : Int32) (x4 : Int32) (z0 : Int32) (z1 : Int32) (μ : aw_M) : Option (aw_M) :=
  aw_g (aw_in z1 81) (aw_let (aw_wI μ (aw_rf t 7) z1.toNatClampNeg z0) fun μ6 =>
  k8 (x1, x2, x3, (x4 + 1), μ6))
theorem c_X9_serve_48 (l : Launch) (F : Nat) (t : Nat) (ht : (aw_sh t).1 = 14) (k8 : Int32 × Int32 × Int32 × Int32 × aw_M → Option (aw_M)) (hk8 : ∀ s : Int32 × Int32 × Int32 × Int32 × aw_M, AW l k_X9_serve aw_gv 8 [some (.ref t), some (.int s.1), some (.int s.2.1), some (.int s.2.2.1), some (.int s.2.2.2.1)] [] s.2.2.2.2 (k8 s)) (x1 : Int32) (x2 : Int32) (x3 : Int32) (x4 : Int32) (z0 : Int32) (z1 : Int32) (μ : aw_M) : AW l k_X9_serve aw_gv 48 [some (.ref t), some (.int x1), some (.int x2), some (.int x3), some (.int x4)] [.int z0, .int z1, .ref (aw_rf t 7)] μ (f_X9_serve_48 F t k8 x1 x2 x3 x4 z0 z1 μ) := by
  unfold f_X9_serve_48
  refine aw_iastore (n := 49) 81 dX9_serve_48 rfl (sf_9_7 ht) (fun μ6 => ?_)
  refine aw_iinc (n := 52) (x4 + 1) [some (.ref t), some (.int x1), some (.int x2), some (.int x3), some (.int (x4 + 1))] dX9_serve_49 rfl rfl (by rfl) rfl (Nat.le_of_ble_eq_true rfl) rfl ?_
  refine aw_goto 8 dX9_serve_52 (by decide) ?_
  exact aw_weak (hk8 (x1, x2, x3, (x4 + 1), μ6)) (aw_ss (aw_ss (aw_ss (aw_ss (aw_ss aw_s0)))))
def f_X9_serve_8 (F : Nat) (t : Nat) (k8 : Int32 × Int32 × Int32 × Int32 × aw_M → Option (aw_M)) (x1 : Int32) (x2 : Int32) (x3 : Int32) (x4 : Int32) (μ : aw_M) : Option (aw_M) :=
  (if 9 ≤ x4 then
  some μ
  else
  (if ((x2 >>> (x4 &&& 31)) &&& 1) = 0 then
  aw_g (aw_in (x3 + x4) 81) (f_X9_serve_48 F t k8 x1 x2 x3 x4 (μ.1 (aw_rf t 7) (x3 + x4).toNatClampNeg) ((x3 + 9) + x4) μ)
  else
  f_X9_serve_48 F t k8 x1 x2 x3 x4 x1 ((x3 + 9) + x4) μ))
theorem c_X9_serve_8 (l : Launch) (F : Nat) (t : Nat) (ht : (aw_sh t).1 = 14) : ∀ (N : Nat) (s : Int32 × Int32 × Int32 × Int32 × aw_M), AW l k_X9_serve aw_gv 8 [some (.ref t), some (.int s.1), some (.int s.2.1), some (.int s.2.2.1), some (.int s.2.2.2.1)] [] s.2.2.2.2 (aw_loop (fun k s => f_X9_serve_8 F t k s.1 s.2.1 s.2.2.1 s.2.2.2.1 s.2.2.2.2) N s) := by
  refine aw_loop_ok (f := fun k s => f_X9_serve_8 F t k s.1 s.2.1 s.2.2.1 s.2.2.2.1 s.2.2.2.2) (Ls := fun s => [some (.ref t), some (.int s.1), some (.int s.2.1), some (.int s.2.2.1), some (.int s.2.2.2.1)]) (ms := fun s => s.2.2.2.2) ?_
  intro k8 hk8 s
  obtain ⟨x1, x2, x3, x4, μ⟩ := s
  show AW l k_X9_serve aw_gv 8 [some (.ref t), some (.int x1), some (.int x2), some (.int x3), some (.int x4)] [] μ (f_X9_serve_8 F t k8 x1 x2 x3 x4 μ)
  unfold f_X9_serve_8
  refine aw_iload (n := 10) dX9_serve_8 rfl rfl ?_
  refine aw_bipush (n := 12) 9 dX9_serve_10 rfl (by decide) ?_
  refine aw_icmp_ge (n := 15) 55 dX9_serve_12 (by decide) rfl ?_ ?_
  · exact aw_vreturn dX9_serve_55 rfl rfl
  · refine aw_aload_n (n := 16) dX9_serve_15 rfl rfl ?_
    refine aw_getR (n := 19) (RX9, TX9, 13) 9 7 dX9_serve_16 rfl ht (by decide) fd_RX9_21 ?_
    refine aw_iload_n (n := 20) dX9_serve_19 rfl rfl ?_
    refine aw_bipush (n := 22) 9 dX9_serve_20 rfl (by decide) ?_
    refine aw_iadd (n := 23) dX9_serve_22 rfl ?_
    refine aw_iload (n := 25) dX9_serve_23 rfl rfl ?_
    refine aw_iadd (n := 26) dX9_serve_25 rfl ?_
    refine aw_iload_n (n := 27) dX9_serve_26 rfl rfl ?_
    refine aw_iload (n := 29) dX9_serve_27 rfl rfl ?_
    refine aw_ishr (n := 30) dX9_serve_29 rfl ?_
    refine aw_iconst (n := 31) 1 dX9_serve_30 rfl (by decide) ?_
    refine aw_iand (n := 32) dX9_serve_31 rfl ?_
    refine aw_if_eq (n := 35) 39 dX9_serve_32 (by decide) rfl ?_ ?_
    · refine aw_aload_n (n := 40) dX9_serve_39 rfl rfl ?_
      refine aw_getR (n := 43) (RX9, TX9, 13) 9 7 dX9_serve_40 rfl ht (by decide) fd_RX9_21 ?_
      refine aw_iload_n (n := 44) dX9_serve_43 rfl rfl ?_
      refine aw_iload (n := 46) dX9_serve_44 rfl rfl ?_
      refine aw_iadd (n := 47) dX9_serve_46 rfl ?_
      refine aw_iaload (n := 48) 81 dX9_serve_47 rfl (sf_9_7 ht) ?_
      exact aw_weak (c_X9_serve_48 l F t ht k8 hk8 x1 x2 x3 x4 (μ.1 (aw_rf t 7) (x3 + x4).toNatClampNeg) ((x3 + 9) + x4) μ) (aw_ss (aw_ss (aw_ss (aw_ss (aw_ss aw_s0)))))
    · refine aw_iload_n (n := 36) dX9_serve_35 rfl rfl ?_
      refine aw_goto 48 dX9_serve_36 (by decide) ?_
      exact aw_weak (c_X9_serve_48 l F t ht k8 hk8 x1 x2 x3 x4 x1 ((x3 + 9) + x4) μ) (aw_ss (aw_ss (aw_ss (aw_ss (aw_ss aw_s0)))))
def f_X9_serve (F : Nat) (t : Nat) (a0 : Int32) (a1 : Int32) (μ : aw_M) : Option (aw_M) :=
  aw_let ((a0 * 9)) fun v5 =>
  aw_loop (fun k s => f_X9_serve_8 F t k s.1 s.2.1 s.2.2.1 s.2.2.2.1 s.2.2.2.2) F (a0, a1, v5, 0, μ)
theorem m_X9_serve (l : Launch) (F : Nat) (t : Nat) (ht : (aw_sh t).1 = 14) (a0 : Int32) (a1 : Int32) (μ : aw_M) : AM l yX9_serve cX9_serve 5 none 1 120 aw_gv [.ref t, .int a0, .int a1] μ (f_X9_serve F t a0 a1 μ) := by
  refine aw_met [some (.ref t), some (.int a0), some (.int a1), none, none] (by decide) (fun _ => rfl) (fun _ => Nat.le_of_ble_eq_true rfl) ?_
  show AW l k_X9_serve aw_gv 0 [some (.ref t), some (.int a0), some (.int a1), none, none] [] μ _
  unfold f_X9_serve
  refine aw_iload_n (n := 1) dX9_serve_0 rfl rfl ?_
  refine aw_bipush (n := 3) 9 dX9_serve_1 rfl (by decide) ?_
  refine aw_imul (n := 4) dX9_serve_3 rfl ?_
  refine aw_nmI (fun v5 => ?_)
  refine aw_istore_n (n := 5) [some (.ref t), some (.int a0), some (.int a1), some (.int v5), none] dX9_serve_4 rfl rfl (Nat.le_of_ble_eq_true rfl) (Nat.le_of_ble_eq_true rfl) rfl ?_
  refine aw_iconst (n := 6) 0 dX9_serve_5 rfl (by decide) ?_
  refine aw_istore (n := 8) [some (.ref t), some (.int a0), some (.int a1), some (.int v5), some (.int 0)] dX9_serve_6 rfl rfl (Nat.le_of_ble_eq_true rfl) (Nat.le_of_ble_eq_true rfl) rfl ?_
  exact aw_weak (c_X9_serve_8 l F t ht F (a0, a1, v5, 0, μ)) (aw_ss (aw_ss (aw_ss (aw_ss (aw_ss aw_s0)))))
abbrev k_X9_waitAt : aw_K := (RX9, cX9_waitAt, 4, (some .int), 1, 120)
def f_X9_waitAt_41 (F : Nat) (t : Nat) (k4 : Int32 × Int32 × Int32 × aw_M → Option (Int32 × aw_M)) (x1 : Int32) (x2 : Int32) (x3 : Int32) (μ : aw_M) : Option (Int32 × aw_M) :=
  k4 (x1, x2, (x3 + 1), μ)
theorem c_X9_waitAt_41 (l : Launch) (F : Nat) (t : Nat) (ht : (aw_sh t).1 = 14) (k4 : Int32 × Int32 × Int32 × aw_M → Option (Int32 × aw_M)) (hk4 : ∀ s : Int32 × Int32 × Int32 × aw_M, AW l k_X9_waitAt aw_gi 4 [some (.ref t), some (.int s.1), some (.int s.2.1), some (.int s.2.2.1)] [] s.2.2.2 (k4 s)) (x1 : Int32) (x2 : Int32) (x3 : Int32) (μ : aw_M) : AW l k_X9_waitAt aw_gi 41 [some (.ref t), some (.int x1), some (.int x2), some (.int x3)] [] μ (f_X9_waitAt_41 F t k4 x1 x2 x3 μ) := by
  unfold f_X9_waitAt_41
  refine aw_iinc (n := 44) (x3 + 1) [some (.ref t), some (.int x1), some (.int x2), some (.int (x3 + 1))] dX9_waitAt_41 rfl rfl (by rfl) rfl (Nat.le_of_ble_eq_true rfl) rfl ?_
  refine aw_goto 4 dX9_waitAt_44 (by decide) ?_
  exact aw_weak (hk4 (x1, x2, (x3 + 1), μ)) (aw_ss (aw_ss (aw_ss (aw_ss aw_s0))))
def f_X9_waitAt_4 (F : Nat) (t : Nat) (k4 : Int32 × Int32 × Int32 × aw_M → Option (Int32 × aw_M)) (x1 : Int32) (x2 : Int32) (x3 : Int32) (μ : aw_M) : Option (Int32 × aw_M) :=
  (if 9 ≤ x3 then
  some (x2, μ)
  else
  (if (((μ.1 t 3) >>> (x3 &&& 31)) &&& 1) = 0 then
  f_X9_waitAt_41 F t k4 x1 x2 x3 μ
  else
  aw_g (aw_in ((x1 * 9) + x3) 81) (aw_let ((if x2 < ((x1 - 1) - (μ.1 (aw_rf t 7) ((x1 * 9) + x3).toNatClampNeg)) then ((x1 - 1) - (μ.1 (aw_rf t 7) ((x1 * 9) + x3).toNatClampNeg)) else x2)) fun v3 =>
  f_X9_waitAt_41 F t k4 x1 v3 x3 μ)))
theorem c_X9_waitAt_4 (l : Launch) (F : Nat) (t : Nat) (ht : (aw_sh t).1 = 14) : ∀ (N : Nat) (s : Int32 × Int32 × Int32 × aw_M), AW l k_X9_waitAt aw_gi 4 [some (.ref t), some (.int s.1), some (.int s.2.1), some (.int s.2.2.1)] [] s.2.2.2 (aw_loop (fun k s => f_X9_waitAt_4 F t k s.1 s.2.1 s.2.2.1 s.2.2.2) N s) := by
  refine aw_loop_ok (f := fun k s => f_X9_waitAt_4 F t k s.1 s.2.1 s.2.2.1 s.2.2.2) (Ls := fun s => [some (.ref t), some (.int s.1), some (.int s.2.1), some (.int s.2.2.1)]) (ms := fun s => s.2.2.2) ?_
  intro k4 hk4 s
  obtain ⟨x1, x2, x3, μ⟩ := s
  show AW l k_X9_waitAt aw_gi 4 [some (.ref t), some (.int x1), some (.int x2), some (.int x3)] [] μ (f_X9_waitAt_4 F t k4 x1 x2 x3 μ)
  unfold f_X9_waitAt_4
  refine aw_iload_n (n := 5) dX9_waitAt_4 rfl rfl ?_
  refine aw_bipush (n := 7) 9 dX9_waitAt_5 rfl (by decide) ?_
  refine aw_icmp_ge (n := 10) 47 dX9_waitAt_7 (by decide) rfl ?_ ?_
  · refine aw_iload_n (n := 48) dX9_waitAt_47 rfl rfl ?_
    exact aw_ireturn dX9_waitAt_48 rfl rfl
  · refine aw_aload_n (n := 11) dX9_waitAt_10 rfl rfl ?_
    refine aw_getI (n := 14) (RX9, TX9, 13) 9 3 dX9_waitAt_11 rfl ht (by decide) fd_RX9_41 ?_
    refine aw_iload_n (n := 15) dX9_waitAt_14 rfl rfl ?_
    refine aw_ishr (n := 16) dX9_waitAt_15 rfl ?_
    refine aw_iconst (n := 17) 1 dX9_waitAt_16 rfl (by decide) ?_
    refine aw_iand (n := 18) dX9_waitAt_17 rfl ?_
    refine aw_if_eq (n := 21) 41 dX9_waitAt_18 (by decide) rfl ?_ ?_
    · exact aw_weak (c_X9_waitAt_41 l F t ht k4 hk4 x1 x2 x3 μ) (aw_ss (aw_ss (aw_ss (aw_ss aw_s0))))
    · refine aw_iload_n (n := 22) dX9_waitAt_21 rfl rfl ?_
      refine aw_iload_n (n := 23) dX9_waitAt_22 rfl rfl ?_
      refine aw_iconst (n := 24) 1 dX9_waitAt_23 rfl (by decide) ?_
      refine aw_isub (n := 25) dX9_waitAt_24 rfl ?_
      refine aw_aload_n (n := 26) dX9_waitAt_25 rfl rfl ?_
      refine aw_getR (n := 29) (RX9, TX9, 13) 9 7 dX9_waitAt_26 rfl ht (by decide) fd_RX9_21 ?_
      refine aw_iload_n (n := 30) dX9_waitAt_29 rfl rfl ?_
      refine aw_bipush (n := 32) 9 dX9_waitAt_30 rfl (by decide) ?_
      refine aw_imul (n := 33) dX9_waitAt_32 rfl ?_
      refine aw_iload_n (n := 34) dX9_waitAt_33 rfl rfl ?_
      refine aw_iadd (n := 35) dX9_waitAt_34 rfl ?_
      refine aw_iaload (n := 36) 81 dX9_waitAt_35 rfl (sf_9_7 ht) ?_
      refine aw_isub (n := 37) dX9_waitAt_36 rfl ?_
      refine aw_mmax (n := 40) dX9_waitAt_37 rfl tb_1210 (Nat.le_of_ble_eq_true rfl) (fun _ => Nat.le_of_ble_eq_true rfl) ?_
      refine aw_nmI (fun v3 => ?_)
      refine aw_istore_n (n := 41) [some (.ref t), some (.int x1), some (.int v3), some (.int x3)] dX9_waitAt_40 rfl rfl (Nat.le_of_ble_eq_true rfl) (Nat.le_of_ble_eq_true rfl) rfl ?_
      exact aw_weak (c_X9_waitAt_41 l F t ht k4 hk4 x1 v3 x3 μ) (aw_ss (aw_ss (aw_ss (aw_ss aw_s0))))
def f_X9_waitAt (F : Nat) (t : Nat) (a0 : Int32) (μ : aw_M) : Option (Int32 × aw_M) :=
  aw_loop (fun k s => f_X9_waitAt_4 F t k s.1 s.2.1 s.2.2.1 s.2.2.2) F (a0, 0, 0, μ)
theorem m_X9_waitAt (l : Launch) (F : Nat) (t : Nat) (ht : (aw_sh t).1 = 14) (a0 : Int32) (μ : aw_M) : AM l yX9_waitAt cX9_waitAt 4 (some .int) 1 120 aw_gi [.ref t, .int a0] μ (f_X9_waitAt F t a0 μ) := by
  refine aw_met [some (.ref t), some (.int a0), none, none] (by decide) (fun _ => rfl) (fun _ => Nat.le_of_ble_eq_true rfl) ?_
  show AW l k_X9_waitAt aw_gi 0 [some (.ref t), some (.int a0), none, none] [] μ _
  unfold f_X9_waitAt
  refine aw_iconst (n := 1) 0 dX9_waitAt_0 rfl (by decide) ?_
  refine aw_istore_n (n := 2) [some (.ref t), some (.int a0), some (.int 0), none] dX9_waitAt_1 rfl rfl (Nat.le_of_ble_eq_true rfl) (Nat.le_of_ble_eq_true rfl) rfl ?_
  refine aw_iconst (n := 3) 0 dX9_waitAt_2 rfl (by decide) ?_
  refine aw_istore_n (n := 4) [some (.ref t), some (.int a0), some (.int 0), some (.int 0)] dX9_waitAt_3 rfl rfl (Nat.le_of_ble_eq_true rfl) (Nat.le_of_ble_eq_true rfl) rfl ?_
  exact aw_weak (c_X9_waitAt_4 l F t ht F (a0, 0, 0, μ)) (aw_ss (aw_ss (aw_ss (aw_ss aw_s0))))
abbrev k_X9_hasSandNear : aw_K := (RX9, cX9_hasSandNear, 5, (some .boolean), 2, 144)
def f_X9_hasSandNear_33 (F : Nat) (a0 a1 : Nat) (k2 : Int32 × Int32 × aw_M → Option (Bool × aw_M)) (x2 : Int32) (x3 : Int32) (μ : aw_M) : Option (Bool × aw_M) :=
  k2 (x2, (x3 + 1), μ)
theorem c_X9_hasSandNear_33 (l : Launch) (F : Nat) (a0 : Nat) (ha0 : (aw_sh a0).1 = 13) (a1 : Nat) (ha1 : (aw_sh a1).1 = 5) (k2 : Int32 × Int32 × aw_M → Option (Bool × aw_M)) (hk2 : ∀ s : Int32 × Int32 × aw_M, AW l k_X9_hasSandNear aw_gz 2 [some (.ref a0), some (.ref a1), some (.int s.1), some (.int s.2.1), none] [] s.2.2 (k2 s)) (x2 : Int32) (x3 : Int32) (μ : aw_M) : AW l k_X9_hasSandNear aw_gz 33 [some (.ref a0), some (.ref a1), some (.int x2), some (.int x3), none] [] μ (f_X9_hasSandNear_33 F a0 a1 k2 x2 x3 μ) := by
  unfold f_X9_hasSandNear_33
  refine aw_iinc (n := 36) (x3 + 1) [some (.ref a0), some (.ref a1), some (.int x2), some (.int (x3 + 1)), none] dX9_hasSandNear_33 rfl rfl (by rfl) rfl (Nat.le_of_ble_eq_true rfl) rfl ?_
  refine aw_goto 2 dX9_hasSandNear_36 (by decide) ?_
  exact aw_weak (hk2 (x2, (x3 + 1), μ)) (aw_ss (aw_ss (aw_ss (aw_ss (aw_sn aw_s0)))))
def f_X9_hasSandNear_2 (F : Nat) (a0 a1 : Nat) (k2 : Int32 × Int32 × aw_M → Option (Bool × aw_M)) (x2 : Int32) (x3 : Int32) (μ : aw_M) : Option (Bool × aw_M) :=
  (if 5 ≤ x3 then
  some (false, μ)
  else
  (f_X8_sideOf F a0 x2 x3 μ).bind fun r3 =>
  (if r3.1 = (-1) then
  f_X9_hasSandNear_33 F a0 a1 k2 x2 x3 r3.2
  else
  aw_g (aw_in r3.1 100) ((if (r3.2.1 (aw_rf a1 17) r3.1.toNatClampNeg) = 0 then
  f_X9_hasSandNear_33 F a0 a1 k2 x2 x3 r3.2
  else
  some (true, r3.2)))))
theorem c_X9_hasSandNear_2 (l : Launch) (F : Nat) (a0 : Nat) (ha0 : (aw_sh a0).1 = 13) (a1 : Nat) (ha1 : (aw_sh a1).1 = 5) : ∀ (N : Nat) (s : Int32 × Int32 × aw_M), AW l k_X9_hasSandNear aw_gz 2 [some (.ref a0), some (.ref a1), some (.int s.1), some (.int s.2.1), none] [] s.2.2 (aw_loop (fun k s => f_X9_hasSandNear_2 F a0 a1 k s.1 s.2.1 s.2.2) N s) := by
  refine aw_loop_ok (f := fun k s => f_X9_hasSandNear_2 F a0 a1 k s.1 s.2.1 s.2.2) (Ls := fun s => [some (.ref a0), some (.ref a1), some (.int s.1), some (.int s.2.1), none]) (ms := fun s => s.2.2) ?_
  intro k2 hk2 s
  obtain ⟨x2, x3, μ⟩ := s
  show AW l k_X9_hasSandNear aw_gz 2 [some (.ref a0), some (.ref a1), some (.int x2), some (.int x3), none] [] μ (f_X9_hasSandNear_2 F a0 a1 k2 x2 x3 μ)
  unfold f_X9_hasSandNear_2
  refine aw_iload_n (n := 3) dX9_hasSandNear_2 rfl rfl ?_
  refine aw_iconst (n := 4) 5 dX9_hasSandNear_3 rfl (by decide) ?_
  refine aw_icmp_ge (n := 7) 39 dX9_hasSandNear_4 (by decide) rfl ?_ ?_
  · refine aw_iconst (n := 40) 0 dX9_hasSandNear_39 rfl (by decide) ?_
    exact aw_zreturn (b := false) dX9_hasSandNear_40 rfl rfl
  · refine aw_aload_n (n := 8) dX9_hasSandNear_7 rfl rfl ?_
    refine aw_iload_n (n := 9) dX9_hasSandNear_8 rfl rfl ?_
    refine aw_iload_n (n := 10) dX9_hasSandNear_9 rfl rfl ?_
    refine aw_callVi (n := 13) (as := [.int x2, .int x3]) (st := []) (RX8, TX8, 20) 8 dX9_hasSandNear_10 rfl rfl (m_X8_sideOf l F a0 ha0 x2 x3 μ) ha0 (by decide) rfl rfl cw_RX9_112 ⟨Nat.le_of_ble_eq_true rfl, Nat.le_of_ble_eq_true rfl⟩ (fun _ => Nat.le_of_ble_eq_true rfl) (fun r3 => ?_)
    refine aw_istore (n := 15) [some (.ref a0), some (.ref a1), some (.int x2), some (.int x3), some (.int r3.1)] dX9_hasSandNear_13 rfl rfl (Nat.le_of_ble_eq_true rfl) (Nat.le_of_ble_eq_true rfl) rfl ?_
    refine aw_iload (n := 17) dX9_hasSandNear_15 rfl rfl ?_
    refine aw_iconst (n := 18) (-1) dX9_hasSandNear_17 rfl (by decide) ?_
    refine aw_icmp_eq (n := 21) 33 dX9_hasSandNear_18 (by decide) rfl ?_ ?_
    · exact aw_weak (c_X9_hasSandNear_33 l F a0 ha0 a1 ha1 k2 hk2 x2 x3 r3.2) (aw_ss (aw_ss (aw_ss (aw_ss (aw_sn aw_s0)))))
    · refine aw_aload_n (n := 22) dX9_hasSandNear_21 rfl rfl ?_
      refine aw_getR (n := 25) (RX0, TX0, 20) 0 17 dX9_hasSandNear_22 rfl ha1 (by decide) fd_RX9_115 ?_
      refine aw_iload (n := 27) dX9_hasSandNear_25 rfl rfl ?_
      refine aw_iaload (n := 28) 100 dX9_hasSandNear_27 rfl (sf_0_17 ha1) ?_
      refine aw_if_eq (n := 31) 33 dX9_hasSandNear_28 (by decide) rfl ?_ ?_
      · exact aw_weak (c_X9_hasSandNear_33 l F a0 ha0 a1 ha1 k2 hk2 x2 x3 r3.2) (aw_ss (aw_ss (aw_ss (aw_ss (aw_sn aw_s0)))))
      · refine aw_iconst (n := 32) 1 dX9_hasSandNear_31 rfl (by decide) ?_
        exact aw_zreturn (b := true) dX9_hasSandNear_32 rfl rfl
def f_X9_hasSandNear (F : Nat) (a0 a1 : Nat) (a2 : Int32) (μ : aw_M) : Option (Bool × aw_M) :=
  aw_loop (fun k s => f_X9_hasSandNear_2 F a0 a1 k s.1 s.2.1 s.2.2) F (a2, 0, μ)
theorem m_X9_hasSandNear (l : Launch) (F : Nat) (a0 : Nat) (ha0 : (aw_sh a0).1 = 13) (a1 : Nat) (ha1 : (aw_sh a1).1 = 5) (a2 : Int32) (μ : aw_M) : AM l yX9_hasSandNear cX9_hasSandNear 5 (some .boolean) 2 144 aw_gz [.ref a0, .ref a1, .int a2] μ (f_X9_hasSandNear F a0 a1 a2 μ) := by
  refine aw_met [some (.ref a0), some (.ref a1), some (.int a2), none, none] (by decide) (fun _ => rfl) (fun _ => Nat.le_of_ble_eq_true rfl) ?_
  show AW l k_X9_hasSandNear aw_gz 0 [some (.ref a0), some (.ref a1), some (.int a2), none, none] [] μ _
  unfold f_X9_hasSandNear
  refine aw_iconst (n := 1) 0 dX9_hasSandNear_0 rfl (by decide) ?_
  refine aw_istore_n (n := 2) [some (.ref a0), some (.ref a1), some (.int a2), some (.int 0), none] dX9_hasSandNear_1 rfl rfl (Nat.le_of_ble_eq_true rfl) (Nat.le_of_ble_eq_true rfl) rfl ?_
  exact aw_weak (c_X9_hasSandNear_2 l F a0 ha0 a1 ha1 F (a2, 0, μ)) (aw_ss (aw_ss (aw_ss (aw_ss (aw_sn aw_s0)))))
abbrev k_X9_findWet : aw_K := (RX9, cX9_findWet, 7, (some .int), 3, 168)
def f_X9_findWet_111 (F : Nat) (t a0 a1 : Nat) (k13 : Int32 × Int32 × aw_M → Option (Int32 × aw_M)) (x3 : Int32) (x4 : Int32) (μ : aw_M) : Option (Int32 × aw_M) :=
  k13 (x3, (x4 + 1), μ)
theorem c_X9_findWet_111 (l : Launch) (F : Nat) (t : Nat) (ht : (aw_sh t).1 = 14) (a0 : Nat) (ha0 : (aw_sh a0).1 = 13) (a1 : Nat) (ha1 : (aw_sh a1).1 = 5) (k13 : Int32 × Int32 × aw_M → Option (Int32 × aw_M)) (hk13 : ∀ s : Int32 × Int32 × aw_M, AW l k_X9_findWet aw_gi 13 [some (.ref t), some (.ref a0), some (.ref a1), some (.int s.1), some (.int s.2.1), none, none] [] s.2.2 (k13 s)) (x3 : Int32) (x4 : Int32) (μ : aw_M) : AW l k_X9_findWet aw_gi 111 [some (.ref t), some (.ref a0), some (.ref a1), some (.int x3), some (.int x4), none, none] [] μ (f_X9_findWet_111 F t a0 a1 k13 x3 x4 μ) := by
  unfold f_X9_findWet_111
  refine aw_iinc (n := 114) (x4 + 1) [some (.ref t), some (.ref a0), some (.ref a1), some (.int x3), some (.int (x4 + 1)), none, none] dX9_findWet_111 rfl rfl (by rfl) rfl (Nat.le_of_ble_eq_true rfl) rfl ?_
  refine aw_goto 13 dX9_findWet_114 (by decide) ?_
  exact aw_weak (hk13 (x3, (x4 + 1), μ)) (aw_ss (aw_ss (aw_ss (aw_ss (aw_ss (aw_sn (aw_sn aw_s0)))))))
def f_X9_findWet_105 (F : Nat) (t a0 a1 : Nat) (k13 : Int32 × Int32 × aw_M → Option (Int32 × aw_M)) (k64 : Int32 × Int32 × Int32 × aw_M → Option (Int32 × aw_M)) (x3 : Int32) (x4 : Int32) (x5 : Int32) (μ : aw_M) : Option (Int32 × aw_M) :=
  k64 (x3, x4, (x5 + 1), μ)
theorem c_X9_findWet_105 (l : Launch) (F : Nat) (t : Nat) (ht : (aw_sh t).1 = 14) (a0 : Nat) (ha0 : (aw_sh a0).1 = 13) (a1 : Nat) (ha1 : (aw_sh a1).1 = 5) (k13 : Int32 × Int32 × aw_M → Option (Int32 × aw_M)) (hk13 : ∀ s : Int32 × Int32 × aw_M, AW l k_X9_findWet aw_gi 13 [some (.ref t), some (.ref a0), some (.ref a1), some (.int s.1), some (.int s.2.1), none, none] [] s.2.2 (k13 s)) (k64 : Int32 × Int32 × Int32 × aw_M → Option (Int32 × aw_M)) (hk64 : ∀ s : Int32 × Int32 × Int32 × aw_M, AW l k_X9_findWet aw_gi 64 [some (.ref t), some (.ref a0), some (.ref a1), some (.int s.1), some (.int s.2.1), some (.int s.2.2.1), none] [] s.2.2.2 (k64 s)) (x3 : Int32) (x4 : Int32) (x5 : Int32) (μ : aw_M) : AW l k_X9_findWet aw_gi 105 [some (.ref t), some (.ref a0), some (.ref a1), some (.int x3), some (.int x4), some (.int x5), none] [] μ (f_X9_findWet_105 F t a0 a1 k13 k64 x3 x4 x5 μ) := by
  unfold f_X9_findWet_105
  refine aw_iinc (n := 108) (x5 + 1) [some (.ref t), some (.ref a0), some (.ref a1), some (.int x3), some (.int x4), some (.int (x5 + 1)), none] dX9_findWet_105 rfl rfl (by rfl) rfl (Nat.le_of_ble_eq_true rfl) rfl ?_
  refine aw_goto 64 dX9_findWet_108 (by decide) ?_
  exact aw_weak (hk64 (x3, x4, (x5 + 1), μ)) (aw_ss (aw_ss (aw_ss (aw_ss (aw_ss (aw_ss (aw_sn aw_s0)))))))
def f_X9_findWet_64 (F : Nat) (t a0 a1 : Nat) (k64 : Int32 × Int32 × Int32 × aw_M → Option (Int32 × aw_M)) (k13 : Int32 × Int32 × aw_M → Option (Int32 × aw_M)) (x3 : Int32) (x4 : Int32) (x5 : Int32) (μ : aw_M) : Option (Int32 × aw_M) :=
  (if 5 ≤ x5 then
  f_X9_findWet_111 F t a0 a1 k13 x3 x4 μ
  else
  aw_g (aw_in x4 9) ((f_X8_sideOf F a0 (μ.1 (aw_rf a0 6) x4.toNatClampNeg) x5 μ).bind fun r14 =>
  (if r14.1 = (-1) then
  f_X9_findWet_105 F t a0 a1 k13 k64 x3 x4 x5 r14.2
  else
  aw_g (aw_in r14.1 100) (aw_g (aw_in r14.1 100) (aw_let (aw_wI r14.2 (aw_rf t 10) r14.1.toNatClampNeg ((r14.2.1 (aw_rf t 10) r14.1.toNatClampNeg) ||| (1 <<< (x4 &&& 31)))) fun μ15 =>
  f_X9_findWet_105 F t a0 a1 k13 k64 x3 x4 x5 μ15)))))
theorem c_X9_findWet_64 (l : Launch) (F : Nat) (t : Nat) (ht : (aw_sh t).1 = 14) (a0 : Nat) (ha0 : (aw_sh a0).1 = 13) (a1 : Nat) (ha1 : (aw_sh a1).1 = 5) (k13 : Int32 × Int32 × aw_M → Option (Int32 × aw_M)) (hk13 : ∀ s : Int32 × Int32 × aw_M, AW l k_X9_findWet aw_gi 13 [some (.ref t), some (.ref a0), some (.ref a1), some (.int s.1), some (.int s.2.1), none, none] [] s.2.2 (k13 s)) : ∀ (N : Nat) (s : Int32 × Int32 × Int32 × aw_M), AW l k_X9_findWet aw_gi 64 [some (.ref t), some (.ref a0), some (.ref a1), some (.int s.1), some (.int s.2.1), some (.int s.2.2.1), none] [] s.2.2.2 (aw_loop (fun k s => f_X9_findWet_64 F t a0 a1 k k13 s.1 s.2.1 s.2.2.1 s.2.2.2) N s) := by
  refine aw_loop_ok (f := fun k s => f_X9_findWet_64 F t a0 a1 k k13 s.1 s.2.1 s.2.2.1 s.2.2.2) (Ls := fun s => [some (.ref t), some (.ref a0), some (.ref a1), some (.int s.1), some (.int s.2.1), some (.int s.2.2.1), none]) (ms := fun s => s.2.2.2) ?_
  intro k64 hk64 s
  obtain ⟨x3, x4, x5, μ⟩ := s
  show AW l k_X9_findWet aw_gi 64 [some (.ref t), some (.ref a0), some (.ref a1), some (.int x3), some (.int x4), some (.int x5), none] [] μ (f_X9_findWet_64 F t a0 a1 k64 k13 x3 x4 x5 μ)
  unfold f_X9_findWet_64
  refine aw_iload (n := 66) dX9_findWet_64 rfl rfl ?_
  refine aw_iconst (n := 67) 5 dX9_findWet_66 rfl (by decide) ?_
  refine aw_icmp_ge (n := 70) 111 dX9_findWet_67 (by decide) rfl ?_ ?_
  · exact aw_weak (c_X9_findWet_111 l F t ht a0 ha0 a1 ha1 k13 hk13 x3 x4 μ) (aw_ss (aw_ss (aw_ss (aw_ss (aw_ss (aw_sn (aw_sn aw_s0)))))))
  · refine aw_aload_n (n := 71) dX9_findWet_70 rfl rfl ?_
    refine aw_aload_n (n := 72) dX9_findWet_71 rfl rfl ?_
    refine aw_getR (n := 75) (RX8, TX8, 20) 8 6 dX9_findWet_72 rfl ha0 (by decide) fd_RX9_105 ?_
    refine aw_iload (n := 77) dX9_findWet_75 rfl rfl ?_
    refine aw_iaload (n := 78) 9 dX9_findWet_77 rfl (sf_8_6 ha0) ?_
    refine aw_iload (n := 80) dX9_findWet_78 rfl rfl ?_
    refine aw_callVi (n := 83) (as := [.int (μ.1 (aw_rf a0 6) x4.toNatClampNeg), .int x5]) (st := []) (RX8, TX8, 20) 8 dX9_findWet_80 rfl rfl (m_X8_sideOf l F a0 ha0 (μ.1 (aw_rf a0 6) x4.toNatClampNeg) x5 μ) ha0 (by decide) rfl rfl cw_RX9_112 ⟨Nat.le_of_ble_eq_true rfl, Nat.le_of_ble_eq_true rfl⟩ (fun _ => Nat.le_of_ble_eq_true rfl) (fun r14 => ?_)
    refine aw_istore (n := 85) [some (.ref t), some (.ref a0), some (.ref a1), some (.int x3), some (.int x4), some (.int x5), some (.int r14.1)] dX9_findWet_83 rfl rfl (Nat.le_of_ble_eq_true rfl) (Nat.le_of_ble_eq_true rfl) rfl ?_
    refine aw_iload (n := 87) dX9_findWet_85 rfl rfl ?_
    refine aw_iconst (n := 88) (-1) dX9_findWet_87 rfl (by decide) ?_
    refine aw_icmp_eq (n := 91) 105 dX9_findWet_88 (by decide) rfl ?_ ?_
    · exact aw_weak (c_X9_findWet_105 l F t ht a0 ha0 a1 ha1 k13 hk13 k64 hk64 x3 x4 x5 r14.2) (aw_ss (aw_ss (aw_ss (aw_ss (aw_ss (aw_ss (aw_sn aw_s0)))))))
    · refine aw_aload_n (n := 92) dX9_findWet_91 rfl rfl ?_
      refine aw_getR (n := 95) (RX9, TX9, 13) 9 10 dX9_findWet_92 rfl ht (by decide) fd_RX9_24 ?_
      refine aw_iload (n := 97) dX9_findWet_95 rfl rfl ?_
      refine aw_dup2 (n := 98) dX9_findWet_97 rfl (fun _ => rfl) (fun _ => rfl) ?_
      refine aw_iaload (n := 99) 100 dX9_findWet_98 rfl (sf_9_10 ht) ?_
      refine aw_iconst (n := 100) 1 dX9_findWet_99 rfl (by decide) ?_
      refine aw_iload (n := 102) dX9_findWet_100 rfl rfl ?_
      refine aw_ishl (n := 103) dX9_findWet_102 rfl ?_
      refine aw_ior (n := 104) dX9_findWet_103 rfl ?_
      refine aw_iastore (n := 105) 100 dX9_findWet_104 rfl (sf_9_10 ht) (fun μ15 => ?_)
      exact aw_weak (c_X9_findWet_105 l F t ht a0 ha0 a1 ha1 k13 hk13 k64 hk64 x3 x4 x5 μ15) (aw_ss (aw_ss (aw_ss (aw_ss (aw_ss (aw_ss (aw_sn aw_s0)))))))
def f_X9_findWet_13 (F : Nat) (t a0 a1 : Nat) (k13 : Int32 × Int32 × aw_M → Option (Int32 × aw_M)) (x3 : Int32) (x4 : Int32) (μ : aw_M) : Option (Int32 × aw_M) :=
  (if (μ.1 a0 3) ≤ x4 then
  some (x3, μ)
  else
  aw_g (aw_in x4 9) (aw_g (aw_in (μ.1 (aw_rf a0 6) x4.toNatClampNeg) 100) ((if (μ.1 (aw_rf a1 16) (μ.1 (aw_rf a0 6) x4.toNatClampNeg).toNatClampNeg) < 10 then
  f_X9_findWet_111 F t a0 a1 k13 x3 x4 μ
  else
  aw_g (aw_in x4 9) ((f_X9_hasSandNear F a0 a1 (μ.1 (aw_rf a0 6) x4.toNatClampNeg) μ).bind fun r12 =>
  (if r12.1 = true then
  f_X9_findWet_111 F t a0 a1 k13 x3 x4 r12.2
  else
  aw_let ((x3 ||| (1 <<< (x4 &&& 31)))) fun v13 =>
  aw_loop (fun k s => f_X9_findWet_64 F t a0 a1 k k13 s.1 s.2.1 s.2.2.1 s.2.2.2) F (v13, x4, 0, r12.2)))))))
theorem c_X9_findWet_13 (l : Launch) (F : Nat) (t : Nat) (ht : (aw_sh t).1 = 14) (a0 : Nat) (ha0 : (aw_sh a0).1 = 13) (a1 : Nat) (ha1 : (aw_sh a1).1 = 5) : ∀ (N : Nat) (s : Int32 × Int32 × aw_M), AW l k_X9_findWet aw_gi 13 [some (.ref t), some (.ref a0), some (.ref a1), some (.int s.1), some (.int s.2.1), none, none] [] s.2.2 (aw_loop (fun k s => f_X9_findWet_13 F t a0 a1 k s.1 s.2.1 s.2.2) N s) := by
  refine aw_loop_ok (f := fun k s => f_X9_findWet_13 F t a0 a1 k s.1 s.2.1 s.2.2) (Ls := fun s => [some (.ref t), some (.ref a0), some (.ref a1), some (.int s.1), some (.int s.2.1), none, none]) (ms := fun s => s.2.2) ?_
  intro k13 hk13 s
  obtain ⟨x3, x4, μ⟩ := s
  show AW l k_X9_findWet aw_gi 13 [some (.ref t), some (.ref a0), some (.ref a1), some (.int x3), some (.int x4), none, none] [] μ (f_X9_findWet_13 F t a0 a1 k13 x3 x4 μ)
  unfold f_X9_findWet_13
  refine aw_iload (n := 15) dX9_findWet_13 rfl rfl ?_
  refine aw_aload_n (n := 16) dX9_findWet_15 rfl rfl ?_
  refine aw_getI (n := 19) (RX8, TX8, 20) 8 3 dX9_findWet_16 rfl ha0 (by decide) fd_RX9_53 ?_
  refine aw_icmp_ge (n := 22) 117 dX9_findWet_19 (by decide) rfl ?_ ?_
  · refine aw_iload_n (n := 118) dX9_findWet_117 rfl rfl ?_
    exact aw_ireturn dX9_findWet_118 rfl rfl
  · refine aw_aload_n (n := 23) dX9_findWet_22 rfl rfl ?_
    refine aw_getR (n := 26) (RX0, TX0, 20) 0 16 dX9_findWet_23 rfl ha1 (by decide) fd_RX9_100 ?_
    refine aw_aload_n (n := 27) dX9_findWet_26 rfl rfl ?_
    refine aw_getR (n := 30) (RX8, TX8, 20) 8 6 dX9_findWet_27 rfl ha0 (by decide) fd_RX9_105 ?_
    refine aw_iload (n := 32) dX9_findWet_30 rfl rfl ?_
    refine aw_iaload (n := 33) 9 dX9_findWet_32 rfl (sf_8_6 ha0) ?_
    refine aw_iaload (n := 34) 100 dX9_findWet_33 rfl (sf_0_16 ha1) ?_
    refine aw_bipush (n := 36) 10 dX9_findWet_34 rfl (by decide) ?_
    refine aw_icmp_lt (n := 39) 111 dX9_findWet_36 (by decide) rfl ?_ ?_
    · exact aw_weak (c_X9_findWet_111 l F t ht a0 ha0 a1 ha1 k13 hk13 x3 x4 μ) (aw_ss (aw_ss (aw_ss (aw_ss (aw_ss (aw_sn (aw_sn aw_s0)))))))
    · refine aw_aload_n (n := 40) dX9_findWet_39 rfl rfl ?_
      refine aw_aload_n (n := 41) dX9_findWet_40 rfl rfl ?_
      refine aw_aload_n (n := 42) dX9_findWet_41 rfl rfl ?_
      refine aw_getR (n := 45) (RX8, TX8, 20) 8 6 dX9_findWet_42 rfl ha0 (by decide) fd_RX9_105 ?_
      refine aw_iload (n := 47) dX9_findWet_45 rfl rfl ?_
      refine aw_iaload (n := 48) 9 dX9_findWet_47 rfl (sf_8_6 ha0) ?_
      refine aw_callSz (n := 51) (as := [.ref a0, .ref a1, .int (μ.1 (aw_rf a0 6) x4.toNatClampNeg)]) (st := []) dX9_findWet_48 rfl rfl (m_X9_hasSandNear l F a0 ha0 a1 ha1 (μ.1 (aw_rf a0 6) x4.toNatClampNeg) μ) cw_RX9_108 ⟨Nat.le_of_ble_eq_true rfl, Nat.le_of_ble_eq_true rfl⟩ (fun _ => Nat.le_of_ble_eq_true rfl) (fun r12 => ?_)
      refine aw_ifb_ne (n := 54) 111 dX9_findWet_51 (by decide) rfl ?_ ?_
      · exact aw_weak (c_X9_findWet_111 l F t ht a0 ha0 a1 ha1 k13 hk13 x3 x4 r12.2) (aw_ss (aw_ss (aw_ss (aw_ss (aw_ss (aw_sn (aw_sn aw_s0)))))))
      · refine aw_iload_n (n := 55) dX9_findWet_54 rfl rfl ?_
        refine aw_iconst (n := 56) 1 dX9_findWet_55 rfl (by decide) ?_
        refine aw_iload (n := 58) dX9_findWet_56 rfl rfl ?_
        refine aw_ishl (n := 59) dX9_findWet_58 rfl ?_
        refine aw_ior (n := 60) dX9_findWet_59 rfl ?_
        refine aw_nmI (fun v13 => ?_)
        refine aw_istore_n (n := 61) [some (.ref t), some (.ref a0), some (.ref a1), some (.int v13), some (.int x4), none, none] dX9_findWet_60 rfl rfl (Nat.le_of_ble_eq_true rfl) (Nat.le_of_ble_eq_true rfl) rfl ?_
        refine aw_iconst (n := 62) 0 dX9_findWet_61 rfl (by decide) ?_
        refine aw_istore (n := 64) [some (.ref t), some (.ref a0), some (.ref a1), some (.int v13), some (.int x4), some (.int 0), none] dX9_findWet_62 rfl rfl (Nat.le_of_ble_eq_true rfl) (Nat.le_of_ble_eq_true rfl) rfl ?_
        exact aw_weak (c_X9_findWet_64 l F t ht a0 ha0 a1 ha1 k13 hk13 F (v13, x4, 0, r12.2)) (aw_ss (aw_ss (aw_ss (aw_ss (aw_ss (aw_ss (aw_sn aw_s0)))))))
def f_X9_findWet (F : Nat) (t a0 a1 : Nat) (μ : aw_M) : Option (Int32 × aw_M) :=
  (f_J7_fill_53178 F (aw_rf t 10) 0 μ).bind fun r11 =>
  aw_loop (fun k s => f_X9_findWet_13 F t a0 a1 k s.1 s.2.1 s.2.2) F (0, 0, r11)
theorem m_X9_findWet (l : Launch) (F : Nat) (t : Nat) (ht : (aw_sh t).1 = 14) (a0 : Nat) (ha0 : (aw_sh a0).1 = 13) (a1 : Nat) (ha1 : (aw_sh a1).1 = 5) (μ : aw_M) : AM l yX9_findWet cX9_findWet 7 (some .int) 3 168 aw_gi [.ref t, .ref a0, .ref a1] μ (f_X9_findWet F t a0 a1 μ) := by
  refine aw_met [some (.ref t), some (.ref a0), some (.ref a1), none, none, none, none] (by decide) (fun _ => rfl) (fun _ => Nat.le_of_ble_eq_true rfl) ?_
  show AW l k_X9_findWet aw_gi 0 [some (.ref t), some (.ref a0), some (.ref a1), none, none, none, none] [] μ _
  unfold f_X9_findWet
  refine aw_iconst (n := 1) 0 dX9_findWet_0 rfl (by decide) ?_
  refine aw_istore_n (n := 2) [some (.ref t), some (.ref a0), some (.ref a1), some (.int 0), none, none, none] dX9_findWet_1 rfl rfl (Nat.le_of_ble_eq_true rfl) (Nat.le_of_ble_eq_true rfl) rfl ?_
  refine aw_aload_n (n := 3) dX9_findWet_2 rfl rfl ?_
  refine aw_getR (n := 6) (RX9, TX9, 13) 9 10 dX9_findWet_3 rfl ht (by decide) fd_RX9_24 ?_
  refine aw_iconst (n := 7) 0 dX9_findWet_6 rfl (by decide) ?_
  refine aw_callSv (n := 10) (as := [.ref (aw_rf t 10), .int 0]) (st := []) dX9_findWet_7 rfl rfl (m_J7_fill_53178 l F (aw_rf t 10) (aw_arr (sf_9_10 ht)) 0 μ) cw_RX9_47 ⟨Nat.le_of_ble_eq_true rfl, Nat.le_of_ble_eq_true rfl⟩ (fun _ => Nat.le_of_ble_eq_true rfl) (fun r11 => ?_)
  refine aw_iconst (n := 11) 0 dX9_findWet_10 rfl (by decide) ?_
  refine aw_istore (n := 13) [some (.ref t), some (.ref a0), some (.ref a1), some (.int 0), some (.int 0), none, none] dX9_findWet_11 rfl rfl (Nat.le_of_ble_eq_true rfl) (Nat.le_of_ble_eq_true rfl) rfl ?_
  exact aw_weak (c_X9_findWet_13 l F t ht a0 ha0 a1 ha1 F (0, 0, r11)) (aw_ss (aw_ss (aw_ss (aw_ss (aw_ss (aw_sn (aw_sn aw_s0)))))))
abbrev k_X9_layOn : aw_K := (RX9, cX9_layOn, 5, none, 1, 120)
def f_X9_layOn_84 (F : Nat) (t : Nat) (k2 : Int32 × Int32 × aw_M → Option (aw_M)) (x1 : Int32) (x3 : Int32) (μ : aw_M) : Option (aw_M) :=
  k2 (x1, (x3 + (-1)), μ)
theorem c_X9_layOn_84 (l : Launch) (F : Nat) (t : Nat) (ht : (aw_sh t).1 = 14) (k2 : Int32 × Int32 × aw_M → Option (aw_M)) (hk2 : ∀ s : Int32 × Int32 × aw_M, AW l k_X9_layOn aw_gv 2 [some (.ref t), some (.int s.1), none, some (.int s.2.1), none] [] s.2.2 (k2 s)) (x1 : Int32) (x3 : Int32) (μ : aw_M) : AW l k_X9_layOn aw_gv 84 [some (.ref t), some (.int x1), none, some (.int x3), none] [] μ (f_X9_layOn_84 F t k2 x1 x3 μ) := by
  unfold f_X9_layOn_84
  refine aw_iinc (n := 87) (x3 + (-1)) [some (.ref t), some (.int x1), none, some (.int (x3 + (-1))), none] dX9_layOn_84 rfl rfl (by rfl) rfl (Nat.le_of_ble_eq_true rfl) rfl ?_
  refine aw_goto 2 dX9_layOn_87 (by decide) ?_
  exact aw_weak (hk2 (x1, (x3 + (-1)), μ)) (aw_ss (aw_ss (aw_sn (aw_ss (aw_sn aw_s0)))))
def f_X9_layOn_2 (F : Nat) (t : Nat) (k2 : Int32 × Int32 × aw_M → Option (aw_M)) (x1 : Int32) (x3 : Int32) (μ : aw_M) : Option (aw_M) :=
  (if x3 ≤ 0 then
  some μ
  else
  aw_g (aw_in x1 100) (aw_let ((x3 &&& ((μ.1 (aw_rf t 10) x1.toNatClampNeg) ^^^ (-1)))) fun v4 =>
  (if v4 = x3 then
  f_X9_layOn_84 F t k2 x1 x3 μ
  else
  aw_g (aw_in v4 512) (aw_g (aw_in x3 512) ((if (μ.1 (aw_rf t 11) x3.toNatClampNeg) < ((μ.1 (aw_rf t 11) v4.toNatClampNeg) + 1) then
  f_X9_layOn_84 F t k2 x1 x3 μ
  else
  aw_g (aw_in v4 512) (aw_g (aw_in x3 512) (aw_let (aw_wI μ (aw_rf t 11) x3.toNatClampNeg ((μ.1 (aw_rf t 11) v4.toNatClampNeg) + 1)) fun μ5 =>
  aw_g (aw_in v4 512) (aw_g (aw_in v4 512) (aw_g (aw_in x3 512) (aw_let (aw_wL μ5 (aw_rf t 12) x3.toNatClampNeg (((μ5.2 (aw_rf t 12) v4.toNatClampNeg) ||| ((x1 : Int32).toInt64 <<< (((7 * (μ5.1 (aw_rf t 11) v4.toNatClampNeg)) : Int32).toInt64 &&& 63))))) fun μ6 =>
  f_X9_layOn_84 F t k2 x1 x3 μ6)))))))))))
theorem c_X9_layOn_2 (l : Launch) (F : Nat) (t : Nat) (ht : (aw_sh t).1 = 14) : ∀ (N : Nat) (s : Int32 × Int32 × aw_M), AW l k_X9_layOn aw_gv 2 [some (.ref t), some (.int s.1), none, some (.int s.2.1), none] [] s.2.2 (aw_loop (fun k s => f_X9_layOn_2 F t k s.1 s.2.1 s.2.2) N s) := by
  refine aw_loop_ok (f := fun k s => f_X9_layOn_2 F t k s.1 s.2.1 s.2.2) (Ls := fun s => [some (.ref t), some (.int s.1), none, some (.int s.2.1), none]) (ms := fun s => s.2.2) ?_
  intro k2 hk2 s
  obtain ⟨x1, x3, μ⟩ := s
  show AW l k_X9_layOn aw_gv 2 [some (.ref t), some (.int x1), none, some (.int x3), none] [] μ (f_X9_layOn_2 F t k2 x1 x3 μ)
  unfold f_X9_layOn_2
  refine aw_iload_n (n := 3) dX9_layOn_2 rfl rfl ?_
  refine aw_if_le (n := 6) 90 dX9_layOn_3 (by decide) rfl ?_ ?_
  · exact aw_vreturn dX9_layOn_90 rfl rfl
  · refine aw_iload_n (n := 7) dX9_layOn_6 rfl rfl ?_
    refine aw_aload_n (n := 8) dX9_layOn_7 rfl rfl ?_
    refine aw_getR (n := 11) (RX9, TX9, 13) 9 10 dX9_layOn_8 rfl ht (by decide) fd_RX9_24 ?_
    refine aw_iload_n (n := 12) dX9_layOn_11 rfl rfl ?_
    refine aw_iaload (n := 13) 100 dX9_layOn_12 rfl (sf_9_10 ht) ?_
    refine aw_iconst (n := 14) (-1) dX9_layOn_13 rfl (by decide) ?_
    refine aw_ixor (n := 15) dX9_layOn_14 rfl ?_
    refine aw_iand (n := 16) dX9_layOn_15 rfl ?_
    refine aw_nmI (fun v4 => ?_)
    refine aw_istore (n := 18) [some (.ref t), some (.int x1), none, some (.int x3), some (.int v4)] dX9_layOn_16 rfl rfl (Nat.le_of_ble_eq_true rfl) (Nat.le_of_ble_eq_true rfl) rfl ?_
    refine aw_iload (n := 20) dX9_layOn_18 rfl rfl ?_
    refine aw_iload_n (n := 21) dX9_layOn_20 rfl rfl ?_
    refine aw_icmp_eq (n := 24) 84 dX9_layOn_21 (by decide) rfl ?_ ?_
    · exact aw_weak (c_X9_layOn_84 l F t ht k2 hk2 x1 x3 μ) (aw_ss (aw_ss (aw_sn (aw_ss (aw_sn aw_s0)))))
    · refine aw_aload_n (n := 25) dX9_layOn_24 rfl rfl ?_
      refine aw_getR (n := 28) (RX9, TX9, 13) 9 11 dX9_layOn_25 rfl ht (by decide) fd_RX9_27 ?_
      refine aw_iload (n := 30) dX9_layOn_28 rfl rfl ?_
      refine aw_iaload (n := 31) 512 dX9_layOn_30 rfl (sf_9_11 ht) ?_
      refine aw_iconst (n := 32) 1 dX9_layOn_31 rfl (by decide) ?_
      refine aw_iadd (n := 33) dX9_layOn_32 rfl ?_
      refine aw_aload_n (n := 34) dX9_layOn_33 rfl rfl ?_
      refine aw_getR (n := 37) (RX9, TX9, 13) 9 11 dX9_layOn_34 rfl ht (by decide) fd_RX9_27 ?_
      refine aw_iload_n (n := 38) dX9_layOn_37 rfl rfl ?_
      refine aw_iaload (n := 39) 512 dX9_layOn_38 rfl (sf_9_11 ht) ?_
      refine aw_icmp_gt (n := 42) 84 dX9_layOn_39 (by decide) rfl ?_ ?_
      · exact aw_weak (c_X9_layOn_84 l F t ht k2 hk2 x1 x3 μ) (aw_ss (aw_ss (aw_sn (aw_ss (aw_sn aw_s0)))))
      · refine aw_aload_n (n := 43) dX9_layOn_42 rfl rfl ?_
        refine aw_getR (n := 46) (RX9, TX9, 13) 9 11 dX9_layOn_43 rfl ht (by decide) fd_RX9_27 ?_
        refine aw_iload_n (n := 47) dX9_layOn_46 rfl rfl ?_
        refine aw_aload_n (n := 48) dX9_layOn_47 rfl rfl ?_
        refine aw_getR (n := 51) (RX9, TX9, 13) 9 11 dX9_layOn_48 rfl ht (by decide) fd_RX9_27 ?_
        refine aw_iload (n := 53) dX9_layOn_51 rfl rfl ?_
        refine aw_iaload (n := 54) 512 dX9_layOn_53 rfl (sf_9_11 ht) ?_
        refine aw_iconst (n := 55) 1 dX9_layOn_54 rfl (by decide) ?_
        refine aw_iadd (n := 56) dX9_layOn_55 rfl ?_
        refine aw_iastore (n := 57) 512 dX9_layOn_56 rfl (sf_9_11 ht) (fun μ5 => ?_)
        refine aw_aload_n (n := 58) dX9_layOn_57 rfl rfl ?_
        refine aw_getR (n := 61) (RX9, TX9, 13) 9 12 dX9_layOn_58 rfl ht (by decide) fd_RX9_30 ?_
        refine aw_iload_n (n := 62) dX9_layOn_61 rfl rfl ?_
        refine aw_aload_n (n := 63) dX9_layOn_62 rfl rfl ?_
        refine aw_getR (n := 66) (RX9, TX9, 13) 9 12 dX9_layOn_63 rfl ht (by decide) fd_RX9_30 ?_
        refine aw_iload (n := 68) dX9_layOn_66 rfl rfl ?_
        refine aw_laload (n := 69) 512 dX9_layOn_68 rfl (sf_9_12 ht) ?_
        refine aw_iload_n (n := 70) dX9_layOn_69 rfl rfl ?_
        refine aw_i2l (n := 71) dX9_layOn_70 rfl ?_
        refine aw_bipush (n := 73) 7 dX9_layOn_71 rfl (by decide) ?_
        refine aw_aload_n (n := 74) dX9_layOn_73 rfl rfl ?_
        refine aw_getR (n := 77) (RX9, TX9, 13) 9 11 dX9_layOn_74 rfl ht (by decide) fd_RX9_27 ?_
        refine aw_iload (n := 79) dX9_layOn_77 rfl rfl ?_
        refine aw_iaload (n := 80) 512 dX9_layOn_79 rfl (sf_9_11 ht) ?_
        refine aw_imul (n := 81) dX9_layOn_80 rfl ?_
        refine aw_lshl (n := 82) dX9_layOn_81 rfl ?_
        refine aw_lor (n := 83) dX9_layOn_82 rfl ?_
        refine aw_lastore (n := 84) 512 dX9_layOn_83 rfl (sf_9_12 ht) (fun μ6 => ?_)
        exact aw_weak (c_X9_layOn_84 l F t ht k2 hk2 x1 x3 μ6) (aw_ss (aw_ss (aw_sn (aw_ss (aw_sn aw_s0)))))
def f_X9_layOn (F : Nat) (t : Nat) (a0 : Int32) (a1 : Int32) (μ : aw_M) : Option (aw_M) :=
  aw_loop (fun k s => f_X9_layOn_2 F t k s.1 s.2.1 s.2.2) F (a0, a1, μ)
theorem m_X9_layOn (l : Launch) (F : Nat) (t : Nat) (ht : (aw_sh t).1 = 14) (a0 : Int32) (a1 : Int32) (μ : aw_M) : AM l yX9_layOn cX9_layOn 5 none 1 120 aw_gv [.ref t, .int a0, .int a1] μ (f_X9_layOn F t a0 a1 μ) := by
  refine aw_met [some (.ref t), some (.int a0), some (.int a1), none, none] (by decide) (fun _ => rfl) (fun _ => Nat.le_of_ble_eq_true rfl) ?_
  show AW l k_X9_layOn aw_gv 0 [some (.ref t), some (.int a0), some (.int a1), none, none] [] μ _
  unfold f_X9_layOn
  refine aw_iload_n (n := 1) dX9_layOn_0 rfl rfl ?_
  refine aw_istore_n (n := 2) [some (.ref t), some (.int a0), some (.int a1), some (.int a1), none] dX9_layOn_1 rfl rfl (Nat.le_of_ble_eq_true rfl) (Nat.le_of_ble_eq_true rfl) rfl ?_
  exact aw_weak (c_X9_layOn_2 l F t ht F (a0, a1, μ)) (aw_ss (aw_ss (aw_sn (aw_ss (aw_sn aw_s0)))))
abbrev k_X9_findSand : aw_K := (RX9, cX9_findSand, 5, (some .int), 4, 194)
def f_X9_findSand_62 (F : Nat) (t a0 a1 : Nat) (x3 : Int32) (μ : aw_M) : Option (Int32 × aw_M) :=
  aw_g (aw_in x3 512) (aw_let (aw_wI μ t 8 (μ.1 (aw_rf t 11) x3.toNatClampNeg)) fun μ12 =>
  aw_g (aw_in x3 512) (aw_let (aw_wL μ12 t 9 ((μ12.2 (aw_rf t 12) x3.toNatClampNeg))) fun μ13 =>
  some ((μ13.1 t 8), μ13)))
theorem c_X9_findSand_62 (l : Launch) (F : Nat) (t : Nat) (ht : (aw_sh t).1 = 14) (a0 : Nat) (ha0 : (aw_sh a0).1 = 13) (a1 : Nat) (ha1 : (aw_sh a1).1 = 5) (x3 : Int32) (μ : aw_M) : AW l k_X9_findSand aw_gi 62 [some (.ref t), none, none, some (.int x3), none] [] μ (f_X9_findSand_62 F t a0 a1 x3 μ) := by
  unfold f_X9_findSand_62
  refine aw_aload_n (n := 63) dX9_findSand_62 rfl rfl ?_
  refine aw_aload_n (n := 64) dX9_findSand_63 rfl rfl ?_
  refine aw_getR (n := 67) (RX9, TX9, 13) 9 11 dX9_findSand_64 rfl ht (by decide) fd_RX9_27 ?_
  refine aw_iload_n (n := 68) dX9_findSand_67 rfl rfl ?_
  refine aw_iaload (n := 69) 512 dX9_findSand_68 rfl (sf_9_11 ht) ?_
  refine aw_putI (n := 72) (RX9, TX9, 13) 9 8 dX9_findSand_69 rfl ht (by decide) fp_RX9_93 (fun μ12 => ?_)
  refine aw_aload_n (n := 73) dX9_findSand_72 rfl rfl ?_
  refine aw_aload_n (n := 74) dX9_findSand_73 rfl rfl ?_
  refine aw_getR (n := 77) (RX9, TX9, 13) 9 12 dX9_findSand_74 rfl ht (by decide) fd_RX9_30 ?_
  refine aw_iload_n (n := 78) dX9_findSand_77 rfl rfl ?_
  refine aw_laload (n := 79) 512 dX9_findSand_78 rfl (sf_9_12 ht) ?_
  refine aw_putL (n := 82) (RX9, TX9, 13) 9 9 dX9_findSand_79 rfl ht (by decide) fp_RX9_96 (fun μ13 => ?_)
  refine aw_aload_n (n := 83) dX9_findSand_82 rfl rfl ?_
  refine aw_getI (n := 86) (RX9, TX9, 13) 9 8 dX9_findSand_83 rfl ht (by decide) fd_RX9_93 ?_
  exact aw_ireturn dX9_findSand_86 rfl rfl
def f_X9_findSand_56 (F : Nat) (t a0 a1 : Nat) (k34 : Int32 × Int32 × aw_M → Option (Int32 × aw_M)) (x3 : Int32) (x4 : Int32) (μ : aw_M) : Option (Int32 × aw_M) :=
  k34 (x3, (x4 + (-1)), μ)
theorem c_X9_findSand_56 (l : Launch) (F : Nat) (t : Nat) (ht : (aw_sh t).1 = 14) (a0 : Nat) (ha0 : (aw_sh a0).1 = 13) (a1 : Nat) (ha1 : (aw_sh a1).1 = 5) (k34 : Int32 × Int32 × aw_M → Option (Int32 × aw_M)) (hk34 : ∀ s : Int32 × Int32 × aw_M, AW l k_X9_findSand aw_gi 34 [some (.ref t), none, none, some (.int s.1), some (.int s.2.1)] [] s.2.2 (k34 s)) (x3 : Int32) (x4 : Int32) (μ : aw_M) : AW l k_X9_findSand aw_gi 56 [some (.ref t), none, none, some (.int x3), some (.int x4)] [] μ (f_X9_findSand_56 F t a0 a1 k34 x3 x4 μ) := by
  unfold f_X9_findSand_56
  refine aw_iinc (n := 59) (x4 + (-1)) [some (.ref t), none, none, some (.int x3), some (.int (x4 + (-1)))] dX9_findSand_56 rfl rfl (by rfl) rfl (Nat.le_of_ble_eq_true rfl) rfl ?_
  refine aw_goto 34 dX9_findSand_59 (by decide) ?_
  exact aw_weak (hk34 (x3, (x4 + (-1)), μ)) (aw_ss (aw_sn (aw_sn (aw_ss (aw_ss aw_s0)))))
def f_X9_findSand_34 (F : Nat) (t a0 a1 : Nat) (k34 : Int32 × Int32 × aw_M → Option (Int32 × aw_M)) (x3 : Int32) (x4 : Int32) (μ : aw_M) : Option (Int32 × aw_M) :=
  (if x4 < 0 then
  f_X9_findSand_62 F t a0 a1 x3 μ
  else
  aw_g (aw_in x4 100) ((if (μ.1 (aw_rf t 10) x4.toNatClampNeg) = 0 then
  f_X9_findSand_56 F t a0 a1 k34 x3 x4 μ
  else
  (f_X9_layOn F t x4 x3 μ).bind fun r14 =>
  f_X9_findSand_56 F t a0 a1 k34 x3 x4 r14)))
theorem c_X9_findSand_34 (l : Launch) (F : Nat) (t : Nat) (ht : (aw_sh t).1 = 14) (a0 : Nat) (ha0 : (aw_sh a0).1 = 13) (a1 : Nat) (ha1 : (aw_sh a1).1 = 5) : ∀ (N : Nat) (s : Int32 × Int32 × aw_M), AW l k_X9_findSand aw_gi 34 [some (.ref t), none, none, some (.int s.1), some (.int s.2.1)] [] s.2.2 (aw_loop (fun k s => f_X9_findSand_34 F t a0 a1 k s.1 s.2.1 s.2.2) N s) := by
  refine aw_loop_ok (f := fun k s => f_X9_findSand_34 F t a0 a1 k s.1 s.2.1 s.2.2) (Ls := fun s => [some (.ref t), none, none, some (.int s.1), some (.int s.2.1)]) (ms := fun s => s.2.2) ?_
  intro k34 hk34 s
  obtain ⟨x3, x4, μ⟩ := s
  show AW l k_X9_findSand aw_gi 34 [some (.ref t), none, none, some (.int x3), some (.int x4)] [] μ (f_X9_findSand_34 F t a0 a1 k34 x3 x4 μ)
  unfold f_X9_findSand_34
  refine aw_iload (n := 36) dX9_findSand_34 rfl rfl ?_
  refine aw_if_lt (n := 39) 62 dX9_findSand_36 (by decide) rfl ?_ ?_
  · exact aw_weak (c_X9_findSand_62 l F t ht a0 ha0 a1 ha1 x3 μ) (aw_ss (aw_sn (aw_sn (aw_ss (aw_sn aw_s0)))))
  · refine aw_aload_n (n := 40) dX9_findSand_39 rfl rfl ?_
    refine aw_getR (n := 43) (RX9, TX9, 13) 9 10 dX9_findSand_40 rfl ht (by decide) fd_RX9_24 ?_
    refine aw_iload (n := 45) dX9_findSand_43 rfl rfl ?_
    refine aw_iaload (n := 46) 100 dX9_findSand_45 rfl (sf_9_10 ht) ?_
    refine aw_if_eq (n := 49) 56 dX9_findSand_46 (by decide) rfl ?_ ?_
    · exact aw_weak (c_X9_findSand_56 l F t ht a0 ha0 a1 ha1 k34 hk34 x3 x4 μ) (aw_ss (aw_sn (aw_sn (aw_ss (aw_ss aw_s0)))))
    · refine aw_aload_n (n := 50) dX9_findSand_49 rfl rfl ?_
      refine aw_iload (n := 52) dX9_findSand_50 rfl rfl ?_
      refine aw_iload_n (n := 53) dX9_findSand_52 rfl rfl ?_
      refine aw_callVv (n := 56) (as := [.int x4, .int x3]) (st := []) (RX9, TX9, 13) 9 dX9_findSand_53 rfl rfl (m_X9_layOn l F t ht x4 x3 μ) ht (by decide) rfl rfl cw_RX9_90 ⟨Nat.le_of_ble_eq_true rfl, Nat.le_of_ble_eq_true rfl⟩ (fun _ => Nat.le_of_ble_eq_true rfl) (fun r14 => ?_)
      exact aw_weak (c_X9_findSand_56 l F t ht a0 ha0 a1 ha1 k34 hk34 x3 x4 r14) (aw_ss (aw_sn (aw_sn (aw_ss (aw_ss aw_s0)))))
def f_X9_findSand (F : Nat) (t a0 a1 : Nat) (μ : aw_M) : Option (Int32 × aw_M) :=
  (f_X9_findWet F t a0 a1 μ).bind fun r8 =>
  (f_J7_fill_53178 F (aw_rf t 11) 10 r8.2).bind fun r9 =>
  aw_g (aw_in 0 512) (aw_let (aw_wI r9 (aw_rf t 11) (0 : Int32).toNatClampNeg 0) fun μ10 =>
  aw_g (aw_in 0 512) (aw_let (aw_wL μ10 (aw_rf t 12) (0 : Int32).toNatClampNeg 0) fun μ11 =>
  aw_loop (fun k s => f_X9_findSand_34 F t a0 a1 k s.1 s.2.1 s.2.2) F (r8.1, 99, μ11)))
theorem m_X9_findSand (l : Launch) (F : Nat) (t : Nat) (ht : (aw_sh t).1 = 14) (a0 : Nat) (ha0 : (aw_sh a0).1 = 13) (a1 : Nat) (ha1 : (aw_sh a1).1 = 5) (μ : aw_M) : AM l yX9_findSand cX9_findSand 5 (some .int) 4 194 aw_gi [.ref t, .ref a0, .ref a1] μ (f_X9_findSand F t a0 a1 μ) := by
  refine aw_met [some (.ref t), some (.ref a0), some (.ref a1), none, none] (by decide) (fun _ => rfl) (fun _ => Nat.le_of_ble_eq_true rfl) ?_
  show AW l k_X9_findSand aw_gi 0 [some (.ref t), some (.ref a0), some (.ref a1), none, none] [] μ _
  unfold f_X9_findSand
  refine aw_aload_n (n := 1) dX9_findSand_0 rfl rfl ?_
  refine aw_aload_n (n := 2) dX9_findSand_1 rfl rfl ?_
  refine aw_aload_n (n := 3) dX9_findSand_2 rfl rfl ?_
  refine aw_callVi (n := 6) (as := [.ref a0, .ref a1]) (st := []) (RX9, TX9, 13) 9 dX9_findSand_3 rfl rfl (m_X9_findWet l F t ht a0 ha0 a1 ha1 μ) ht (by decide) rfl rfl cw_RX9_86 ⟨Nat.le_of_ble_eq_true rfl, Nat.le_of_ble_eq_true rfl⟩ (fun _ => Nat.le_of_ble_eq_true rfl) (fun r8 => ?_)
  refine aw_istore_n (n := 7) [some (.ref t), some (.ref a0), some (.ref a1), some (.int r8.1), none] dX9_findSand_6 rfl rfl (Nat.le_of_ble_eq_true rfl) (Nat.le_of_ble_eq_true rfl) rfl ?_
  refine aw_aload_n (n := 8) dX9_findSand_7 rfl rfl ?_
  refine aw_getR (n := 11) (RX9, TX9, 13) 9 11 dX9_findSand_8 rfl ht (by decide) fd_RX9_27 ?_
  refine aw_bipush (n := 13) 10 dX9_findSand_11 rfl (by decide) ?_
  refine aw_callSv (n := 16) (as := [.ref (aw_rf t 11), .int 10]) (st := []) dX9_findSand_13 rfl rfl (m_J7_fill_53178 l F (aw_rf t 11) (aw_arr (sf_9_11 ht)) 10 r8.2) cw_RX9_47 ⟨Nat.le_of_ble_eq_true rfl, Nat.le_of_ble_eq_true rfl⟩ (fun _ => Nat.le_of_ble_eq_true rfl) (fun r9 => ?_)
  refine aw_aload_n (n := 17) dX9_findSand_16 rfl rfl ?_
  refine aw_getR (n := 20) (RX9, TX9, 13) 9 11 dX9_findSand_17 rfl ht (by decide) fd_RX9_27 ?_
  refine aw_iconst (n := 21) 0 dX9_findSand_20 rfl (by decide) ?_
  refine aw_iconst (n := 22) 0 dX9_findSand_21 rfl (by decide) ?_
  refine aw_iastore (n := 23) 512 dX9_findSand_22 rfl (sf_9_11 ht) (fun μ10 => ?_)
  refine aw_aload_n (n := 24) dX9_findSand_23 rfl rfl ?_
  refine aw_getR (n := 27) (RX9, TX9, 13) 9 12 dX9_findSand_24 rfl ht (by decide) fd_RX9_30 ?_
  refine aw_iconst (n := 28) 0 dX9_findSand_27 rfl (by decide) ?_
  refine aw_lconst (n := 29) 0 dX9_findSand_28 rfl rfl ?_
  refine aw_lastore (n := 30) 512 dX9_findSand_29 rfl (sf_9_12 ht) (fun μ11 => ?_)
  refine aw_bipush (n := 32) 99 dX9_findSand_30 rfl (by decide) ?_
  refine aw_istore (n := 34) [some (.ref t), some (.ref a0), some (.ref a1), some (.int r8.1), some (.int 99)] dX9_findSand_32 rfl rfl (Nat.le_of_ble_eq_true rfl) (Nat.le_of_ble_eq_true rfl) rfl ?_
  exact aw_weak (c_X9_findSand_34 l F t ht a0 ha0 a1 ha1 F (r8.1, 99, μ11)) (aw_ss (aw_sn (aw_sn (aw_ss (aw_ss aw_s0)))))
abbrev k_X9_sandAt : aw_K := (RX9, cX9_sandAt, 2, (some .int), 1, 120)
def f_X9_sandAt (F : Nat) (t : Nat) (a0 : Int32) (μ : aw_M) : Option (Int32 × aw_M) :=
  (if a0 < 0 then
  some ((-1), μ)
  else
  (if a0 < (μ.1 t 8) then
  some ((((((μ.2 t 9) >>> (((7 * (((μ.1 t 8) - 1) - a0)) : Int32).toInt64 &&& 63)) : Int64).toInt32) &&& 127), μ)
  else
  some ((-1), μ)))
theorem m_X9_sandAt (l : Launch) (F : Nat) (t : Nat) (ht : (aw_sh t).1 = 14) (a0 : Int32) (μ : aw_M) : AM l yX9_sandAt cX9_sandAt 2 (some .int) 1 120 aw_gi [.ref t, .int a0] μ (f_X9_sandAt F t a0 μ) := by
  refine aw_met [some (.ref t), some (.int a0)] (by decide) (fun _ => rfl) (fun _ => Nat.le_of_ble_eq_true rfl) ?_
  show AW l k_X9_sandAt aw_gi 0 [some (.ref t), some (.int a0)] [] μ _
  unfold f_X9_sandAt
  refine aw_iload_n (n := 1) dX9_sandAt_0 rfl rfl ?_
  refine aw_if_lt (n := 4) 12 dX9_sandAt_1 (by decide) rfl ?_ ?_
  · refine aw_iconst (n := 13) (-1) dX9_sandAt_12 rfl (by decide) ?_
    exact aw_ireturn dX9_sandAt_13 rfl rfl
  · refine aw_iload_n (n := 5) dX9_sandAt_4 rfl rfl ?_
    refine aw_aload_n (n := 6) dX9_sandAt_5 rfl rfl ?_
    refine aw_getI (n := 9) (RX9, TX9, 13) 9 8 dX9_sandAt_6 rfl ht (by decide) fd_RX9_93 ?_
    refine aw_icmp_lt (n := 12) 14 dX9_sandAt_9 (by decide) rfl ?_ ?_
    · refine aw_aload_n (n := 15) dX9_sandAt_14 rfl rfl ?_
      refine aw_getL (n := 18) (RX9, TX9, 13) 9 9 dX9_sandAt_15 rfl ht (by decide) fd_RX9_96 ?_
      refine aw_bipush (n := 20) 7 dX9_sandAt_18 rfl (by decide) ?_
      refine aw_aload_n (n := 21) dX9_sandAt_20 rfl rfl ?_
      refine aw_getI (n := 24) (RX9, TX9, 13) 9 8 dX9_sandAt_21 rfl ht (by decide) fd_RX9_93 ?_
      refine aw_iconst (n := 25) 1 dX9_sandAt_24 rfl (by decide) ?_
      refine aw_isub (n := 26) dX9_sandAt_25 rfl ?_
      refine aw_iload_n (n := 27) dX9_sandAt_26 rfl rfl ?_
      refine aw_isub (n := 28) dX9_sandAt_27 rfl ?_
      refine aw_imul (n := 29) dX9_sandAt_28 rfl ?_
      refine aw_lshr (n := 30) dX9_sandAt_29 rfl ?_
      refine aw_l2i (n := 31) dX9_sandAt_30 rfl ?_
      refine aw_bipush (n := 33) 127 dX9_sandAt_31 rfl (by decide) ?_
      refine aw_iand (n := 34) dX9_sandAt_33 rfl ?_
      exact aw_ireturn dX9_sandAt_34 rfl rfl
    · refine aw_iconst (n := 13) (-1) dX9_sandAt_12 rfl (by decide) ?_
      exact aw_ireturn dX9_sandAt_13 rfl rfl
