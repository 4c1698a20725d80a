abbrev k_X0_takeSand : aw_K := (RX0, cX0_takeSand, 2, none, 2, 141)
def f_X0_takeSand (F : Nat) (t a0 : Nat) (μ : aw_M) : Option (aw_M) :=
  (f_X10_copyRow F (aw_rf a0 17) (aw_rf t 17) μ).bind fun r1 =>
  some r1
theorem m_X0_takeSand (l : Launch) (F : Nat) (t : Nat) (ht : (aw_sh t).1 = 5) (a0 : Nat) (ha0 : (aw_sh a0).1 = 5) (μ : aw_M) : AM l yX0_takeSand cX0_takeSand 2 none 2 141 aw_gv [.ref t, .ref a0] μ (f_X0_takeSand F t a0 μ) := by
  refine aw_met [some (.ref t), some (.ref a0)] (by decide) (fun _ => rfl) (fun _ => Nat.le_of_ble_eq_true rfl) ?_
  show AW l k_X0_takeSand aw_gv 0 [some (.ref t), some (.ref a0)] [] μ _
  unfold f_X0_takeSand
  refine aw_aload_n (n := 1) dX0_takeSand_0 rfl rfl ?_
  refine aw_getR (n := 4) (RX0, TX0, 20) 0 17 dX0_takeSand_1 rfl ha0 (by decide) fd_RX0_39 ?_
  refine aw_aload_n (n := 5) dX0_takeSand_4 rfl rfl ?_
  refine aw_getR (n := 8) (RX0, TX0, 20) 0 17 dX0_takeSand_5 rfl ht (by decide) fd_RX0_39 ?_
  refine aw_callNv (n := 11) (as := [.ref (aw_rf a0 17), .ref (aw_rf t 17)]) (st := []) RX10 dX0_takeSand_8 rfl rfl (m_X10_copyRow l F (aw_rf a0 17) (aw_arr (sf_0_17 ha0)) (aw_rf t 17) (aw_arr (sf_0_17 ht)) μ) cw_RX0_76 ⟨Nat.le_of_ble_eq_true rfl, Nat.le_of_ble_eq_true rfl⟩ (fun _ => Nat.le_of_ble_eq_true rfl) (fun r1 => ?_)
  exact aw_vreturn dX0_takeSand_11 rfl rfl
abbrev k_X0_takeFrom : aw_K := (RX0, cX0_takeFrom, 2, none, 3, 162)
def f_X0_takeFrom (F : Nat) (t a0 : Nat) (μ : aw_M) : Option (aw_M) :=
  aw_let (aw_wI μ t 3 (μ.1 a0 3)) fun μ1 =>
  aw_let (aw_wI μ1 t 4 (μ1.1 a0 4)) fun μ2 =>
  aw_let (aw_wI μ2 t 5 (μ2.1 a0 5)) fun μ3 =>
  aw_let (aw_wI μ3 t 6 (μ3.1 a0 6)) fun μ4 =>
  aw_let (aw_wI μ4 t 7 (μ4.1 a0 7)) fun μ5 =>
  aw_let (aw_wI μ5 t 18 (μ5.1 a0 18)) fun μ6 =>
  (f_X10_copyRow F (aw_rf a0 8) (aw_rf t 8) μ6).bind fun r7 =>
  (f_X10_copyRow F (aw_rf a0 9) (aw_rf t 9) r7).bind fun r8 =>
  (f_X10_copyRow F (aw_rf a0 10) (aw_rf t 10) r8).bind fun r9 =>
  (f_X10_copyRow F (aw_rf a0 11) (aw_rf t 11) r9).bind fun r10 =>
  (f_X10_copyRow F (aw_rf a0 12) (aw_rf t 12) r10).bind fun r11 =>
  (f_X10_copyRow F (aw_rf a0 13) (aw_rf t 13) r11).bind fun r12 =>
  (f_X10_copyRow F (aw_rf a0 14) (aw_rf t 14) r12).bind fun r13 =>
  (f_X10_copyRow F (aw_rf a0 15) (aw_rf t 15) r13).bind fun r14 =>
  (f_X10_copyRow F (aw_rf a0 16) (aw_rf t 16) r14).bind fun r15 =>
  (f_X10_copyRow F (aw_rf a0 19) (aw_rf t 19) r15).bind fun r16 =>
  (f_X0_takeSand F t a0 r16).bind fun r17 =>
  some r17
theorem m_X0_takeFrom (l : Launch) (F : Nat) (t : Nat) (ht : (aw_sh t).1 = 5) (a0 : Nat) (ha0 : (aw_sh a0).1 = 5) (μ : aw_M) : AM l yX0_takeFrom cX0_takeFrom 2 none 3 162 aw_gv [.ref t, .ref a0] μ (f_X0_takeFrom F t a0 μ) := by
  refine aw_met [some (.ref t), some (.ref a0)] (by decide) (fun _ => rfl) (fun _ => Nat.le_of_ble_eq_true rfl) ?_
  show AW l k_X0_takeFrom aw_gv 0 [some (.ref t), some (.ref a0)] [] μ _
  unfold f_X0_takeFrom
  refine aw_aload_n (n := 1) dX0_takeFrom_0 rfl rfl ?_
  refine aw_aload_n (n := 2) dX0_takeFrom_1 rfl rfl ?_
  refine aw_getI (n := 5) (RX0, TX0, 20) 0 3 dX0_takeFrom_2 rfl ha0 (by decide) fd_RX0_57 ?_
  refine aw_putI (n := 8) (RX0, TX0, 20) 0 3 dX0_takeFrom_5 rfl ht (by decide) fp_RX0_57 (fun μ1 => ?_)
  refine aw_aload_n (n := 9) dX0_takeFrom_8 rfl rfl ?_
  refine aw_aload_n (n := 10) dX0_takeFrom_9 rfl rfl ?_
  refine aw_getI (n := 13) (RX0, TX0, 20) 0 4 dX0_takeFrom_10 rfl ha0 (by decide) fd_RX0_61 ?_
  refine aw_putI (n := 16) (RX0, TX0, 20) 0 4 dX0_takeFrom_13 rfl ht (by decide) fp_RX0_61 (fun μ2 => ?_)
  refine aw_aload_n (n := 17) dX0_takeFrom_16 rfl rfl ?_
  refine aw_aload_n (n := 18) dX0_takeFrom_17 rfl rfl ?_
  refine aw_getI (n := 21) (RX0, TX0, 20) 0 5 dX0_takeFrom_18 rfl ha0 (by decide) fd_RX0_64 ?_
  refine aw_putI (n := 24) (RX0, TX0, 20) 0 5 dX0_takeFrom_21 rfl ht (by decide) fp_RX0_64 (fun μ3 => ?_)
  refine aw_aload_n (n := 25) dX0_takeFrom_24 rfl rfl ?_
  refine aw_aload_n (n := 26) dX0_takeFrom_25 rfl rfl ?_
  refine aw_getI (n := 29) (RX0, TX0, 20) 0 6 dX0_takeFrom_26 rfl ha0 (by decide) fd_RX0_67 ?_
  refine aw_putI (n := 32) (RX0, TX0, 20) 0 6 dX0_takeFrom_29 rfl ht (by decide) fp_RX0_67 (fun μ4 => ?_)
  refine aw_aload_n (n := 33) dX0_takeFrom_32 rfl rfl ?_
  refine aw_aload_n (n := 34) dX0_takeFrom_33 rfl rfl ?_
  refine aw_getI (n := 37) (RX0, TX0, 20) 0 7 dX0_takeFrom_34 rfl ha0 (by decide) fd_RX0_70 ?_
  refine aw_putI (n := 40) (RX0, TX0, 20) 0 7 dX0_takeFrom_37 rfl ht (by decide) fp_RX0_70 (fun μ5 => ?_)
  refine aw_aload_n (n := 41) dX0_takeFrom_40 rfl rfl ?_
  refine aw_aload_n (n := 42) dX0_takeFrom_41 rfl rfl ?_
  refine aw_getI (n := 45) (RX0, TX0, 20) 0 18 dX0_takeFrom_42 rfl ha0 (by decide) fd_RX0_73 ?_
  refine aw_putI (n := 48) (RX0, TX0, 20) 0 18 dX0_takeFrom_45 rfl ht (by decide) fp_RX0_73 (fun μ6 => ?_)
  refine aw_aload_n (n := 49) dX0_takeFrom_48 rfl rfl ?_
  refine aw_getR (n := 52) (RX0, TX0, 20) 0 8 dX0_takeFrom_49 rfl ha0 (by decide) fd_RX0_9 ?_
  refine aw_aload_n (n := 53) dX0_takeFrom_52 rfl rfl ?_
  refine aw_getR (n := 56) (RX0, TX0, 20) 0 8 dX0_takeFrom_53 rfl ht (by decide) fd_RX0_9 ?_
  refine aw_callNv (n := 59) (as := [.ref (aw_rf a0 8), .ref (aw_rf t 8)]) (st := []) RX10 dX0_takeFrom_56 rfl rfl (m_X10_copyRow l F (aw_rf a0 8) (aw_arr (sf_0_8 ha0)) (aw_rf t 8) (aw_arr (sf_0_8 ht)) μ6) cw_RX0_76 ⟨Nat.le_of_ble_eq_true rfl, Nat.le_of_ble_eq_true rfl⟩ (fun _ => Nat.le_of_ble_eq_true rfl) (fun r7 => ?_)
  refine aw_aload_n (n := 60) dX0_takeFrom_59 rfl rfl ?_
  refine aw_getR (n := 63) (RX0, TX0, 20) 0 9 dX0_takeFrom_60 rfl ha0 (by decide) fd_RX0_15 ?_
  refine aw_aload_n (n := 64) dX0_takeFrom_63 rfl rfl ?_
  refine aw_getR (n := 67) (RX0, TX0, 20) 0 9 dX0_takeFrom_64 rfl ht (by decide) fd_RX0_15 ?_
  refine aw_callNv (n := 70) (as := [.ref (aw_rf a0 9), .ref (aw_rf t 9)]) (st := []) RX10 dX0_takeFrom_67 rfl rfl (m_X10_copyRow l F (aw_rf a0 9) (aw_arr (sf_0_9 ha0)) (aw_rf t 9) (aw_arr (sf_0_9 ht)) r7) cw_RX0_76 ⟨Nat.le_of_ble_eq_true rfl, Nat.le_of_ble_eq_true rfl⟩ (fun _ => Nat.le_of_ble_eq_true rfl) (fun r8 => ?_)
  refine aw_aload_n (n := 71) dX0_takeFrom_70 rfl rfl ?_
  refine aw_getR (n := 74) (RX0, TX0, 20) 0 10 dX0_takeFrom_71 rfl ha0 (by decide) fd_RX0_18 ?_
  refine aw_aload_n (n := 75) dX0_takeFrom_74 rfl rfl ?_
  refine aw_getR (n := 78) (RX0, TX0, 20) 0 10 dX0_takeFrom_75 rfl ht (by decide) fd_RX0_18 ?_
  refine aw_callNv (n := 81) (as := [.ref (aw_rf a0 10), .ref (aw_rf t 10)]) (st := []) RX10 dX0_takeFrom_78 rfl rfl (m_X10_copyRow l F (aw_rf a0 10) (aw_arr (sf_0_10 ha0)) (aw_rf t 10) (aw_arr (sf_0_10 ht)) r8) cw_RX0_76 ⟨Nat.le_of_ble_eq_true rfl, Nat.le_of_ble_eq_true rfl⟩ (fun _ => Nat.le_of_ble_eq_true rfl) (fun r9 => ?_)
  refine aw_aload_n (n := 82) dX0_takeFrom_81 rfl rfl ?_
  refine aw_getR (n := 85) (RX0, TX0, 20) 0 11 dX0_takeFrom_82 rfl ha0 (by decide) fd_RX0_21 ?_
  refine aw_aload_n (n := 86) dX0_takeFrom_85 rfl rfl ?_
  refine aw_getR (n := 89) (RX0, TX0, 20) 0 11 dX0_takeFrom_86 rfl ht (by decide) fd_RX0_21 ?_
  refine aw_callNv (n := 92) (as := [.ref (aw_rf a0 11), .ref (aw_rf t 11)]) (st := []) RX10 dX0_takeFrom_89 rfl rfl (m_X10_copyRow l F (aw_rf a0 11) (aw_arr (sf_0_11 ha0)) (aw_rf t 11) (aw_arr (sf_0_11 ht)) r9) cw_RX0_76 ⟨Nat.le_of_ble_eq_true rfl, Nat.le_of_ble_eq_true rfl⟩ (fun _ => Nat.le_of_ble_eq_true rfl) (fun r10 => ?_)
  refine aw_aload_n (n := 93) dX0_takeFrom_92 rfl rfl ?_
  refine aw_getR (n := 96) (RX0, TX0, 20) 0 12 dX0_takeFrom_93 rfl ha0 (by decide) fd_RX0_24 ?_
  refine aw_aload_n (n := 97) dX0_takeFrom_96 rfl rfl ?_
  refine aw_getR (n := 100) (RX0, TX0, 20) 0 12 dX0_takeFrom_97 rfl ht (by decide) fd_RX0_24 ?_
  refine aw_callNv (n := 103) (as := [.ref (aw_rf a0 12), .ref (aw_rf t 12)]) (st := []) RX10 dX0_takeFrom_100 rfl rfl (m_X10_copyRow l F (aw_rf a0 12) (aw_arr (sf_0_12 ha0)) (aw_rf t 12) (aw_arr (sf_0_12 ht)) r10) cw_RX0_76 ⟨Nat.le_of_ble_eq_true rfl, Nat.le_of_ble_eq_true rfl⟩ (fun _ => Nat.le_of_ble_eq_true rfl) (fun r11 => ?_)
  refine aw_aload_n (n := 104) dX0_takeFrom_103 rfl rfl ?_
  refine aw_getR (n := 107) (RX0, TX0, 20) 0 13 dX0_takeFrom_104 rfl ha0 (by decide) fd_RX0_27 ?_
  refine aw_aload_n (n := 108) dX0_takeFrom_107 rfl rfl ?_
  refine aw_getR (n := 111) (RX0, TX0, 20) 0 13 dX0_takeFrom_108 rfl ht (by decide) fd_RX0_27 ?_
  refine aw_callNv (n := 114) (as := [.ref (aw_rf a0 13), .ref (aw_rf t 13)]) (st := []) RX10 dX0_takeFrom_111 rfl rfl (m_X10_copyRow l F (aw_rf a0 13) (aw_arr (sf_0_13 ha0)) (aw_rf t 13) (aw_arr (sf_0_13 ht)) r11) cw_RX0_76 ⟨Nat.le_of_ble_eq_true rfl, Nat.le_of_ble_eq_true rfl⟩ (fun _ => Nat.le_of_ble_eq_true rfl) (fun r12 => ?_)
  refine aw_aload_n (n := 115) dX0_takeFrom_114 rfl rfl ?_
  refine aw_getR (n := 118) (RX0, TX0, 20) 0 14 dX0_takeFrom_115 rfl ha0 (by decide) fd_RX0_30 ?_
  refine aw_aload_n (n := 119) dX0_takeFrom_118 rfl rfl ?_
  refine aw_getR (n := 122) (RX0, TX0, 20) 0 14 dX0_takeFrom_119 rfl ht (by decide) fd_RX0_30 ?_
  refine aw_callNv (n := 125) (as := [.ref (aw_rf a0 14), .ref (aw_rf t 14)]) (st := []) RX10 dX0_takeFrom_122 rfl rfl (m_X10_copyRow l F (aw_rf a0 14) (aw_arr (sf_0_14 ha0)) (aw_rf t 14) (aw_arr (sf_0_14 ht)) r12) cw_RX0_76 ⟨Nat.le_of_ble_eq_true rfl, Nat.le_of_ble_eq_true rfl⟩ (fun _ => Nat.le_of_ble_eq_true rfl) (fun r13 => ?_)
  refine aw_aload_n (n := 126) dX0_takeFrom_125 rfl rfl ?_
  refine aw_getR (n := 129) (RX0, TX0, 20) 0 15 dX0_takeFrom_126 rfl ha0 (by decide) fd_RX0_33 ?_
  refine aw_aload_n (n := 130) dX0_takeFrom_129 rfl rfl ?_
  refine aw_getR (n := 133) (RX0, TX0, 20) 0 15 dX0_takeFrom_130 rfl ht (by decide) fd_RX0_33 ?_
  refine aw_callNv (n := 136) (as := [.ref (aw_rf a0 15), .ref (aw_rf t 15)]) (st := []) RX10 dX0_takeFrom_133 rfl rfl (m_X10_copyRow l F (aw_rf a0 15) (aw_arr (sf_0_15 ha0)) (aw_rf t 15) (aw_arr (sf_0_15 ht)) r13) cw_RX0_76 ⟨Nat.le_of_ble_eq_true rfl, Nat.le_of_ble_eq_true rfl⟩ (fun _ => Nat.le_of_ble_eq_true rfl) (fun r14 => ?_)
  refine aw_aload_n (n := 137) dX0_takeFrom_136 rfl rfl ?_
  refine aw_getR (n := 140) (RX0, TX0, 20) 0 16 dX0_takeFrom_137 rfl ha0 (by decide) fd_RX0_36 ?_
  refine aw_aload_n (n := 141) dX0_takeFrom_140 rfl rfl ?_
  refine aw_getR (n := 144) (RX0, TX0, 20) 0 16 dX0_takeFrom_141 rfl ht (by decide) fd_RX0_36 ?_
  refine aw_callNv (n := 147) (as := [.ref (aw_rf a0 16), .ref (aw_rf t 16)]) (st := []) RX10 dX0_takeFrom_144 rfl rfl (m_X10_copyRow l F (aw_rf a0 16) (aw_arr (sf_0_16 ha0)) (aw_rf t 16) (aw_arr (sf_0_16 ht)) r14) cw_RX0_76 ⟨Nat.le_of_ble_eq_true rfl, Nat.le_of_ble_eq_true rfl⟩ (fun _ => Nat.le_of_ble_eq_true rfl) (fun r15 => ?_)
  refine aw_aload_n (n := 148) dX0_takeFrom_147 rfl rfl ?_
  refine aw_getR (n := 151) (RX0, TX0, 20) 0 19 dX0_takeFrom_148 rfl ha0 (by decide) fd_RX0_42 ?_
  refine aw_aload_n (n := 152) dX0_takeFrom_151 rfl rfl ?_
  refine aw_getR (n := 155) (RX0, TX0, 20) 0 19 dX0_takeFrom_152 rfl ht (by decide) fd_RX0_42 ?_
  refine aw_callNv (n := 158) (as := [.ref (aw_rf a0 19), .ref (aw_rf t 19)]) (st := []) RX10 dX0_takeFrom_155 rfl rfl (m_X10_copyRow l F (aw_rf a0 19) (aw_arr (sf_0_19 ha0)) (aw_rf t 19) (aw_arr (sf_0_19 ht)) r15) cw_RX0_76 ⟨Nat.le_of_ble_eq_true rfl, Nat.le_of_ble_eq_true rfl⟩ (fun _ => Nat.le_of_ble_eq_true rfl) (fun r16 => ?_)
  refine aw_aload_n (n := 159) dX0_takeFrom_158 rfl rfl ?_
  refine aw_aload_n (n := 160) dX0_takeFrom_159 rfl rfl ?_
  refine aw_callVv (n := 163) (as := [.ref a0]) (st := []) (RX0, TX0, 20) 0 dX0_takeFrom_160 rfl rfl (m_X0_takeSand l F t ht a0 ha0 r16) ht (by decide) rfl rfl cw_RX0_80 ⟨Nat.le_of_ble_eq_true rfl, Nat.le_of_ble_eq_true rfl⟩ (fun _ => Nat.le_of_ble_eq_true rfl) (fun r17 => ?_)
  exact aw_vreturn dX0_takeFrom_163 rfl rfl
abbrev k_X0_clearSand : aw_K := (RX0, cX0_clearSand, 1, none, 2, 143)
def f_X0_clearSand (F : Nat) (t : Nat) (μ : aw_M) : Option (aw_M) :=
  (f_J7_fill_53178 F (aw_rf t 17) 0 μ).bind fun r1 =>
  some r1
theorem m_X0_clearSand (l : Launch) (F : Nat) (t : Nat) (ht : (aw_sh t).1 = 5) (μ : aw_M) : AM l yX0_clearSand cX0_clearSand 1 none 2 143 aw_gv [.ref t] μ (f_X0_clearSand F t μ) := by
  refine aw_met [some (.ref t)] (by decide) (fun _ => rfl) (fun _ => Nat.le_of_ble_eq_true rfl) ?_
  show AW l k_X0_clearSand aw_gv 0 [some (.ref t)] [] μ _
  unfold f_X0_clearSand
  refine aw_aload_n (n := 1) dX0_clearSand_0 rfl rfl ?_
  refine aw_getR (n := 4) (RX0, TX0, 20) 0 17 dX0_clearSand_1 rfl ht (by decide) fd_RX0_39 ?_
  refine aw_iconst (n := 5) 0 dX0_clearSand_4 rfl (by decide) ?_
  refine aw_callSv (n := 8) (as := [.ref (aw_rf t 17), .int 0]) (st := []) dX0_clearSand_5 rfl rfl (m_J7_fill_53178 l F (aw_rf t 17) (aw_arr (sf_0_17 ht)) 0 μ) cw_RX0_84 ⟨Nat.le_of_ble_eq_true rfl, Nat.le_of_ble_eq_true rfl⟩ (fun _ => Nat.le_of_ble_eq_true rfl) (fun r1 => ?_)
  exact aw_vreturn dX0_clearSand_8 rfl rfl
abbrev k_X0_startDay : aw_K := (RX0, cX0_startDay, 1, none, 2, 143)
def f_X0_startDay (F : Nat) (t : Nat) (μ : aw_M) : Option (aw_M) :=
  aw_let (aw_wI μ t 4 0) fun μ1 =>
  (f_J7_fill_53178 F (aw_rf t 13) 0 μ1).bind fun r2 =>
  (f_J7_fill_53178 F (aw_rf t 16) 0 r2).bind fun r3 =>
  (f_X10_copyRow F (aw_rf (aw_rf t 0) 12) (aw_rf t 14) r3).bind fun r4 =>
  some r4
theorem m_X0_startDay (l : Launch) (F : Nat) (t : Nat) (ht : (aw_sh t).1 = 5) (μ : aw_M) : AM l yX0_startDay cX0_startDay 1 none 2 143 aw_gv [.ref t] μ (f_X0_startDay F t μ) := by
  refine aw_met [some (.ref t)] (by decide) (fun _ => rfl) (fun _ => Nat.le_of_ble_eq_true rfl) ?_
  show AW l k_X0_startDay aw_gv 0 [some (.ref t)] [] μ _
  unfold f_X0_startDay
  refine aw_aload_n (n := 1) dX0_startDay_0 rfl rfl ?_
  refine aw_iconst (n := 2) 0 dX0_startDay_1 rfl (by decide) ?_
  refine aw_putI (n := 5) (RX0, TX0, 20) 0 4 dX0_startDay_2 rfl ht (by decide) fp_RX0_61 (fun μ1 => ?_)
  refine aw_aload_n (n := 6) dX0_startDay_5 rfl rfl ?_
  refine aw_getR (n := 9) (RX0, TX0, 20) 0 13 dX0_startDay_6 rfl ht (by decide) fd_RX0_27 ?_
  refine aw_iconst (n := 10) 0 dX0_startDay_9 rfl (by decide) ?_
  refine aw_callSv (n := 13) (as := [.ref (aw_rf t 13), .int 0]) (st := []) dX0_startDay_10 rfl rfl (m_J7_fill_53178 l F (aw_rf t 13) (aw_arr (sf_0_13 ht)) 0 μ1) cw_RX0_84 ⟨Nat.le_of_ble_eq_true rfl, Nat.le_of_ble_eq_true rfl⟩ (fun _ => Nat.le_of_ble_eq_true rfl) (fun r2 => ?_)
  refine aw_aload_n (n := 14) dX0_startDay_13 rfl rfl ?_
  refine aw_getR (n := 17) (RX0, TX0, 20) 0 16 dX0_startDay_14 rfl ht (by decide) fd_RX0_36 ?_
  refine aw_iconst (n := 18) 0 dX0_startDay_17 rfl (by decide) ?_
  refine aw_callSv (n := 21) (as := [.ref (aw_rf t 16), .int 0]) (st := []) dX0_startDay_18 rfl rfl (m_J7_fill_53178 l F (aw_rf t 16) (aw_arr (sf_0_16 ht)) 0 r2) cw_RX0_84 ⟨Nat.le_of_ble_eq_true rfl, Nat.le_of_ble_eq_true rfl⟩ (fun _ => Nat.le_of_ble_eq_true rfl) (fun r3 => ?_)
  refine aw_aload_n (n := 22) dX0_startDay_21 rfl rfl ?_
  refine aw_getR (n := 25) (RX0, TX0, 20) 0 0 dX0_startDay_22 rfl ht (by decide) fd_RX0_45 ?_
  refine aw_getR (n := 28) (RX8, TX8, 20) 8 12 dX0_startDay_25 rfl (sf_0_0 ht) (by decide) fd_RX0_96 ?_
  refine aw_aload_n (n := 29) dX0_startDay_28 rfl rfl ?_
  refine aw_getR (n := 32) (RX0, TX0, 20) 0 14 dX0_startDay_29 rfl ht (by decide) fd_RX0_30 ?_
  refine aw_callNv (n := 35) (as := [.ref (aw_rf (aw_rf t 0) 12), .ref (aw_rf t 14)]) (st := []) RX10 dX0_startDay_32 rfl rfl (m_X10_copyRow l F (aw_rf (aw_rf t 0) 12) (aw_arr (sf_8_12 (sf_0_0 ht))) (aw_rf t 14) (aw_arr (sf_0_14 ht)) r3) cw_RX0_76 ⟨Nat.le_of_ble_eq_true rfl, Nat.le_of_ble_eq_true rfl⟩ (fun _ => Nat.le_of_ble_eq_true rfl) (fun r4 => ?_)
  exact aw_vreturn dX0_startDay_35 rfl rfl
abbrev k_X0_restart : aw_K := (RX0, cX0_restart, 2, none, 3, 163)
def f_X0_restart (F : Nat) (t : Nat) (a0 : Int32) (μ : aw_M) : Option (aw_M) :=
  aw_let (aw_wI μ t 3 0) fun μ1 =>
  aw_let (aw_wI μ1 t 5 a0) fun μ2 =>
  aw_let (aw_wI μ2 t 6 0) fun μ3 =>
  aw_let (aw_wI μ3 t 7 0) fun μ4 =>
  aw_let (aw_wI μ4 t 18 0) fun μ5 =>
  (f_J7_fill_53178 F (aw_rf t 8) 0 μ5).bind fun r6 =>
  (f_J7_fill_53178 F (aw_rf t 10) 0 r6).bind fun r7 =>
  (f_J7_fill_53178 F (aw_rf t 11) 0 r7).bind fun r8 =>
  (f_J7_fill_53178 F (aw_rf t 12) 0 r8).bind fun r9 =>
  (f_J7_fill_53178 F (aw_rf t 15) 0 r9).bind fun r10 =>
  (f_X10_copyRow F (aw_rf (aw_rf t 0) 7) (aw_rf t 9) r10).bind fun r11 =>
  (f_X0_startDay F t r11).bind fun r12 =>
  some r12
theorem m_X0_restart (l : Launch) (F : Nat) (t : Nat) (ht : (aw_sh t).1 = 5) (a0 : Int32) (μ : aw_M) : AM l yX0_restart cX0_restart 2 none 3 163 aw_gv [.ref t, .int a0] μ (f_X0_restart F t a0 μ) := by
  refine aw_met [some (.ref t), some (.int a0)] (by decide) (fun _ => rfl) (fun _ => Nat.le_of_ble_eq_true rfl) ?_
  show AW l k_X0_restart aw_gv 0 [some (.ref t), some (.int a0)] [] μ _
  unfold f_X0_restart
  refine aw_aload_n (n := 1) dX0_restart_0 rfl rfl ?_
  refine aw_iconst (n := 2) 0 dX0_restart_1 rfl (by decide) ?_
  refine aw_putI (n := 5) (RX0, TX0, 20) 0 3 dX0_restart_2 rfl ht (by decide) fp_RX0_57 (fun μ1 => ?_)
  refine aw_aload_n (n := 6) dX0_restart_5 rfl rfl ?_
  refine aw_iload_n (n := 7) dX0_restart_6 rfl rfl ?_
  refine aw_putI (n := 10) (RX0, TX0, 20) 0 5 dX0_restart_7 rfl ht (by decide) fp_RX0_64 (fun μ2 => ?_)
  refine aw_aload_n (n := 11) dX0_restart_10 rfl rfl ?_
  refine aw_iconst (n := 12) 0 dX0_restart_11 rfl (by decide) ?_
  refine aw_putI (n := 15) (RX0, TX0, 20) 0 6 dX0_restart_12 rfl ht (by decide) fp_RX0_67 (fun μ3 => ?_)
  refine aw_aload_n (n := 16) dX0_restart_15 rfl rfl ?_
  refine aw_iconst (n := 17) 0 dX0_restart_16 rfl (by decide) ?_
  refine aw_putI (n := 20) (RX0, TX0, 20) 0 7 dX0_restart_17 rfl ht (by decide) fp_RX0_70 (fun μ4 => ?_)
  refine aw_aload_n (n := 21) dX0_restart_20 rfl rfl ?_
  refine aw_iconst (n := 22) 0 dX0_restart_21 rfl (by decide) ?_
  refine aw_putI (n := 25) (RX0, TX0, 20) 0 18 dX0_restart_22 rfl ht (by decide) fp_RX0_73 (fun μ5 => ?_)
  refine aw_aload_n (n := 26) dX0_restart_25 rfl rfl ?_
  refine aw_getR (n := 29) (RX0, TX0, 20) 0 8 dX0_restart_26 rfl ht (by decide) fd_RX0_9 ?_
  refine aw_iconst (n := 30) 0 dX0_restart_29 rfl (by decide) ?_
  refine aw_callSv (n := 33) (as := [.ref (aw_rf t 8), .int 0]) (st := []) dX0_restart_30 rfl rfl (m_J7_fill_53178 l F (aw_rf t 8) (aw_arr (sf_0_8 ht)) 0 μ5) cw_RX0_84 ⟨Nat.le_of_ble_eq_true rfl, Nat.le_of_ble_eq_true rfl⟩ (fun _ => Nat.le_of_ble_eq_true rfl) (fun r6 => ?_)
  refine aw_aload_n (n := 34) dX0_restart_33 rfl rfl ?_
  refine aw_getR (n := 37) (RX0, TX0, 20) 0 10 dX0_restart_34 rfl ht (by decide) fd_RX0_18 ?_
  refine aw_iconst (n := 38) 0 dX0_restart_37 rfl (by decide) ?_
  refine aw_callSv (n := 41) (as := [.ref (aw_rf t 10), .int 0]) (st := []) dX0_restart_38 rfl rfl (m_J7_fill_53178 l F (aw_rf t 10) (aw_arr (sf_0_10 ht)) 0 r6) cw_RX0_84 ⟨Nat.le_of_ble_eq_true rfl, Nat.le_of_ble_eq_true rfl⟩ (fun _ => Nat.le_of_ble_eq_true rfl) (fun r7 => ?_)
  refine aw_aload_n (n := 42) dX0_restart_41 rfl rfl ?_
  refine aw_getR (n := 45) (RX0, TX0, 20) 0 11 dX0_restart_42 rfl ht (by decide) fd_RX0_21 ?_
  refine aw_iconst (n := 46) 0 dX0_restart_45 rfl (by decide) ?_
  refine aw_callSv (n := 49) (as := [.ref (aw_rf t 11), .int 0]) (st := []) dX0_restart_46 rfl rfl (m_J7_fill_53178 l F (aw_rf t 11) (aw_arr (sf_0_11 ht)) 0 r7) cw_RX0_84 ⟨Nat.le_of_ble_eq_true rfl, Nat.le_of_ble_eq_true rfl⟩ (fun _ => Nat.le_of_ble_eq_true rfl) (fun r8 => ?_)
  refine aw_aload_n (n := 50) dX0_restart_49 rfl rfl ?_
  refine aw_getR (n := 53) (RX0, TX0, 20) 0 12 dX0_restart_50 rfl ht (by decide) fd_RX0_24 ?_
  refine aw_iconst (n := 54) 0 dX0_restart_53 rfl (by decide) ?_
  refine aw_callSv (n := 57) (as := [.ref (aw_rf t 12), .int 0]) (st := []) dX0_restart_54 rfl rfl (m_J7_fill_53178 l F (aw_rf t 12) (aw_arr (sf_0_12 ht)) 0 r8) cw_RX0_84 ⟨Nat.le_of_ble_eq_true rfl, Nat.le_of_ble_eq_true rfl⟩ (fun _ => Nat.le_of_ble_eq_true rfl) (fun r9 => ?_)
  refine aw_aload_n (n := 58) dX0_restart_57 rfl rfl ?_
  refine aw_getR (n := 61) (RX0, TX0, 20) 0 15 dX0_restart_58 rfl ht (by decide) fd_RX0_33 ?_
  refine aw_iconst (n := 62) 0 dX0_restart_61 rfl (by decide) ?_
  refine aw_callSv (n := 65) (as := [.ref (aw_rf t 15), .int 0]) (st := []) dX0_restart_62 rfl rfl (m_J7_fill_53178 l F (aw_rf t 15) (aw_arr (sf_0_15 ht)) 0 r9) cw_RX0_84 ⟨Nat.le_of_ble_eq_true rfl, Nat.le_of_ble_eq_true rfl⟩ (fun _ => Nat.le_of_ble_eq_true rfl) (fun r10 => ?_)
  refine aw_aload_n (n := 66) dX0_restart_65 rfl rfl ?_
  refine aw_getR (n := 69) (RX0, TX0, 20) 0 0 dX0_restart_66 rfl ht (by decide) fd_RX0_45 ?_
  refine aw_getR (n := 72) (RX8, TX8, 20) 8 7 dX0_restart_69 rfl (sf_0_0 ht) (by decide) fd_RX0_90 ?_
  refine aw_aload_n (n := 73) dX0_restart_72 rfl rfl ?_
  refine aw_getR (n := 76) (RX0, TX0, 20) 0 9 dX0_restart_73 rfl ht (by decide) fd_RX0_15 ?_
  refine aw_callNv (n := 79) (as := [.ref (aw_rf (aw_rf t 0) 7), .ref (aw_rf t 9)]) (st := []) RX10 dX0_restart_76 rfl rfl (m_X10_copyRow l F (aw_rf (aw_rf t 0) 7) (aw_arr (sf_8_7 (sf_0_0 ht))) (aw_rf t 9) (aw_arr (sf_0_9 ht)) r10) cw_RX0_76 ⟨Nat.le_of_ble_eq_true rfl, Nat.le_of_ble_eq_true rfl⟩ (fun _ => Nat.le_of_ble_eq_true rfl) (fun r11 => ?_)
  refine aw_aload_n (n := 80) dX0_restart_79 rfl rfl ?_
  refine aw_callVv (n := 83) (as := []) (st := []) (RX0, TX0, 20) 0 dX0_restart_80 rfl rfl (m_X0_startDay l F t ht r11) ht (by decide) rfl rfl cw_RX0_93 ⟨Nat.le_of_ble_eq_true rfl, Nat.le_of_ble_eq_true rfl⟩ (fun _ => Nat.le_of_ble_eq_true rfl) (fun r12 => ?_)
  exact aw_vreturn dX0_restart_83 rfl rfl
abbrev k_X0_drainFor : aw_K := (RX0, cX0_drainFor, 4, none, 1, 120)
def f_X0_drainFor_2 (F : Nat) (t : Nat) (k2 : Int32 × Int32 × aw_M → Option (aw_M)) (x1 : Int32) (x2 : Int32) (μ : aw_M) : Option (aw_M) :=
  (if (μ.1 (aw_rf t 2) 4) ≤ x2 then
  some μ
  else
  aw_g (aw_in x2 60) (aw_let ((μ.1 (aw_rf (aw_rf t 2) 5) x2.toNatClampNeg)) fun v3 =>
  aw_g (aw_in v3 100) (aw_g (aw_in v3 100) (aw_g (aw_in v3 100) (aw_let (aw_wI μ (aw_rf t 16) v3.toNatClampNeg (if 0 < ((μ.1 (aw_rf t 16) v3.toNatClampNeg) - (x1 * (μ.1 (aw_rf (aw_rf t 2) 6) v3.toNatClampNeg))) then ((μ.1 (aw_rf t 16) v3.toNatClampNeg) - (x1 * (μ.1 (aw_rf (aw_rf t 2) 6) v3.toNatClampNeg))) else 0)) fun μ4 =>
  k2 (x1, (x2 + 1), μ4))))))
theorem c_X0_drainFor_2 (l : Launch) (F : Nat) (t : Nat) (ht : (aw_sh t).1 = 5) : ∀ (N : Nat) (s : Int32 × Int32 × aw_M), AW l k_X0_drainFor aw_gv 2 [some (.ref t), some (.int s.1), some (.int s.2.1), none] [] s.2.2 (aw_loop (fun k s => f_X0_drainFor_2 F t k s.1 s.2.1 s.2.2) N s) := by
  refine aw_loop_ok (f := fun k s => f_X0_drainFor_2 F t k s.1 s.2.1 s.2.2) (Ls := fun s => [some (.ref t), some (.int s.1), some (.int s.2.1), none]) (ms := fun s => s.2.2) ?_
  intro k2 hk2 s
  obtain ⟨x1, x2, μ⟩ := s
  show AW l k_X0_drainFor aw_gv 2 [some (.ref t), some (.int x1), some (.int x2), none] [] μ (f_X0_drainFor_2 F t k2 x1 x2 μ)
  unfold f_X0_drainFor_2
  refine aw_iload_n (n := 3) dX0_drainFor_2 rfl rfl ?_
  refine aw_aload_n (n := 4) dX0_drainFor_3 rfl rfl ?_
  refine aw_getR (n := 7) (RX0, TX0, 20) 0 2 dX0_drainFor_4 rfl ht (by decide) fd_RX0_53 ?_
  refine aw_getI (n := 10) (RX1, TX1, 12) 1 4 dX0_drainFor_7 rfl (sf_0_2 ht) (by decide) fd_RX0_123 ?_
  refine aw_icmp_ge (n := 13) 57 dX0_drainFor_10 (by decide) rfl ?_ ?_
  · exact aw_vreturn dX0_drainFor_57 rfl rfl
  · refine aw_aload_n (n := 14) dX0_drainFor_13 rfl rfl ?_
    refine aw_getR (n := 17) (RX0, TX0, 20) 0 2 dX0_drainFor_14 rfl ht (by decide) fd_RX0_53 ?_
    refine aw_getR (n := 20) (RX1, TX1, 12) 1 5 dX0_drainFor_17 rfl (sf_0_2 ht) (by decide) fd_RX0_126 ?_
    refine aw_iload_n (n := 21) dX0_drainFor_20 rfl rfl ?_
    refine aw_iaload (n := 22) 60 dX0_drainFor_21 rfl (sf_1_5 (sf_0_2 ht)) ?_
    refine aw_nmI (fun v3 => ?_)
    refine aw_istore_n (n := 23) [some (.ref t), some (.int x1), some (.int x2), some (.int v3)] dX0_drainFor_22 rfl rfl (Nat.le_of_ble_eq_true rfl) (Nat.le_of_ble_eq_true rfl) rfl ?_
    refine aw_aload_n (n := 24) dX0_drainFor_23 rfl rfl ?_
    refine aw_getR (n := 27) (RX0, TX0, 20) 0 16 dX0_drainFor_24 rfl ht (by decide) fd_RX0_36 ?_
    refine aw_iload_n (n := 28) dX0_drainFor_27 rfl rfl ?_
    refine aw_iconst (n := 29) 0 dX0_drainFor_28 rfl (by decide) ?_
    refine aw_aload_n (n := 30) dX0_drainFor_29 rfl rfl ?_
    refine aw_getR (n := 33) (RX0, TX0, 20) 0 16 dX0_drainFor_30 rfl ht (by decide) fd_RX0_36 ?_
    refine aw_iload_n (n := 34) dX0_drainFor_33 rfl rfl ?_
    refine aw_iaload (n := 35) 100 dX0_drainFor_34 rfl (sf_0_16 ht) ?_
    refine aw_iload_n (n := 36) dX0_drainFor_35 rfl rfl ?_
    refine aw_aload_n (n := 37) dX0_drainFor_36 rfl rfl ?_
    refine aw_getR (n := 40) (RX0, TX0, 20) 0 2 dX0_drainFor_37 rfl ht (by decide) fd_RX0_53 ?_
    refine aw_getR (n := 43) (RX1, TX1, 12) 1 6 dX0_drainFor_40 rfl (sf_0_2 ht) (by decide) fd_RX0_129 ?_
    refine aw_iload_n (n := 44) dX0_drainFor_43 rfl rfl ?_
    refine aw_iaload (n := 45) 100 dX0_drainFor_44 rfl (sf_1_6 (sf_0_2 ht)) ?_
    refine aw_imul (n := 46) dX0_drainFor_45 rfl ?_
    refine aw_isub (n := 47) dX0_drainFor_46 rfl ?_
    refine aw_mmax (n := 50) dX0_drainFor_47 rfl tb_1009 (Nat.le_of_ble_eq_true rfl) (fun _ => Nat.le_of_ble_eq_true rfl) ?_
    refine aw_iastore (n := 51) 100 dX0_drainFor_50 rfl (sf_0_16 ht) (fun μ4 => ?_)
    refine aw_iinc (n := 54) (x2 + 1) [some (.ref t), some (.int x1), some (.int (x2 + 1)), some (.int v3)] dX0_drainFor_51 rfl rfl (by rfl) rfl (Nat.le_of_ble_eq_true rfl) rfl ?_
    refine aw_goto 2 dX0_drainFor_54 (by decide) ?_
    exact aw_weak (hk2 (x1, (x2 + 1), μ4)) (aw_ss (aw_ss (aw_ss (aw_sn aw_s0))))
def f_X0_drainFor (F : Nat) (t : Nat) (a0 : Int32) (μ : aw_M) : Option (aw_M) :=
  aw_loop (fun k s => f_X0_drainFor_2 F t k s.1 s.2.1 s.2.2) F (a0, 0, μ)
theorem m_X0_drainFor (l : Launch) (F : Nat) (t : Nat) (ht : (aw_sh t).1 = 5) (a0 : Int32) (μ : aw_M) : AM l yX0_drainFor cX0_drainFor 4 none 1 120 aw_gv [.ref t, .int a0] μ (f_X0_drainFor F t a0 μ) := by
  refine aw_met [some (.ref t), some (.int a0), none, none] (by decide) (fun _ => rfl) (fun _ => Nat.le_of_ble_eq_true rfl) ?_
  show AW l k_X0_drainFor aw_gv 0 [some (.ref t), some (.int a0), none, none] [] μ _
  unfold f_X0_drainFor
  refine aw_iconst (n := 1) 0 dX0_drainFor_0 rfl (by decide) ?_
  refine aw_istore_n (n := 2) [some (.ref t), some (.int a0), some (.int 0), none] dX0_drainFor_1 rfl rfl (Nat.le_of_ble_eq_true rfl) (Nat.le_of_ble_eq_true rfl) rfl ?_
  exact aw_weak (c_X0_drainFor_2 l F t ht F (a0, 0, μ)) (aw_ss (aw_ss (aw_ss (aw_sn aw_s0))))
abbrev k_X0_endDay : aw_K := (RX0, cX0_endDay, 1, none, 3, 163)
def f_X0_endDay (F : Nat) (t : Nat) (μ : aw_M) : Option (aw_M) :=
  aw_let (aw_wI μ t 3 ((μ.1 t 3) + 1)) fun μ1 =>
  (if 3 ≤ (μ1.1 t 3) then
  some μ1
  else
  (f_X0_startDay F t μ1).bind fun r2 =>
  some r2)
theorem m_X0_endDay (l : Launch) (F : Nat) (t : Nat) (ht : (aw_sh t).1 = 5) (μ : aw_M) : AM l yX0_endDay cX0_endDay 1 none 3 163 aw_gv [.ref t] μ (f_X0_endDay F t μ) := by
  refine aw_met [some (.ref t)] (by decide) (fun _ => rfl) (fun _ => Nat.le_of_ble_eq_true rfl) ?_
  show AW l k_X0_endDay aw_gv 0 [some (.ref t)] [] μ _
  unfold f_X0_endDay
  refine aw_aload_n (n := 1) dX0_endDay_0 rfl rfl ?_
  refine aw_dup (n := 2) dX0_endDay_1 rfl (fun _ => rfl) ?_
  refine aw_getI (n := 5) (RX0, TX0, 20) 0 3 dX0_endDay_2 rfl ht (by decide) fd_RX0_57 ?_
  refine aw_iconst (n := 6) 1 dX0_endDay_5 rfl (by decide) ?_
  refine aw_iadd (n := 7) dX0_endDay_6 rfl ?_
  refine aw_putI (n := 10) (RX0, TX0, 20) 0 3 dX0_endDay_7 rfl ht (by decide) fp_RX0_57 (fun μ1 => ?_)
  refine aw_aload_n (n := 11) dX0_endDay_10 rfl rfl ?_
  refine aw_getI (n := 14) (RX0, TX0, 20) 0 3 dX0_endDay_11 rfl ht (by decide) fd_RX0_57 ?_
  refine aw_iconst (n := 15) 3 dX0_endDay_14 rfl (by decide) ?_
  refine aw_icmp_ge (n := 18) 22 dX0_endDay_15 (by decide) rfl ?_ ?_
  · exact aw_vreturn dX0_endDay_22 rfl rfl
  · refine aw_aload_n (n := 19) dX0_endDay_18 rfl rfl ?_
    refine aw_callVv (n := 22) (as := []) (st := []) (RX0, TX0, 20) 0 dX0_endDay_19 rfl rfl (m_X0_startDay l F t ht μ1) ht (by decide) rfl rfl cw_RX0_93 ⟨Nat.le_of_ble_eq_true rfl, Nat.le_of_ble_eq_true rfl⟩ (fun _ => Nat.le_of_ble_eq_true rfl) (fun r2 => ?_)
    exact aw_vreturn dX0_endDay_22 rfl rfl
abbrev k_X0_aimedVisit : aw_K := (RX0, cX0_aimedVisit, 3, (some .int), 2, 150)
def f_X0_aimedVisit (F : Nat) (t : Nat) (a0 : Int32) (a1 : Int32) (μ : aw_M) : Option (Int32 × aw_M) :=
  (f_X2_hasPlan F (aw_rf t 1) a0 μ).bind fun r1 =>
  (if r1.1 = true then
  aw_g (aw_in a0 9) ((if 0 < (r1.2.1 (aw_rf t 9) a0.toNatClampNeg) then
  aw_g (aw_in a0 9) (aw_g (aw_in a0 9) ((f_X1_nearestVisit F (aw_rf t 2) (aw_rf t 13) a0 a1 (r1.2.1 (aw_rf (aw_rf t 1) 1) a0.toNatClampNeg) (r1.2.1 (aw_rf (aw_rf t 1) 2) a0.toNatClampNeg) (a0 * 20) r1.2).bind fun r2 =>
  some (r2.1, r2.2)))
  else
  some ((-1), r1.2)))
  else
  some ((-1), r1.2))
theorem m_X0_aimedVisit (l : Launch) (F : Nat) (t : Nat) (ht : (aw_sh t).1 = 5) (a0 : Int32) (a1 : Int32) (μ : aw_M) : AM l yX0_aimedVisit cX0_aimedVisit 3 (some .int) 2 150 aw_gi [.ref t, .int a0, .int a1] μ (f_X0_aimedVisit F t a0 a1 μ) := by
  refine aw_met [some (.ref t), some (.int a0), some (.int a1)] (by decide) (fun _ => rfl) (fun _ => Nat.le_of_ble_eq_true rfl) ?_
  show AW l k_X0_aimedVisit aw_gi 0 [some (.ref t), some (.int a0), some (.int a1)] [] μ _
  unfold f_X0_aimedVisit
  refine aw_aload_n (n := 1) dX0_aimedVisit_0 rfl rfl ?_
  refine aw_getR (n := 4) (RX0, TX0, 20) 0 1 dX0_aimedVisit_1 rfl ht (by decide) fd_RX0_49 ?_
  refine aw_iload_n (n := 5) dX0_aimedVisit_4 rfl rfl ?_
  refine aw_callVz (n := 8) (as := [.int a0]) (st := []) (RX2, TX2, 4) 2 dX0_aimedVisit_5 rfl rfl (m_X2_hasPlan l F (aw_rf t 1) (sf_0_1 ht) a0 μ) (sf_0_1 ht) (by decide) rfl rfl cw_RX0_154 ⟨Nat.le_of_ble_eq_true rfl, Nat.le_of_ble_eq_true rfl⟩ (fun _ => Nat.le_of_ble_eq_true rfl) (fun r1 => ?_)
  refine aw_ifb_eq (n := 11) 20 dX0_aimedVisit_8 (by decide) rfl ?_ ?_
  · refine aw_iconst (n := 21) (-1) dX0_aimedVisit_20 rfl (by decide) ?_
    exact aw_ireturn dX0_aimedVisit_21 rfl rfl
  · refine aw_aload_n (n := 12) dX0_aimedVisit_11 rfl rfl ?_
    refine aw_getR (n := 15) (RX0, TX0, 20) 0 9 dX0_aimedVisit_12 rfl ht (by decide) fd_RX0_15 ?_
    refine aw_iload_n (n := 16) dX0_aimedVisit_15 rfl rfl ?_
    refine aw_iaload (n := 17) 9 dX0_aimedVisit_16 rfl (sf_0_9 ht) ?_
    refine aw_if_gt (n := 20) 22 dX0_aimedVisit_17 (by decide) rfl ?_ ?_
    · refine aw_aload_n (n := 23) dX0_aimedVisit_22 rfl rfl ?_
      refine aw_getR (n := 26) (RX0, TX0, 20) 0 2 dX0_aimedVisit_23 rfl ht (by decide) fd_RX0_53 ?_
      refine aw_iload_n (n := 27) dX0_aimedVisit_26 rfl rfl ?_
      refine aw_iload_n (n := 28) dX0_aimedVisit_27 rfl rfl ?_
      refine aw_aload_n (n := 29) dX0_aimedVisit_28 rfl rfl ?_
      refine aw_getR (n := 32) (RX0, TX0, 20) 0 1 dX0_aimedVisit_29 rfl ht (by decide) fd_RX0_49 ?_
      refine aw_getR (n := 35) (RX2, TX2, 4) 2 1 dX0_aimedVisit_32 rfl (sf_0_1 ht) (by decide) fd_RX0_160 ?_
      refine aw_iload_n (n := 36) dX0_aimedVisit_35 rfl rfl ?_
      refine aw_iaload (n := 37) 9 dX0_aimedVisit_36 rfl (sf_2_1 (sf_0_1 ht)) ?_
      refine aw_aload_n (n := 38) dX0_aimedVisit_37 rfl rfl ?_
      refine aw_getR (n := 41) (RX0, TX0, 20) 0 1 dX0_aimedVisit_38 rfl ht (by decide) fd_RX0_49 ?_
      refine aw_getR (n := 44) (RX2, TX2, 4) 2 2 dX0_aimedVisit_41 rfl (sf_0_1 ht) (by decide) fd_RX0_163 ?_
      refine aw_iload_n (n := 45) dX0_aimedVisit_44 rfl rfl ?_
      refine aw_iaload (n := 46) 9 dX0_aimedVisit_45 rfl (sf_2_2 (sf_0_1 ht)) ?_
      refine aw_aload_n (n := 47) dX0_aimedVisit_46 rfl rfl ?_
      refine aw_getR (n := 50) (RX0, TX0, 20) 0 13 dX0_aimedVisit_47 rfl ht (by decide) fd_RX0_27 ?_
      refine aw_iload_n (n := 51) dX0_aimedVisit_50 rfl rfl ?_
      refine aw_bipush (n := 53) 20 dX0_aimedVisit_51 rfl (by decide) ?_
      refine aw_imul (n := 54) dX0_aimedVisit_53 rfl ?_
      refine aw_callVi (n := 57) (as := [.int a0, .int a1, .int (r1.2.1 (aw_rf (aw_rf t 1) 1) a0.toNatClampNeg), .int (r1.2.1 (aw_rf (aw_rf t 1) 2) a0.toNatClampNeg), .ref (aw_rf t 13), .int (a0 * 20)]) (st := []) (RX1, TX1, 12) 1 dX0_aimedVisit_54 rfl rfl (m_X1_nearestVisit l F (aw_rf t 2) (sf_0_2 ht) (aw_rf t 13) (aw_arr (sf_0_13 ht)) a0 a1 (r1.2.1 (aw_rf (aw_rf t 1) 1) a0.toNatClampNeg) (r1.2.1 (aw_rf (aw_rf t 1) 2) a0.toNatClampNeg) (a0 * 20) r1.2) (sf_0_2 ht) (by decide) rfl rfl cw_RX0_166 ⟨Nat.le_of_ble_eq_true rfl, Nat.le_of_ble_eq_true rfl⟩ (fun _ => Nat.le_of_ble_eq_true rfl) (fun r2 => ?_)
      exact aw_ireturn dX0_aimedVisit_57 rfl rfl
    · refine aw_iconst (n := 21) (-1) dX0_aimedVisit_20 rfl (by decide) ?_
      exact aw_ireturn dX0_aimedVisit_21 rfl rfl
abbrev k_X0_isHitOn : aw_K := (RX0, cX0_isHitOn, 3, (some .boolean), 1, 120)
def f_X0_isHitOn (F : Nat) (t : Nat) (a0 : Int32) (a1 : Int32) (μ : aw_M) : Option (Bool × aw_M) :=
  aw_g (aw_in ((a0 * 6) + 1) 54) ((if (μ.1 (aw_rf t 19) ((a0 * 6) + 1).toNatClampNeg) = a1 then
  aw_g (aw_in ((a0 * 6) + 2) 54) ((if (μ.1 (aw_rf t 19) ((a0 * 6) + 2).toNatClampNeg) < 3 then
  some (false, μ)
  else
  some (true, μ)))
  else
  some (false, μ)))
theorem m_X0_isHitOn (l : Launch) (F : Nat) (t : Nat) (ht : (aw_sh t).1 = 5) (a0 : Int32) (a1 : Int32) (μ : aw_M) : AM l yX0_isHitOn cX0_isHitOn 3 (some .boolean) 1 120 aw_gz [.ref t, .int a0, .int a1] μ (f_X0_isHitOn F t a0 a1 μ) := by
  refine aw_met [some (.ref t), some (.int a0), some (.int a1)] (by decide) (fun _ => rfl) (fun _ => Nat.le_of_ble_eq_true rfl) ?_
  show AW l k_X0_isHitOn aw_gz 0 [some (.ref t), some (.int a0), some (.int a1)] [] μ _
  unfold f_X0_isHitOn
  refine aw_aload_n (n := 1) dX0_isHitOn_0 rfl rfl ?_
  refine aw_getR (n := 4) (RX0, TX0, 20) 0 19 dX0_isHitOn_1 rfl ht (by decide) fd_RX0_42 ?_
  refine aw_iload_n (n := 5) dX0_isHitOn_4 rfl rfl ?_
  refine aw_bipush (n := 7) 6 dX0_isHitOn_5 rfl (by decide) ?_
  refine aw_imul (n := 8) dX0_isHitOn_7 rfl ?_
  refine aw_iconst (n := 9) 1 dX0_isHitOn_8 rfl (by decide) ?_
  refine aw_iadd (n := 10) dX0_isHitOn_9 rfl ?_
  refine aw_iaload (n := 11) 54 dX0_isHitOn_10 rfl (sf_0_19 ht) ?_
  refine aw_iload_n (n := 12) dX0_isHitOn_11 rfl rfl ?_
  refine aw_icmp_ne (n := 15) 34 dX0_isHitOn_12 (by decide) rfl ?_ ?_
  · refine aw_iconst (n := 35) 0 dX0_isHitOn_34 rfl (by decide) ?_
    exact aw_zreturn (b := false) dX0_isHitOn_35 rfl rfl
  · refine aw_aload_n (n := 16) dX0_isHitOn_15 rfl rfl ?_
    refine aw_getR (n := 19) (RX0, TX0, 20) 0 19 dX0_isHitOn_16 rfl ht (by decide) fd_RX0_42 ?_
    refine aw_iload_n (n := 20) dX0_isHitOn_19 rfl rfl ?_
    refine aw_bipush (n := 22) 6 dX0_isHitOn_20 rfl (by decide) ?_
    refine aw_imul (n := 23) dX0_isHitOn_22 rfl ?_
    refine aw_iconst (n := 24) 2 dX0_isHitOn_23 rfl (by decide) ?_
    refine aw_iadd (n := 25) dX0_isHitOn_24 rfl ?_
    refine aw_iaload (n := 26) 54 dX0_isHitOn_25 rfl (sf_0_19 ht) ?_
    refine aw_iconst (n := 27) 3 dX0_isHitOn_26 rfl (by decide) ?_
    refine aw_icmp_lt (n := 30) 34 dX0_isHitOn_27 (by decide) rfl ?_ ?_
    · refine aw_iconst (n := 35) 0 dX0_isHitOn_34 rfl (by decide) ?_
      exact aw_zreturn (b := false) dX0_isHitOn_35 rfl rfl
    · refine aw_iconst (n := 31) 1 dX0_isHitOn_30 rfl (by decide) ?_
      refine aw_goto 35 dX0_isHitOn_31 (by decide) ?_
      exact aw_zreturn (b := true) dX0_isHitOn_35 rfl rfl
abbrev k_X0_markThrow : aw_K := (RX0, cX0_markThrow, 6, none, 2, 145)
def f_X0_markThrow_128 (F : Nat) (t : Nat) (x2 : Int32) (x4 : Int32) (x5 : Int32) (z0 : Bool) (z1 : Int32) (z3 : Int32) (z4 : Int32) (μ : aw_M) : Option (aw_M) :=
  (f_X8_marksFor F (aw_rf t 0) z1 (aw_b z0) x4 μ).bind fun r33 =>
  aw_g (aw_in z4 54) (aw_let (aw_wI r33.2 (aw_rf t 19) z4.toNatClampNeg (z3 * r33.1)) fun μ34 =>
  aw_g (aw_in x5 9) (aw_g (aw_in (x2 + 5) 54) (aw_g (aw_in x5 9) (aw_let (aw_wI μ34 (aw_rf t 10) x5.toNatClampNeg ((μ34.1 (aw_rf t 10) x5.toNatClampNeg) + (μ34.1 (aw_rf t 19) (x2 + 5).toNatClampNeg))) fun μ35 =>
  some μ35))))
theorem c_X0_markThrow_128 (l : Launch) (F : Nat) (t : Nat) (ht : (aw_sh t).1 = 5) (x2 : Int32) (x4 : Int32) (x5 : Int32) (z0 : Bool) (z1 : Int32) (z3 : Int32) (z4 : Int32) (μ : aw_M) : AW l k_X0_markThrow aw_gv 128 [some (.ref t), none, some (.int x2), none, some (.int x4), some (.int x5)] [.int (aw_b z0), .int z1, .ref (aw_rf t 0), .int z3, .int z4, .ref (aw_rf t 19)] μ (f_X0_markThrow_128 F t x2 x4 x5 z0 z1 z3 z4 μ) := by
  unfold f_X0_markThrow_128
  refine aw_iload (n := 130) dX0_markThrow_128 rfl rfl ?_
  refine aw_callVi (n := 133) (as := [.int z1, .int (aw_b z0), .int x4]) (st := [.int z3, .int z4, .ref (aw_rf t 19)]) (RX8, TX8, 20) 8 dX0_markThrow_130 rfl rfl (m_X8_marksFor l F (aw_rf t 0) (sf_0_0 ht) z1 (aw_b z0) x4 μ) (sf_0_0 ht) (by decide) rfl rfl cw_RX0_216 ⟨Nat.le_of_ble_eq_true rfl, Nat.le_of_ble_eq_true rfl⟩ (fun _ => Nat.le_of_ble_eq_true rfl) (fun r33 => ?_)
  refine aw_imul (n := 134) dX0_markThrow_133 rfl ?_
  refine aw_iastore (n := 135) 54 dX0_markThrow_134 rfl (sf_0_19 ht) (fun μ34 => ?_)
  refine aw_aload_n (n := 136) dX0_markThrow_135 rfl rfl ?_
  refine aw_getR (n := 139) (RX0, TX0, 20) 0 10 dX0_markThrow_136 rfl ht (by decide) fd_RX0_18 ?_
  refine aw_iload (n := 141) dX0_markThrow_139 rfl rfl ?_
  refine aw_dup2 (n := 142) dX0_markThrow_141 rfl (fun _ => rfl) (fun _ => rfl) ?_
  refine aw_iaload (n := 143) 9 dX0_markThrow_142 rfl (sf_0_10 ht) ?_
  refine aw_aload_n (n := 144) dX0_markThrow_143 rfl rfl ?_
  refine aw_getR (n := 147) (RX0, TX0, 20) 0 19 dX0_markThrow_144 rfl ht (by decide) fd_RX0_42 ?_
  refine aw_iload_n (n := 148) dX0_markThrow_147 rfl rfl ?_
  refine aw_iconst (n := 149) 5 dX0_markThrow_148 rfl (by decide) ?_
  refine aw_iadd (n := 150) dX0_markThrow_149 rfl ?_
  refine aw_iaload (n := 151) 54 dX0_markThrow_150 rfl (sf_0_19 ht) ?_
  refine aw_iadd (n := 152) dX0_markThrow_151 rfl ?_
  refine aw_iastore (n := 153) 9 dX0_markThrow_152 rfl (sf_0_10 ht) (fun μ35 => ?_)
  exact aw_vreturn dX0_markThrow_153 rfl rfl
def f_X0_markThrow_64 (F : Nat) (t : Nat) (x2 : Int32) (x4 : Int32) (μ : aw_M) : Option (aw_M) :=
  aw_g (aw_in x2 54) (aw_let ((μ.1 (aw_rf t 19) x2.toNatClampNeg)) fun v31 =>
  aw_g (aw_in (x2 + 4) 54) (aw_let (aw_wI μ (aw_rf t 19) (x2 + 4).toNatClampNeg x4) fun μ32 =>
  aw_g (aw_in v31 18) (aw_g (aw_in (x2 + 3) 54) (aw_g (aw_in (x2 + 2) 54) ((if (μ32.1 (aw_rf t 19) (x2 + 2).toNatClampNeg) = 3 then
  f_X0_markThrow_128 F t x2 x4 v31 true (μ32.1 (aw_rf t 19) (x2 + 3).toNatClampNeg) (μ32.1 (aw_rf (aw_rf t 2) 1) v31.toNatClampNeg) (x2 + 5) μ32
  else
  f_X0_markThrow_128 F t x2 x4 v31 false (μ32.1 (aw_rf t 19) (x2 + 3).toNatClampNeg) (μ32.1 (aw_rf (aw_rf t 2) 1) v31.toNatClampNeg) (x2 + 5) μ32))))))
theorem c_X0_markThrow_64 (l : Launch) (F : Nat) (t : Nat) (ht : (aw_sh t).1 = 5) (x2 : Int32) (x4 : Int32) (μ : aw_M) : AW l k_X0_markThrow aw_gv 64 [some (.ref t), none, some (.int x2), none, some (.int x4), none] [] μ (f_X0_markThrow_64 F t x2 x4 μ) := by
  unfold f_X0_markThrow_64
  refine aw_aload_n (n := 65) dX0_markThrow_64 rfl rfl ?_
  refine aw_getR (n := 68) (RX0, TX0, 20) 0 19 dX0_markThrow_65 rfl ht (by decide) fd_RX0_42 ?_
  refine aw_iload_n (n := 69) dX0_markThrow_68 rfl rfl ?_
  refine aw_iaload (n := 70) 54 dX0_markThrow_69 rfl (sf_0_19 ht) ?_
  refine aw_nmI (fun v31 => ?_)
  refine aw_istore (n := 72) [some (.ref t), none, some (.int x2), none, some (.int x4), some (.int v31)] dX0_markThrow_70 rfl rfl (Nat.le_of_ble_eq_true rfl) (Nat.le_of_ble_eq_true rfl) rfl ?_
  refine aw_aload_n (n := 73) dX0_markThrow_72 rfl rfl ?_
  refine aw_getR (n := 76) (RX0, TX0, 20) 0 19 dX0_markThrow_73 rfl ht (by decide) fd_RX0_42 ?_
  refine aw_iload_n (n := 77) dX0_markThrow_76 rfl rfl ?_
  refine aw_iconst (n := 78) 4 dX0_markThrow_77 rfl (by decide) ?_
  refine aw_iadd (n := 79) dX0_markThrow_78 rfl ?_
  refine aw_iload (n := 81) dX0_markThrow_79 rfl rfl ?_
  refine aw_iastore (n := 82) 54 dX0_markThrow_81 rfl (sf_0_19 ht) (fun μ32 => ?_)
  refine aw_aload_n (n := 83) dX0_markThrow_82 rfl rfl ?_
  refine aw_getR (n := 86) (RX0, TX0, 20) 0 19 dX0_markThrow_83 rfl ht (by decide) fd_RX0_42 ?_
  refine aw_iload_n (n := 87) dX0_markThrow_86 rfl rfl ?_
  refine aw_iconst (n := 88) 5 dX0_markThrow_87 rfl (by decide) ?_
  refine aw_iadd (n := 89) dX0_markThrow_88 rfl ?_
  refine aw_aload_n (n := 90) dX0_markThrow_89 rfl rfl ?_
  refine aw_getR (n := 93) (RX0, TX0, 20) 0 2 dX0_markThrow_90 rfl ht (by decide) fd_RX0_53 ?_
  refine aw_getR (n := 96) (RX1, TX1, 12) 1 1 dX0_markThrow_93 rfl (sf_0_2 ht) (by decide) fd_RX0_213 ?_
  refine aw_iload (n := 98) dX0_markThrow_96 rfl rfl ?_
  refine aw_iaload (n := 99) 18 dX0_markThrow_98 rfl (sf_1_1 (sf_0_2 ht)) ?_
  refine aw_aload_n (n := 100) dX0_markThrow_99 rfl rfl ?_
  refine aw_getR (n := 103) (RX0, TX0, 20) 0 0 dX0_markThrow_100 rfl ht (by decide) fd_RX0_45 ?_
  refine aw_aload_n (n := 104) dX0_markThrow_103 rfl rfl ?_
  refine aw_getR (n := 107) (RX0, TX0, 20) 0 19 dX0_markThrow_104 rfl ht (by decide) fd_RX0_42 ?_
  refine aw_iload_n (n := 108) dX0_markThrow_107 rfl rfl ?_
  refine aw_iconst (n := 109) 3 dX0_markThrow_108 rfl (by decide) ?_
  refine aw_iadd (n := 110) dX0_markThrow_109 rfl ?_
  refine aw_iaload (n := 111) 54 dX0_markThrow_110 rfl (sf_0_19 ht) ?_
  refine aw_aload_n (n := 112) dX0_markThrow_111 rfl rfl ?_
  refine aw_getR (n := 115) (RX0, TX0, 20) 0 19 dX0_markThrow_112 rfl ht (by decide) fd_RX0_42 ?_
  refine aw_iload_n (n := 116) dX0_markThrow_115 rfl rfl ?_
  refine aw_iconst (n := 117) 2 dX0_markThrow_116 rfl (by decide) ?_
  refine aw_iadd (n := 118) dX0_markThrow_117 rfl ?_
  refine aw_iaload (n := 119) 54 dX0_markThrow_118 rfl (sf_0_19 ht) ?_
  refine aw_iconst (n := 120) 3 dX0_markThrow_119 rfl (by decide) ?_
  refine aw_icmp_ne (n := 123) 127 dX0_markThrow_120 (by decide) rfl ?_ ?_
  · refine aw_iconst (n := 128) 0 dX0_markThrow_127 rfl (by decide) ?_
    exact aw_weak (c_X0_markThrow_128 l F t ht x2 x4 v31 false (μ32.1 (aw_rf t 19) (x2 + 3).toNatClampNeg) (μ32.1 (aw_rf (aw_rf t 2) 1) v31.toNatClampNeg) (x2 + 5) μ32) (aw_ss (aw_sn (aw_ss (aw_sn (aw_ss (aw_ss aw_s0))))))
  · refine aw_iconst (n := 124) 1 dX0_markThrow_123 rfl (by decide) ?_
    refine aw_goto 128 dX0_markThrow_124 (by decide) ?_
    exact aw_weak (c_X0_markThrow_128 l F t ht x2 x4 v31 true (μ32.1 (aw_rf t 19) (x2 + 3).toNatClampNeg) (μ32.1 (aw_rf (aw_rf t 2) 1) v31.toNatClampNeg) (x2 + 5) μ32) (aw_ss (aw_sn (aw_ss (aw_sn (aw_ss (aw_ss aw_s0))))))
def f_X0_markThrow_58 (F : Nat) (t : Nat) (k30 : Int32 × Int32 × Int32 × Int32 × Int32 × aw_M → Option (aw_M)) (x1 : Int32) (x2 : Int32) (x3 : Int32) (x4 : Int32) (x5 : Int32) (μ : aw_M) : Option (aw_M) :=
  k30 (x1, x2, x3, x4, (x5 + 1), μ)
theorem c_X0_markThrow_58 (l : Launch) (F : Nat) (t : Nat) (ht : (aw_sh t).1 = 5) (k30 : Int32 × Int32 × Int32 × Int32 × Int32 × aw_M → Option (aw_M)) (hk30 : ∀ s : Int32 × Int32 × Int32 × Int32 × Int32 × aw_M, AW l k_X0_markThrow aw_gv 30 [some (.ref t), some (.int s.1), some (.int s.2.1), some (.int s.2.2.1), some (.int s.2.2.2.1), some (.int s.2.2.2.2.1)] [] s.2.2.2.2.2 (k30 s)) (x1 : Int32) (x2 : Int32) (x3 : Int32) (x4 : Int32) (x5 : Int32) (μ : aw_M) : AW l k_X0_markThrow aw_gv 58 [some (.ref t), some (.int x1), some (.int x2), some (.int x3), some (.int x4), some (.int x5)] [] μ (f_X0_markThrow_58 F t k30 x1 x2 x3 x4 x5 μ) := by
  unfold f_X0_markThrow_58
  refine aw_iinc (n := 61) (x5 + 1) [some (.ref t), some (.int x1), some (.int x2), some (.int x3), some (.int x4), some (.int (x5 + 1))] dX0_markThrow_58 rfl rfl (by rfl) rfl (Nat.le_of_ble_eq_true rfl) rfl ?_
  refine aw_goto 30 dX0_markThrow_61 (by decide) ?_
  exact aw_weak (hk30 (x1, x2, x3, x4, (x5 + 1), μ)) (aw_ss (aw_ss (aw_ss (aw_ss (aw_ss (aw_ss aw_s0))))))
def f_X0_markThrow_30 (F : Nat) (t : Nat) (k30 : Int32 × Int32 × Int32 × Int32 × Int32 × aw_M → Option (aw_M)) (x1 : Int32) (x2 : Int32) (x3 : Int32) (x4 : Int32) (x5 : Int32) (μ : aw_M) : Option (aw_M) :=
  (if (μ.1 t 18) ≤ x5 then
  f_X0_markThrow_64 F t x2 x4 μ
  else
  (if x5 = x1 then
  f_X0_markThrow_58 F t k30 x1 x2 x3 x4 x5 μ
  else
  (f_X0_isHitOn F t x5 x3 μ).bind fun r36 =>
  (if r36.1 = true then
  f_X0_markThrow_58 F t k30 x1 x2 x3 (x4 + 1) x5 r36.2
  else
  f_X0_markThrow_58 F t k30 x1 x2 x3 x4 x5 r36.2)))
theorem c_X0_markThrow_30 (l : Launch) (F : Nat) (t : Nat) (ht : (aw_sh t).1 = 5) : ∀ (N : Nat) (s : Int32 × Int32 × Int32 × Int32 × Int32 × aw_M), AW l k_X0_markThrow aw_gv 30 [some (.ref t), some (.int s.1), some (.int s.2.1), some (.int s.2.2.1), some (.int s.2.2.2.1), some (.int s.2.2.2.2.1)] [] s.2.2.2.2.2 (aw_loop (fun k s => f_X0_markThrow_30 F t k s.1 s.2.1 s.2.2.1 s.2.2.2.1 s.2.2.2.2.1 s.2.2.2.2.2) N s) := by
  refine aw_loop_ok (f := fun k s => f_X0_markThrow_30 F t k s.1 s.2.1 s.2.2.1 s.2.2.2.1 s.2.2.2.2.1 s.2.2.2.2.2) (Ls := fun s => [some (.ref t), some (.int s.1), some (.int s.2.1), some (.int s.2.2.1), some (.int s.2.2.2.1), some (.int s.2.2.2.2.1)]) (ms := fun s => s.2.2.2.2.2) ?_
  intro k30 hk30 s
  obtain ⟨x1, x2, x3, x4, x5, μ⟩ := s
  show AW l k_X0_markThrow aw_gv 30 [some (.ref t), some (.int x1), some (.int x2), some (.int x3), some (.int x4), some (.int x5)] [] μ (f_X0_markThrow_30 F t k30 x1 x2 x3 x4 x5 μ)
  unfold f_X0_markThrow_30
  refine aw_iload (n := 32) dX0_markThrow_30 rfl rfl ?_
  refine aw_aload_n (n := 33) dX0_markThrow_32 rfl rfl ?_
  refine aw_getI (n := 36) (RX0, TX0, 20) 0 18 dX0_markThrow_33 rfl ht (by decide) fd_RX0_73 ?_
  refine aw_icmp_ge (n := 39) 64 dX0_markThrow_36 (by decide) rfl ?_ ?_
  · exact aw_weak (c_X0_markThrow_64 l F t ht x2 x4 μ) (aw_ss (aw_sn (aw_ss (aw_sn (aw_ss (aw_sn aw_s0))))))
  · refine aw_iload (n := 41) dX0_markThrow_39 rfl rfl ?_
    refine aw_iload_n (n := 42) dX0_markThrow_41 rfl rfl ?_
    refine aw_icmp_eq (n := 45) 58 dX0_markThrow_42 (by decide) rfl ?_ ?_
    · exact aw_weak (c_X0_markThrow_58 l F t ht k30 hk30 x1 x2 x3 x4 x5 μ) (aw_ss (aw_ss (aw_ss (aw_ss (aw_ss (aw_ss aw_s0))))))
    · refine aw_aload_n (n := 46) dX0_markThrow_45 rfl rfl ?_
      refine aw_iload (n := 48) dX0_markThrow_46 rfl rfl ?_
      refine aw_iload_n (n := 49) dX0_markThrow_48 rfl rfl ?_
      refine aw_callVz (n := 52) (as := [.int x5, .int x3]) (st := []) (RX0, TX0, 20) 0 dX0_markThrow_49 rfl rfl (m_X0_isHitOn l F t ht x5 x3 μ) ht (by decide) rfl rfl cw_RX0_210 ⟨Nat.le_of_ble_eq_true rfl, Nat.le_of_ble_eq_true rfl⟩ (fun _ => Nat.le_of_ble_eq_true rfl) (fun r36 => ?_)
      refine aw_ifb_eq (n := 55) 58 dX0_markThrow_52 (by decide) rfl ?_ ?_
      · exact aw_weak (c_X0_markThrow_58 l F t ht k30 hk30 x1 x2 x3 x4 x5 r36.2) (aw_ss (aw_ss (aw_ss (aw_ss (aw_ss (aw_ss aw_s0))))))
      · refine aw_iinc (n := 58) (x4 + 1) [some (.ref t), some (.int x1), some (.int x2), some (.int x3), some (.int (x4 + 1)), some (.int x5)] dX0_markThrow_55 rfl rfl (by rfl) rfl (Nat.le_of_ble_eq_true rfl) rfl ?_
        exact aw_weak (c_X0_markThrow_58 l F t ht k30 hk30 x1 x2 x3 (x4 + 1) x5 r36.2) (aw_ss (aw_ss (aw_ss (aw_ss (aw_ss (aw_ss aw_s0))))))
def f_X0_markThrow (F : Nat) (t : Nat) (a0 : Int32) (μ : aw_M) : Option (aw_M) :=
  aw_let ((a0 * 6)) fun v28 =>
  aw_g (aw_in (v28 + 1) 54) (aw_let ((μ.1 (aw_rf t 19) (v28 + 1).toNatClampNeg)) fun v29 =>
  (f_X0_isHitOn F t a0 v29 μ).bind fun r30 =>
  (if r30.1 = true then
  aw_loop (fun k s => f_X0_markThrow_30 F t k s.1 s.2.1 s.2.2.1 s.2.2.2.1 s.2.2.2.2.1 s.2.2.2.2.2) F (a0, v28, v29, 0, 0, r30.2)
  else
  some r30.2))
theorem m_X0_markThrow (l : Launch) (F : Nat) (t : Nat) (ht : (aw_sh t).1 = 5) (a0 : Int32) (μ : aw_M) : AM l yX0_markThrow cX0_markThrow 6 none 2 145 aw_gv [.ref t, .int a0] μ (f_X0_markThrow F t a0 μ) := by
  refine aw_met [some (.ref t), some (.int a0), none, none, none, none] (by decide) (fun _ => rfl) (fun _ => Nat.le_of_ble_eq_true rfl) ?_
  show AW l k_X0_markThrow aw_gv 0 [some (.ref t), some (.int a0), none, none, none, none] [] μ _
  unfold f_X0_markThrow
  refine aw_iload_n (n := 1) dX0_markThrow_0 rfl rfl ?_
  refine aw_bipush (n := 3) 6 dX0_markThrow_1 rfl (by decide) ?_
  refine aw_imul (n := 4) dX0_markThrow_3 rfl ?_
  refine aw_nmI (fun v28 => ?_)
  refine aw_istore_n (n := 5) [some (.ref t), some (.int a0), some (.int v28), none, none, none] dX0_markThrow_4 rfl rfl (Nat.le_of_ble_eq_true rfl) (Nat.le_of_ble_eq_true rfl) rfl ?_
  refine aw_aload_n (n := 6) dX0_markThrow_5 rfl rfl ?_
  refine aw_getR (n := 9) (RX0, TX0, 20) 0 19 dX0_markThrow_6 rfl ht (by decide) fd_RX0_42 ?_
  refine aw_iload_n (n := 10) dX0_markThrow_9 rfl rfl ?_
  refine aw_iconst (n := 11) 1 dX0_markThrow_10 rfl (by decide) ?_
  refine aw_iadd (n := 12) dX0_markThrow_11 rfl ?_
  refine aw_iaload (n := 13) 54 dX0_markThrow_12 rfl (sf_0_19 ht) ?_
  refine aw_nmI (fun v29 => ?_)
  refine aw_istore_n (n := 14) [some (.ref t), some (.int a0), some (.int v28), some (.int v29), none, none] dX0_markThrow_13 rfl rfl (Nat.le_of_ble_eq_true rfl) (Nat.le_of_ble_eq_true rfl) rfl ?_
  refine aw_aload_n (n := 15) dX0_markThrow_14 rfl rfl ?_
  refine aw_iload_n (n := 16) dX0_markThrow_15 rfl rfl ?_
  refine aw_iload_n (n := 17) dX0_markThrow_16 rfl rfl ?_
  refine aw_callVz (n := 20) (as := [.int a0, .int v29]) (st := []) (RX0, TX0, 20) 0 dX0_markThrow_17 rfl rfl (m_X0_isHitOn l F t ht a0 v29 μ) ht (by decide) rfl rfl cw_RX0_210 ⟨Nat.le_of_ble_eq_true rfl, Nat.le_of_ble_eq_true rfl⟩ (fun _ => Nat.le_of_ble_eq_true rfl) (fun r30 => ?_)
  refine aw_ifb_ne (n := 23) 24 dX0_markThrow_20 (by decide) rfl ?_ ?_
  · refine aw_iconst (n := 25) 0 dX0_markThrow_24 rfl (by decide) ?_
    refine aw_istore (n := 27) [some (.ref t), some (.int a0), some (.int v28), some (.int v29), some (.int 0), none] dX0_markThrow_25 rfl rfl (Nat.le_of_ble_eq_true rfl) (Nat.le_of_ble_eq_true rfl) rfl ?_
    refine aw_iconst (n := 28) 0 dX0_markThrow_27 rfl (by decide) ?_
    refine aw_istore (n := 30) [some (.ref t), some (.int a0), some (.int v28), some (.int v29), some (.int 0), some (.int 0)] dX0_markThrow_28 rfl rfl (Nat.le_of_ble_eq_true rfl) (Nat.le_of_ble_eq_true rfl) rfl ?_
    exact aw_weak (c_X0_markThrow_30 l F t ht F (a0, v28, v29, 0, 0, r30.2)) (aw_ss (aw_ss (aw_ss (aw_ss (aw_ss (aw_ss aw_s0))))))
  · exact aw_vreturn dX0_markThrow_23 rfl rfl
abbrev k_X0_draw : aw_K := (RX0, cX0_draw, 2, (some .int), 1, 120)
def f_X0_draw (F : Nat) (t : Nat) (a0 : Int32) (μ : aw_M) : Option (Int32 × aw_M) :=
  aw_let (aw_wI μ t 5 (((μ.1 t 5) * 1103515245) + 12345)) fun μ1 =>
  (if a0 ≤ 0 then
  some (0, μ1)
  else
  aw_g (aw_nz a0) (some ((((((μ1.1 t 5)).toUInt32 >>> ((8 : Int32).toUInt32 &&& Int32.toUInt32 31)).toInt32) - ((((μ1.1 t 5)).toUInt32 >>> ((8 : Int32).toUInt32 &&& Int32.toUInt32 31)).toInt32) / a0 * a0), μ1)))
theorem m_X0_draw (l : Launch) (F : Nat) (t : Nat) (ht : (aw_sh t).1 = 5) (a0 : Int32) (μ : aw_M) : AM l yX0_draw cX0_draw 2 (some .int) 1 120 aw_gi [.ref t, .int a0] μ (f_X0_draw F t a0 μ) := by
  refine aw_met [some (.ref t), some (.int a0)] (by decide) (fun _ => rfl) (fun _ => Nat.le_of_ble_eq_true rfl) ?_
  show AW l k_X0_draw aw_gi 0 [some (.ref t), some (.int a0)] [] μ _
  unfold f_X0_draw
  refine aw_aload_n (n := 1) dX0_draw_0 rfl rfl ?_
  refine aw_aload_n (n := 2) dX0_draw_1 rfl rfl ?_
  refine aw_getI (n := 5) (RX0, TX0, 20) 0 5 dX0_draw_2 rfl ht (by decide) fd_RX0_64 ?_
  refine aw_ldc (n := 7) dX0_draw_5 rfl tb_977 ?_
  refine aw_imul (n := 8) dX0_draw_7 rfl ?_
  refine aw_sipush (n := 11) 12345 dX0_draw_8 rfl (by decide) ?_
  refine aw_iadd (n := 12) dX0_draw_11 rfl ?_
  refine aw_putI (n := 15) (RX0, TX0, 20) 0 5 dX0_draw_12 rfl ht (by decide) fp_RX0_64 (fun μ1 => ?_)
  refine aw_iload_n (n := 16) dX0_draw_15 rfl rfl ?_
  refine aw_if_le (n := 19) 31 dX0_draw_16 (by decide) rfl ?_ ?_
  · refine aw_iconst (n := 32) 0 dX0_draw_31 rfl (by decide) ?_
    exact aw_ireturn dX0_draw_32 rfl rfl
  · refine aw_aload_n (n := 20) dX0_draw_19 rfl rfl ?_
    refine aw_getI (n := 23) (RX0, TX0, 20) 0 5 dX0_draw_20 rfl ht (by decide) fd_RX0_64 ?_
    refine aw_bipush (n := 25) 8 dX0_draw_23 rfl (by decide) ?_
    refine aw_iushr (n := 26) dX0_draw_25 rfl ?_
    refine aw_iload_n (n := 27) dX0_draw_26 rfl rfl ?_
    refine aw_irem (n := 28) dX0_draw_27 rfl ?_
    refine aw_goto 32 dX0_draw_28 (by decide) ?_
    exact aw_ireturn dX0_draw_32 rfl rfl
abbrev k_X0_kindOf : aw_K := (RX0, cX0_kindOf, 5, (some .int), 2, 142)
def f_X0_kindOf_78 (F : Nat) (t : Nat) (x3 : Int32) (μ : aw_M) : Option (Int32 × aw_M) :=
  (if 2 < x3 then
  some (4, μ)
  else
  some (3, μ))
theorem c_X0_kindOf_78 (l : Launch) (F : Nat) (t : Nat) (ht : (aw_sh t).1 = 5) (x3 : Int32) (μ : aw_M) : AW l k_X0_kindOf aw_gi 78 [none, none, none, some (.int x3), none] [] μ (f_X0_kindOf_78 F t x3 μ) := by
  unfold f_X0_kindOf_78
  refine aw_iload_n (n := 79) dX0_kindOf_78 rfl rfl ?_
  refine aw_iconst (n := 80) 2 dX0_kindOf_79 rfl (by decide) ?_
  refine aw_icmp_gt (n := 83) 87 dX0_kindOf_80 (by decide) rfl ?_ ?_
  · refine aw_iconst (n := 88) 4 dX0_kindOf_87 rfl (by decide) ?_
    exact aw_ireturn dX0_kindOf_88 rfl rfl
  · refine aw_iconst (n := 84) 3 dX0_kindOf_83 rfl (by decide) ?_
    refine aw_goto 88 dX0_kindOf_84 (by decide) ?_
    exact aw_ireturn dX0_kindOf_88 rfl rfl
def f_X0_kindOf_53 (F : Nat) (t : Nat) (x1 : Int32) (x3 : Int32) (μ : aw_M) : Option (Int32 × aw_M) :=
  aw_g (aw_in x1 9) ((if (μ.1 (aw_rf (aw_rf t 1) 3) x1.toNatClampNeg) = 1 then
  (if ((μ.1 t 4) - (μ.1 t 4) / 2 * 2) = 1 then
  some (2, μ)
  else
  f_X0_kindOf_78 F t x3 μ)
  else
  f_X0_kindOf_78 F t x3 μ))
theorem c_X0_kindOf_53 (l : Launch) (F : Nat) (t : Nat) (ht : (aw_sh t).1 = 5) (x1 : Int32) (x3 : Int32) (μ : aw_M) : AW l k_X0_kindOf aw_gi 53 [some (.ref t), some (.int x1), none, some (.int x3), none] [] μ (f_X0_kindOf_53 F t x1 x3 μ) := by
  unfold f_X0_kindOf_53
  refine aw_aload_n (n := 54) dX0_kindOf_53 rfl rfl ?_
  refine aw_getR (n := 57) (RX0, TX0, 20) 0 1 dX0_kindOf_54 rfl ht (by decide) fd_RX0_49 ?_
  refine aw_getR (n := 60) (RX2, TX2, 4) 2 3 dX0_kindOf_57 rfl (sf_0_1 ht) (by decide) fd_RX0_206 ?_
  refine aw_iload_n (n := 61) dX0_kindOf_60 rfl rfl ?_
  refine aw_iaload (n := 62) 9 dX0_kindOf_61 rfl (sf_2_3 (sf_0_1 ht)) ?_
  refine aw_iconst (n := 63) 1 dX0_kindOf_62 rfl (by decide) ?_
  refine aw_icmp_ne (n := 66) 78 dX0_kindOf_63 (by decide) rfl ?_ ?_
  · exact aw_weak (c_X0_kindOf_78 l F t ht x3 μ) (aw_sn (aw_sn (aw_sn (aw_ss (aw_sn aw_s0)))))
  · refine aw_aload_n (n := 67) dX0_kindOf_66 rfl rfl ?_
    refine aw_getI (n := 70) (RX0, TX0, 20) 0 4 dX0_kindOf_67 rfl ht (by decide) fd_RX0_61 ?_
    refine aw_iconst (n := 71) 2 dX0_kindOf_70 rfl (by decide) ?_
    refine aw_iremK (n := 72) dX0_kindOf_71 rfl (by decide) ?_
    refine aw_iconst (n := 73) 1 dX0_kindOf_72 rfl (by decide) ?_
    refine aw_icmp_ne (n := 76) 78 dX0_kindOf_73 (by decide) rfl ?_ ?_
    · exact aw_weak (c_X0_kindOf_78 l F t ht x3 μ) (aw_sn (aw_sn (aw_sn (aw_ss (aw_sn aw_s0)))))
    · refine aw_iconst (n := 77) 2 dX0_kindOf_76 rfl (by decide) ?_
      exact aw_ireturn dX0_kindOf_77 rfl rfl
def f_X0_kindOf (F : Nat) (t : Nat) (a0 : Int32) (a1 : Int32) (a2 : Int32) (μ : aw_M) : Option (Int32 × aw_M) :=
  (f_X1_bars F (aw_rf t 2) a1 a2 μ).bind fun r4 =>
  (if r4.1 = true then
  some (0, r4.2)
  else
  aw_g (aw_in a0 9) (aw_let ((r4.2.1 (aw_rf (aw_rf t 0) 6) a0.toNatClampNeg)) fun v5 =>
  aw_g (aw_in v5 100) ((if (r4.2.1 (aw_rf t 17) v5.toNatClampNeg) = 0 then
  (f_X0_draw F t 40 r4.2).bind fun r6 =>
  aw_g (aw_in v5 100) ((if (r6.2.1 (aw_rf t 16) v5.toNatClampNeg) ≤ r6.1 then
  f_X0_kindOf_53 F t a0 a2 r6.2
  else
  some (1, r6.2)))
  else
  f_X0_kindOf_53 F t a0 a2 r4.2))))
theorem m_X0_kindOf (l : Launch) (F : Nat) (t : Nat) (ht : (aw_sh t).1 = 5) (a0 : Int32) (a1 : Int32) (a2 : Int32) (μ : aw_M) : AM l yX0_kindOf cX0_kindOf 5 (some .int) 2 142 aw_gi [.ref t, .int a0, .int a1, .int a2] μ (f_X0_kindOf F t a0 a1 a2 μ) := by
  refine aw_met [some (.ref t), some (.int a0), some (.int a1), some (.int a2), none] (by decide) (fun _ => rfl) (fun _ => Nat.le_of_ble_eq_true rfl) ?_
  show AW l k_X0_kindOf aw_gi 0 [some (.ref t), some (.int a0), some (.int a1), some (.int a2), none] [] μ _
  unfold f_X0_kindOf
  refine aw_aload_n (n := 1) dX0_kindOf_0 rfl rfl ?_
  refine aw_getR (n := 4) (RX0, TX0, 20) 0 2 dX0_kindOf_1 rfl ht (by decide) fd_RX0_53 ?_
  refine aw_iload_n (n := 5) dX0_kindOf_4 rfl rfl ?_
  refine aw_iload_n (n := 6) dX0_kindOf_5 rfl rfl ?_
  refine aw_callVz (n := 9) (as := [.int a1, .int a2]) (st := []) (RX1, TX1, 12) 1 dX0_kindOf_6 rfl rfl (m_X1_bars l F (aw_rf t 2) (sf_0_2 ht) a1 a2 μ) (sf_0_2 ht) (by decide) rfl rfl cw_RX0_198 ⟨Nat.le_of_ble_eq_true rfl, Nat.le_of_ble_eq_true rfl⟩ (fun _ => Nat.le_of_ble_eq_true rfl) (fun r4 => ?_)
  refine aw_ifb_eq (n := 12) 14 dX0_kindOf_9 (by decide) rfl ?_ ?_
  · refine aw_aload_n (n := 15) dX0_kindOf_14 rfl rfl ?_
    refine aw_getR (n := 18) (RX0, TX0, 20) 0 0 dX0_kindOf_15 rfl ht (by decide) fd_RX0_45 ?_
    refine aw_getR (n := 21) (RX8, TX8, 20) 8 6 dX0_kindOf_18 rfl (sf_0_0 ht) (by decide) fd_RX0_180 ?_
    refine aw_iload_n (n := 22) dX0_kindOf_21 rfl rfl ?_
    refine aw_iaload (n := 23) 9 dX0_kindOf_22 rfl (sf_8_6 (sf_0_0 ht)) ?_
    refine aw_nmI (fun v5 => ?_)
    refine aw_istore (n := 25) [some (.ref t), some (.int a0), some (.int a1), some (.int a2), some (.int v5)] dX0_kindOf_23 rfl rfl (Nat.le_of_ble_eq_true rfl) (Nat.le_of_ble_eq_true rfl) rfl ?_
    refine aw_aload_n (n := 26) dX0_kindOf_25 rfl rfl ?_
    refine aw_getR (n := 29) (RX0, TX0, 20) 0 17 dX0_kindOf_26 rfl ht (by decide) fd_RX0_39 ?_
    refine aw_iload (n := 31) dX0_kindOf_29 rfl rfl ?_
    refine aw_iaload (n := 32) 100 dX0_kindOf_31 rfl (sf_0_17 ht) ?_
    refine aw_if_ne (n := 35) 53 dX0_kindOf_32 (by decide) rfl ?_ ?_
    · exact aw_weak (c_X0_kindOf_53 l F t ht a0 a2 r4.2) (aw_ss (aw_ss (aw_sn (aw_ss (aw_sn aw_s0)))))
    · refine aw_aload_n (n := 36) dX0_kindOf_35 rfl rfl ?_
      refine aw_bipush (n := 38) 40 dX0_kindOf_36 rfl (by decide) ?_
      refine aw_callVi (n := 41) (as := [.int 40]) (st := []) (RX0, TX0, 20) 0 dX0_kindOf_38 rfl rfl (m_X0_draw l F t ht 40 r4.2) ht (by decide) rfl rfl cw_RX0_202 ⟨Nat.le_of_ble_eq_true rfl, Nat.le_of_ble_eq_true rfl⟩ (fun _ => Nat.le_of_ble_eq_true rfl) (fun r6 => ?_)
      refine aw_aload_n (n := 42) dX0_kindOf_41 rfl rfl ?_
      refine aw_getR (n := 45) (RX0, TX0, 20) 0 16 dX0_kindOf_42 rfl ht (by decide) fd_RX0_36 ?_
      refine aw_iload (n := 47) dX0_kindOf_45 rfl rfl ?_
      refine aw_iaload (n := 48) 100 dX0_kindOf_47 rfl (sf_0_16 ht) ?_
      refine aw_icmp_ge (n := 51) 53 dX0_kindOf_48 (by decide) rfl ?_ ?_
      · exact aw_weak (c_X0_kindOf_53 l F t ht a0 a2 r6.2) (aw_ss (aw_ss (aw_sn (aw_ss (aw_sn aw_s0)))))
      · refine aw_iconst (n := 52) 1 dX0_kindOf_51 rfl (by decide) ?_
        exact aw_ireturn dX0_kindOf_52 rfl rfl
  · refine aw_iconst (n := 13) 0 dX0_kindOf_12 rfl (by decide) ?_
    exact aw_ireturn dX0_kindOf_13 rfl rfl
abbrev k_X0_tellThrow : aw_K := (RX0, cX0_tellThrow, 6, none, 1, 120)
def f_X0_tellThrow (F : Nat) (t : Nat) (a0 : Int32) (a1 : Int32) (a2 : Int32) (a3 : Int32) (μ : aw_M) : Option (aw_M) :=
  aw_let (((μ.1 t 18) * 6)) fun v1 =>
  aw_g (aw_in v1 54) (aw_let (aw_wI μ (aw_rf t 19) v1.toNatClampNeg a0) fun μ2 =>
  aw_g (aw_in (v1 + 1) 54) (aw_let (aw_wI μ2 (aw_rf t 19) (v1 + 1).toNatClampNeg a1) fun μ3 =>
  aw_g (aw_in (v1 + 2) 54) (aw_let (aw_wI μ3 (aw_rf t 19) (v1 + 2).toNatClampNeg a2) fun μ4 =>
  aw_g (aw_in (v1 + 3) 54) (aw_let (aw_wI μ4 (aw_rf t 19) (v1 + 3).toNatClampNeg a3) fun μ5 =>
  aw_g (aw_in (v1 + 4) 54) (aw_let (aw_wI μ5 (aw_rf t 19) (v1 + 4).toNatClampNeg 0) fun μ6 =>
  aw_g (aw_in (v1 + 5) 54) (aw_let (aw_wI μ6 (aw_rf t 19) (v1 + 5).toNatClampNeg 0) fun μ7 =>
  aw_let (aw_wI μ7 t 18 ((μ7.1 t 18) + 1)) fun μ8 =>
  some μ8))))))
theorem m_X0_tellThrow (l : Launch) (F : Nat) (t : Nat) (ht : (aw_sh t).1 = 5) (a0 : Int32) (a1 : Int32) (a2 : Int32) (a3 : Int32) (μ : aw_M) : AM l yX0_tellThrow cX0_tellThrow 6 none 1 120 aw_gv [.ref t, .int a0, .int a1, .int a2, .int a3] μ (f_X0_tellThrow F t a0 a1 a2 a3 μ) := by
  refine aw_met [some (.ref t), some (.int a0), some (.int a1), some (.int a2), some (.int a3), none] (by decide) (fun _ => rfl) (fun _ => Nat.le_of_ble_eq_true rfl) ?_
  show AW l k_X0_tellThrow aw_gv 0 [some (.ref t), some (.int a0), some (.int a1), some (.int a2), some (.int a3), none] [] μ _
  unfold f_X0_tellThrow
  refine aw_aload_n (n := 1) dX0_tellThrow_0 rfl rfl ?_
  refine aw_getI (n := 4) (RX0, TX0, 20) 0 18 dX0_tellThrow_1 rfl ht (by decide) fd_RX0_73 ?_
  refine aw_bipush (n := 6) 6 dX0_tellThrow_4 rfl (by decide) ?_
  refine aw_imul (n := 7) dX0_tellThrow_6 rfl ?_
  refine aw_nmI (fun v1 => ?_)
  refine aw_istore (n := 9) [some (.ref t), some (.int a0), some (.int a1), some (.int a2), some (.int a3), some (.int v1)] dX0_tellThrow_7 rfl rfl (Nat.le_of_ble_eq_true rfl) (Nat.le_of_ble_eq_true rfl) rfl ?_
  refine aw_aload_n (n := 10) dX0_tellThrow_9 rfl rfl ?_
  refine aw_getR (n := 13) (RX0, TX0, 20) 0 19 dX0_tellThrow_10 rfl ht (by decide) fd_RX0_42 ?_
  refine aw_iload (n := 15) dX0_tellThrow_13 rfl rfl ?_
  refine aw_iload_n (n := 16) dX0_tellThrow_15 rfl rfl ?_
  refine aw_iastore (n := 17) 54 dX0_tellThrow_16 rfl (sf_0_19 ht) (fun μ2 => ?_)
  refine aw_aload_n (n := 18) dX0_tellThrow_17 rfl rfl ?_
  refine aw_getR (n := 21) (RX0, TX0, 20) 0 19 dX0_tellThrow_18 rfl ht (by decide) fd_RX0_42 ?_
  refine aw_iload (n := 23) dX0_tellThrow_21 rfl rfl ?_
  refine aw_iconst (n := 24) 1 dX0_tellThrow_23 rfl (by decide) ?_
  refine aw_iadd (n := 25) dX0_tellThrow_24 rfl ?_
  refine aw_iload_n (n := 26) dX0_tellThrow_25 rfl rfl ?_
  refine aw_iastore (n := 27) 54 dX0_tellThrow_26 rfl (sf_0_19 ht) (fun μ3 => ?_)
  refine aw_aload_n (n := 28) dX0_tellThrow_27 rfl rfl ?_
  refine aw_getR (n := 31) (RX0, TX0, 20) 0 19 dX0_tellThrow_28 rfl ht (by decide) fd_RX0_42 ?_
  refine aw_iload (n := 33) dX0_tellThrow_31 rfl rfl ?_
  refine aw_iconst (n := 34) 2 dX0_tellThrow_33 rfl (by decide) ?_
  refine aw_iadd (n := 35) dX0_tellThrow_34 rfl ?_
  refine aw_iload_n (n := 36) dX0_tellThrow_35 rfl rfl ?_
  refine aw_iastore (n := 37) 54 dX0_tellThrow_36 rfl (sf_0_19 ht) (fun μ4 => ?_)
  refine aw_aload_n (n := 38) dX0_tellThrow_37 rfl rfl ?_
  refine aw_getR (n := 41) (RX0, TX0, 20) 0 19 dX0_tellThrow_38 rfl ht (by decide) fd_RX0_42 ?_
  refine aw_iload (n := 43) dX0_tellThrow_41 rfl rfl ?_
  refine aw_iconst (n := 44) 3 dX0_tellThrow_43 rfl (by decide) ?_
  refine aw_iadd (n := 45) dX0_tellThrow_44 rfl ?_
  refine aw_iload (n := 47) dX0_tellThrow_45 rfl rfl ?_
  refine aw_iastore (n := 48) 54 dX0_tellThrow_47 rfl (sf_0_19 ht) (fun μ5 => ?_)
  refine aw_aload_n (n := 49) dX0_tellThrow_48 rfl rfl ?_
  refine aw_getR (n := 52) (RX0, TX0, 20) 0 19 dX0_tellThrow_49 rfl ht (by decide) fd_RX0_42 ?_
  refine aw_iload (n := 54) dX0_tellThrow_52 rfl rfl ?_
  refine aw_iconst (n := 55) 4 dX0_tellThrow_54 rfl (by decide) ?_
  refine aw_iadd (n := 56) dX0_tellThrow_55 rfl ?_
  refine aw_iconst (n := 57) 0 dX0_tellThrow_56 rfl (by decide) ?_
  refine aw_iastore (n := 58) 54 dX0_tellThrow_57 rfl (sf_0_19 ht) (fun μ6 => ?_)
  refine aw_aload_n (n := 59) dX0_tellThrow_58 rfl rfl ?_
  refine aw_getR (n := 62) (RX0, TX0, 20) 0 19 dX0_tellThrow_59 rfl ht (by decide) fd_RX0_42 ?_
  refine aw_iload (n := 64) dX0_tellThrow_62 rfl rfl ?_
  refine aw_iconst (n := 65) 5 dX0_tellThrow_64 rfl (by decide) ?_
  refine aw_iadd (n := 66) dX0_tellThrow_65 rfl ?_
  refine aw_iconst (n := 67) 0 dX0_tellThrow_66 rfl (by decide) ?_
  refine aw_iastore (n := 68) 54 dX0_tellThrow_67 rfl (sf_0_19 ht) (fun μ7 => ?_)
  refine aw_aload_n (n := 69) dX0_tellThrow_68 rfl rfl ?_
  refine aw_dup (n := 70) dX0_tellThrow_69 rfl (fun _ => rfl) ?_
  refine aw_getI (n := 73) (RX0, TX0, 20) 0 18 dX0_tellThrow_70 rfl ht (by decide) fd_RX0_73 ?_
  refine aw_iconst (n := 74) 1 dX0_tellThrow_73 rfl (by decide) ?_
  refine aw_iadd (n := 75) dX0_tellThrow_74 rfl ?_
  refine aw_putI (n := 78) (RX0, TX0, 20) 0 18 dX0_tellThrow_75 rfl ht (by decide) fp_RX0_73 (fun μ8 => ?_)
  exact aw_vreturn dX0_tellThrow_78 rfl rfl
abbrev k_X0_useBox : aw_K := (RX0, cX0_useBox, 4, none, 1, 120)
def f_X0_useBox (F : Nat) (t : Nat) (a0 : Int32) (a1 : Int32) (a2 : Int32) (μ : aw_M) : Option (aw_M) :=
  aw_g (aw_in a0 9) (aw_g (aw_in a0 9) (aw_let (aw_wI μ (aw_rf t 9) a0.toNatClampNeg ((μ.1 (aw_rf t 9) a0.toNatClampNeg) - 1)) fun μ1 =>
  aw_g (aw_in ((a0 * 20) + a1) 180) (aw_g (aw_in ((a0 * 20) + a1) 180) (aw_let (aw_wI μ1 (aw_rf t 13) ((a0 * 20) + a1).toNatClampNeg ((μ1.1 (aw_rf t 13) ((a0 * 20) + a1).toNatClampNeg) + 1)) fun μ2 =>
  aw_g (aw_in a2 100) (aw_g (aw_in a2 100) (aw_let (aw_wI μ2 (aw_rf t 16) a2.toNatClampNeg ((μ2.1 (aw_rf t 16) a2.toNatClampNeg) + 1)) fun μ3 =>
  aw_let (aw_wI μ3 t 6 ((μ3.1 t 6) + 1)) fun μ4 =>
  some μ4))))))
theorem m_X0_useBox (l : Launch) (F : Nat) (t : Nat) (ht : (aw_sh t).1 = 5) (a0 : Int32) (a1 : Int32) (a2 : Int32) (μ : aw_M) : AM l yX0_useBox cX0_useBox 4 none 1 120 aw_gv [.ref t, .int a0, .int a1, .int a2] μ (f_X0_useBox F t a0 a1 a2 μ) := by
  refine aw_met [some (.ref t), some (.int a0), some (.int a1), some (.int a2)] (by decide) (fun _ => rfl) (fun _ => Nat.le_of_ble_eq_true rfl) ?_
  show AW l k_X0_useBox aw_gv 0 [some (.ref t), some (.int a0), some (.int a1), some (.int a2)] [] μ _
  unfold f_X0_useBox
  refine aw_aload_n (n := 1) dX0_useBox_0 rfl rfl ?_
  refine aw_getR (n := 4) (RX0, TX0, 20) 0 9 dX0_useBox_1 rfl ht (by decide) fd_RX0_15 ?_
  refine aw_iload_n (n := 5) dX0_useBox_4 rfl rfl ?_
  refine aw_dup2 (n := 6) dX0_useBox_5 rfl (fun _ => rfl) (fun _ => rfl) ?_
  refine aw_iaload (n := 7) 9 dX0_useBox_6 rfl (sf_0_9 ht) ?_
  refine aw_iconst (n := 8) 1 dX0_useBox_7 rfl (by decide) ?_
  refine aw_isub (n := 9) dX0_useBox_8 rfl ?_
  refine aw_iastore (n := 10) 9 dX0_useBox_9 rfl (sf_0_9 ht) (fun μ1 => ?_)
  refine aw_aload_n (n := 11) dX0_useBox_10 rfl rfl ?_
  refine aw_getR (n := 14) (RX0, TX0, 20) 0 13 dX0_useBox_11 rfl ht (by decide) fd_RX0_27 ?_
  refine aw_iload_n (n := 15) dX0_useBox_14 rfl rfl ?_
  refine aw_bipush (n := 17) 20 dX0_useBox_15 rfl (by decide) ?_
  refine aw_imul (n := 18) dX0_useBox_17 rfl ?_
  refine aw_iload_n (n := 19) dX0_useBox_18 rfl rfl ?_
  refine aw_iadd (n := 20) dX0_useBox_19 rfl ?_
  refine aw_dup2 (n := 21) dX0_useBox_20 rfl (fun _ => rfl) (fun _ => rfl) ?_
  refine aw_iaload (n := 22) 180 dX0_useBox_21 rfl (sf_0_13 ht) ?_
  refine aw_iconst (n := 23) 1 dX0_useBox_22 rfl (by decide) ?_
  refine aw_iadd (n := 24) dX0_useBox_23 rfl ?_
  refine aw_iastore (n := 25) 180 dX0_useBox_24 rfl (sf_0_13 ht) (fun μ2 => ?_)
  refine aw_aload_n (n := 26) dX0_useBox_25 rfl rfl ?_
  refine aw_getR (n := 29) (RX0, TX0, 20) 0 16 dX0_useBox_26 rfl ht (by decide) fd_RX0_36 ?_
  refine aw_iload_n (n := 30) dX0_useBox_29 rfl rfl ?_
  refine aw_dup2 (n := 31) dX0_useBox_30 rfl (fun _ => rfl) (fun _ => rfl) ?_
  refine aw_iaload (n := 32) 100 dX0_useBox_31 rfl (sf_0_16 ht) ?_
  refine aw_iconst (n := 33) 1 dX0_useBox_32 rfl (by decide) ?_
  refine aw_iadd (n := 34) dX0_useBox_33 rfl ?_
  refine aw_iastore (n := 35) 100 dX0_useBox_34 rfl (sf_0_16 ht) (fun μ3 => ?_)
  refine aw_aload_n (n := 36) dX0_useBox_35 rfl rfl ?_
  refine aw_dup (n := 37) dX0_useBox_36 rfl (fun _ => rfl) ?_
  refine aw_getI (n := 40) (RX0, TX0, 20) 0 6 dX0_useBox_37 rfl ht (by decide) fd_RX0_67 ?_
  refine aw_iconst (n := 41) 1 dX0_useBox_40 rfl (by decide) ?_
  refine aw_iadd (n := 42) dX0_useBox_41 rfl ?_
  refine aw_putI (n := 45) (RX0, TX0, 20) 0 6 dX0_useBox_42 rfl ht (by decide) fp_RX0_67 (fun μ4 => ?_)
  exact aw_vreturn dX0_useBox_45 rfl rfl
abbrev k_X0_throwAt : aw_K := (RX0, cX0_throwAt, 6, none, 3, 166)
def f_X0_throwAt_123 (F : Nat) (t : Nat) (x1 : Int32) (x2 : Int32) (x4 : Int32) (x5 : Int32) (μ : aw_M) : Option (aw_M) :=
  aw_g (aw_in x4 5) (aw_g (aw_in x4 5) (aw_let (aw_wI μ (aw_rf t 8) x4.toNatClampNeg ((μ.1 (aw_rf t 8) x4.toNatClampNeg) + 1)) fun μ13 =>
  (f_X0_tellThrow F t x1 x2 x4 x5 μ13).bind fun r14 =>
  some r14))
theorem c_X0_throwAt_123 (l : Launch) (F : Nat) (t : Nat) (ht : (aw_sh t).1 = 5) (x1 : Int32) (x2 : Int32) (x4 : Int32) (x5 : Int32) (μ : aw_M) : AW l k_X0_throwAt aw_gv 123 [some (.ref t), some (.int x1), some (.int x2), none, some (.int x4), some (.int x5)] [] μ (f_X0_throwAt_123 F t x1 x2 x4 x5 μ) := by
  unfold f_X0_throwAt_123
  refine aw_aload_n (n := 124) dX0_throwAt_123 rfl rfl ?_
  refine aw_getR (n := 127) (RX0, TX0, 20) 0 8 dX0_throwAt_124 rfl ht (by decide) fd_RX0_9 ?_
  refine aw_iload (n := 129) dX0_throwAt_127 rfl rfl ?_
  refine aw_dup2 (n := 130) dX0_throwAt_129 rfl (fun _ => rfl) (fun _ => rfl) ?_
  refine aw_iaload (n := 131) 5 dX0_throwAt_130 rfl (sf_0_8 ht) ?_
  refine aw_iconst (n := 132) 1 dX0_throwAt_131 rfl (by decide) ?_
  refine aw_iadd (n := 133) dX0_throwAt_132 rfl ?_
  refine aw_iastore (n := 134) 5 dX0_throwAt_133 rfl (sf_0_8 ht) (fun μ13 => ?_)
  refine aw_aload_n (n := 135) dX0_throwAt_134 rfl rfl ?_
  refine aw_iload_n (n := 136) dX0_throwAt_135 rfl rfl ?_
  refine aw_iload_n (n := 137) dX0_throwAt_136 rfl rfl ?_
  refine aw_iload (n := 139) dX0_throwAt_137 rfl rfl ?_
  refine aw_iload (n := 141) dX0_throwAt_139 rfl rfl ?_
  refine aw_callVv (n := 144) (as := [.int x1, .int x2, .int x4, .int x5]) (st := []) (RX0, TX0, 20) 0 dX0_throwAt_141 rfl rfl (m_X0_tellThrow l F t ht x1 x2 x4 x5 μ13) ht (by decide) rfl rfl cw_RX0_194 ⟨Nat.le_of_ble_eq_true rfl, Nat.le_of_ble_eq_true rfl⟩ (fun _ => Nat.le_of_ble_eq_true rfl) (fun r14 => ?_)
  exact aw_vreturn dX0_throwAt_144 rfl rfl
def f_X0_throwAt (F : Nat) (t : Nat) (a0 : Int32) (a1 : Int32) (μ : aw_M) : Option (aw_M) :=
  aw_g (aw_in ((a0 * 20) + a1) 360) (aw_let ((μ.1 (aw_rf (aw_rf t 2) 0) ((a0 * 20) + a1).toNatClampNeg)) fun v11 =>
  (f_X0_kindOf F t a0 a1 v11 μ).bind fun r12 =>
  (if r12.1 = 2 then
  aw_g (aw_in a0 9) (aw_let (aw_wI r12.2 (aw_rf t 12) a0.toNatClampNeg 2) fun μ20 =>
  f_X0_throwAt_123 F t a0 a1 r12.1 0 μ20)
  else
  (if r12.1 = 1 then
  aw_g (aw_in a0 9) ((f_X0_useBox F t a0 a1 (r12.2.1 (aw_rf (aw_rf t 0) 6) a0.toNatClampNeg) r12.2).bind fun r19 =>
  f_X0_throwAt_123 F t a0 a1 r12.1 0 r19)
  else
  (if r12.1 = 0 then
  f_X0_throwAt_123 F t a0 a1 r12.1 0 r12.2
  else
  aw_g (aw_in a0 9) ((f_X8_hitOf F (aw_rf t 0) a0 a1 v11 (r12.2.1 (aw_rf t 12) a0.toNatClampNeg) r12.2).bind fun r15 =>
  aw_g (aw_in a0 9) (aw_let (aw_wI r15.2 (aw_rf t 12) a0.toNatClampNeg 0) fun μ16 =>
  aw_g (aw_in a1 20) (aw_g (aw_in a1 20) (aw_let (aw_wI μ16 (aw_rf t 15) a1.toNatClampNeg ((μ16.1 (aw_rf t 15) a1.toNatClampNeg) + r15.1)) fun μ17 =>
  aw_g (aw_in a1 20) ((f_X0_useBox F t a0 a1 (μ17.1 (aw_rf (aw_rf t 0) 11) a1.toNatClampNeg) μ17).bind fun r18 =>
  f_X0_throwAt_123 F t a0 a1 r12.1 r15.1 r18)))))))))
theorem m_X0_throwAt (l : Launch) (F : Nat) (t : Nat) (ht : (aw_sh t).1 = 5) (a0 : Int32) (a1 : Int32) (μ : aw_M) : AM l yX0_throwAt cX0_throwAt 6 none 3 166 aw_gv [.ref t, .int a0, .int a1] μ (f_X0_throwAt F t a0 a1 μ) := by
  refine aw_met [some (.ref t), some (.int a0), some (.int a1), none, none, none] (by decide) (fun _ => rfl) (fun _ => Nat.le_of_ble_eq_true rfl) ?_
  show AW l k_X0_throwAt aw_gv 0 [some (.ref t), some (.int a0), some (.int a1), none, none, none] [] μ _
  unfold f_X0_throwAt
  refine aw_aload_n (n := 1) dX0_throwAt_0 rfl rfl ?_
  refine aw_getR (n := 4) (RX0, TX0, 20) 0 2 dX0_throwAt_1 rfl ht (by decide) fd_RX0_53 ?_
  refine aw_getR (n := 7) (RX1, TX1, 12) 1 0 dX0_throwAt_4 rfl (sf_0_2 ht) (by decide) fd_RX0_173 ?_
  refine aw_iload_n (n := 8) dX0_throwAt_7 rfl rfl ?_
  refine aw_bipush (n := 10) 20 dX0_throwAt_8 rfl (by decide) ?_
  refine aw_imul (n := 11) dX0_throwAt_10 rfl ?_
  refine aw_iload_n (n := 12) dX0_throwAt_11 rfl rfl ?_
  refine aw_iadd (n := 13) dX0_throwAt_12 rfl ?_
  refine aw_iaload (n := 14) 360 dX0_throwAt_13 rfl (sf_1_0 (sf_0_2 ht)) ?_
  refine aw_nmI (fun v11 => ?_)
  refine aw_istore_n (n := 15) [some (.ref t), some (.int a0), some (.int a1), some (.int v11), none, none] dX0_throwAt_14 rfl rfl (Nat.le_of_ble_eq_true rfl) (Nat.le_of_ble_eq_true rfl) rfl ?_
  refine aw_aload_n (n := 16) dX0_throwAt_15 rfl rfl ?_
  refine aw_iload_n (n := 17) dX0_throwAt_16 rfl rfl ?_
  refine aw_iload_n (n := 18) dX0_throwAt_17 rfl rfl ?_
  refine aw_iload_n (n := 19) dX0_throwAt_18 rfl rfl ?_
  refine aw_callVi (n := 22) (as := [.int a0, .int a1, .int v11]) (st := []) (RX0, TX0, 20) 0 dX0_throwAt_19 rfl rfl (m_X0_kindOf l F t ht a0 a1 v11 μ) ht (by decide) rfl rfl cw_RX0_176 ⟨Nat.le_of_ble_eq_true rfl, Nat.le_of_ble_eq_true rfl⟩ (fun _ => Nat.le_of_ble_eq_true rfl) (fun r12 => ?_)
  refine aw_istore (n := 24) [some (.ref t), some (.int a0), some (.int a1), some (.int v11), some (.int r12.1), none] dX0_throwAt_22 rfl rfl (Nat.le_of_ble_eq_true rfl) (Nat.le_of_ble_eq_true rfl) rfl ?_
  refine aw_iconst (n := 25) 0 dX0_throwAt_24 rfl (by decide) ?_
  refine aw_istore (n := 27) [some (.ref t), some (.int a0), some (.int a1), some (.int v11), some (.int r12.1), some (.int 0)] dX0_throwAt_25 rfl rfl (Nat.le_of_ble_eq_true rfl) (Nat.le_of_ble_eq_true rfl) rfl ?_
  refine aw_iload (n := 29) dX0_throwAt_27 rfl rfl ?_
  refine aw_iconst (n := 30) 2 dX0_throwAt_29 rfl (by decide) ?_
  refine aw_icmp_ne (n := 33) 43 dX0_throwAt_30 (by decide) rfl ?_ ?_
  · refine aw_iload (n := 45) dX0_throwAt_43 rfl rfl ?_
    refine aw_iconst (n := 46) 1 dX0_throwAt_45 rfl (by decide) ?_
    refine aw_icmp_ne (n := 49) 67 dX0_throwAt_46 (by decide) rfl ?_ ?_
    · refine aw_iload (n := 69) dX0_throwAt_67 rfl rfl ?_
      refine aw_if_eq (n := 72) 123 dX0_throwAt_69 (by decide) rfl ?_ ?_
      · exact aw_weak (c_X0_throwAt_123 l F t ht a0 a1 r12.1 0 r12.2) (aw_ss (aw_ss (aw_ss (aw_sn (aw_ss (aw_ss aw_s0))))))
      · refine aw_aload_n (n := 73) dX0_throwAt_72 rfl rfl ?_
        refine aw_getR (n := 76) (RX0, TX0, 20) 0 0 dX0_throwAt_73 rfl ht (by decide) fd_RX0_45 ?_
        refine aw_iload_n (n := 77) dX0_throwAt_76 rfl rfl ?_
        refine aw_iload_n (n := 78) dX0_throwAt_77 rfl rfl ?_
        refine aw_iload_n (n := 79) dX0_throwAt_78 rfl rfl ?_
        refine aw_aload_n (n := 80) dX0_throwAt_79 rfl rfl ?_
        refine aw_getR (n := 83) (RX0, TX0, 20) 0 12 dX0_throwAt_80 rfl ht (by decide) fd_RX0_24 ?_
        refine aw_iload_n (n := 84) dX0_throwAt_83 rfl rfl ?_
        refine aw_iaload (n := 85) 9 dX0_throwAt_84 rfl (sf_0_12 ht) ?_
        refine aw_callVi (n := 88) (as := [.int a0, .int a1, .int v11, .int (r12.2.1 (aw_rf t 12) a0.toNatClampNeg)]) (st := []) (RX8, TX8, 20) 8 dX0_throwAt_85 rfl rfl (m_X8_hitOf l F (aw_rf t 0) (sf_0_0 ht) a0 a1 v11 (r12.2.1 (aw_rf t 12) a0.toNatClampNeg) r12.2) (sf_0_0 ht) (by decide) rfl rfl cw_RX0_187 ⟨Nat.le_of_ble_eq_true rfl, Nat.le_of_ble_eq_true rfl⟩ (fun _ => Nat.le_of_ble_eq_true rfl) (fun r15 => ?_)
        refine aw_istore (n := 90) [some (.ref t), some (.int a0), some (.int a1), some (.int v11), some (.int r12.1), some (.int r15.1)] dX0_throwAt_88 rfl rfl (Nat.le_of_ble_eq_true rfl) (Nat.le_of_ble_eq_true rfl) rfl ?_
        refine aw_aload_n (n := 91) dX0_throwAt_90 rfl rfl ?_
        refine aw_getR (n := 94) (RX0, TX0, 20) 0 12 dX0_throwAt_91 rfl ht (by decide) fd_RX0_24 ?_
        refine aw_iload_n (n := 95) dX0_throwAt_94 rfl rfl ?_
        refine aw_iconst (n := 96) 0 dX0_throwAt_95 rfl (by decide) ?_
        refine aw_iastore (n := 97) 9 dX0_throwAt_96 rfl (sf_0_12 ht) (fun μ16 => ?_)
        refine aw_aload_n (n := 98) dX0_throwAt_97 rfl rfl ?_
        refine aw_getR (n := 101) (RX0, TX0, 20) 0 15 dX0_throwAt_98 rfl ht (by decide) fd_RX0_33 ?_
        refine aw_iload_n (n := 102) dX0_throwAt_101 rfl rfl ?_
        refine aw_dup2 (n := 103) dX0_throwAt_102 rfl (fun _ => rfl) (fun _ => rfl) ?_
        refine aw_iaload (n := 104) 20 dX0_throwAt_103 rfl (sf_0_15 ht) ?_
        refine aw_iload (n := 106) dX0_throwAt_104 rfl rfl ?_
        refine aw_iadd (n := 107) dX0_throwAt_106 rfl ?_
        refine aw_iastore (n := 108) 20 dX0_throwAt_107 rfl (sf_0_15 ht) (fun μ17 => ?_)
        refine aw_aload_n (n := 109) dX0_throwAt_108 rfl rfl ?_
        refine aw_iload_n (n := 110) dX0_throwAt_109 rfl rfl ?_
        refine aw_iload_n (n := 111) dX0_throwAt_110 rfl rfl ?_
        refine aw_aload_n (n := 112) dX0_throwAt_111 rfl rfl ?_
        refine aw_getR (n := 115) (RX0, TX0, 20) 0 0 dX0_throwAt_112 rfl ht (by decide) fd_RX0_45 ?_
        refine aw_getR (n := 118) (RX8, TX8, 20) 8 11 dX0_throwAt_115 rfl (sf_0_0 ht) (by decide) fd_RX0_191 ?_
        refine aw_iload_n (n := 119) dX0_throwAt_118 rfl rfl ?_
        refine aw_iaload (n := 120) 20 dX0_throwAt_119 rfl (sf_8_11 (sf_0_0 ht)) ?_
        refine aw_callVv (n := 123) (as := [.int a0, .int a1, .int (μ17.1 (aw_rf (aw_rf t 0) 11) a1.toNatClampNeg)]) (st := []) (RX0, TX0, 20) 0 dX0_throwAt_120 rfl rfl (m_X0_useBox l F t ht a0 a1 (μ17.1 (aw_rf (aw_rf t 0) 11) a1.toNatClampNeg) μ17) ht (by decide) rfl rfl cw_RX0_183 ⟨Nat.le_of_ble_eq_true rfl, Nat.le_of_ble_eq_true rfl⟩ (fun _ => Nat.le_of_ble_eq_true rfl) (fun r18 => ?_)
        exact aw_weak (c_X0_throwAt_123 l F t ht a0 a1 r12.1 r15.1 r18) (aw_ss (aw_ss (aw_ss (aw_sn (aw_ss (aw_ss aw_s0))))))
    · refine aw_aload_n (n := 50) dX0_throwAt_49 rfl rfl ?_
      refine aw_iload_n (n := 51) dX0_throwAt_50 rfl rfl ?_
      refine aw_iload_n (n := 52) dX0_throwAt_51 rfl rfl ?_
      refine aw_aload_n (n := 53) dX0_throwAt_52 rfl rfl ?_
      refine aw_getR (n := 56) (RX0, TX0, 20) 0 0 dX0_throwAt_53 rfl ht (by decide) fd_RX0_45 ?_
      refine aw_getR (n := 59) (RX8, TX8, 20) 8 6 dX0_throwAt_56 rfl (sf_0_0 ht) (by decide) fd_RX0_180 ?_
      refine aw_iload_n (n := 60) dX0_throwAt_59 rfl rfl ?_
      refine aw_iaload (n := 61) 9 dX0_throwAt_60 rfl (sf_8_6 (sf_0_0 ht)) ?_
      refine aw_callVv (n := 64) (as := [.int a0, .int a1, .int (r12.2.1 (aw_rf (aw_rf t 0) 6) a0.toNatClampNeg)]) (st := []) (RX0, TX0, 20) 0 dX0_throwAt_61 rfl rfl (m_X0_useBox l F t ht a0 a1 (r12.2.1 (aw_rf (aw_rf t 0) 6) a0.toNatClampNeg) r12.2) ht (by decide) rfl rfl cw_RX0_183 ⟨Nat.le_of_ble_eq_true rfl, Nat.le_of_ble_eq_true rfl⟩ (fun _ => Nat.le_of_ble_eq_true rfl) (fun r19 => ?_)
      refine aw_goto 123 dX0_throwAt_64 (by decide) ?_
      exact aw_weak (c_X0_throwAt_123 l F t ht a0 a1 r12.1 0 r19) (aw_ss (aw_ss (aw_ss (aw_sn (aw_ss (aw_ss aw_s0))))))
  · refine aw_aload_n (n := 34) dX0_throwAt_33 rfl rfl ?_
    refine aw_getR (n := 37) (RX0, TX0, 20) 0 12 dX0_throwAt_34 rfl ht (by decide) fd_RX0_24 ?_
    refine aw_iload_n (n := 38) dX0_throwAt_37 rfl rfl ?_
    refine aw_iconst (n := 39) 2 dX0_throwAt_38 rfl (by decide) ?_
    refine aw_iastore (n := 40) 9 dX0_throwAt_39 rfl (sf_0_12 ht) (fun μ20 => ?_)
    refine aw_goto 123 dX0_throwAt_40 (by decide) ?_
    exact aw_weak (c_X0_throwAt_123 l F t ht a0 a1 r12.1 0 μ20) (aw_ss (aw_ss (aw_ss (aw_sn (aw_ss (aw_ss aw_s0))))))
abbrev k_X0_throwBack : aw_K := (RX0, cX0_throwBack, 3, none, 1, 120)
def f_X0_throwBack (F : Nat) (t : Nat) (a0 : Int32) (μ : aw_M) : Option (aw_M) :=
  aw_g (aw_in a0 20) (aw_let ((μ.1 (aw_rf (aw_rf t 2) 3) a0.toNatClampNeg)) fun v1 =>
  aw_g (aw_in a0 20) ((if (μ.1 (aw_rf t 14) a0.toNatClampNeg) ≤ 0 then
  some μ
  else
  (if v1 = (-1) then
  some μ
  else
  aw_g (aw_in a0 20) (aw_g (aw_in a0 20) (aw_let (aw_wI μ (aw_rf t 14) a0.toNatClampNeg ((μ.1 (aw_rf t 14) a0.toNatClampNeg) - 1)) fun μ2 =>
  aw_let (aw_wI μ2 t 7 ((μ2.1 t 7) + 1)) fun μ3 =>
  aw_g (aw_in v1 9) (aw_g (aw_in (μ3.1 (aw_rf (aw_rf t 0) 6) v1.toNatClampNeg) 100) (aw_g (aw_in (μ3.1 (aw_rf (aw_rf t 0) 6) v1.toNatClampNeg) 100) (aw_let (aw_wI μ3 (aw_rf t 16) (μ3.1 (aw_rf (aw_rf t 0) 6) v1.toNatClampNeg).toNatClampNeg ((μ3.1 (aw_rf t 16) (μ3.1 (aw_rf (aw_rf t 0) 6) v1.toNatClampNeg).toNatClampNeg) + 2)) fun μ4 =>
  aw_g (aw_in v1 9) (aw_g (aw_in ((v1 * 20) + a0) 360) (aw_g (aw_in v1 9) (aw_let (aw_wI μ4 (aw_rf t 11) v1.toNatClampNeg ((μ4.1 (aw_rf t 11) v1.toNatClampNeg) + (3 - ((μ4.1 (aw_rf (aw_rf t 2) 0) ((v1 * 20) + a0).toNatClampNeg) / 2)))) fun μ5 =>
  some μ5))))))))))))
theorem m_X0_throwBack (l : Launch) (F : Nat) (t : Nat) (ht : (aw_sh t).1 = 5) (a0 : Int32) (μ : aw_M) : AM l yX0_throwBack cX0_throwBack 3 none 1 120 aw_gv [.ref t, .int a0] μ (f_X0_throwBack F t a0 μ) := by
  refine aw_met [some (.ref t), some (.int a0), none] (by decide) (fun _ => rfl) (fun _ => Nat.le_of_ble_eq_true rfl) ?_
  show AW l k_X0_throwBack aw_gv 0 [some (.ref t), some (.int a0), none] [] μ _
  unfold f_X0_throwBack
  refine aw_aload_n (n := 1) dX0_throwBack_0 rfl rfl ?_
  refine aw_getR (n := 4) (RX0, TX0, 20) 0 2 dX0_throwBack_1 rfl ht (by decide) fd_RX0_53 ?_
  refine aw_getR (n := 7) (RX1, TX1, 12) 1 3 dX0_throwBack_4 rfl (sf_0_2 ht) (by decide) fd_RX0_220 ?_
  refine aw_iload_n (n := 8) dX0_throwBack_7 rfl rfl ?_
  refine aw_iaload (n := 9) 20 dX0_throwBack_8 rfl (sf_1_3 (sf_0_2 ht)) ?_
  refine aw_nmI (fun v1 => ?_)
  refine aw_istore_n (n := 10) [some (.ref t), some (.int a0), some (.int v1)] dX0_throwBack_9 rfl rfl (Nat.le_of_ble_eq_true rfl) (Nat.le_of_ble_eq_true rfl) rfl ?_
  refine aw_aload_n (n := 11) dX0_throwBack_10 rfl rfl ?_
  refine aw_getR (n := 14) (RX0, TX0, 20) 0 14 dX0_throwBack_11 rfl ht (by decide) fd_RX0_30 ?_
  refine aw_iload_n (n := 15) dX0_throwBack_14 rfl rfl ?_
  refine aw_iaload (n := 16) 20 dX0_throwBack_15 rfl (sf_0_14 ht) ?_
  refine aw_if_le (n := 19) 24 dX0_throwBack_16 (by decide) rfl ?_ ?_
  · exact aw_vreturn dX0_throwBack_24 rfl rfl
  · refine aw_iload_n (n := 20) dX0_throwBack_19 rfl rfl ?_
    refine aw_iconst (n := 21) (-1) dX0_throwBack_20 rfl (by decide) ?_
    refine aw_icmp_ne (n := 24) 25 dX0_throwBack_21 (by decide) rfl ?_ ?_
    · refine aw_aload_n (n := 26) dX0_throwBack_25 rfl rfl ?_
      refine aw_getR (n := 29) (RX0, TX0, 20) 0 14 dX0_throwBack_26 rfl ht (by decide) fd_RX0_30 ?_
      refine aw_iload_n (n := 30) dX0_throwBack_29 rfl rfl ?_
      refine aw_dup2 (n := 31) dX0_throwBack_30 rfl (fun _ => rfl) (fun _ => rfl) ?_
      refine aw_iaload (n := 32) 20 dX0_throwBack_31 rfl (sf_0_14 ht) ?_
      refine aw_iconst (n := 33) 1 dX0_throwBack_32 rfl (by decide) ?_
      refine aw_isub (n := 34) dX0_throwBack_33 rfl ?_
      refine aw_iastore (n := 35) 20 dX0_throwBack_34 rfl (sf_0_14 ht) (fun μ2 => ?_)
      refine aw_aload_n (n := 36) dX0_throwBack_35 rfl rfl ?_
      refine aw_dup (n := 37) dX0_throwBack_36 rfl (fun _ => rfl) ?_
      refine aw_getI (n := 40) (RX0, TX0, 20) 0 7 dX0_throwBack_37 rfl ht (by decide) fd_RX0_70 ?_
      refine aw_iconst (n := 41) 1 dX0_throwBack_40 rfl (by decide) ?_
      refine aw_iadd (n := 42) dX0_throwBack_41 rfl ?_
      refine aw_putI (n := 45) (RX0, TX0, 20) 0 7 dX0_throwBack_42 rfl ht (by decide) fp_RX0_70 (fun μ3 => ?_)
      refine aw_aload_n (n := 46) dX0_throwBack_45 rfl rfl ?_
      refine aw_getR (n := 49) (RX0, TX0, 20) 0 16 dX0_throwBack_46 rfl ht (by decide) fd_RX0_36 ?_
      refine aw_aload_n (n := 50) dX0_throwBack_49 rfl rfl ?_
      refine aw_getR (n := 53) (RX0, TX0, 20) 0 0 dX0_throwBack_50 rfl ht (by decide) fd_RX0_45 ?_
      refine aw_getR (n := 56) (RX8, TX8, 20) 8 6 dX0_throwBack_53 rfl (sf_0_0 ht) (by decide) fd_RX0_180 ?_
      refine aw_iload_n (n := 57) dX0_throwBack_56 rfl rfl ?_
      refine aw_iaload (n := 58) 9 dX0_throwBack_57 rfl (sf_8_6 (sf_0_0 ht)) ?_
      refine aw_dup2 (n := 59) dX0_throwBack_58 rfl (fun _ => rfl) (fun _ => rfl) ?_
      refine aw_iaload (n := 60) 100 dX0_throwBack_59 rfl (sf_0_16 ht) ?_
      refine aw_iconst (n := 61) 2 dX0_throwBack_60 rfl (by decide) ?_
      refine aw_iadd (n := 62) dX0_throwBack_61 rfl ?_
      refine aw_iastore (n := 63) 100 dX0_throwBack_62 rfl (sf_0_16 ht) (fun μ4 => ?_)
      refine aw_aload_n (n := 64) dX0_throwBack_63 rfl rfl ?_
      refine aw_getR (n := 67) (RX0, TX0, 20) 0 11 dX0_throwBack_64 rfl ht (by decide) fd_RX0_21 ?_
      refine aw_iload_n (n := 68) dX0_throwBack_67 rfl rfl ?_
      refine aw_dup2 (n := 69) dX0_throwBack_68 rfl (fun _ => rfl) (fun _ => rfl) ?_
      refine aw_iaload (n := 70) 9 dX0_throwBack_69 rfl (sf_0_11 ht) ?_
      refine aw_iconst (n := 71) 3 dX0_throwBack_70 rfl (by decide) ?_
      refine aw_aload_n (n := 72) dX0_throwBack_71 rfl rfl ?_
      refine aw_getR (n := 75) (RX0, TX0, 20) 0 2 dX0_throwBack_72 rfl ht (by decide) fd_RX0_53 ?_
      refine aw_getR (n := 78) (RX1, TX1, 12) 1 0 dX0_throwBack_75 rfl (sf_0_2 ht) (by decide) fd_RX0_173 ?_
      refine aw_iload_n (n := 79) dX0_throwBack_78 rfl rfl ?_
      refine aw_bipush (n := 81) 20 dX0_throwBack_79 rfl (by decide) ?_
      refine aw_imul (n := 82) dX0_throwBack_81 rfl ?_
      refine aw_iload_n (n := 83) dX0_throwBack_82 rfl rfl ?_
      refine aw_iadd (n := 84) dX0_throwBack_83 rfl ?_
      refine aw_iaload (n := 85) 360 dX0_throwBack_84 rfl (sf_1_0 (sf_0_2 ht)) ?_
      refine aw_iconst (n := 86) 2 dX0_throwBack_85 rfl (by decide) ?_
      refine aw_idivK (n := 87) dX0_throwBack_86 rfl (by decide) ?_
      refine aw_isub (n := 88) dX0_throwBack_87 rfl ?_
      refine aw_iadd (n := 89) dX0_throwBack_88 rfl ?_
      refine aw_iastore (n := 90) 9 dX0_throwBack_89 rfl (sf_0_11 ht) (fun μ5 => ?_)
      exact aw_vreturn dX0_throwBack_90 rfl rfl
    · exact aw_vreturn dX0_throwBack_24 rfl rfl
abbrev k_X0_playMinute : aw_K := (RX0, cX0_playMinute, 4, none, 4, 191)
def f_X0_playMinute_76 (F : Nat) (t : Nat) (k76 : Int32 × Int32 × aw_M → Option (aw_M)) (x1 : Int32) (x2 : Int32) (μ : aw_M) : Option (aw_M) :=
  aw_g (aw_in (x1 + 1) 81) ((if (μ.1 (aw_rf (aw_rf t 2) 10) (x1 + 1).toNatClampNeg) ≤ x2 then
  some μ
  else
  aw_g (aw_in x2 80) ((f_X0_throwBack F t (μ.1 (aw_rf (aw_rf t 2) 11) x2.toNatClampNeg) μ).bind fun r12 =>
  k76 (x1, (x2 + 1), r12))))
theorem c_X0_playMinute_76 (l : Launch) (F : Nat) (t : Nat) (ht : (aw_sh t).1 = 5) : ∀ (N : Nat) (s : Int32 × Int32 × aw_M), AW l k_X0_playMinute aw_gv 76 [some (.ref t), some (.int s.1), some (.int s.2.1), none] [] s.2.2 (aw_loop (fun k s => f_X0_playMinute_76 F t k s.1 s.2.1 s.2.2) N s) := by
  refine aw_loop_ok (f := fun k s => f_X0_playMinute_76 F t k s.1 s.2.1 s.2.2) (Ls := fun s => [some (.ref t), some (.int s.1), some (.int s.2.1), none]) (ms := fun s => s.2.2) ?_
  intro k76 hk76 s
  obtain ⟨x1, x2, μ⟩ := s
  show AW l k_X0_playMinute aw_gv 76 [some (.ref t), some (.int x1), some (.int x2), none] [] μ (f_X0_playMinute_76 F t k76 x1 x2 μ)
  unfold f_X0_playMinute_76
  refine aw_iload_n (n := 77) dX0_playMinute_76 rfl rfl ?_
  refine aw_aload_n (n := 78) dX0_playMinute_77 rfl rfl ?_
  refine aw_getR (n := 81) (RX0, TX0, 20) 0 2 dX0_playMinute_78 rfl ht (by decide) fd_RX0_53 ?_
  refine aw_getR (n := 84) (RX1, TX1, 12) 1 10 dX0_playMinute_81 rfl (sf_0_2 ht) (by decide) fd_RX0_148 ?_
  refine aw_iload_n (n := 85) dX0_playMinute_84 rfl rfl ?_
  refine aw_iconst (n := 86) 1 dX0_playMinute_85 rfl (by decide) ?_
  refine aw_iadd (n := 87) dX0_playMinute_86 rfl ?_
  refine aw_iaload (n := 88) 81 dX0_playMinute_87 rfl (sf_1_10 (sf_0_2 ht)) ?_
  refine aw_icmp_ge (n := 91) 110 dX0_playMinute_88 (by decide) rfl ?_ ?_
  · exact aw_vreturn dX0_playMinute_110 rfl rfl
  · refine aw_aload_n (n := 92) dX0_playMinute_91 rfl rfl ?_
    refine aw_aload_n (n := 93) dX0_playMinute_92 rfl rfl ?_
    refine aw_getR (n := 96) (RX0, TX0, 20) 0 2 dX0_playMinute_93 rfl ht (by decide) fd_RX0_53 ?_
    refine aw_getR (n := 99) (RX1, TX1, 12) 1 11 dX0_playMinute_96 rfl (sf_0_2 ht) (by decide) fd_RX0_138 ?_
    refine aw_iload_n (n := 100) dX0_playMinute_99 rfl rfl ?_
    refine aw_iaload (n := 101) 80 dX0_playMinute_100 rfl (sf_1_11 (sf_0_2 ht)) ?_
    refine aw_callVv (n := 104) (as := [.int (μ.1 (aw_rf (aw_rf t 2) 11) x2.toNatClampNeg)]) (st := []) (RX0, TX0, 20) 0 dX0_playMinute_101 rfl rfl (m_X0_throwBack l F t ht (μ.1 (aw_rf (aw_rf t 2) 11) x2.toNatClampNeg) μ) ht (by decide) rfl rfl cw_RX0_151 ⟨Nat.le_of_ble_eq_true rfl, Nat.le_of_ble_eq_true rfl⟩ (fun _ => Nat.le_of_ble_eq_true rfl) (fun r12 => ?_)
    refine aw_iinc (n := 107) (x2 + 1) [some (.ref t), some (.int x1), some (.int (x2 + 1)), none] dX0_playMinute_104 rfl rfl (by rfl) rfl (Nat.le_of_ble_eq_true rfl) rfl ?_
    refine aw_goto 76 dX0_playMinute_107 (by decide) ?_
    exact aw_weak (hk76 (x1, (x2 + 1), r12)) (aw_ss (aw_ss (aw_ss (aw_sn aw_s0))))
def f_X0_playMinute_66 (F : Nat) (t : Nat) (x1 : Int32) (μ : aw_M) : Option (aw_M) :=
  aw_g (aw_in x1 81) (aw_let ((μ.1 (aw_rf (aw_rf t 2) 10) x1.toNatClampNeg)) fun v11 =>
  aw_loop (fun k s => f_X0_playMinute_76 F t k s.1 s.2.1 s.2.2) F (x1, v11, μ))
theorem c_X0_playMinute_66 (l : Launch) (F : Nat) (t : Nat) (ht : (aw_sh t).1 = 5) (x1 : Int32) (μ : aw_M) : AW l k_X0_playMinute aw_gv 66 [some (.ref t), some (.int x1), none, none] [] μ (f_X0_playMinute_66 F t x1 μ) := by
  unfold f_X0_playMinute_66
  refine aw_aload_n (n := 67) dX0_playMinute_66 rfl rfl ?_
  refine aw_getR (n := 70) (RX0, TX0, 20) 0 2 dX0_playMinute_67 rfl ht (by decide) fd_RX0_53 ?_
  refine aw_getR (n := 73) (RX1, TX1, 12) 1 10 dX0_playMinute_70 rfl (sf_0_2 ht) (by decide) fd_RX0_148 ?_
  refine aw_iload_n (n := 74) dX0_playMinute_73 rfl rfl ?_
  refine aw_iaload (n := 75) 81 dX0_playMinute_74 rfl (sf_1_10 (sf_0_2 ht)) ?_
  refine aw_nmI (fun v11 => ?_)
  refine aw_istore_n (n := 76) [some (.ref t), some (.int x1), some (.int v11), none] dX0_playMinute_75 rfl rfl (Nat.le_of_ble_eq_true rfl) (Nat.le_of_ble_eq_true rfl) rfl ?_
  exact aw_weak (c_X0_playMinute_76 l F t ht F (x1, v11, μ)) (aw_ss (aw_ss (aw_ss (aw_sn aw_s0))))
def f_X0_playMinute_47 (F : Nat) (t : Nat) (k47 : Int32 × Int32 × aw_M → Option (aw_M)) (x1 : Int32) (x2 : Int32) (μ : aw_M) : Option (aw_M) :=
  (if (μ.1 t 18) ≤ x2 then
  f_X0_playMinute_66 F t x1 μ
  else
  (f_X0_markThrow F t x2 μ).bind fun r13 =>
  k47 (x1, (x2 + 1), r13))
theorem c_X0_playMinute_47 (l : Launch) (F : Nat) (t : Nat) (ht : (aw_sh t).1 = 5) : ∀ (N : Nat) (s : Int32 × Int32 × aw_M), AW l k_X0_playMinute aw_gv 47 [some (.ref t), some (.int s.1), some (.int s.2.1), none] [] s.2.2 (aw_loop (fun k s => f_X0_playMinute_47 F t k s.1 s.2.1 s.2.2) N s) := by
  refine aw_loop_ok (f := fun k s => f_X0_playMinute_47 F t k s.1 s.2.1 s.2.2) (Ls := fun s => [some (.ref t), some (.int s.1), some (.int s.2.1), none]) (ms := fun s => s.2.2) ?_
  intro k47 hk47 s
  obtain ⟨x1, x2, μ⟩ := s
  show AW l k_X0_playMinute aw_gv 47 [some (.ref t), some (.int x1), some (.int x2), none] [] μ (f_X0_playMinute_47 F t k47 x1 x2 μ)
  unfold f_X0_playMinute_47
  refine aw_iload_n (n := 48) dX0_playMinute_47 rfl rfl ?_
  refine aw_aload_n (n := 49) dX0_playMinute_48 rfl rfl ?_
  refine aw_getI (n := 52) (RX0, TX0, 20) 0 18 dX0_playMinute_49 rfl ht (by decide) fd_RX0_73 ?_
  refine aw_icmp_ge (n := 55) 66 dX0_playMinute_52 (by decide) rfl ?_ ?_
  · exact aw_weak (c_X0_playMinute_66 l F t ht x1 μ) (aw_ss (aw_ss (aw_sn (aw_sn aw_s0))))
  · refine aw_aload_n (n := 56) dX0_playMinute_55 rfl rfl ?_
    refine aw_iload_n (n := 57) dX0_playMinute_56 rfl rfl ?_
    refine aw_callVv (n := 60) (as := [.int x2]) (st := []) (RX0, TX0, 20) 0 dX0_playMinute_57 rfl rfl (m_X0_markThrow l F t ht x2 μ) ht (by decide) rfl rfl cw_RX0_145 ⟨Nat.le_of_ble_eq_true rfl, Nat.le_of_ble_eq_true rfl⟩ (fun _ => Nat.le_of_ble_eq_true rfl) (fun r13 => ?_)
    refine aw_iinc (n := 63) (x2 + 1) [some (.ref t), some (.int x1), some (.int (x2 + 1)), none] dX0_playMinute_60 rfl rfl (by rfl) rfl (Nat.le_of_ble_eq_true rfl) rfl ?_
    refine aw_goto 47 dX0_playMinute_63 (by decide) ?_
    exact aw_weak (hk47 (x1, (x2 + 1), r13)) (aw_ss (aw_ss (aw_ss (aw_sn aw_s0))))
def f_X0_playMinute_45 (F : Nat) (t : Nat) (x1 : Int32) (μ : aw_M) : Option (aw_M) :=
  aw_loop (fun k s => f_X0_playMinute_47 F t k s.1 s.2.1 s.2.2) F (x1, 0, μ)
theorem c_X0_playMinute_45 (l : Launch) (F : Nat) (t : Nat) (ht : (aw_sh t).1 = 5) (x1 : Int32) (μ : aw_M) : AW l k_X0_playMinute aw_gv 45 [some (.ref t), some (.int x1), none, none] [] μ (f_X0_playMinute_45 F t x1 μ) := by
  unfold f_X0_playMinute_45
  refine aw_iconst (n := 46) 0 dX0_playMinute_45 rfl (by decide) ?_
  refine aw_istore_n (n := 47) [some (.ref t), some (.int x1), some (.int 0), none] dX0_playMinute_46 rfl rfl (Nat.le_of_ble_eq_true rfl) (Nat.le_of_ble_eq_true rfl) rfl ?_
  exact aw_weak (c_X0_playMinute_47 l F t ht F (x1, 0, μ)) (aw_ss (aw_ss (aw_ss (aw_sn aw_s0))))
def f_X0_playMinute_39 (F : Nat) (t : Nat) (k2 : Int32 × Int32 × aw_M → Option (aw_M)) (x1 : Int32) (x2 : Int32) (μ : aw_M) : Option (aw_M) :=
  k2 (x1, (x2 + 1), μ)
theorem c_X0_playMinute_39 (l : Launch) (F : Nat) (t : Nat) (ht : (aw_sh t).1 = 5) (k2 : Int32 × Int32 × aw_M → Option (aw_M)) (hk2 : ∀ s : Int32 × Int32 × aw_M, AW l k_X0_playMinute aw_gv 2 [some (.ref t), some (.int s.1), some (.int s.2.1), none] [] s.2.2 (k2 s)) (x1 : Int32) (x2 : Int32) (μ : aw_M) : AW l k_X0_playMinute aw_gv 39 [some (.ref t), some (.int x1), some (.int x2), none] [] μ (f_X0_playMinute_39 F t k2 x1 x2 μ) := by
  unfold f_X0_playMinute_39
  refine aw_iinc (n := 42) (x2 + 1) [some (.ref t), some (.int x1), some (.int (x2 + 1)), none] dX0_playMinute_39 rfl rfl (by rfl) rfl (Nat.le_of_ble_eq_true rfl) rfl ?_
  refine aw_goto 2 dX0_playMinute_42 (by decide) ?_
  exact aw_weak (hk2 (x1, (x2 + 1), μ)) (aw_ss (aw_ss (aw_ss (aw_sn aw_s0))))
def f_X0_playMinute_2 (F : Nat) (t : Nat) (k2 : Int32 × Int32 × aw_M → Option (aw_M)) (x1 : Int32) (x2 : Int32) (μ : aw_M) : Option (aw_M) :=
  (if (μ.1 (aw_rf t 0) 3) ≤ x2 then
  f_X0_playMinute_45 F t x1 μ
  else
  (f_X0_aimedVisit F t x2 x1 μ).bind fun r14 =>
  (if r14.1 = (-1) then
  f_X0_playMinute_39 F t k2 x1 x2 r14.2
  else
  aw_g (aw_in r14.1 80) ((f_X0_throwAt F t x2 (r14.2.1 (aw_rf (aw_rf t 2) 11) r14.1.toNatClampNeg) r14.2).bind fun r15 =>
  f_X0_playMinute_39 F t k2 x1 x2 r15)))
theorem c_X0_playMinute_2 (l : Launch) (F : Nat) (t : Nat) (ht : (aw_sh t).1 = 5) : ∀ (N : Nat) (s : Int32 × Int32 × aw_M), AW l k_X0_playMinute aw_gv 2 [some (.ref t), some (.int s.1), some (.int s.2.1), none] [] s.2.2 (aw_loop (fun k s => f_X0_playMinute_2 F t k s.1 s.2.1 s.2.2) N s) := by
  refine aw_loop_ok (f := fun k s => f_X0_playMinute_2 F t k s.1 s.2.1 s.2.2) (Ls := fun s => [some (.ref t), some (.int s.1), some (.int s.2.1), none]) (ms := fun s => s.2.2) ?_
  intro k2 hk2 s
  obtain ⟨x1, x2, μ⟩ := s
  show AW l k_X0_playMinute aw_gv 2 [some (.ref t), some (.int x1), some (.int x2), none] [] μ (f_X0_playMinute_2 F t k2 x1 x2 μ)
  unfold f_X0_playMinute_2
  refine aw_iload_n (n := 3) dX0_playMinute_2 rfl rfl ?_
  refine aw_aload_n (n := 4) dX0_playMinute_3 rfl rfl ?_
  refine aw_getR (n := 7) (RX0, TX0, 20) 0 0 dX0_playMinute_4 rfl ht (by decide) fd_RX0_45 ?_
  refine aw_getI (n := 10) (RX8, TX8, 20) 8 3 dX0_playMinute_7 rfl (sf_0_0 ht) (by decide) fd_RX0_132 ?_
  refine aw_icmp_ge (n := 13) 45 dX0_playMinute_10 (by decide) rfl ?_ ?_
  · exact aw_weak (c_X0_playMinute_45 l F t ht x1 μ) (aw_ss (aw_ss (aw_sn (aw_sn aw_s0))))
  · refine aw_aload_n (n := 14) dX0_playMinute_13 rfl rfl ?_
    refine aw_iload_n (n := 15) dX0_playMinute_14 rfl rfl ?_
    refine aw_iload_n (n := 16) dX0_playMinute_15 rfl rfl ?_
    refine aw_callVi (n := 19) (as := [.int x2, .int x1]) (st := []) (RX0, TX0, 20) 0 dX0_playMinute_16 rfl rfl (m_X0_aimedVisit l F t ht x2 x1 μ) ht (by decide) rfl rfl cw_RX0_135 ⟨Nat.le_of_ble_eq_true rfl, Nat.le_of_ble_eq_true rfl⟩ (fun _ => Nat.le_of_ble_eq_true rfl) (fun r14 => ?_)
    refine aw_istore_n (n := 20) [some (.ref t), some (.int x1), some (.int x2), some (.int r14.1)] dX0_playMinute_19 rfl rfl (Nat.le_of_ble_eq_true rfl) (Nat.le_of_ble_eq_true rfl) rfl ?_
    refine aw_iload_n (n := 21) dX0_playMinute_20 rfl rfl ?_
    refine aw_iconst (n := 22) (-1) dX0_playMinute_21 rfl (by decide) ?_
    refine aw_icmp_eq (n := 25) 39 dX0_playMinute_22 (by decide) rfl ?_ ?_
    · exact aw_weak (c_X0_playMinute_39 l F t ht k2 hk2 x1 x2 r14.2) (aw_ss (aw_ss (aw_ss (aw_sn aw_s0))))
    · refine aw_aload_n (n := 26) dX0_playMinute_25 rfl rfl ?_
      refine aw_iload_n (n := 27) dX0_playMinute_26 rfl rfl ?_
      refine aw_aload_n (n := 28) dX0_playMinute_27 rfl rfl ?_
      refine aw_getR (n := 31) (RX0, TX0, 20) 0 2 dX0_playMinute_28 rfl ht (by decide) fd_RX0_53 ?_
      refine aw_getR (n := 34) (RX1, TX1, 12) 1 11 dX0_playMinute_31 rfl (sf_0_2 ht) (by decide) fd_RX0_138 ?_
      refine aw_iload_n (n := 35) dX0_playMinute_34 rfl rfl ?_
      refine aw_iaload (n := 36) 80 dX0_playMinute_35 rfl (sf_1_11 (sf_0_2 ht)) ?_
      refine aw_callVv (n := 39) (as := [.int x2, .int (r14.2.1 (aw_rf (aw_rf t 2) 11) r14.1.toNatClampNeg)]) (st := []) (RX0, TX0, 20) 0 dX0_playMinute_36 rfl rfl (m_X0_throwAt l F t ht x2 (r14.2.1 (aw_rf (aw_rf t 2) 11) r14.1.toNatClampNeg) r14.2) ht (by decide) rfl rfl cw_RX0_141 ⟨Nat.le_of_ble_eq_true rfl, Nat.le_of_ble_eq_true rfl⟩ (fun _ => Nat.le_of_ble_eq_true rfl) (fun r15 => ?_)
      exact aw_weak (c_X0_playMinute_39 l F t ht k2 hk2 x1 x2 r15) (aw_ss (aw_ss (aw_ss (aw_sn aw_s0))))
def f_X0_playMinute (F : Nat) (t : Nat) (a0 : Int32) (μ : aw_M) : Option (aw_M) :=
  aw_loop (fun k s => f_X0_playMinute_2 F t k s.1 s.2.1 s.2.2) F (a0, 0, μ)
theorem m_X0_playMinute (l : Launch) (F : Nat) (t : Nat) (ht : (aw_sh t).1 = 5) (a0 : Int32) (μ : aw_M) : AM l yX0_playMinute cX0_playMinute 4 none 4 191 aw_gv [.ref t, .int a0] μ (f_X0_playMinute F t a0 μ) := by
  refine aw_met [some (.ref t), some (.int a0), none, none] (by decide) (fun _ => rfl) (fun _ => Nat.le_of_ble_eq_true rfl) ?_
  show AW l k_X0_playMinute aw_gv 0 [some (.ref t), some (.int a0), none, none] [] μ _
  unfold f_X0_playMinute
  refine aw_iconst (n := 1) 0 dX0_playMinute_0 rfl (by decide) ?_
  refine aw_istore_n (n := 2) [some (.ref t), some (.int a0), some (.int 0), none] dX0_playMinute_1 rfl rfl (Nat.le_of_ble_eq_true rfl) (Nat.le_of_ble_eq_true rfl) rfl ?_
  exact aw_weak (c_X0_playMinute_2 l F t ht F (a0, 0, μ)) (aw_ss (aw_ss (aw_ss (aw_sn aw_s0))))
abbrev k_X0_pass : aw_K := (RX0, cX0_pass, 5, (some .int), 5, 214)
def f_X0_pass_98 (F : Nat) (t : Nat) (k2 : Int32 × Int32 × aw_M → Option (Int32 × aw_M)) (x1 : Int32) (x2 : Int32) (μ : aw_M) : Option (Int32 × aw_M) :=
  k2 (x1, x2, μ)
theorem c_X0_pass_98 (l : Launch) (F : Nat) (t : Nat) (ht : (aw_sh t).1 = 5) (k2 : Int32 × Int32 × aw_M → Option (Int32 × aw_M)) (hk2 : ∀ s : Int32 × Int32 × aw_M, AW l k_X0_pass aw_gi 2 [some (.ref t), some (.int s.1), some (.int s.2.1), none, none] [] s.2.2 (k2 s)) (x1 : Int32) (x2 : Int32) (μ : aw_M) : AW l k_X0_pass aw_gi 98 [some (.ref t), some (.int x1), some (.int x2), none, none] [] μ (f_X0_pass_98 F t k2 x1 x2 μ) := by
  unfold f_X0_pass_98
  refine aw_goto 2 dX0_pass_98 (by decide) ?_
  exact aw_weak (hk2 (x1, x2, μ)) (aw_ss (aw_ss (aw_ss (aw_sn (aw_sn aw_s0)))))
def f_X0_pass_55 (F : Nat) (t : Nat) (k2 : Int32 × Int32 × aw_M → Option (Int32 × aw_M)) (x1 : Int32) (x2 : Int32) (x3 : Int32) (μ : aw_M) : Option (Int32 × aw_M) :=
  aw_let ((if x3 < 1 then 1 else x3)) fun v19 =>
  (f_X0_drainFor F t v19 μ).bind fun r20 =>
  aw_let ((x2 + v19)) fun v21 =>
  aw_let (aw_wI r20 t 4 ((r20.1 t 4) + v19)) fun μ22 =>
  (if (μ22.1 t 4) < 240 then
  f_X0_pass_98 F t k2 x1 v21 μ22
  else
  (f_X0_endDay F t μ22).bind fun r23 =>
  f_X0_pass_98 F t k2 x1 v21 r23)
theorem c_X0_pass_55 (l : Launch) (F : Nat) (t : Nat) (ht : (aw_sh t).1 = 5) (k2 : Int32 × Int32 × aw_M → Option (Int32 × aw_M)) (hk2 : ∀ s : Int32 × Int32 × aw_M, AW l k_X0_pass aw_gi 2 [some (.ref t), some (.int s.1), some (.int s.2.1), none, none] [] s.2.2 (k2 s)) (x1 : Int32) (x2 : Int32) (x3 : Int32) (μ : aw_M) : AW l k_X0_pass aw_gi 55 [some (.ref t), some (.int x1), some (.int x2), some (.int x3), none] [] μ (f_X0_pass_55 F t k2 x1 x2 x3 μ) := by
  unfold f_X0_pass_55
  refine aw_iload_n (n := 56) dX0_pass_55 rfl rfl ?_
  refine aw_iconst (n := 57) 1 dX0_pass_56 rfl (by decide) ?_
  refine aw_mmax (n := 60) dX0_pass_57 rfl tb_1009 (Nat.le_of_ble_eq_true rfl) (fun _ => Nat.le_of_ble_eq_true rfl) ?_
  refine aw_nmI (fun v19 => ?_)
  refine aw_istore (n := 62) [some (.ref t), some (.int x1), some (.int x2), some (.int x3), some (.int v19)] dX0_pass_60 rfl rfl (Nat.le_of_ble_eq_true rfl) (Nat.le_of_ble_eq_true rfl) rfl ?_
  refine aw_aload_n (n := 63) dX0_pass_62 rfl rfl ?_
  refine aw_iload (n := 65) dX0_pass_63 rfl rfl ?_
  refine aw_callVv (n := 68) (as := [.int v19]) (st := []) (RX0, TX0, 20) 0 dX0_pass_65 rfl rfl (m_X0_drainFor l F t ht v19 μ) ht (by decide) rfl rfl cw_RX0_117 ⟨Nat.le_of_ble_eq_true rfl, Nat.le_of_ble_eq_true rfl⟩ (fun _ => Nat.le_of_ble_eq_true rfl) (fun r20 => ?_)
  refine aw_iload_n (n := 69) dX0_pass_68 rfl rfl ?_
  refine aw_iload (n := 71) dX0_pass_69 rfl rfl ?_
  refine aw_iadd (n := 72) dX0_pass_71 rfl ?_
  refine aw_nmI (fun v21 => ?_)
  refine aw_istore_n (n := 73) [some (.ref t), some (.int x1), some (.int v21), some (.int x3), some (.int v19)] dX0_pass_72 rfl rfl (Nat.le_of_ble_eq_true rfl) (Nat.le_of_ble_eq_true rfl) rfl ?_
  refine aw_aload_n (n := 74) dX0_pass_73 rfl rfl ?_
  refine aw_dup (n := 75) dX0_pass_74 rfl (fun _ => rfl) ?_
  refine aw_getI (n := 78) (RX0, TX0, 20) 0 4 dX0_pass_75 rfl ht (by decide) fd_RX0_61 ?_
  refine aw_iload (n := 80) dX0_pass_78 rfl rfl ?_
  refine aw_iadd (n := 81) dX0_pass_80 rfl ?_
  refine aw_putI (n := 84) (RX0, TX0, 20) 0 4 dX0_pass_81 rfl ht (by decide) fp_RX0_61 (fun μ22 => ?_)
  refine aw_aload_n (n := 85) dX0_pass_84 rfl rfl ?_
  refine aw_getI (n := 88) (RX0, TX0, 20) 0 4 dX0_pass_85 rfl ht (by decide) fd_RX0_61 ?_
  refine aw_sipush (n := 91) 240 dX0_pass_88 rfl (by decide) ?_
  refine aw_icmp_lt (n := 94) 98 dX0_pass_91 (by decide) rfl ?_ ?_
  · exact aw_weak (c_X0_pass_98 l F t ht k2 hk2 x1 v21 μ22) (aw_ss (aw_ss (aw_ss (aw_sn (aw_sn aw_s0)))))
  · refine aw_aload_n (n := 95) dX0_pass_94 rfl rfl ?_
    refine aw_callVv (n := 98) (as := []) (st := []) (RX0, TX0, 20) 0 dX0_pass_95 rfl rfl (m_X0_endDay l F t ht μ22) ht (by decide) rfl rfl cw_RX0_120 ⟨Nat.le_of_ble_eq_true rfl, Nat.le_of_ble_eq_true rfl⟩ (fun _ => Nat.le_of_ble_eq_true rfl) (fun r23 => ?_)
    exact aw_weak (c_X0_pass_98 l F t ht k2 hk2 x1 v21 r23) (aw_ss (aw_ss (aw_ss (aw_sn (aw_sn aw_s0)))))
def f_X0_pass_2 (F : Nat) (t : Nat) (k2 : Int32 × Int32 × aw_M → Option (Int32 × aw_M)) (x1 : Int32) (x2 : Int32) (μ : aw_M) : Option (Int32 × aw_M) :=
  (if x1 ≤ x2 then
  some (x2, μ)
  else
  (if 3 ≤ (μ.1 t 3) then
  some (x2, μ)
  else
  (f_X1_idleFrom F (aw_rf t 2) (μ.1 t 4) (x1 - x2) μ).bind fun r17 =>
  aw_let (aw_wI r17.2 t 18 0) fun μ18 =>
  (if r17.1 = 0 then
  aw_g (aw_in (μ18.1 t 4) 240) ((f_X0_playMinute F t (μ18.1 (aw_rf (aw_rf t 2) 8) (μ18.1 t 4).toNatClampNeg) μ18).bind fun r24 =>
  f_X0_pass_55 F t k2 x1 x2 r17.1 r24)
  else
  f_X0_pass_55 F t k2 x1 x2 r17.1 μ18)))
theorem c_X0_pass_2 (l : Launch) (F : Nat) (t : Nat) (ht : (aw_sh t).1 = 5) : ∀ (N : Nat) (s : Int32 × Int32 × aw_M), AW l k_X0_pass aw_gi 2 [some (.ref t), some (.int s.1), some (.int s.2.1), none, none] [] s.2.2 (aw_loop (fun k s => f_X0_pass_2 F t k s.1 s.2.1 s.2.2) N s) := by
  refine aw_loop_ok (f := fun k s => f_X0_pass_2 F t k s.1 s.2.1 s.2.2) (Ls := fun s => [some (.ref t), some (.int s.1), some (.int s.2.1), none, none]) (ms := fun s => s.2.2) ?_
  intro k2 hk2 s
  obtain ⟨x1, x2, μ⟩ := s
  show AW l k_X0_pass aw_gi 2 [some (.ref t), some (.int x1), some (.int x2), none, none] [] μ (f_X0_pass_2 F t k2 x1 x2 μ)
  unfold f_X0_pass_2
  refine aw_iload_n (n := 3) dX0_pass_2 rfl rfl ?_
  refine aw_iload_n (n := 4) dX0_pass_3 rfl rfl ?_
  refine aw_icmp_ge (n := 7) 101 dX0_pass_4 (by decide) rfl ?_ ?_
  · refine aw_iload_n (n := 102) dX0_pass_101 rfl rfl ?_
    exact aw_ireturn dX0_pass_102 rfl rfl
  · refine aw_aload_n (n := 8) dX0_pass_7 rfl rfl ?_
    refine aw_getI (n := 11) (RX0, TX0, 20) 0 3 dX0_pass_8 rfl ht (by decide) fd_RX0_57 ?_
    refine aw_iconst (n := 12) 3 dX0_pass_11 rfl (by decide) ?_
    refine aw_icmp_ge (n := 15) 101 dX0_pass_12 (by decide) rfl ?_ ?_
    · refine aw_iload_n (n := 102) dX0_pass_101 rfl rfl ?_
      exact aw_ireturn dX0_pass_102 rfl rfl
    · refine aw_aload_n (n := 16) dX0_pass_15 rfl rfl ?_
      refine aw_getR (n := 19) (RX0, TX0, 20) 0 2 dX0_pass_16 rfl ht (by decide) fd_RX0_53 ?_
      refine aw_aload_n (n := 20) dX0_pass_19 rfl rfl ?_
      refine aw_getI (n := 23) (RX0, TX0, 20) 0 4 dX0_pass_20 rfl ht (by decide) fd_RX0_61 ?_
      refine aw_iload_n (n := 24) dX0_pass_23 rfl rfl ?_
      refine aw_iload_n (n := 25) dX0_pass_24 rfl rfl ?_
      refine aw_isub (n := 26) dX0_pass_25 rfl ?_
      refine aw_callVi (n := 29) (as := [.int (μ.1 t 4), .int (x1 - x2)]) (st := []) (RX1, TX1, 12) 1 dX0_pass_26 rfl rfl (m_X1_idleFrom l F (aw_rf t 2) (sf_0_2 ht) (μ.1 t 4) (x1 - x2) μ) (sf_0_2 ht) (by decide) rfl rfl cw_RX0_99 ⟨Nat.le_of_ble_eq_true rfl, Nat.le_of_ble_eq_true rfl⟩ (fun _ => Nat.le_of_ble_eq_true rfl) (fun r17 => ?_)
      refine aw_istore_n (n := 30) [some (.ref t), some (.int x1), some (.int x2), some (.int r17.1), none] dX0_pass_29 rfl rfl (Nat.le_of_ble_eq_true rfl) (Nat.le_of_ble_eq_true rfl) rfl ?_
      refine aw_aload_n (n := 31) dX0_pass_30 rfl rfl ?_
      refine aw_iconst (n := 32) 0 dX0_pass_31 rfl (by decide) ?_
      refine aw_putI (n := 35) (RX0, TX0, 20) 0 18 dX0_pass_32 rfl ht (by decide) fp_RX0_73 (fun μ18 => ?_)
      refine aw_iload_n (n := 36) dX0_pass_35 rfl rfl ?_
      refine aw_if_ne (n := 39) 55 dX0_pass_36 (by decide) rfl ?_ ?_
      · exact aw_weak (c_X0_pass_55 l F t ht k2 hk2 x1 x2 r17.1 μ18) (aw_ss (aw_ss (aw_ss (aw_ss (aw_sn aw_s0)))))
      · refine aw_aload_n (n := 40) dX0_pass_39 rfl rfl ?_
        refine aw_aload_n (n := 41) dX0_pass_40 rfl rfl ?_
        refine aw_getR (n := 44) (RX0, TX0, 20) 0 2 dX0_pass_41 rfl ht (by decide) fd_RX0_53 ?_
        refine aw_getR (n := 47) (RX1, TX1, 12) 1 8 dX0_pass_44 rfl (sf_0_2 ht) (by decide) fd_RX0_105 ?_
        refine aw_aload_n (n := 48) dX0_pass_47 rfl rfl ?_
        refine aw_getI (n := 51) (RX0, TX0, 20) 0 4 dX0_pass_48 rfl ht (by decide) fd_RX0_61 ?_
        refine aw_iaload (n := 52) 240 dX0_pass_51 rfl (sf_1_8 (sf_0_2 ht)) ?_
        refine aw_callVv (n := 55) (as := [.int (μ18.1 (aw_rf (aw_rf t 2) 8) (μ18.1 t 4).toNatClampNeg)]) (st := []) (RX0, TX0, 20) 0 dX0_pass_52 rfl rfl (m_X0_playMinute l F t ht (μ18.1 (aw_rf (aw_rf t 2) 8) (μ18.1 t 4).toNatClampNeg) μ18) ht (by decide) rfl rfl cw_RX0_108 ⟨Nat.le_of_ble_eq_true rfl, Nat.le_of_ble_eq_true rfl⟩ (fun _ => Nat.le_of_ble_eq_true rfl) (fun r24 => ?_)
        exact aw_weak (c_X0_pass_55 l F t ht k2 hk2 x1 x2 r17.1 r24) (aw_ss (aw_ss (aw_ss (aw_ss (aw_sn aw_s0)))))
def f_X0_pass (F : Nat) (t : Nat) (a0 : Int32) (μ : aw_M) : Option (Int32 × aw_M) :=
  aw_loop (fun k s => f_X0_pass_2 F t k s.1 s.2.1 s.2.2) F (a0, 0, μ)
theorem m_X0_pass (l : Launch) (F : Nat) (t : Nat) (ht : (aw_sh t).1 = 5) (a0 : Int32) (μ : aw_M) : AM l yX0_pass cX0_pass 5 (some .int) 5 214 aw_gi [.ref t, .int a0] μ (f_X0_pass F t a0 μ) := by
  refine aw_met [some (.ref t), some (.int a0), none, none, none] (by decide) (fun _ => rfl) (fun _ => Nat.le_of_ble_eq_true rfl) ?_
  show AW l k_X0_pass aw_gi 0 [some (.ref t), some (.int a0), none, none, none] [] μ _
  unfold f_X0_pass
  refine aw_iconst (n := 1) 0 dX0_pass_0 rfl (by decide) ?_
  refine aw_istore_n (n := 2) [some (.ref t), some (.int a0), some (.int 0), none, none] dX0_pass_1 rfl rfl (Nat.le_of_ble_eq_true rfl) (Nat.le_of_ble_eq_true rfl) rfl ?_
  exact aw_weak (c_X0_pass_2 l F t ht F (a0, 0, μ)) (aw_ss (aw_ss (aw_ss (aw_sn (aw_sn aw_s0)))))
abbrev k_X0_aimedAt : aw_K := (RX0, cX0_aimedAt, 4, (some .int), 3, 172)
def f_X0_aimedAt (F : Nat) (t : Nat) (a0 : Int32) (a1 : Int32) (μ : aw_M) : Option (Int32 × aw_M) :=
  (if a1 < 0 then
  some ((-1), μ)
  else
  (if 240 ≤ a1 then
  some ((-1), μ)
  else
  aw_g (aw_in a1 240) ((if (μ.1 (aw_rf (aw_rf t 2) 8) a1.toNatClampNeg) = (-1) then
  some ((-1), μ)
  else
  aw_g (aw_in a1 240) ((f_X0_aimedVisit F t a0 (μ.1 (aw_rf (aw_rf t 2) 8) a1.toNatClampNeg) μ).bind fun r1 =>
  (if r1.1 = (-1) then
  some ((-1), r1.2)
  else
  aw_g (aw_in r1.1 80) (some ((r1.2.1 (aw_rf (aw_rf t 2) 11) r1.1.toNatClampNeg), r1.2))))))))
theorem m_X0_aimedAt (l : Launch) (F : Nat) (t : Nat) (ht : (aw_sh t).1 = 5) (a0 : Int32) (a1 : Int32) (μ : aw_M) : AM l yX0_aimedAt cX0_aimedAt 4 (some .int) 3 172 aw_gi [.ref t, .int a0, .int a1] μ (f_X0_aimedAt F t a0 a1 μ) := by
  refine aw_met [some (.ref t), some (.int a0), some (.int a1), none] (by decide) (fun _ => rfl) (fun _ => Nat.le_of_ble_eq_true rfl) ?_
  show AW l k_X0_aimedAt aw_gi 0 [some (.ref t), some (.int a0), some (.int a1), none] [] μ _
  unfold f_X0_aimedAt
  refine aw_iload_n (n := 1) dX0_aimedAt_0 rfl rfl ?_
  refine aw_if_lt (n := 4) 24 dX0_aimedAt_1 (by decide) rfl ?_ ?_
  · refine aw_iconst (n := 25) (-1) dX0_aimedAt_24 rfl (by decide) ?_
    exact aw_ireturn dX0_aimedAt_25 rfl rfl
  · refine aw_iload_n (n := 5) dX0_aimedAt_4 rfl rfl ?_
    refine aw_sipush (n := 8) 240 dX0_aimedAt_5 rfl (by decide) ?_
    refine aw_icmp_ge (n := 11) 24 dX0_aimedAt_8 (by decide) rfl ?_ ?_
    · refine aw_iconst (n := 25) (-1) dX0_aimedAt_24 rfl (by decide) ?_
      exact aw_ireturn dX0_aimedAt_25 rfl rfl
    · refine aw_aload_n (n := 12) dX0_aimedAt_11 rfl rfl ?_
      refine aw_getR (n := 15) (RX0, TX0, 20) 0 2 dX0_aimedAt_12 rfl ht (by decide) fd_RX0_53 ?_
      refine aw_getR (n := 18) (RX1, TX1, 12) 1 8 dX0_aimedAt_15 rfl (sf_0_2 ht) (by decide) fd_RX0_105 ?_
      refine aw_iload_n (n := 19) dX0_aimedAt_18 rfl rfl ?_
      refine aw_iaload (n := 20) 240 dX0_aimedAt_19 rfl (sf_1_8 (sf_0_2 ht)) ?_
      refine aw_iconst (n := 21) (-1) dX0_aimedAt_20 rfl (by decide) ?_
      refine aw_icmp_ne (n := 24) 26 dX0_aimedAt_21 (by decide) rfl ?_ ?_
      · refine aw_aload_n (n := 27) dX0_aimedAt_26 rfl rfl ?_
        refine aw_iload_n (n := 28) dX0_aimedAt_27 rfl rfl ?_
        refine aw_aload_n (n := 29) dX0_aimedAt_28 rfl rfl ?_
        refine aw_getR (n := 32) (RX0, TX0, 20) 0 2 dX0_aimedAt_29 rfl ht (by decide) fd_RX0_53 ?_
        refine aw_getR (n := 35) (RX1, TX1, 12) 1 8 dX0_aimedAt_32 rfl (sf_0_2 ht) (by decide) fd_RX0_105 ?_
        refine aw_iload_n (n := 36) dX0_aimedAt_35 rfl rfl ?_
        refine aw_iaload (n := 37) 240 dX0_aimedAt_36 rfl (sf_1_8 (sf_0_2 ht)) ?_
        refine aw_callVi (n := 40) (as := [.int a0, .int (μ.1 (aw_rf (aw_rf t 2) 8) a1.toNatClampNeg)]) (st := []) (RX0, TX0, 20) 0 dX0_aimedAt_37 rfl rfl (m_X0_aimedVisit l F t ht a0 (μ.1 (aw_rf (aw_rf t 2) 8) a1.toNatClampNeg) μ) ht (by decide) rfl rfl cw_RX0_135 ⟨Nat.le_of_ble_eq_true rfl, Nat.le_of_ble_eq_true rfl⟩ (fun _ => Nat.le_of_ble_eq_true rfl) (fun r1 => ?_)
        refine aw_istore_n (n := 41) [some (.ref t), some (.int a0), some (.int a1), some (.int r1.1)] dX0_aimedAt_40 rfl rfl (Nat.le_of_ble_eq_true rfl) (Nat.le_of_ble_eq_true rfl) rfl ?_
        refine aw_iload_n (n := 42) dX0_aimedAt_41 rfl rfl ?_
        refine aw_iconst (n := 43) (-1) dX0_aimedAt_42 rfl (by decide) ?_
        refine aw_icmp_ne (n := 46) 50 dX0_aimedAt_43 (by decide) rfl ?_ ?_
        · refine aw_aload_n (n := 51) dX0_aimedAt_50 rfl rfl ?_
          refine aw_getR (n := 54) (RX0, TX0, 20) 0 2 dX0_aimedAt_51 rfl ht (by decide) fd_RX0_53 ?_
          refine aw_getR (n := 57) (RX1, TX1, 12) 1 11 dX0_aimedAt_54 rfl (sf_0_2 ht) (by decide) fd_RX0_138 ?_
          refine aw_iload_n (n := 58) dX0_aimedAt_57 rfl rfl ?_
          refine aw_iaload (n := 59) 80 dX0_aimedAt_58 rfl (sf_1_11 (sf_0_2 ht)) ?_
          exact aw_ireturn dX0_aimedAt_59 rfl rfl
        · refine aw_iconst (n := 47) (-1) dX0_aimedAt_46 rfl (by decide) ?_
          refine aw_goto 59 dX0_aimedAt_47 (by decide) ?_
          exact aw_ireturn dX0_aimedAt_59 rfl rfl
      · refine aw_iconst (n := 25) (-1) dX0_aimedAt_24 rfl (by decide) ?_
        exact aw_ireturn dX0_aimedAt_25 rfl rfl
abbrev k_X0_wouldJoin : aw_K := (RX0, cX0_wouldJoin, 4, (some .boolean), 4, 195)
def f_X0_wouldJoin (F : Nat) (t : Nat) (a0 : Int32) (a1 : Int32) (μ : aw_M) : Option (Bool × aw_M) :=
  (f_X0_aimedAt F t a0 (μ.1 t 4) μ).bind fun r1 =>
  (if a0 = a1 then
  some (false, r1.2)
  else
  (if r1.1 = (-1) then
  some (false, r1.2)
  else
  (f_X0_aimedAt F t a1 (r1.2.1 t 4) r1.2).bind fun r2 =>
  (if r1.1 = r2.1 then
  some (true, r2.2)
  else
  some (false, r2.2))))
theorem m_X0_wouldJoin (l : Launch) (F : Nat) (t : Nat) (ht : (aw_sh t).1 = 5) (a0 : Int32) (a1 : Int32) (μ : aw_M) : AM l yX0_wouldJoin cX0_wouldJoin 4 (some .boolean) 4 195 aw_gz [.ref t, .int a0, .int a1] μ (f_X0_wouldJoin F t a0 a1 μ) := by
  refine aw_met [some (.ref t), some (.int a0), some (.int a1), none] (by decide) (fun _ => rfl) (fun _ => Nat.le_of_ble_eq_true rfl) ?_
  show AW l k_X0_wouldJoin aw_gz 0 [some (.ref t), some (.int a0), some (.int a1), none] [] μ _
  unfold f_X0_wouldJoin
  refine aw_aload_n (n := 1) dX0_wouldJoin_0 rfl rfl ?_
  refine aw_iload_n (n := 2) dX0_wouldJoin_1 rfl rfl ?_
  refine aw_aload_n (n := 3) dX0_wouldJoin_2 rfl rfl ?_
  refine aw_getI (n := 6) (RX0, TX0, 20) 0 4 dX0_wouldJoin_3 rfl ht (by decide) fd_RX0_61 ?_
  refine aw_callVi (n := 9) (as := [.int a0, .int (μ.1 t 4)]) (st := []) (RX0, TX0, 20) 0 dX0_wouldJoin_6 rfl rfl (m_X0_aimedAt l F t ht a0 (μ.1 t 4) μ) ht (by decide) rfl rfl cw_RX0_170 ⟨Nat.le_of_ble_eq_true rfl, Nat.le_of_ble_eq_true rfl⟩ (fun _ => Nat.le_of_ble_eq_true rfl) (fun r1 => ?_)
  refine aw_istore_n (n := 10) [some (.ref t), some (.int a0), some (.int a1), some (.int r1.1)] dX0_wouldJoin_9 rfl rfl (Nat.le_of_ble_eq_true rfl) (Nat.le_of_ble_eq_true rfl) rfl ?_
  refine aw_iload_n (n := 11) dX0_wouldJoin_10 rfl rfl ?_
  refine aw_iload_n (n := 12) dX0_wouldJoin_11 rfl rfl ?_
  refine aw_icmp_eq (n := 15) 37 dX0_wouldJoin_12 (by decide) rfl ?_ ?_
  · refine aw_iconst (n := 38) 0 dX0_wouldJoin_37 rfl (by decide) ?_
    exact aw_zreturn (b := false) dX0_wouldJoin_38 rfl rfl
  · refine aw_iload_n (n := 16) dX0_wouldJoin_15 rfl rfl ?_
    refine aw_iconst (n := 17) (-1) dX0_wouldJoin_16 rfl (by decide) ?_
    refine aw_icmp_eq (n := 20) 37 dX0_wouldJoin_17 (by decide) rfl ?_ ?_
    · refine aw_iconst (n := 38) 0 dX0_wouldJoin_37 rfl (by decide) ?_
      exact aw_zreturn (b := false) dX0_wouldJoin_38 rfl rfl
    · refine aw_iload_n (n := 21) dX0_wouldJoin_20 rfl rfl ?_
      refine aw_aload_n (n := 22) dX0_wouldJoin_21 rfl rfl ?_
      refine aw_iload_n (n := 23) dX0_wouldJoin_22 rfl rfl ?_
      refine aw_aload_n (n := 24) dX0_wouldJoin_23 rfl rfl ?_
      refine aw_getI (n := 27) (RX0, TX0, 20) 0 4 dX0_wouldJoin_24 rfl ht (by decide) fd_RX0_61 ?_
      refine aw_callVi (n := 30) (as := [.int a1, .int (r1.2.1 t 4)]) (st := [.int r1.1]) (RX0, TX0, 20) 0 dX0_wouldJoin_27 rfl rfl (m_X0_aimedAt l F t ht a1 (r1.2.1 t 4) r1.2) ht (by decide) rfl rfl cw_RX0_170 ⟨Nat.le_of_ble_eq_true rfl, Nat.le_of_ble_eq_true rfl⟩ (fun _ => Nat.le_of_ble_eq_true rfl) (fun r2 => ?_)
      refine aw_icmp_ne (n := 33) 37 dX0_wouldJoin_30 (by decide) rfl ?_ ?_
      · refine aw_iconst (n := 38) 0 dX0_wouldJoin_37 rfl (by decide) ?_
        exact aw_zreturn (b := false) dX0_wouldJoin_38 rfl rfl
      · refine aw_iconst (n := 34) 1 dX0_wouldJoin_33 rfl (by decide) ?_
        refine aw_goto 38 dX0_wouldJoin_34 (by decide) ?_
        exact aw_zreturn (b := true) dX0_wouldJoin_38 rfl rfl
abbrev k_X0_allPulp : aw_K := (RX0, cX0_allPulp, 3, (some .int), 1, 120)
def f_X0_allPulp_4 (F : Nat) (t : Nat) (k4 : Int32 × Int32 × aw_M → Option (Int32 × aw_M)) (x1 : Int32) (x2 : Int32) (μ : aw_M) : Option (Int32 × aw_M) :=
  (if 100 ≤ x2 then
  some (x1, μ)
  else
  aw_g (aw_in x2 100) (aw_let ((x1 + (μ.1 (aw_rf t 16) x2.toNatClampNeg))) fun v2 =>
  k4 (v2, (x2 + 1), μ)))
theorem c_X0_allPulp_4 (l : Launch) (F : Nat) (t : Nat) (ht : (aw_sh t).1 = 5) : ∀ (N : Nat) (s : Int32 × Int32 × aw_M), AW l k_X0_allPulp aw_gi 4 [some (.ref t), some (.int s.1), some (.int s.2.1)] [] s.2.2 (aw_loop (fun k s => f_X0_allPulp_4 F t k s.1 s.2.1 s.2.2) N s) := by
  refine aw_loop_ok (f := fun k s => f_X0_allPulp_4 F t k s.1 s.2.1 s.2.2) (Ls := fun s => [some (.ref t), some (.int s.1), some (.int s.2.1)]) (ms := fun s => s.2.2) ?_
  intro k4 hk4 s
  obtain ⟨x1, x2, μ⟩ := s
  show AW l k_X0_allPulp aw_gi 4 [some (.ref t), some (.int x1), some (.int x2)] [] μ (f_X0_allPulp_4 F t k4 x1 x2 μ)
  unfold f_X0_allPulp_4
  refine aw_iload_n (n := 5) dX0_allPulp_4 rfl rfl ?_
  refine aw_bipush (n := 7) 100 dX0_allPulp_5 rfl (by decide) ?_
  refine aw_icmp_ge (n := 10) 25 dX0_allPulp_7 (by decide) rfl ?_ ?_
  · refine aw_iload_n (n := 26) dX0_allPulp_25 rfl rfl ?_
    exact aw_ireturn dX0_allPulp_26 rfl rfl
  · refine aw_iload_n (n := 11) dX0_allPulp_10 rfl rfl ?_
    refine aw_aload_n (n := 12) dX0_allPulp_11 rfl rfl ?_
    refine aw_getR (n := 15) (RX0, TX0, 20) 0 16 dX0_allPulp_12 rfl ht (by decide) fd_RX0_36 ?_
    refine aw_iload_n (n := 16) dX0_allPulp_15 rfl rfl ?_
    refine aw_iaload (n := 17) 100 dX0_allPulp_16 rfl (sf_0_16 ht) ?_
    refine aw_iadd (n := 18) dX0_allPulp_17 rfl ?_
    refine aw_nmI (fun v2 => ?_)
    refine aw_istore_n (n := 19) [some (.ref t), some (.int v2), some (.int x2)] dX0_allPulp_18 rfl rfl (Nat.le_of_ble_eq_true rfl) (Nat.le_of_ble_eq_true rfl) rfl ?_
    refine aw_iinc (n := 22) (x2 + 1) [some (.ref t), some (.int v2), some (.int (x2 + 1))] dX0_allPulp_19 rfl rfl (by rfl) rfl (Nat.le_of_ble_eq_true rfl) rfl ?_
    refine aw_goto 4 dX0_allPulp_22 (by decide) ?_
    exact aw_weak (hk4 (v2, (x2 + 1), μ)) (aw_ss (aw_ss (aw_ss aw_s0)))
def f_X0_allPulp (F : Nat) (t : Nat) (μ : aw_M) : Option (Int32 × aw_M) :=
  aw_loop (fun k s => f_X0_allPulp_4 F t k s.1 s.2.1 s.2.2) F (0, 0, μ)
theorem m_X0_allPulp (l : Launch) (F : Nat) (t : Nat) (ht : (aw_sh t).1 = 5) (μ : aw_M) : AM l yX0_allPulp cX0_allPulp 3 (some .int) 1 120 aw_gi [.ref t] μ (f_X0_allPulp F t μ) := by
  refine aw_met [some (.ref t), none, none] (by decide) (fun _ => rfl) (fun _ => Nat.le_of_ble_eq_true rfl) ?_
  show AW l k_X0_allPulp aw_gi 0 [some (.ref t), none, none] [] μ _
  unfold f_X0_allPulp
  refine aw_iconst (n := 1) 0 dX0_allPulp_0 rfl (by decide) ?_
  refine aw_istore_n (n := 2) [some (.ref t), some (.int 0), none] dX0_allPulp_1 rfl rfl (Nat.le_of_ble_eq_true rfl) (Nat.le_of_ble_eq_true rfl) rfl ?_
  refine aw_iconst (n := 3) 0 dX0_allPulp_2 rfl (by decide) ?_
  refine aw_istore_n (n := 4) [some (.ref t), some (.int 0), some (.int 0)] dX0_allPulp_3 rfl rfl (Nat.le_of_ble_eq_true rfl) (Nat.le_of_ble_eq_true rfl) rfl ?_
  exact aw_weak (c_X0_allPulp_4 l F t ht F (0, 0, μ)) (aw_ss (aw_ss (aw_ss aw_s0)))
abbrev k_X0_throwersOf : aw_K := (RX0, cX0_throwersOf, 6, (some .int), 2, 145)
def f_X0_throwersOf_87 (F : Nat) (t : Nat) (k5 : Int32 × Int32 × Int32 × Int32 × aw_M → Option (Int32 × aw_M)) (x1 : Int32) (x2 : Int32) (x3 : Int32) (x4 : Int32) (μ : aw_M) : Option (Int32 × aw_M) :=
  k5 (x1, x2, x3, (x4 + 1), μ)
theorem c_X0_throwersOf_87 (l : Launch) (F : Nat) (t : Nat) (ht : (aw_sh t).1 = 5) (k5 : Int32 × Int32 × Int32 × Int32 × aw_M → Option (Int32 × aw_M)) (hk5 : ∀ s : Int32 × Int32 × Int32 × Int32 × aw_M, AW l k_X0_throwersOf aw_gi 5 [some (.ref t), some (.int s.1), some (.int s.2.1), some (.int s.2.2.1), some (.int s.2.2.2.1), none] [] s.2.2.2.2 (k5 s)) (x1 : Int32) (x2 : Int32) (x3 : Int32) (x4 : Int32) (μ : aw_M) : AW l k_X0_throwersOf aw_gi 87 [some (.ref t), some (.int x1), some (.int x2), some (.int x3), some (.int x4), none] [] μ (f_X0_throwersOf_87 F t k5 x1 x2 x3 x4 μ) := by
  unfold f_X0_throwersOf_87
  refine aw_iinc (n := 90) (x4 + 1) [some (.ref t), some (.int x1), some (.int x2), some (.int x3), some (.int (x4 + 1)), none] dX0_throwersOf_87 rfl rfl (by rfl) rfl (Nat.le_of_ble_eq_true rfl) rfl ?_
  refine aw_goto 5 dX0_throwersOf_90 (by decide) ?_
  exact aw_weak (hk5 (x1, x2, x3, (x4 + 1), μ)) (aw_ss (aw_ss (aw_ss (aw_ss (aw_ss (aw_sn aw_s0))))))
def f_X0_throwersOf_5 (F : Nat) (t : Nat) (k5 : Int32 × Int32 × Int32 × Int32 × aw_M → Option (Int32 × aw_M)) (x1 : Int32) (x2 : Int32) (x3 : Int32) (x4 : Int32) (μ : aw_M) : Option (Int32 × aw_M) :=
  (if (μ.1 (aw_rf t 0) 3) ≤ x4 then
  some (x3, μ)
  else
  aw_g (aw_in ((x4 * 20) + x1) 360) (aw_let ((μ.1 (aw_rf (aw_rf t 2) 0) ((x4 * 20) + x1).toNatClampNeg)) fun v9 =>
  aw_g (aw_in x4 9) ((if (μ.1 (aw_rf t 9) x4.toNatClampNeg) ≤ 0 then
  f_X0_throwersOf_87 F t k5 x1 x2 x3 x4 μ
  else
  (f_X1_bars F (aw_rf t 2) x1 v9 μ).bind fun r10 =>
  (if r10.1 = true then
  f_X0_throwersOf_87 F t k5 x1 x2 x3 x4 r10.2
  else
  aw_g (aw_in x4 9) ((f_X8_hitOf F (aw_rf t 0) x4 x1 v9 (r10.2.1 (aw_rf t 12) x4.toNatClampNeg) r10.2).bind fun r11 =>
  (if r11.1 = x2 then
  aw_let ((x3 ||| (1 <<< (x4 &&& 31)))) fun v12 =>
  f_X0_throwersOf_87 F t k5 x1 x2 v12 x4 r11.2
  else
  f_X0_throwersOf_87 F t k5 x1 x2 x3 x4 r11.2)))))))
theorem c_X0_throwersOf_5 (l : Launch) (F : Nat) (t : Nat) (ht : (aw_sh t).1 = 5) : ∀ (N : Nat) (s : Int32 × Int32 × Int32 × Int32 × aw_M), AW l k_X0_throwersOf aw_gi 5 [some (.ref t), some (.int s.1), some (.int s.2.1), some (.int s.2.2.1), some (.int s.2.2.2.1), none] [] s.2.2.2.2 (aw_loop (fun k s => f_X0_throwersOf_5 F t k s.1 s.2.1 s.2.2.1 s.2.2.2.1 s.2.2.2.2) N s) := by
  refine aw_loop_ok (f := fun k s => f_X0_throwersOf_5 F t k s.1 s.2.1 s.2.2.1 s.2.2.2.1 s.2.2.2.2) (Ls := fun s => [some (.ref t), some (.int s.1), some (.int s.2.1), some (.int s.2.2.1), some (.int s.2.2.2.1), none]) (ms := fun s => s.2.2.2.2) ?_
  intro k5 hk5 s
  obtain ⟨x1, x2, x3, x4, μ⟩ := s
  show AW l k_X0_throwersOf aw_gi 5 [some (.ref t), some (.int x1), some (.int x2), some (.int x3), some (.int x4), none] [] μ (f_X0_throwersOf_5 F t k5 x1 x2 x3 x4 μ)
  unfold f_X0_throwersOf_5
  refine aw_iload (n := 7) dX0_throwersOf_5 rfl rfl ?_
  refine aw_aload_n (n := 8) dX0_throwersOf_7 rfl rfl ?_
  refine aw_getR (n := 11) (RX0, TX0, 20) 0 0 dX0_throwersOf_8 rfl ht (by decide) fd_RX0_45 ?_
  refine aw_getI (n := 14) (RX8, TX8, 20) 8 3 dX0_throwersOf_11 rfl (sf_0_0 ht) (by decide) fd_RX0_132 ?_
  refine aw_icmp_ge (n := 17) 93 dX0_throwersOf_14 (by decide) rfl ?_ ?_
  · refine aw_iload_n (n := 94) dX0_throwersOf_93 rfl rfl ?_
    exact aw_ireturn dX0_throwersOf_94 rfl rfl
  · refine aw_aload_n (n := 18) dX0_throwersOf_17 rfl rfl ?_
    refine aw_getR (n := 21) (RX0, TX0, 20) 0 2 dX0_throwersOf_18 rfl ht (by decide) fd_RX0_53 ?_
    refine aw_getR (n := 24) (RX1, TX1, 12) 1 0 dX0_throwersOf_21 rfl (sf_0_2 ht) (by decide) fd_RX0_173 ?_
    refine aw_iload (n := 26) dX0_throwersOf_24 rfl rfl ?_
    refine aw_bipush (n := 28) 20 dX0_throwersOf_26 rfl (by decide) ?_
    refine aw_imul (n := 29) dX0_throwersOf_28 rfl ?_
    refine aw_iload_n (n := 30) dX0_throwersOf_29 rfl rfl ?_
    refine aw_iadd (n := 31) dX0_throwersOf_30 rfl ?_
    refine aw_iaload (n := 32) 360 dX0_throwersOf_31 rfl (sf_1_0 (sf_0_2 ht)) ?_
    refine aw_nmI (fun v9 => ?_)
    refine aw_istore (n := 34) [some (.ref t), some (.int x1), some (.int x2), some (.int x3), some (.int x4), some (.int v9)] dX0_throwersOf_32 rfl rfl (Nat.le_of_ble_eq_true rfl) (Nat.le_of_ble_eq_true rfl) rfl ?_
    refine aw_aload_n (n := 35) dX0_throwersOf_34 rfl rfl ?_
    refine aw_getR (n := 38) (RX0, TX0, 20) 0 9 dX0_throwersOf_35 rfl ht (by decide) fd_RX0_15 ?_
    refine aw_iload (n := 40) dX0_throwersOf_38 rfl rfl ?_
    refine aw_iaload (n := 41) 9 dX0_throwersOf_40 rfl (sf_0_9 ht) ?_
    refine aw_if_le (n := 44) 87 dX0_throwersOf_41 (by decide) rfl ?_ ?_
    · exact aw_weak (c_X0_throwersOf_87 l F t ht k5 hk5 x1 x2 x3 x4 μ) (aw_ss (aw_ss (aw_ss (aw_ss (aw_ss (aw_sn aw_s0))))))
    · refine aw_aload_n (n := 45) dX0_throwersOf_44 rfl rfl ?_
      refine aw_getR (n := 48) (RX0, TX0, 20) 0 2 dX0_throwersOf_45 rfl ht (by decide) fd_RX0_53 ?_
      refine aw_iload_n (n := 49) dX0_throwersOf_48 rfl rfl ?_
      refine aw_iload (n := 51) dX0_throwersOf_49 rfl rfl ?_
      refine aw_callVz (n := 54) (as := [.int x1, .int v9]) (st := []) (RX1, TX1, 12) 1 dX0_throwersOf_51 rfl rfl (m_X1_bars l F (aw_rf t 2) (sf_0_2 ht) x1 v9 μ) (sf_0_2 ht) (by decide) rfl rfl cw_RX0_198 ⟨Nat.le_of_ble_eq_true rfl, Nat.le_of_ble_eq_true rfl⟩ (fun _ => Nat.le_of_ble_eq_true rfl) (fun r10 => ?_)
      refine aw_ifb_ne (n := 57) 87 dX0_throwersOf_54 (by decide) rfl ?_ ?_
      · exact aw_weak (c_X0_throwersOf_87 l F t ht k5 hk5 x1 x2 x3 x4 r10.2) (aw_ss (aw_ss (aw_ss (aw_ss (aw_ss (aw_sn aw_s0))))))
      · refine aw_aload_n (n := 58) dX0_throwersOf_57 rfl rfl ?_
        refine aw_getR (n := 61) (RX0, TX0, 20) 0 0 dX0_throwersOf_58 rfl ht (by decide) fd_RX0_45 ?_
        refine aw_iload (n := 63) dX0_throwersOf_61 rfl rfl ?_
        refine aw_iload_n (n := 64) dX0_throwersOf_63 rfl rfl ?_
        refine aw_iload (n := 66) dX0_throwersOf_64 rfl rfl ?_
        refine aw_aload_n (n := 67) dX0_throwersOf_66 rfl rfl ?_
        refine aw_getR (n := 70) (RX0, TX0, 20) 0 12 dX0_throwersOf_67 rfl ht (by decide) fd_RX0_24 ?_
        refine aw_iload (n := 72) dX0_throwersOf_70 rfl rfl ?_
        refine aw_iaload (n := 73) 9 dX0_throwersOf_72 rfl (sf_0_12 ht) ?_
        refine aw_callVi (n := 76) (as := [.int x4, .int x1, .int v9, .int (r10.2.1 (aw_rf t 12) x4.toNatClampNeg)]) (st := []) (RX8, TX8, 20) 8 dX0_throwersOf_73 rfl rfl (m_X8_hitOf l F (aw_rf t 0) (sf_0_0 ht) x4 x1 v9 (r10.2.1 (aw_rf t 12) x4.toNatClampNeg) r10.2) (sf_0_0 ht) (by decide) rfl rfl cw_RX0_187 ⟨Nat.le_of_ble_eq_true rfl, Nat.le_of_ble_eq_true rfl⟩ (fun _ => Nat.le_of_ble_eq_true rfl) (fun r11 => ?_)
        refine aw_iload_n (n := 77) dX0_throwersOf_76 rfl rfl ?_
        refine aw_icmp_ne (n := 80) 87 dX0_throwersOf_77 (by decide) rfl ?_ ?_
        · exact aw_weak (c_X0_throwersOf_87 l F t ht k5 hk5 x1 x2 x3 x4 r11.2) (aw_ss (aw_ss (aw_ss (aw_ss (aw_ss (aw_sn aw_s0))))))
        · refine aw_iload_n (n := 81) dX0_throwersOf_80 rfl rfl ?_
          refine aw_iconst (n := 82) 1 dX0_throwersOf_81 rfl (by decide) ?_
          refine aw_iload (n := 84) dX0_throwersOf_82 rfl rfl ?_
          refine aw_ishl (n := 85) dX0_throwersOf_84 rfl ?_
          refine aw_ior (n := 86) dX0_throwersOf_85 rfl ?_
          refine aw_nmI (fun v12 => ?_)
          refine aw_istore_n (n := 87) [some (.ref t), some (.int x1), some (.int x2), some (.int v12), some (.int x4), some (.int v9)] dX0_throwersOf_86 rfl rfl (Nat.le_of_ble_eq_true rfl) (Nat.le_of_ble_eq_true rfl) rfl ?_
          exact aw_weak (c_X0_throwersOf_87 l F t ht k5 hk5 x1 x2 v12 x4 r11.2) (aw_ss (aw_ss (aw_ss (aw_ss (aw_ss (aw_sn aw_s0))))))
def f_X0_throwersOf (F : Nat) (t : Nat) (a0 : Int32) (a1 : Int32) (μ : aw_M) : Option (Int32 × aw_M) :=
  aw_loop (fun k s => f_X0_throwersOf_5 F t k s.1 s.2.1 s.2.2.1 s.2.2.2.1 s.2.2.2.2) F (a0, a1, 0, 0, μ)
theorem m_X0_throwersOf (l : Launch) (F : Nat) (t : Nat) (ht : (aw_sh t).1 = 5) (a0 : Int32) (a1 : Int32) (μ : aw_M) : AM l yX0_throwersOf cX0_throwersOf 6 (some .int) 2 145 aw_gi [.ref t, .int a0, .int a1] μ (f_X0_throwersOf F t a0 a1 μ) := by
  refine aw_met [some (.ref t), some (.int a0), some (.int a1), none, none, none] (by decide) (fun _ => rfl) (fun _ => Nat.le_of_ble_eq_true rfl) ?_
  show AW l k_X0_throwersOf aw_gi 0 [some (.ref t), some (.int a0), some (.int a1), none, none, none] [] μ _
  unfold f_X0_throwersOf
  refine aw_iconst (n := 1) 0 dX0_throwersOf_0 rfl (by decide) ?_
  refine aw_istore_n (n := 2) [some (.ref t), some (.int a0), some (.int a1), some (.int 0), none, none] dX0_throwersOf_1 rfl rfl (Nat.le_of_ble_eq_true rfl) (Nat.le_of_ble_eq_true rfl) rfl ?_
  refine aw_iconst (n := 3) 0 dX0_throwersOf_2 rfl (by decide) ?_
  refine aw_istore (n := 5) [some (.ref t), some (.int a0), some (.int a1), some (.int 0), some (.int 0), none] dX0_throwersOf_3 rfl rfl (Nat.le_of_ble_eq_true rfl) (Nat.le_of_ble_eq_true rfl) rfl ?_
  exact aw_weak (c_X0_throwersOf_5 l F t ht F (a0, a1, 0, 0, μ)) (aw_ss (aw_ss (aw_ss (aw_ss (aw_ss (aw_sn aw_s0))))))
abbrev k_X0_measure : aw_K := (RX0, cX0_measure, 3, (some .int), 1, 120)
def f_X0_measure (F : Nat) (t : Nat) (a0 : Int32) (a1 : Int32) (μ : aw_M) : Option (Int32 × aw_M) :=
  (aw_sel ((a1 : Int32).toInt - 14) [(aw_g (aw_in a0 9) (some ((μ.1 (aw_rf t 9) a0.toNatClampNeg), μ))), (aw_g (aw_in a0 9) (some ((μ.1 (aw_rf t 10) a0.toNatClampNeg), μ))), (aw_g (aw_in a0 9) (some ((μ.1 (aw_rf t 11) a0.toNatClampNeg), μ))), (aw_g (aw_in a0 9) (some ((μ.1 (aw_rf (aw_rf t 0) 8) a0.toNatClampNeg), μ))), (aw_g (aw_in a0 18) (some ((μ.1 (aw_rf (aw_rf t 2) 1) a0.toNatClampNeg), μ)))] (some (a0, μ)))
theorem m_X0_measure (l : Launch) (F : Nat) (t : Nat) (ht : (aw_sh t).1 = 5) (a0 : Int32) (a1 : Int32) (μ : aw_M) : AM l yX0_measure cX0_measure 3 (some .int) 1 120 aw_gi [.ref t, .int a0, .int a1] μ (f_X0_measure F t a0 a1 μ) := by
  refine aw_met [some (.ref t), some (.int a0), some (.int a1)] (by decide) (fun _ => rfl) (fun _ => Nat.le_of_ble_eq_true rfl) ?_
  show AW l k_X0_measure aw_gi 0 [some (.ref t), some (.int a0), some (.int a1)] [] μ _
  unfold f_X0_measure
  refine aw_iload_n (n := 1) dX0_measure_0 rfl rfl ?_
  refine aw_tsw [36, 43, 50, 57, 67] 77 dX0_measure_1 (by decide) (by decide) (by decide) ⟨?_, ?_, ?_, ?_, ?_, trivial⟩ ?_
  · refine aw_aload_n (n := 37) dX0_measure_36 rfl rfl ?_
    refine aw_getR (n := 40) (RX0, TX0, 20) 0 9 dX0_measure_37 rfl ht (by decide) fd_RX0_15 ?_
    refine aw_iload_n (n := 41) dX0_measure_40 rfl rfl ?_
    refine aw_iaload (n := 42) 9 dX0_measure_41 rfl (sf_0_9 ht) ?_
    exact aw_ireturn dX0_measure_42 rfl rfl
  · refine aw_aload_n (n := 44) dX0_measure_43 rfl rfl ?_
    refine aw_getR (n := 47) (RX0, TX0, 20) 0 10 dX0_measure_44 rfl ht (by decide) fd_RX0_18 ?_
    refine aw_iload_n (n := 48) dX0_measure_47 rfl rfl ?_
    refine aw_iaload (n := 49) 9 dX0_measure_48 rfl (sf_0_10 ht) ?_
    exact aw_ireturn dX0_measure_49 rfl rfl
  · refine aw_aload_n (n := 51) dX0_measure_50 rfl rfl ?_
    refine aw_getR (n := 54) (RX0, TX0, 20) 0 11 dX0_measure_51 rfl ht (by decide) fd_RX0_21 ?_
    refine aw_iload_n (n := 55) dX0_measure_54 rfl rfl ?_
    refine aw_iaload (n := 56) 9 dX0_measure_55 rfl (sf_0_11 ht) ?_
    exact aw_ireturn dX0_measure_56 rfl rfl
  · refine aw_aload_n (n := 58) dX0_measure_57 rfl rfl ?_
    refine aw_getR (n := 61) (RX0, TX0, 20) 0 0 dX0_measure_58 rfl ht (by decide) fd_RX0_45 ?_
    refine aw_getR (n := 64) (RX8, TX8, 20) 8 8 dX0_measure_61 rfl (sf_0_0 ht) (by decide) fd_RX0_223 ?_
    refine aw_iload_n (n := 65) dX0_measure_64 rfl rfl ?_
    refine aw_iaload (n := 66) 9 dX0_measure_65 rfl (sf_8_8 (sf_0_0 ht)) ?_
    exact aw_ireturn dX0_measure_66 rfl rfl
  · refine aw_aload_n (n := 68) dX0_measure_67 rfl rfl ?_
    refine aw_getR (n := 71) (RX0, TX0, 20) 0 2 dX0_measure_68 rfl ht (by decide) fd_RX0_53 ?_
    refine aw_getR (n := 74) (RX1, TX1, 12) 1 1 dX0_measure_71 rfl (sf_0_2 ht) (by decide) fd_RX0_213 ?_
    refine aw_iload_n (n := 75) dX0_measure_74 rfl rfl ?_
    refine aw_iaload (n := 76) 18 dX0_measure_75 rfl (sf_1_1 (sf_0_2 ht)) ?_
    exact aw_ireturn dX0_measure_76 rfl rfl
  · refine aw_iload_n (n := 78) dX0_measure_77 rfl rfl ?_
    exact aw_ireturn dX0_measure_78 rfl rfl
