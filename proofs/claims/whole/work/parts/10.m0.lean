abbrev k_X10_copyRow : aw_K := (RX10, cX10_copyRow, 2, none, 1, 120)
def f_X10_copyRow (F : Nat) (a0 a1 : Nat) (μ : aw_M) : Option (aw_M) :=
  aw_g (aw_cok 0 0 (if (Int32.ofNat ((aw_sh a1).2)) < (Int32.ofNat ((aw_sh a0).2)) then (Int32.ofNat ((aw_sh a1).2)) else (Int32.ofNat ((aw_sh a0).2))) ((aw_sh a0).2) ((aw_sh a1).2)) (aw_let (aw_cp μ a0 a1 ((0 : Int32).toNatClampNeg) ((0 : Int32).toNatClampNeg) (((if (Int32.ofNat ((aw_sh a1).2)) < (Int32.ofNat ((aw_sh a0).2)) then (Int32.ofNat ((aw_sh a1).2)) else (Int32.ofNat ((aw_sh a0).2))) : Int32).toNatClampNeg)) fun μ1 =>
  some μ1)
theorem m_X10_copyRow (l : Launch) (F : Nat) (a0 : Nat) (ha0 : aw_sh a0 = (0, (aw_sh a0).2)) (a1 : Nat) (ha1 : aw_sh a1 = (0, (aw_sh a1).2)) (μ : aw_M) : AM l yX10_copyRow cX10_copyRow 2 none 1 120 aw_gv [.ref a0, .ref a1] μ (f_X10_copyRow F a0 a1 μ) := by
  refine aw_met [some (.ref a0), some (.ref a1)] (by decide) (fun _ => rfl) (fun _ => Nat.le_of_ble_eq_true rfl) ?_
  show AW l k_X10_copyRow aw_gv 0 [some (.ref a0), some (.ref a1)] [] μ _
  unfold f_X10_copyRow
  refine aw_aload_n (n := 1) dX10_copyRow_0 rfl rfl ?_
  refine aw_iconst (n := 2) 0 dX10_copyRow_1 rfl (by decide) ?_
  refine aw_aload_n (n := 3) dX10_copyRow_2 rfl rfl ?_
  refine aw_iconst (n := 4) 0 dX10_copyRow_3 rfl (by decide) ?_
  refine aw_aload_n (n := 5) dX10_copyRow_4 rfl rfl ?_
  refine aw_alen (n := 6) (Int32.ofNat ((aw_sh a0).2)) dX10_copyRow_5 rfl (congrArg Prod.fst ha0) rfl ?_
  refine aw_aload_n (n := 7) dX10_copyRow_6 rfl rfl ?_
  refine aw_alen (n := 8) (Int32.ofNat ((aw_sh a1).2)) dX10_copyRow_7 rfl (congrArg Prod.fst ha1) rfl ?_
  refine aw_mmin (n := 11) dX10_copyRow_8 rfl tb_777 (Nat.le_of_ble_eq_true rfl) (fun _ => Nat.le_of_ble_eq_true rfl) ?_
  refine aw_copyi (n := 14) ((aw_sh a0).2) ((aw_sh a1).2) dX10_copyRow_11 rfl tb_780 (Nat.le_of_ble_eq_true rfl) (fun _ => Nat.le_of_ble_eq_true rfl) ha0 ha1 (fun μ1 => ?_)
  exact aw_vreturn dX10_copyRow_14 rfl rfl
abbrev k_J7_fill_53178 : aw_K := (RJ7, cJ7_fill_53178, 4, none, 1, 120)
def f_J7_fill_53178_5 (F : Nat) (a0 : Nat) (k5 : Int32 × Int32 × Int32 × aw_M → Option (aw_M)) (x1 : Int32) (x2 : Int32) (x3 : Int32) (μ : aw_M) : Option (aw_M) :=
  (if x3 ≤ x2 then
  some μ
  else
  aw_g (aw_in x2 ((aw_sh a0).2)) (aw_let (aw_wI μ a0 x2.toNatClampNeg x1) fun μ4 =>
  k5 (x1, (x2 + 1), x3, μ4)))
theorem c_J7_fill_53178_5 (l : Launch) (F : Nat) (a0 : Nat) (ha0 : aw_sh a0 = (0, (aw_sh a0).2)) : ∀ (N : Nat) (s : Int32 × Int32 × Int32 × aw_M), AW l k_J7_fill_53178 aw_gv 5 [some (.ref a0), some (.int s.1), some (.int s.2.1), some (.int s.2.2.1)] [] s.2.2.2 (aw_loop (fun k s => f_J7_fill_53178_5 F a0 k s.1 s.2.1 s.2.2.1 s.2.2.2) N s) := by
  refine aw_loop_ok (f := fun k s => f_J7_fill_53178_5 F a0 k s.1 s.2.1 s.2.2.1 s.2.2.2) (Ls := fun s => [some (.ref a0), some (.int s.1), some (.int s.2.1), some (.int s.2.2.1)]) (ms := fun s => s.2.2.2) ?_
  intro k5 hk5 s
  obtain ⟨x1, x2, x3, μ⟩ := s
  show AW l k_J7_fill_53178 aw_gv 5 [some (.ref a0), some (.int x1), some (.int x2), some (.int x3)] [] μ (f_J7_fill_53178_5 F a0 k5 x1 x2 x3 μ)
  unfold f_J7_fill_53178_5
  refine aw_iload_n (n := 6) dJ7_fill_53178_5 rfl rfl ?_
  refine aw_iload_n (n := 7) dJ7_fill_53178_6 rfl rfl ?_
  refine aw_icmp_ge (n := 10) 20 dJ7_fill_53178_7 (by decide) rfl ?_ ?_
  · exact aw_vreturn dJ7_fill_53178_20 rfl rfl
  · refine aw_aload_n (n := 11) dJ7_fill_53178_10 rfl rfl ?_
    refine aw_iload_n (n := 12) dJ7_fill_53178_11 rfl rfl ?_
    refine aw_iload_n (n := 13) dJ7_fill_53178_12 rfl rfl ?_
    refine aw_iastore (n := 14) ((aw_sh a0).2) dJ7_fill_53178_13 rfl ha0 (fun μ4 => ?_)
    refine aw_iinc (n := 17) (x2 + 1) [some (.ref a0), some (.int x1), some (.int (x2 + 1)), some (.int x3)] dJ7_fill_53178_14 rfl rfl (by rfl) rfl (Nat.le_of_ble_eq_true rfl) rfl ?_
    refine aw_goto 5 dJ7_fill_53178_17 (by decide) ?_
    exact aw_weak (hk5 (x1, (x2 + 1), x3, μ4)) (aw_ss (aw_ss (aw_ss (aw_ss aw_s0))))
def f_J7_fill_53178 (F : Nat) (a0 : Nat) (a1 : Int32) (μ : aw_M) : Option (aw_M) :=
  aw_let ((Int32.ofNat ((aw_sh a0).2))) fun v3 =>
  aw_loop (fun k s => f_J7_fill_53178_5 F a0 k s.1 s.2.1 s.2.2.1 s.2.2.2) F (a1, 0, v3, μ)
theorem m_J7_fill_53178 (l : Launch) (F : Nat) (a0 : Nat) (ha0 : aw_sh a0 = (0, (aw_sh a0).2)) (a1 : Int32) (μ : aw_M) : AM l yJ7_fill_53178 cJ7_fill_53178 4 none 1 120 aw_gv [.ref a0, .int a1] μ (f_J7_fill_53178 F a0 a1 μ) := by
  refine aw_met [some (.ref a0), some (.int a1), none, none] (by decide) (fun _ => rfl) (fun _ => Nat.le_of_ble_eq_true rfl) ?_
  show AW l k_J7_fill_53178 aw_gv 0 [some (.ref a0), some (.int a1), none, none] [] μ _
  unfold f_J7_fill_53178
  refine aw_iconst (n := 1) 0 dJ7_fill_53178_0 rfl (by decide) ?_
  refine aw_istore_n (n := 2) [some (.ref a0), some (.int a1), some (.int 0), none] dJ7_fill_53178_1 rfl rfl (Nat.le_of_ble_eq_true rfl) (Nat.le_of_ble_eq_true rfl) rfl ?_
  refine aw_aload_n (n := 3) dJ7_fill_53178_2 rfl rfl ?_
  refine aw_alen (n := 4) (Int32.ofNat ((aw_sh a0).2)) dJ7_fill_53178_3 rfl (congrArg Prod.fst ha0) rfl ?_
  refine aw_nmI (fun v3 => ?_)
  refine aw_istore_n (n := 5) [some (.ref a0), some (.int a1), some (.int 0), some (.int v3)] dJ7_fill_53178_4 rfl rfl (Nat.le_of_ble_eq_true rfl) (Nat.le_of_ble_eq_true rfl) rfl ?_
  exact aw_weak (c_J7_fill_53178_5 l F a0 ha0 F (a1, 0, v3, μ)) (aw_ss (aw_ss (aw_ss (aw_ss aw_s0))))
abbrev k_X6_atKey : aw_K := (RX6, cX6_atKey, 2, (some .boolean), 1, 120)
def f_X6_atKey (F : Nat) (t : Nat) (a0 : Int32) (μ : aw_M) : Option (Bool × aw_M) :=
  (if (μ.1 t 6) = 1 then
  (if (μ.1 t 9) = a0 then
  some (true, μ)
  else
  some (false, μ))
  else
  some (false, μ))
theorem m_X6_atKey (l : Launch) (F : Nat) (t : Nat) (ht : (aw_sh t).1 = 11) (a0 : Int32) (μ : aw_M) : AM l yX6_atKey cX6_atKey 2 (some .boolean) 1 120 aw_gz [.ref t, .int a0] μ (f_X6_atKey F t a0 μ) := by
  refine aw_met [some (.ref t), some (.int a0)] (by decide) (fun _ => rfl) (fun _ => Nat.le_of_ble_eq_true rfl) ?_
  show AW l k_X6_atKey aw_gz 0 [some (.ref t), some (.int a0)] [] μ _
  unfold f_X6_atKey
  refine aw_aload_n (n := 1) dX6_atKey_0 rfl rfl ?_
  refine aw_getI (n := 4) (RX6, TX6, 13) 6 6 dX6_atKey_1 rfl ht (by decide) fd_RX6_62 ?_
  refine aw_iconst (n := 5) 1 dX6_atKey_4 rfl (by decide) ?_
  refine aw_icmp_ne (n := 8) 20 dX6_atKey_5 (by decide) rfl ?_ ?_
  · refine aw_iconst (n := 21) 0 dX6_atKey_20 rfl (by decide) ?_
    exact aw_zreturn (b := false) dX6_atKey_21 rfl rfl
  · refine aw_aload_n (n := 9) dX6_atKey_8 rfl rfl ?_
    refine aw_getI (n := 12) (RX6, TX6, 13) 6 9 dX6_atKey_9 rfl ht (by decide) fd_RX6_59 ?_
    refine aw_iload_n (n := 13) dX6_atKey_12 rfl rfl ?_
    refine aw_icmp_ne (n := 16) 20 dX6_atKey_13 (by decide) rfl ?_ ?_
    · refine aw_iconst (n := 21) 0 dX6_atKey_20 rfl (by decide) ?_
      exact aw_zreturn (b := false) dX6_atKey_21 rfl rfl
    · refine aw_iconst (n := 17) 1 dX6_atKey_16 rfl (by decide) ?_
      refine aw_goto 21 dX6_atKey_17 (by decide) ?_
      exact aw_zreturn (b := true) dX6_atKey_21 rfl rfl
abbrev k_X6_atName : aw_K := (RX6, cX6_atName, 1, (some .boolean), 1, 120)
def f_X6_atName (F : Nat) (t : Nat) (μ : aw_M) : Option (Bool × aw_M) :=
  (if (μ.1 t 6) = 1 then
  (if (μ.1 t 9) = (-1) then
  some (true, μ)
  else
  some (false, μ))
  else
  some (false, μ))
theorem m_X6_atName (l : Launch) (F : Nat) (t : Nat) (ht : (aw_sh t).1 = 11) (μ : aw_M) : AM l yX6_atName cX6_atName 1 (some .boolean) 1 120 aw_gz [.ref t] μ (f_X6_atName F t μ) := by
  refine aw_met [some (.ref t)] (by decide) (fun _ => rfl) (fun _ => Nat.le_of_ble_eq_true rfl) ?_
  show AW l k_X6_atName aw_gz 0 [some (.ref t)] [] μ _
  unfold f_X6_atName
  refine aw_aload_n (n := 1) dX6_atName_0 rfl rfl ?_
  refine aw_getI (n := 4) (RX6, TX6, 13) 6 6 dX6_atName_1 rfl ht (by decide) fd_RX6_62 ?_
  refine aw_iconst (n := 5) 1 dX6_atName_4 rfl (by decide) ?_
  refine aw_icmp_ne (n := 8) 20 dX6_atName_5 (by decide) rfl ?_ ?_
  · refine aw_iconst (n := 21) 0 dX6_atName_20 rfl (by decide) ?_
    exact aw_zreturn (b := false) dX6_atName_21 rfl rfl
  · refine aw_aload_n (n := 9) dX6_atName_8 rfl rfl ?_
    refine aw_getI (n := 12) (RX6, TX6, 13) 6 9 dX6_atName_9 rfl ht (by decide) fd_RX6_59 ?_
    refine aw_iconst (n := 13) (-1) dX6_atName_12 rfl (by decide) ?_
    refine aw_icmp_ne (n := 16) 20 dX6_atName_13 (by decide) rfl ?_ ?_
    · refine aw_iconst (n := 21) 0 dX6_atName_20 rfl (by decide) ?_
      exact aw_zreturn (b := false) dX6_atName_21 rfl rfl
    · refine aw_iconst (n := 17) 1 dX6_atName_16 rfl (by decide) ?_
      refine aw_goto 21 dX6_atName_17 (by decide) ?_
      exact aw_zreturn (b := true) dX6_atName_21 rfl rfl
abbrev k_X6_fail : aw_K := (RX6, cX6_fail, 2, (some .boolean), 1, 120)
def f_X6_fail (F : Nat) (t : Nat) (a0 : Int32) (μ : aw_M) : Option (Bool × aw_M) :=
  aw_let (aw_wI μ t 11 a0) fun μ1 =>
  aw_let (aw_wI μ1 t 12 (μ1.1 t 5)) fun μ2 =>
  some (false, μ2)
theorem m_X6_fail (l : Launch) (F : Nat) (t : Nat) (ht : (aw_sh t).1 = 11) (a0 : Int32) (μ : aw_M) : AM l yX6_fail cX6_fail 2 (some .boolean) 1 120 aw_gz [.ref t, .int a0] μ (f_X6_fail F t a0 μ) := by
  refine aw_met [some (.ref t), some (.int a0)] (by decide) (fun _ => rfl) (fun _ => Nat.le_of_ble_eq_true rfl) ?_
  show AW l k_X6_fail aw_gz 0 [some (.ref t), some (.int a0)] [] μ _
  unfold f_X6_fail
  refine aw_aload_n (n := 1) dX6_fail_0 rfl rfl ?_
  refine aw_iload_n (n := 2) dX6_fail_1 rfl rfl ?_
  refine aw_putI (n := 5) (RX6, TX6, 13) 6 11 dX6_fail_2 rfl ht (by decide) fp_RX6_43 (fun μ1 => ?_)
  refine aw_aload_n (n := 6) dX6_fail_5 rfl rfl ?_
  refine aw_aload_n (n := 7) dX6_fail_6 rfl rfl ?_
  refine aw_getI (n := 10) (RX6, TX6, 13) 6 5 dX6_fail_7 rfl ht (by decide) fd_RX6_56 ?_
  refine aw_putI (n := 13) (RX6, TX6, 13) 6 12 dX6_fail_10 rfl ht (by decide) fp_RX6_46 (fun μ2 => ?_)
  refine aw_iconst (n := 14) 0 dX6_fail_13 rfl (by decide) ?_
  exact aw_zreturn (b := false) dX6_fail_14 rfl rfl
abbrev k_X6_seeNumber : aw_K := (RX6, cX6_seeNumber, 3, (some .boolean), 2, 141)
def f_X6_seeNumber_38 (F : Nat) (t : Nat) (μ : aw_M) : Option (Bool × aw_M) :=
  some (true, μ)
theorem c_X6_seeNumber_38 (l : Launch) (F : Nat) (t : Nat) (ht : (aw_sh t).1 = 11) (μ : aw_M) : AW l k_X6_seeNumber aw_gz 38 [none, none, none] [] μ (f_X6_seeNumber_38 F t μ) := by
  unfold f_X6_seeNumber_38
  refine aw_iconst (n := 39) 1 dX6_seeNumber_38 rfl (by decide) ?_
  refine aw_goto 43 dX6_seeNumber_39 (by decide) ?_
  exact aw_zreturn (b := true) dX6_seeNumber_43 rfl rfl
def f_X6_seeNumber_30 (F : Nat) (t : Nat) (μ : aw_M) : Option (Bool × aw_M) :=
  (f_X6_fail F t 2 μ).bind fun r3 =>
  (if r3.1 = true then
  f_X6_seeNumber_38 F t r3.2
  else
  some (false, r3.2))
theorem c_X6_seeNumber_30 (l : Launch) (F : Nat) (t : Nat) (ht : (aw_sh t).1 = 11) (μ : aw_M) : AW l k_X6_seeNumber aw_gz 30 [some (.ref t), none, none] [] μ (f_X6_seeNumber_30 F t μ) := by
  unfold f_X6_seeNumber_30
  refine aw_aload_n (n := 31) dX6_seeNumber_30 rfl rfl ?_
  refine aw_iconst (n := 32) 2 dX6_seeNumber_31 rfl (by decide) ?_
  refine aw_callVz (n := 35) (as := [.int 2]) (st := []) (RX6, TX6, 13) 6 dX6_seeNumber_32 rfl rfl (m_X6_fail l F t ht 2 μ) ht (by decide) rfl rfl cw_RX6_88 ⟨Nat.le_of_ble_eq_true rfl, Nat.le_of_ble_eq_true rfl⟩ (fun _ => Nat.le_of_ble_eq_true rfl) (fun r3 => ?_)
  refine aw_ifb_eq (n := 38) 42 dX6_seeNumber_35 (by decide) rfl ?_ ?_
  · refine aw_iconst (n := 43) 0 dX6_seeNumber_42 rfl (by decide) ?_
    exact aw_zreturn (b := false) dX6_seeNumber_43 rfl rfl
  · exact aw_weak (c_X6_seeNumber_38 l F t ht r3.2) (aw_sn (aw_sn (aw_sn aw_s0)))
def f_X6_seeNumber (F : Nat) (t : Nat) (a0 : Int32) (a1 : Int32) (μ : aw_M) : Option (Bool × aw_M) :=
  (if (μ.1 t 6) = 2 then
  (if (μ.1 t 7) < a0 then
  f_X6_seeNumber_30 F t μ
  else
  (if (μ.1 t 7) ≤ a1 then
  f_X6_seeNumber_38 F t μ
  else
  f_X6_seeNumber_30 F t μ))
  else
  (f_X6_fail F t 1 μ).bind fun r4 =>
  some (r4.1, r4.2))
theorem m_X6_seeNumber (l : Launch) (F : Nat) (t : Nat) (ht : (aw_sh t).1 = 11) (a0 : Int32) (a1 : Int32) (μ : aw_M) : AM l yX6_seeNumber cX6_seeNumber 3 (some .boolean) 2 141 aw_gz [.ref t, .int a0, .int a1] μ (f_X6_seeNumber F t a0 a1 μ) := by
  refine aw_met [some (.ref t), some (.int a0), some (.int a1)] (by decide) (fun _ => rfl) (fun _ => Nat.le_of_ble_eq_true rfl) ?_
  show AW l k_X6_seeNumber aw_gz 0 [some (.ref t), some (.int a0), some (.int a1)] [] μ _
  unfold f_X6_seeNumber
  refine aw_aload_n (n := 1) dX6_seeNumber_0 rfl rfl ?_
  refine aw_getI (n := 4) (RX6, TX6, 13) 6 6 dX6_seeNumber_1 rfl ht (by decide) fd_RX6_62 ?_
  refine aw_iconst (n := 5) 2 dX6_seeNumber_4 rfl (by decide) ?_
  refine aw_icmp_eq (n := 8) 14 dX6_seeNumber_5 (by decide) rfl ?_ ?_
  · refine aw_aload_n (n := 15) dX6_seeNumber_14 rfl rfl ?_
    refine aw_getI (n := 18) (RX6, TX6, 13) 6 7 dX6_seeNumber_15 rfl ht (by decide) fd_RX6_82 ?_
    refine aw_iload_n (n := 19) dX6_seeNumber_18 rfl rfl ?_
    refine aw_icmp_lt (n := 22) 30 dX6_seeNumber_19 (by decide) rfl ?_ ?_
    · exact aw_weak (c_X6_seeNumber_30 l F t ht μ) (aw_ss (aw_sn (aw_sn aw_s0)))
    · refine aw_aload_n (n := 23) dX6_seeNumber_22 rfl rfl ?_
      refine aw_getI (n := 26) (RX6, TX6, 13) 6 7 dX6_seeNumber_23 rfl ht (by decide) fd_RX6_82 ?_
      refine aw_iload_n (n := 27) dX6_seeNumber_26 rfl rfl ?_
      refine aw_icmp_le (n := 30) 38 dX6_seeNumber_27 (by decide) rfl ?_ ?_
      · exact aw_weak (c_X6_seeNumber_38 l F t ht μ) (aw_sn (aw_sn (aw_sn aw_s0)))
      · exact aw_weak (c_X6_seeNumber_30 l F t ht μ) (aw_ss (aw_sn (aw_sn aw_s0)))
  · refine aw_aload_n (n := 9) dX6_seeNumber_8 rfl rfl ?_
    refine aw_iconst (n := 10) 1 dX6_seeNumber_9 rfl (by decide) ?_
    refine aw_callVz (n := 13) (as := [.int 1]) (st := []) (RX6, TX6, 13) 6 dX6_seeNumber_10 rfl rfl (m_X6_fail l F t ht 1 μ) ht (by decide) rfl rfl cw_RX6_88 ⟨Nat.le_of_ble_eq_true rfl, Nat.le_of_ble_eq_true rfl⟩ (fun _ => Nat.le_of_ble_eq_true rfl) (fun r4 => ?_)
    exact aw_zreturn (b := r4.1) dX6_seeNumber_13 rfl rfl
abbrev k_X6_isBlank : aw_K := (RX6, cX6_isBlank, 1, (some .boolean), 1, 120)
def f_X6_isBlank_12 (F : Nat)  (μ : aw_M) : Option (Bool × aw_M) :=
  some (true, μ)
theorem c_X6_isBlank_12 (l : Launch) (F : Nat) (μ : aw_M) : AW l k_X6_isBlank aw_gz 12 [none] [] μ (f_X6_isBlank_12 F  μ) := by
  unfold f_X6_isBlank_12
  refine aw_iconst (n := 13) 1 dX6_isBlank_12 rfl (by decide) ?_
  refine aw_goto 17 dX6_isBlank_13 (by decide) ?_
  exact aw_zreturn (b := true) dX6_isBlank_17 rfl rfl
def f_X6_isBlank (F : Nat)  (a0 : Int32) (μ : aw_M) : Option (Bool × aw_M) :=
  (if a0 = 32 then
  f_X6_isBlank_12 F  μ
  else
  (if a0 = 10 then
  f_X6_isBlank_12 F  μ
  else
  some (false, μ)))
theorem m_X6_isBlank (l : Launch) (F : Nat) (a0 : Int32) (μ : aw_M) : AM l yX6_isBlank cX6_isBlank 1 (some .boolean) 1 120 aw_gz [.int a0] μ (f_X6_isBlank F  a0 μ) := by
  refine aw_met [some (.int a0)] (by decide) (fun _ => rfl) (fun _ => Nat.le_of_ble_eq_true rfl) ?_
  show AW l k_X6_isBlank aw_gz 0 [some (.int a0)] [] μ _
  unfold f_X6_isBlank
  refine aw_iload_n (n := 1) dX6_isBlank_0 rfl rfl ?_
  refine aw_bipush (n := 3) 32 dX6_isBlank_1 rfl (by decide) ?_
  refine aw_icmp_eq (n := 6) 12 dX6_isBlank_3 (by decide) rfl ?_ ?_
  · exact aw_weak (c_X6_isBlank_12 l F  μ) (aw_sn aw_s0)
  · refine aw_iload_n (n := 7) dX6_isBlank_6 rfl rfl ?_
    refine aw_bipush (n := 9) 10 dX6_isBlank_7 rfl (by decide) ?_
    refine aw_icmp_ne (n := 12) 16 dX6_isBlank_9 (by decide) rfl ?_ ?_
    · refine aw_iconst (n := 17) 0 dX6_isBlank_16 rfl (by decide) ?_
      exact aw_zreturn (b := false) dX6_isBlank_17 rfl rfl
    · exact aw_weak (c_X6_isBlank_12 l F  μ) (aw_sn aw_s0)
abbrev k_X6_isSign : aw_K := (RX6, cX6_isSign, 1, (some .boolean), 1, 120)
def f_X6_isSign_36 (F : Nat)  (μ : aw_M) : Option (Bool × aw_M) :=
  some (true, μ)
theorem c_X6_isSign_36 (l : Launch) (F : Nat) (μ : aw_M) : AW l k_X6_isSign aw_gz 36 [none] [] μ (f_X6_isSign_36 F  μ) := by
  unfold f_X6_isSign_36
  refine aw_iconst (n := 37) 1 dX6_isSign_36 rfl (by decide) ?_
  refine aw_goto 41 dX6_isSign_37 (by decide) ?_
  exact aw_zreturn (b := true) dX6_isSign_41 rfl rfl
def f_X6_isSign (F : Nat)  (a0 : Int32) (μ : aw_M) : Option (Bool × aw_M) :=
  (if a0 = 59 then
  f_X6_isSign_36 F  μ
  else
  (if a0 = 60 then
  f_X6_isSign_36 F  μ
  else
  (if a0 = 61 then
  f_X6_isSign_36 F  μ
  else
  (if a0 = 62 then
  f_X6_isSign_36 F  μ
  else
  (if a0 = 40 then
  f_X6_isSign_36 F  μ
  else
  (if a0 = 41 then
  f_X6_isSign_36 F  μ
  else
  some (false, μ)))))))
theorem m_X6_isSign (l : Launch) (F : Nat) (a0 : Int32) (μ : aw_M) : AM l yX6_isSign cX6_isSign 1 (some .boolean) 1 120 aw_gz [.int a0] μ (f_X6_isSign F  a0 μ) := by
  refine aw_met [some (.int a0)] (by decide) (fun _ => rfl) (fun _ => Nat.le_of_ble_eq_true rfl) ?_
  show AW l k_X6_isSign aw_gz 0 [some (.int a0)] [] μ _
  unfold f_X6_isSign
  refine aw_iload_n (n := 1) dX6_isSign_0 rfl rfl ?_
  refine aw_bipush (n := 3) 59 dX6_isSign_1 rfl (by decide) ?_
  refine aw_icmp_eq (n := 6) 36 dX6_isSign_3 (by decide) rfl ?_ ?_
  · exact aw_weak (c_X6_isSign_36 l F  μ) (aw_sn aw_s0)
  · refine aw_iload_n (n := 7) dX6_isSign_6 rfl rfl ?_
    refine aw_bipush (n := 9) 60 dX6_isSign_7 rfl (by decide) ?_
    refine aw_icmp_eq (n := 12) 36 dX6_isSign_9 (by decide) rfl ?_ ?_
    · exact aw_weak (c_X6_isSign_36 l F  μ) (aw_sn aw_s0)
    · refine aw_iload_n (n := 13) dX6_isSign_12 rfl rfl ?_
      refine aw_bipush (n := 15) 61 dX6_isSign_13 rfl (by decide) ?_
      refine aw_icmp_eq (n := 18) 36 dX6_isSign_15 (by decide) rfl ?_ ?_
      · exact aw_weak (c_X6_isSign_36 l F  μ) (aw_sn aw_s0)
      · refine aw_iload_n (n := 19) dX6_isSign_18 rfl rfl ?_
        refine aw_bipush (n := 21) 62 dX6_isSign_19 rfl (by decide) ?_
        refine aw_icmp_eq (n := 24) 36 dX6_isSign_21 (by decide) rfl ?_ ?_
        · exact aw_weak (c_X6_isSign_36 l F  μ) (aw_sn aw_s0)
        · refine aw_iload_n (n := 25) dX6_isSign_24 rfl rfl ?_
          refine aw_bipush (n := 27) 40 dX6_isSign_25 rfl (by decide) ?_
          refine aw_icmp_eq (n := 30) 36 dX6_isSign_27 (by decide) rfl ?_ ?_
          · exact aw_weak (c_X6_isSign_36 l F  μ) (aw_sn aw_s0)
          · refine aw_iload_n (n := 31) dX6_isSign_30 rfl rfl ?_
            refine aw_bipush (n := 33) 41 dX6_isSign_31 rfl (by decide) ?_
            refine aw_icmp_ne (n := 36) 40 dX6_isSign_33 (by decide) rfl ?_ ?_
            · refine aw_iconst (n := 41) 0 dX6_isSign_40 rfl (by decide) ?_
              exact aw_zreturn (b := false) dX6_isSign_41 rfl rfl
            · exact aw_weak (c_X6_isSign_36 l F  μ) (aw_sn aw_s0)
abbrev k_X6_keyOf : aw_K := (RX6, cX6_keyOf, 4, (some .int), 1, 120)
def f_X6_keyOf_2 (F : Nat) (t : Nat) (k2 : Int64 × Int32 × aw_M → Option (Int32 × aw_M)) (x1 : Int64) (x3 : Int32) (μ : aw_M) : Option (Int32 × aw_M) :=
  (if 20 ≤ x3 then
  some ((-1), μ)
  else
  aw_g (aw_in x3 20) ((if (lg_cmp (μ.2 (aw_rf t 2) x3.toNatClampNeg) x1) = 0 then
  some (x3, μ)
  else
  k2 (x1, (x3 + 1), μ))))
theorem c_X6_keyOf_2 (l : Launch) (F : Nat) (t : Nat) (ht : (aw_sh t).1 = 11) : ∀ (N : Nat) (s : Int64 × Int32 × aw_M), AW l k_X6_keyOf aw_gi 2 [some (.ref t), some (.long s.1), none, some (.int s.2.1)] [] s.2.2 (aw_loop (fun k s => f_X6_keyOf_2 F t k s.1 s.2.1 s.2.2) N s) := by
  refine aw_loop_ok (f := fun k s => f_X6_keyOf_2 F t k s.1 s.2.1 s.2.2) (Ls := fun s => [some (.ref t), some (.long s.1), none, some (.int s.2.1)]) (ms := fun s => s.2.2) ?_
  intro k2 hk2 s
  obtain ⟨x1, x3, μ⟩ := s
  show AW l k_X6_keyOf aw_gi 2 [some (.ref t), some (.long x1), none, some (.int x3)] [] μ (f_X6_keyOf_2 F t k2 x1 x3 μ)
  unfold f_X6_keyOf_2
  refine aw_iload_n (n := 3) dX6_keyOf_2 rfl rfl ?_
  refine aw_bipush (n := 5) 20 dX6_keyOf_3 rfl (by decide) ?_
  refine aw_icmp_ge (n := 8) 27 dX6_keyOf_5 (by decide) rfl ?_ ?_
  · refine aw_iconst (n := 28) (-1) dX6_keyOf_27 rfl (by decide) ?_
    exact aw_ireturn dX6_keyOf_28 rfl rfl
  · refine aw_aload_n (n := 9) dX6_keyOf_8 rfl rfl ?_
    refine aw_getR (n := 12) (RX6, TX6, 13) 6 2 dX6_keyOf_9 rfl ht (by decide) fd_RX6_15 ?_
    refine aw_iload_n (n := 13) dX6_keyOf_12 rfl rfl ?_
    refine aw_laload (n := 14) 20 dX6_keyOf_13 rfl (sf_6_2 ht) ?_
    refine aw_lload_n (n := 15) dX6_keyOf_14 rfl rfl ?_
    refine aw_lcmp (n := 16) dX6_keyOf_15 rfl ?_
    refine aw_if_ne (n := 19) 21 dX6_keyOf_16 (by decide) rfl ?_ ?_
    · refine aw_iinc (n := 24) (x3 + 1) [some (.ref t), some (.long x1), none, some (.int (x3 + 1))] dX6_keyOf_21 rfl rfl (by rfl) rfl (Nat.le_of_ble_eq_true rfl) rfl ?_
      refine aw_goto 2 dX6_keyOf_24 (by decide) ?_
      exact aw_weak (hk2 (x1, (x3 + 1), μ)) (aw_ss (aw_ss (aw_sn (aw_ss aw_s0))))
    · refine aw_iload_n (n := 20) dX6_keyOf_19 rfl rfl ?_
      exact aw_ireturn dX6_keyOf_20 rfl rfl
def f_X6_keyOf (F : Nat) (t : Nat) (a0 : Int64) (μ : aw_M) : Option (Int32 × aw_M) :=
  aw_loop (fun k s => f_X6_keyOf_2 F t k s.1 s.2.1 s.2.2) F (a0, 0, μ)
theorem m_X6_keyOf (l : Launch) (F : Nat) (t : Nat) (ht : (aw_sh t).1 = 11) (a0 : Int64) (μ : aw_M) : AM l yX6_keyOf cX6_keyOf 4 (some .int) 1 120 aw_gi [.ref t, .long a0] μ (f_X6_keyOf F t a0 μ) := by
  refine aw_met [some (.ref t), some (.long a0), none, none] (by decide) (fun _ => rfl) (fun _ => Nat.le_of_ble_eq_true rfl) ?_
  show AW l k_X6_keyOf aw_gi 0 [some (.ref t), some (.long a0), none, none] [] μ _
  unfold f_X6_keyOf
  refine aw_iconst (n := 1) 0 dX6_keyOf_0 rfl (by decide) ?_
  refine aw_istore_n (n := 2) [some (.ref t), some (.long a0), none, some (.int 0)] dX6_keyOf_1 rfl rfl (Nat.le_of_ble_eq_true rfl) (Nat.le_of_ble_eq_true rfl) rfl ?_
  exact aw_weak (c_X6_keyOf_2 l F t ht F (a0, 0, μ)) (aw_ss (aw_ss (aw_sn (aw_ss aw_s0))))
abbrev k_X6_readRun : aw_K := (RX6, cX6_readRun, 4, none, 1, 120)
def f_X6_readRun_160 (F : Nat) (t : Nat) (x1 : Int32) (x2 : Int32) (μ : aw_M) : Option (aw_M) :=
  (if x1 = 0 then
  (if 3 < x2 then
  aw_let (aw_wI μ t 6 5) fun μ34 =>
  some μ34
  else
  aw_let (aw_wI μ t 6 2) fun μ35 =>
  some μ35)
  else
  aw_let (aw_wI μ t 6 5) fun μ33 =>
  some μ33)
theorem c_X6_readRun_160 (l : Launch) (F : Nat) (t : Nat) (ht : (aw_sh t).1 = 11) (x1 : Int32) (x2 : Int32) (μ : aw_M) : AW l k_X6_readRun aw_gv 160 [some (.ref t), some (.int x1), some (.int x2), none] [] μ (f_X6_readRun_160 F t x1 x2 μ) := by
  unfold f_X6_readRun_160
  refine aw_aload_n (n := 161) dX6_readRun_160 rfl rfl ?_
  refine aw_iload_n (n := 162) dX6_readRun_161 rfl rfl ?_
  refine aw_if_ne (n := 165) 174 dX6_readRun_162 (by decide) rfl ?_ ?_
  · refine aw_iconst (n := 175) 5 dX6_readRun_174 rfl (by decide) ?_
    refine aw_putI (n := 178) (RX6, TX6, 13) 6 6 dX6_readRun_175 rfl ht (by decide) fp_RX6_62 (fun μ33 => ?_)
    exact aw_vreturn dX6_readRun_178 rfl rfl
  · refine aw_iload_n (n := 166) dX6_readRun_165 rfl rfl ?_
    refine aw_iconst (n := 167) 3 dX6_readRun_166 rfl (by decide) ?_
    refine aw_icmp_gt (n := 170) 174 dX6_readRun_167 (by decide) rfl ?_ ?_
    · refine aw_iconst (n := 175) 5 dX6_readRun_174 rfl (by decide) ?_
      refine aw_putI (n := 178) (RX6, TX6, 13) 6 6 dX6_readRun_175 rfl ht (by decide) fp_RX6_62 (fun μ34 => ?_)
      exact aw_vreturn dX6_readRun_178 rfl rfl
    · refine aw_iconst (n := 171) 2 dX6_readRun_170 rfl (by decide) ?_
      refine aw_goto 175 dX6_readRun_171 (by decide) ?_
      refine aw_putI (n := 178) (RX6, TX6, 13) 6 6 dX6_readRun_175 rfl ht (by decide) fp_RX6_62 (fun μ35 => ?_)
      exact aw_vreturn dX6_readRun_178 rfl rfl
def f_X6_readRun_142 (F : Nat) (t : Nat) (x1 : Int32) (x2 : Int32) (μ : aw_M) : Option (aw_M) :=
  (if x2 = 0 then
  (if 7 < x1 then
  f_X6_readRun_160 F t x1 x2 μ
  else
  aw_let (aw_wI μ t 6 1) fun μ36 =>
  some μ36)
  else
  f_X6_readRun_160 F t x1 x2 μ)
theorem c_X6_readRun_142 (l : Launch) (F : Nat) (t : Nat) (ht : (aw_sh t).1 = 11) (x1 : Int32) (x2 : Int32) (μ : aw_M) : AW l k_X6_readRun aw_gv 142 [some (.ref t), some (.int x1), some (.int x2), none] [] μ (f_X6_readRun_142 F t x1 x2 μ) := by
  unfold f_X6_readRun_142
  refine aw_iload_n (n := 143) dX6_readRun_142 rfl rfl ?_
  refine aw_if_ne (n := 146) 160 dX6_readRun_143 (by decide) rfl ?_ ?_
  · exact aw_weak (c_X6_readRun_160 l F t ht x1 x2 μ) (aw_ss (aw_ss (aw_ss (aw_sn aw_s0))))
  · refine aw_iload_n (n := 147) dX6_readRun_146 rfl rfl ?_
    refine aw_bipush (n := 149) 7 dX6_readRun_147 rfl (by decide) ?_
    refine aw_icmp_gt (n := 152) 160 dX6_readRun_149 (by decide) rfl ?_ ?_
    · exact aw_weak (c_X6_readRun_160 l F t ht x1 x2 μ) (aw_ss (aw_ss (aw_ss (aw_sn aw_s0))))
    · refine aw_aload_n (n := 153) dX6_readRun_152 rfl rfl ?_
      refine aw_iconst (n := 154) 1 dX6_readRun_153 rfl (by decide) ?_
      refine aw_putI (n := 157) (RX6, TX6, 13) 6 6 dX6_readRun_154 rfl ht (by decide) fp_RX6_62 (fun μ36 => ?_)
      refine aw_goto 178 dX6_readRun_157 (by decide) ?_
      exact aw_vreturn dX6_readRun_178 rfl rfl
def f_X6_readRun_129 (F : Nat) (t : Nat) (k14 : Int32 × Int32 × aw_M → Option (aw_M)) (x1 : Int32) (x2 : Int32) (μ : aw_M) : Option (aw_M) :=
  aw_let (aw_wI μ t 4 ((μ.1 t 4) + 1)) fun μ39 =>
  k14 (x1, x2, μ39)
theorem c_X6_readRun_129 (l : Launch) (F : Nat) (t : Nat) (ht : (aw_sh t).1 = 11) (k14 : Int32 × Int32 × aw_M → Option (aw_M)) (hk14 : ∀ s : Int32 × Int32 × aw_M, AW l k_X6_readRun aw_gv 14 [some (.ref t), some (.int s.1), some (.int s.2.1), none] [] s.2.2 (k14 s)) (x1 : Int32) (x2 : Int32) (μ : aw_M) : AW l k_X6_readRun aw_gv 129 [some (.ref t), some (.int x1), some (.int x2), none] [] μ (f_X6_readRun_129 F t k14 x1 x2 μ) := by
  unfold f_X6_readRun_129
  refine aw_aload_n (n := 130) dX6_readRun_129 rfl rfl ?_
  refine aw_dup (n := 131) dX6_readRun_130 rfl (fun _ => rfl) ?_
  refine aw_getI (n := 134) (RX6, TX6, 13) 6 4 dX6_readRun_131 rfl ht (by decide) fd_RX6_40 ?_
  refine aw_iconst (n := 135) 1 dX6_readRun_134 rfl (by decide) ?_
  refine aw_iadd (n := 136) dX6_readRun_135 rfl ?_
  refine aw_putI (n := 139) (RX6, TX6, 13) 6 4 dX6_readRun_136 rfl ht (by decide) fp_RX6_40 (fun μ39 => ?_)
  refine aw_goto 14 dX6_readRun_139 (by decide) ?_
  exact aw_weak (hk14 (x1, x2, μ39)) (aw_ss (aw_ss (aw_ss (aw_sn aw_s0))))
def f_X6_readRun_126 (F : Nat) (t : Nat) (k14 : Int32 × Int32 × aw_M → Option (aw_M)) (x1 : Int32) (x2 : Int32) (z0 : Int64) (μ : aw_M) : Option (aw_M) :=
  aw_let (aw_wL μ t 8 z0) fun μ38 =>
  f_X6_readRun_129 F t k14 x1 x2 μ38
theorem c_X6_readRun_126 (l : Launch) (F : Nat) (t : Nat) (ht : (aw_sh t).1 = 11) (k14 : Int32 × Int32 × aw_M → Option (aw_M)) (hk14 : ∀ s : Int32 × Int32 × aw_M, AW l k_X6_readRun aw_gv 14 [some (.ref t), some (.int s.1), some (.int s.2.1), none] [] s.2.2 (k14 s)) (x1 : Int32) (x2 : Int32) (z0 : Int64) (μ : aw_M) : AW l k_X6_readRun aw_gv 126 [some (.ref t), some (.int x1), some (.int x2), none] [.long z0, .ref t] μ (f_X6_readRun_126 F t k14 x1 x2 z0 μ) := by
  unfold f_X6_readRun_126
  refine aw_putL (n := 129) (RX6, TX6, 13) 6 8 dX6_readRun_126 rfl ht (by decide) fp_RX6_74 (fun μ38 => ?_)
  exact aw_weak (c_X6_readRun_129 l F t ht k14 hk14 x1 x2 μ38) (aw_ss (aw_ss (aw_ss (aw_sn aw_s0))))
def f_X6_readRun_81 (F : Nat) (t : Nat) (k14 : Int32 × Int32 × aw_M → Option (aw_M)) (x1 : Int32) (x2 : Int32) (x3 : Int32) (μ : aw_M) : Option (aw_M) :=
  (if x3 < 97 then
  f_X6_readRun_142 F t x1 x2 μ
  else
  (if 122 < x3 then
  f_X6_readRun_142 F t x1 x2 μ
  else
  (if (x1 + 1) ≤ 7 then
  f_X6_readRun_126 F t k14 (x1 + 1) x2 (((μ.2 t 8) * 27) + (((x3 - 97) + 1) : Int32).toInt64) μ
  else
  f_X6_readRun_126 F t k14 (x1 + 1) x2 (μ.2 t 8) μ)))
theorem c_X6_readRun_81 (l : Launch) (F : Nat) (t : Nat) (ht : (aw_sh t).1 = 11) (k14 : Int32 × Int32 × aw_M → Option (aw_M)) (hk14 : ∀ s : Int32 × Int32 × aw_M, AW l k_X6_readRun aw_gv 14 [some (.ref t), some (.int s.1), some (.int s.2.1), none] [] s.2.2 (k14 s)) (x1 : Int32) (x2 : Int32) (x3 : Int32) (μ : aw_M) : AW l k_X6_readRun aw_gv 81 [some (.ref t), some (.int x1), some (.int x2), some (.int x3)] [] μ (f_X6_readRun_81 F t k14 x1 x2 x3 μ) := by
  unfold f_X6_readRun_81
  refine aw_iload_n (n := 82) dX6_readRun_81 rfl rfl ?_
  refine aw_bipush (n := 84) 97 dX6_readRun_82 rfl (by decide) ?_
  refine aw_icmp_lt (n := 87) 142 dX6_readRun_84 (by decide) rfl ?_ ?_
  · exact aw_weak (c_X6_readRun_142 l F t ht x1 x2 μ) (aw_ss (aw_ss (aw_ss (aw_sn aw_s0))))
  · refine aw_iload_n (n := 88) dX6_readRun_87 rfl rfl ?_
    refine aw_bipush (n := 90) 122 dX6_readRun_88 rfl (by decide) ?_
    refine aw_icmp_gt (n := 93) 142 dX6_readRun_90 (by decide) rfl ?_ ?_
    · exact aw_weak (c_X6_readRun_142 l F t ht x1 x2 μ) (aw_ss (aw_ss (aw_ss (aw_sn aw_s0))))
    · refine aw_iinc (n := 96) (x1 + 1) [some (.ref t), some (.int (x1 + 1)), some (.int x2), some (.int x3)] dX6_readRun_93 rfl rfl (by rfl) rfl (Nat.le_of_ble_eq_true rfl) rfl ?_
      refine aw_aload_n (n := 97) dX6_readRun_96 rfl rfl ?_
      refine aw_iload_n (n := 98) dX6_readRun_97 rfl rfl ?_
      refine aw_bipush (n := 100) 7 dX6_readRun_98 rfl (by decide) ?_
      refine aw_icmp_le (n := 103) 110 dX6_readRun_100 (by decide) rfl ?_ ?_
      · refine aw_aload_n (n := 111) dX6_readRun_110 rfl rfl ?_
        refine aw_getL (n := 114) (RX6, TX6, 13) 6 8 dX6_readRun_111 rfl ht (by decide) fd_RX6_74 ?_
        refine aw_ldc2 (n := 117) dX6_readRun_114 rfl tb_87 ?_
        refine aw_lmul (n := 118) dX6_readRun_117 rfl ?_
        refine aw_iload_n (n := 119) dX6_readRun_118 rfl rfl ?_
        refine aw_bipush (n := 121) 97 dX6_readRun_119 rfl (by decide) ?_
        refine aw_isub (n := 122) dX6_readRun_121 rfl ?_
        refine aw_iconst (n := 123) 1 dX6_readRun_122 rfl (by decide) ?_
        refine aw_iadd (n := 124) dX6_readRun_123 rfl ?_
        refine aw_i2l (n := 125) dX6_readRun_124 rfl ?_
        refine aw_ladd (n := 126) dX6_readRun_125 rfl ?_
        exact aw_weak (c_X6_readRun_126 l F t ht k14 hk14 (x1 + 1) x2 (((μ.2 t 8) * 27) + (((x3 - 97) + 1) : Int32).toInt64) μ) (aw_ss (aw_ss (aw_ss (aw_sn aw_s0))))
      · refine aw_aload_n (n := 104) dX6_readRun_103 rfl rfl ?_
        refine aw_getL (n := 107) (RX6, TX6, 13) 6 8 dX6_readRun_104 rfl ht (by decide) fd_RX6_74 ?_
        refine aw_goto 126 dX6_readRun_107 (by decide) ?_
        exact aw_weak (c_X6_readRun_126 l F t ht k14 hk14 (x1 + 1) x2 (μ.2 t 8) μ) (aw_ss (aw_ss (aw_ss (aw_sn aw_s0))))
def f_X6_readRun_75 (F : Nat) (t : Nat) (k14 : Int32 × Int32 × aw_M → Option (aw_M)) (x1 : Int32) (x2 : Int32) (z0 : Int32) (μ : aw_M) : Option (aw_M) :=
  aw_let (aw_wI μ t 7 z0) fun μ40 =>
  f_X6_readRun_129 F t k14 x1 x2 μ40
theorem c_X6_readRun_75 (l : Launch) (F : Nat) (t : Nat) (ht : (aw_sh t).1 = 11) (k14 : Int32 × Int32 × aw_M → Option (aw_M)) (hk14 : ∀ s : Int32 × Int32 × aw_M, AW l k_X6_readRun aw_gv 14 [some (.ref t), some (.int s.1), some (.int s.2.1), none] [] s.2.2 (k14 s)) (x1 : Int32) (x2 : Int32) (z0 : Int32) (μ : aw_M) : AW l k_X6_readRun aw_gv 75 [some (.ref t), some (.int x1), some (.int x2), none] [.int z0, .ref t] μ (f_X6_readRun_75 F t k14 x1 x2 z0 μ) := by
  unfold f_X6_readRun_75
  refine aw_putI (n := 78) (RX6, TX6, 13) 6 7 dX6_readRun_75 rfl ht (by decide) fp_RX6_82 (fun μ40 => ?_)
  refine aw_goto 129 dX6_readRun_78 (by decide) ?_
  exact aw_weak (c_X6_readRun_129 l F t ht k14 hk14 x1 x2 μ40) (aw_ss (aw_ss (aw_ss (aw_sn aw_s0))))
def f_X6_readRun_14 (F : Nat) (t : Nat) (k14 : Int32 × Int32 × aw_M → Option (aw_M)) (x1 : Int32) (x2 : Int32) (μ : aw_M) : Option (aw_M) :=
  (if (μ.1 t 1) ≤ (μ.1 t 4) then
  f_X6_readRun_142 F t x1 x2 μ
  else
  aw_g (aw_in (μ.1 t 4) 940) (aw_let ((μ.1 (aw_rf t 0) (μ.1 t 4).toNatClampNeg)) fun v37 =>
  (if v37 < 48 then
  f_X6_readRun_81 F t k14 x1 x2 v37 μ
  else
  (if 57 < v37 then
  f_X6_readRun_81 F t k14 x1 x2 v37 μ
  else
  (if (x2 + 1) ≤ 3 then
  f_X6_readRun_75 F t k14 x1 (x2 + 1) (((μ.1 t 7) * 10) + (v37 - 48)) μ
  else
  f_X6_readRun_75 F t k14 x1 (x2 + 1) (μ.1 t 7) μ)))))
theorem c_X6_readRun_14 (l : Launch) (F : Nat) (t : Nat) (ht : (aw_sh t).1 = 11) : ∀ (N : Nat) (s : Int32 × Int32 × aw_M), AW l k_X6_readRun aw_gv 14 [some (.ref t), some (.int s.1), some (.int s.2.1), none] [] s.2.2 (aw_loop (fun k s => f_X6_readRun_14 F t k s.1 s.2.1 s.2.2) N s) := by
  refine aw_loop_ok (f := fun k s => f_X6_readRun_14 F t k s.1 s.2.1 s.2.2) (Ls := fun s => [some (.ref t), some (.int s.1), some (.int s.2.1), none]) (ms := fun s => s.2.2) ?_
  intro k14 hk14 s
  obtain ⟨x1, x2, μ⟩ := s
  show AW l k_X6_readRun aw_gv 14 [some (.ref t), some (.int x1), some (.int x2), none] [] μ (f_X6_readRun_14 F t k14 x1 x2 μ)
  unfold f_X6_readRun_14
  refine aw_aload_n (n := 15) dX6_readRun_14 rfl rfl ?_
  refine aw_getI (n := 18) (RX6, TX6, 13) 6 4 dX6_readRun_15 rfl ht (by decide) fd_RX6_40 ?_
  refine aw_aload_n (n := 19) dX6_readRun_18 rfl rfl ?_
  refine aw_getI (n := 22) (RX6, TX6, 13) 6 1 dX6_readRun_19 rfl ht (by decide) fd_RX6_33 ?_
  refine aw_icmp_ge (n := 25) 142 dX6_readRun_22 (by decide) rfl ?_ ?_
  · exact aw_weak (c_X6_readRun_142 l F t ht x1 x2 μ) (aw_ss (aw_ss (aw_ss (aw_sn aw_s0))))
  · refine aw_aload_n (n := 26) dX6_readRun_25 rfl rfl ?_
    refine aw_getR (n := 29) (RX6, TX6, 13) 6 0 dX6_readRun_26 rfl ht (by decide) fd_RX6_11 ?_
    refine aw_aload_n (n := 30) dX6_readRun_29 rfl rfl ?_
    refine aw_getI (n := 33) (RX6, TX6, 13) 6 4 dX6_readRun_30 rfl ht (by decide) fd_RX6_40 ?_
    refine aw_iaload (n := 34) 940 dX6_readRun_33 rfl (sf_6_0 ht) ?_
    refine aw_nmI (fun v37 => ?_)
    refine aw_istore_n (n := 35) [some (.ref t), some (.int x1), some (.int x2), some (.int v37)] dX6_readRun_34 rfl rfl (Nat.le_of_ble_eq_true rfl) (Nat.le_of_ble_eq_true rfl) rfl ?_
    refine aw_iload_n (n := 36) dX6_readRun_35 rfl rfl ?_
    refine aw_bipush (n := 38) 48 dX6_readRun_36 rfl (by decide) ?_
    refine aw_icmp_lt (n := 41) 81 dX6_readRun_38 (by decide) rfl ?_ ?_
    · exact aw_weak (c_X6_readRun_81 l F t ht k14 hk14 x1 x2 v37 μ) (aw_ss (aw_ss (aw_ss (aw_ss aw_s0))))
    · refine aw_iload_n (n := 42) dX6_readRun_41 rfl rfl ?_
      refine aw_bipush (n := 44) 57 dX6_readRun_42 rfl (by decide) ?_
      refine aw_icmp_gt (n := 47) 81 dX6_readRun_44 (by decide) rfl ?_ ?_
      · exact aw_weak (c_X6_readRun_81 l F t ht k14 hk14 x1 x2 v37 μ) (aw_ss (aw_ss (aw_ss (aw_ss aw_s0))))
      · refine aw_iinc (n := 50) (x2 + 1) [some (.ref t), some (.int x1), some (.int (x2 + 1)), some (.int v37)] dX6_readRun_47 rfl rfl (by rfl) rfl (Nat.le_of_ble_eq_true rfl) rfl ?_
        refine aw_aload_n (n := 51) dX6_readRun_50 rfl rfl ?_
        refine aw_iload_n (n := 52) dX6_readRun_51 rfl rfl ?_
        refine aw_iconst (n := 53) 3 dX6_readRun_52 rfl (by decide) ?_
        refine aw_icmp_le (n := 56) 63 dX6_readRun_53 (by decide) rfl ?_ ?_
        · refine aw_aload_n (n := 64) dX6_readRun_63 rfl rfl ?_
          refine aw_getI (n := 67) (RX6, TX6, 13) 6 7 dX6_readRun_64 rfl ht (by decide) fd_RX6_82 ?_
          refine aw_bipush (n := 69) 10 dX6_readRun_67 rfl (by decide) ?_
          refine aw_imul (n := 70) dX6_readRun_69 rfl ?_
          refine aw_iload_n (n := 71) dX6_readRun_70 rfl rfl ?_
          refine aw_bipush (n := 73) 48 dX6_readRun_71 rfl (by decide) ?_
          refine aw_isub (n := 74) dX6_readRun_73 rfl ?_
          refine aw_iadd (n := 75) dX6_readRun_74 rfl ?_
          exact aw_weak (c_X6_readRun_75 l F t ht k14 hk14 x1 (x2 + 1) (((μ.1 t 7) * 10) + (v37 - 48)) μ) (aw_ss (aw_ss (aw_ss (aw_sn aw_s0))))
        · refine aw_aload_n (n := 57) dX6_readRun_56 rfl rfl ?_
          refine aw_getI (n := 60) (RX6, TX6, 13) 6 7 dX6_readRun_57 rfl ht (by decide) fd_RX6_82 ?_
          refine aw_goto 75 dX6_readRun_60 (by decide) ?_
          exact aw_weak (c_X6_readRun_75 l F t ht k14 hk14 x1 (x2 + 1) (μ.1 t 7) μ) (aw_ss (aw_ss (aw_ss (aw_sn aw_s0))))
def f_X6_readRun (F : Nat) (t : Nat) (μ : aw_M) : Option (aw_M) :=
  aw_let (aw_wL μ t 8 0) fun μ31 =>
  aw_let (aw_wI μ31 t 7 0) fun μ32 =>
  aw_loop (fun k s => f_X6_readRun_14 F t k s.1 s.2.1 s.2.2) F (0, 0, μ32)
theorem m_X6_readRun (l : Launch) (F : Nat) (t : Nat) (ht : (aw_sh t).1 = 11) (μ : aw_M) : AM l yX6_readRun cX6_readRun 4 none (1) (120) aw_gv [.ref t] μ (f_X6_readRun F t μ) := by
  refine aw_met [some (.ref t), none, none, none] (by decide) (fun _ => rfl) (fun _ => Nat.le_of_ble_eq_true rfl) ?_
  show AW l k_X6_readRun aw_gv 0 [some (.ref t), none, none, none] [] μ _
  unfold f_X6_readRun
  refine aw_iconst (n := 1) 0 dX6_readRun_0 rfl (by decide) ?_
  refine aw_istore_n (n := 2) [some (.ref t), some (.int 0), none, none] dX6_readRun_1 rfl rfl (Nat.le_of_ble_eq_true rfl) (Nat.le_of_ble_eq_true rfl) rfl ?_
  refine aw_iconst (n := 3) 0 dX6_readRun_2 rfl (by decide) ?_
  refine aw_istore_n (n := 4) [some (.ref t), some (.int 0), some (.int 0), none] dX6_readRun_3 rfl rfl (Nat.le_of_ble_eq_true rfl) (Nat.le_of_ble_eq_true rfl) rfl ?_
  refine aw_aload_n (n := 5) dX6_readRun_4 rfl rfl ?_
  refine aw_lconst (n := 6) 0 dX6_readRun_5 rfl rfl ?_
  refine aw_putL (n := 9) (RX6, TX6, 13) 6 8 dX6_readRun_6 rfl ht (by decide) fp_RX6_74 (fun μ31 => ?_)
  refine aw_aload_n (n := 10) dX6_readRun_9 rfl rfl ?_
  refine aw_iconst (n := 11) 0 dX6_readRun_10 rfl (by decide) ?_
  refine aw_putI (n := 14) (RX6, TX6, 13) 6 7 dX6_readRun_11 rfl ht (by decide) fp_RX6_82 (fun μ32 => ?_)
  exact aw_weak (c_X6_readRun_14 l F t ht F (0, 0, μ32)) (aw_ss (aw_ss (aw_ss (aw_sn aw_s0))))
abbrev k_X6_step : aw_K := (RX6, cX6_step, 1, none, 2, 143)
def f_X6_step_153 (F : Nat) (t : Nat) (z0 : Int32) (μ : aw_M) : Option (aw_M) :=
  aw_let (aw_wI μ t 6 z0) fun μ22 =>
  aw_let (aw_wI μ22 t 4 ((μ22.1 t 4) + 1)) fun μ23 =>
  some μ23
theorem c_X6_step_153 (l : Launch) (F : Nat) (t : Nat) (ht : (aw_sh t).1 = 11) (z0 : Int32) (μ : aw_M) : AW l k_X6_step aw_gv 153 [some (.ref t)] [.int z0, .ref t] μ (f_X6_step_153 F t z0 μ) := by
  unfold f_X6_step_153
  refine aw_putI (n := 156) (RX6, TX6, 13) 6 6 dX6_step_153 rfl ht (by decide) fp_RX6_62 (fun μ22 => ?_)
  refine aw_aload_n (n := 157) dX6_step_156 rfl rfl ?_
  refine aw_dup (n := 158) dX6_step_157 rfl (fun _ => rfl) ?_
  refine aw_getI (n := 161) (RX6, TX6, 13) 6 4 dX6_step_158 rfl ht (by decide) fd_RX6_40 ?_
  refine aw_iconst (n := 162) 1 dX6_step_161 rfl (by decide) ?_
  refine aw_iadd (n := 163) dX6_step_162 rfl ?_
  refine aw_putI (n := 166) (RX6, TX6, 13) 6 4 dX6_step_163 rfl ht (by decide) fp_RX6_40 (fun μ23 => ?_)
  refine aw_goto 189 dX6_step_166 (by decide) ?_
  exact aw_vreturn dX6_step_189 rfl rfl
def f_X6_step_90 (F : Nat) (t : Nat) (μ : aw_M) : Option (aw_M) :=
  (if (μ.1 t 5) < (μ.1 t 1) then
  (f_X6_readRun F t μ).bind fun r17 =>
  (if (r17.1 t 4) = (r17.1 t 5) then
  aw_g (aw_in (r17.1 t 5) 940) (aw_let (aw_wI r17 t 10 (r17.1 (aw_rf t 0) (r17.1 t 5).toNatClampNeg)) fun μ20 =>
  (f_X6_isSign F (μ20.1 t 10) μ20).bind fun r21 =>
  (if r21.1 = true then
  f_X6_step_153 F t 3 r21.2
  else
  f_X6_step_153 F t 5 r21.2))
  else
  (if (r17.1 t 6) = 1 then
  (f_X6_keyOf F t (r17.2 t 8) r17).bind fun r18 =>
  aw_let (aw_wI r18.2 t 9 r18.1) fun μ19 =>
  some μ19
  else
  some r17))
  else
  aw_let (aw_wI μ t 6 4) fun μ24 =>
  some μ24)
theorem c_X6_step_90 (l : Launch) (F : Nat) (t : Nat) (ht : (aw_sh t).1 = 11) (μ : aw_M) : AW l k_X6_step aw_gv 90 [some (.ref t)] [] μ (f_X6_step_90 F t μ) := by
  unfold f_X6_step_90
  refine aw_aload_n (n := 91) dX6_step_90 rfl rfl ?_
  refine aw_getI (n := 94) (RX6, TX6, 13) 6 5 dX6_step_91 rfl ht (by decide) fd_RX6_56 ?_
  refine aw_aload_n (n := 95) dX6_step_94 rfl rfl ?_
  refine aw_getI (n := 98) (RX6, TX6, 13) 6 1 dX6_step_95 rfl ht (by decide) fd_RX6_33 ?_
  refine aw_icmp_lt (n := 101) 109 dX6_step_98 (by decide) rfl ?_ ?_
  · refine aw_aload_n (n := 110) dX6_step_109 rfl rfl ?_
    refine aw_callVv (n := 113) (as := []) (st := []) (RX6, TX6, 13) 6 dX6_step_110 rfl rfl (m_X6_readRun l F t ht μ) ht (by decide) rfl rfl cw_RX6_65 ⟨Nat.le_of_ble_eq_true rfl, Nat.le_of_ble_eq_true rfl⟩ (fun _ => Nat.le_of_ble_eq_true rfl) (fun r17 => ?_)
    refine aw_aload_n (n := 114) dX6_step_113 rfl rfl ?_
    refine aw_getI (n := 117) (RX6, TX6, 13) 6 4 dX6_step_114 rfl ht (by decide) fd_RX6_40 ?_
    refine aw_aload_n (n := 118) dX6_step_117 rfl rfl ?_
    refine aw_getI (n := 121) (RX6, TX6, 13) 6 5 dX6_step_118 rfl ht (by decide) fd_RX6_56 ?_
    refine aw_icmp_ne (n := 124) 169 dX6_step_121 (by decide) rfl ?_ ?_
    · refine aw_aload_n (n := 170) dX6_step_169 rfl rfl ?_
      refine aw_getI (n := 173) (RX6, TX6, 13) 6 6 dX6_step_170 rfl ht (by decide) fd_RX6_62 ?_
      refine aw_iconst (n := 174) 1 dX6_step_173 rfl (by decide) ?_
      refine aw_icmp_ne (n := 177) 189 dX6_step_174 (by decide) rfl ?_ ?_
      · exact aw_vreturn dX6_step_189 rfl rfl
      · refine aw_aload_n (n := 178) dX6_step_177 rfl rfl ?_
        refine aw_aload_n (n := 179) dX6_step_178 rfl rfl ?_
        refine aw_aload_n (n := 180) dX6_step_179 rfl rfl ?_
        refine aw_getL (n := 183) (RX6, TX6, 13) 6 8 dX6_step_180 rfl ht (by decide) fd_RX6_74 ?_
        refine aw_callVi (n := 186) (as := [.long (r17.2 t 8)]) (st := [.ref t]) (RX6, TX6, 13) 6 dX6_step_183 rfl rfl (m_X6_keyOf l F t ht (r17.2 t 8) r17) ht (by decide) rfl rfl cw_RX6_78 ⟨Nat.le_of_ble_eq_true rfl, Nat.le_of_ble_eq_true rfl⟩ (fun _ => Nat.le_of_ble_eq_true rfl) (fun r18 => ?_)
        refine aw_putI (n := 189) (RX6, TX6, 13) 6 9 dX6_step_186 rfl ht (by decide) fp_RX6_59 (fun μ19 => ?_)
        exact aw_vreturn dX6_step_189 rfl rfl
    · refine aw_aload_n (n := 125) dX6_step_124 rfl rfl ?_
      refine aw_aload_n (n := 126) dX6_step_125 rfl rfl ?_
      refine aw_getR (n := 129) (RX6, TX6, 13) 6 0 dX6_step_126 rfl ht (by decide) fd_RX6_11 ?_
      refine aw_aload_n (n := 130) dX6_step_129 rfl rfl ?_
      refine aw_getI (n := 133) (RX6, TX6, 13) 6 5 dX6_step_130 rfl ht (by decide) fd_RX6_56 ?_
      refine aw_iaload (n := 134) 940 dX6_step_133 rfl (sf_6_0 ht) ?_
      refine aw_putI (n := 137) (RX6, TX6, 13) 6 10 dX6_step_134 rfl ht (by decide) fp_RX6_68 (fun μ20 => ?_)
      refine aw_aload_n (n := 138) dX6_step_137 rfl rfl ?_
      refine aw_aload_n (n := 139) dX6_step_138 rfl rfl ?_
      refine aw_getI (n := 142) (RX6, TX6, 13) 6 10 dX6_step_139 rfl ht (by decide) fd_RX6_68 ?_
      refine aw_callSz (n := 145) (as := [.int (μ20.1 t 10)]) (st := [.ref t]) dX6_step_142 rfl rfl (m_X6_isSign l F (μ20.1 t 10) μ20) cw_RX6_71 ⟨Nat.le_of_ble_eq_true rfl, Nat.le_of_ble_eq_true rfl⟩ (fun _ => Nat.le_of_ble_eq_true rfl) (fun r21 => ?_)
      refine aw_ifb_eq (n := 148) 152 dX6_step_145 (by decide) rfl ?_ ?_
      · refine aw_iconst (n := 153) 5 dX6_step_152 rfl (by decide) ?_
        exact aw_weak (c_X6_step_153 l F t ht 5 r21.2) (aw_ss aw_s0)
      · refine aw_iconst (n := 149) 3 dX6_step_148 rfl (by decide) ?_
        refine aw_goto 153 dX6_step_149 (by decide) ?_
        exact aw_weak (c_X6_step_153 l F t ht 3 r21.2) (aw_ss aw_s0)
  · refine aw_aload_n (n := 102) dX6_step_101 rfl rfl ?_
    refine aw_iconst (n := 103) 4 dX6_step_102 rfl (by decide) ?_
    refine aw_putI (n := 106) (RX6, TX6, 13) 6 6 dX6_step_103 rfl ht (by decide) fp_RX6_62 (fun μ24 => ?_)
    refine aw_goto 189 dX6_step_106 (by decide) ?_
    exact aw_vreturn dX6_step_189 rfl rfl
def f_X6_step_39 (F : Nat) (t : Nat) (μ : aw_M) : Option (aw_M) :=
  aw_let (aw_wI μ t 5 (μ.1 t 4)) fun μ15 =>
  aw_let (aw_wI μ15 t 9 (-1)) fun μ16 =>
  (if (μ16.1 t 1) ≤ (μ16.1 t 3) then
  f_X6_step_90 F t μ16
  else
  (if (μ16.1 t 5) < (μ16.1 t 3) then
  f_X6_step_90 F t μ16
  else
  aw_let (aw_wI μ16 t 5 (μ16.1 t 3)) fun μ25 =>
  aw_let (aw_wI μ25 t 6 5) fun μ26 =>
  some μ26))
theorem c_X6_step_39 (l : Launch) (F : Nat) (t : Nat) (ht : (aw_sh t).1 = 11) (μ : aw_M) : AW l k_X6_step aw_gv 39 [some (.ref t)] [] μ (f_X6_step_39 F t μ) := by
  unfold f_X6_step_39
  refine aw_aload_n (n := 40) dX6_step_39 rfl rfl ?_
  refine aw_aload_n (n := 41) dX6_step_40 rfl rfl ?_
  refine aw_getI (n := 44) (RX6, TX6, 13) 6 4 dX6_step_41 rfl ht (by decide) fd_RX6_40 ?_
  refine aw_putI (n := 47) (RX6, TX6, 13) 6 5 dX6_step_44 rfl ht (by decide) fp_RX6_56 (fun μ15 => ?_)
  refine aw_aload_n (n := 48) dX6_step_47 rfl rfl ?_
  refine aw_iconst (n := 49) (-1) dX6_step_48 rfl (by decide) ?_
  refine aw_putI (n := 52) (RX6, TX6, 13) 6 9 dX6_step_49 rfl ht (by decide) fp_RX6_59 (fun μ16 => ?_)
  refine aw_aload_n (n := 53) dX6_step_52 rfl rfl ?_
  refine aw_getI (n := 56) (RX6, TX6, 13) 6 1 dX6_step_53 rfl ht (by decide) fd_RX6_33 ?_
  refine aw_aload_n (n := 57) dX6_step_56 rfl rfl ?_
  refine aw_getI (n := 60) (RX6, TX6, 13) 6 3 dX6_step_57 rfl ht (by decide) fd_RX6_37 ?_
  refine aw_icmp_le (n := 63) 90 dX6_step_60 (by decide) rfl ?_ ?_
  · exact aw_weak (c_X6_step_90 l F t ht μ16) (aw_ss aw_s0)
  · refine aw_aload_n (n := 64) dX6_step_63 rfl rfl ?_
    refine aw_getI (n := 67) (RX6, TX6, 13) 6 5 dX6_step_64 rfl ht (by decide) fd_RX6_56 ?_
    refine aw_aload_n (n := 68) dX6_step_67 rfl rfl ?_
    refine aw_getI (n := 71) (RX6, TX6, 13) 6 3 dX6_step_68 rfl ht (by decide) fd_RX6_37 ?_
    refine aw_icmp_lt (n := 74) 90 dX6_step_71 (by decide) rfl ?_ ?_
    · exact aw_weak (c_X6_step_90 l F t ht μ16) (aw_ss aw_s0)
    · refine aw_aload_n (n := 75) dX6_step_74 rfl rfl ?_
      refine aw_aload_n (n := 76) dX6_step_75 rfl rfl ?_
      refine aw_getI (n := 79) (RX6, TX6, 13) 6 3 dX6_step_76 rfl ht (by decide) fd_RX6_37 ?_
      refine aw_putI (n := 82) (RX6, TX6, 13) 6 5 dX6_step_79 rfl ht (by decide) fp_RX6_56 (fun μ25 => ?_)
      refine aw_aload_n (n := 83) dX6_step_82 rfl rfl ?_
      refine aw_iconst (n := 84) 5 dX6_step_83 rfl (by decide) ?_
      refine aw_putI (n := 87) (RX6, TX6, 13) 6 6 dX6_step_84 rfl ht (by decide) fp_RX6_62 (fun μ26 => ?_)
      refine aw_goto 189 dX6_step_87 (by decide) ?_
      exact aw_vreturn dX6_step_189 rfl rfl
def f_X6_step_0 (F : Nat) (t : Nat) (k0 : aw_M → Option (aw_M)) (μ : aw_M) : Option (aw_M) :=
  (if (μ.1 t 1) ≤ (μ.1 t 4) then
  f_X6_step_39 F t μ
  else
  aw_g (aw_in (μ.1 t 4) 940) ((f_X6_isBlank F (μ.1 (aw_rf t 0) (μ.1 t 4).toNatClampNeg) μ).bind fun r27 =>
  (if r27.1 = true then
  aw_let (aw_wI r27.2 t 4 ((r27.2.1 t 4) + 1)) fun μ28 =>
  k0 μ28
  else
  f_X6_step_39 F t r27.2)))
theorem c_X6_step_0 (l : Launch) (F : Nat) (t : Nat) (ht : (aw_sh t).1 = 11) : ∀ (N : Nat) (s : aw_M), AW l k_X6_step aw_gv 0 [some (.ref t)] [] s (aw_loop (fun k s => f_X6_step_0 F t k s) N s) := by
  refine aw_loop_ok (f := fun k s => f_X6_step_0 F t k s) (Ls := fun s => [some (.ref t)]) (ms := fun s => s) ?_
  intro k0 hk0 s
  revert s
  intro μ
  show AW l k_X6_step aw_gv 0 [some (.ref t)] [] μ (f_X6_step_0 F t k0 μ)
  unfold f_X6_step_0
  refine aw_aload_n (n := 1) dX6_step_0 rfl rfl ?_
  refine aw_getI (n := 4) (RX6, TX6, 13) 6 4 dX6_step_1 rfl ht (by decide) fd_RX6_40 ?_
  refine aw_aload_n (n := 5) dX6_step_4 rfl rfl ?_
  refine aw_getI (n := 8) (RX6, TX6, 13) 6 1 dX6_step_5 rfl ht (by decide) fd_RX6_33 ?_
  refine aw_icmp_ge (n := 11) 39 dX6_step_8 (by decide) rfl ?_ ?_
  · exact aw_weak (c_X6_step_39 l F t ht μ) (aw_ss aw_s0)
  · refine aw_aload_n (n := 12) dX6_step_11 rfl rfl ?_
    refine aw_getR (n := 15) (RX6, TX6, 13) 6 0 dX6_step_12 rfl ht (by decide) fd_RX6_11 ?_
    refine aw_aload_n (n := 16) dX6_step_15 rfl rfl ?_
    refine aw_getI (n := 19) (RX6, TX6, 13) 6 4 dX6_step_16 rfl ht (by decide) fd_RX6_40 ?_
    refine aw_iaload (n := 20) 940 dX6_step_19 rfl (sf_6_0 ht) ?_
    refine aw_callSz (n := 23) (as := [.int (μ.1 (aw_rf t 0) (μ.1 t 4).toNatClampNeg)]) (st := []) dX6_step_20 rfl rfl (m_X6_isBlank l F (μ.1 (aw_rf t 0) (μ.1 t 4).toNatClampNeg) μ) cw_RX6_52 ⟨Nat.le_of_ble_eq_true rfl, Nat.le_of_ble_eq_true rfl⟩ (fun _ => Nat.le_of_ble_eq_true rfl) (fun r27 => ?_)
    refine aw_ifb_eq (n := 26) 39 dX6_step_23 (by decide) rfl ?_ ?_
    · exact aw_weak (c_X6_step_39 l F t ht r27.2) (aw_ss aw_s0)
    · refine aw_aload_n (n := 27) dX6_step_26 rfl rfl ?_
      refine aw_dup (n := 28) dX6_step_27 rfl (fun _ => rfl) ?_
      refine aw_getI (n := 31) (RX6, TX6, 13) 6 4 dX6_step_28 rfl ht (by decide) fd_RX6_40 ?_
      refine aw_iconst (n := 32) 1 dX6_step_31 rfl (by decide) ?_
      refine aw_iadd (n := 33) dX6_step_32 rfl ?_
      refine aw_putI (n := 36) (RX6, TX6, 13) 6 4 dX6_step_33 rfl ht (by decide) fp_RX6_40 (fun μ28 => ?_)
      refine aw_goto 0 dX6_step_36 (by decide) ?_
      exact aw_weak (hk0 μ28) (aw_ss aw_s0)
def f_X6_step (F : Nat) (t : Nat) (μ : aw_M) : Option (aw_M) :=
  aw_loop (fun k s => f_X6_step_0 F t k s) F μ
theorem m_X6_step (l : Launch) (F : Nat) (t : Nat) (ht : (aw_sh t).1 = 11) (μ : aw_M) : AM l yX6_step cX6_step 1 none (2) (143) aw_gv [.ref t] μ (f_X6_step F t μ) := by
  refine aw_met [some (.ref t)] (by decide) (fun _ => rfl) (fun _ => Nat.le_of_ble_eq_true rfl) ?_
  show AW l k_X6_step aw_gv 0 [some (.ref t)] [] μ _
  unfold f_X6_step
  exact aw_weak (c_X6_step_0 l F t ht F μ) (aw_ss aw_s0)
abbrev k_X6_passNumber : aw_K := (RX6, cX6_passNumber, 5, (some .boolean), 3, 163)
def f_X6_passNumber_31 (F : Nat) (t a2 : Nat) (μ : aw_M) : Option (Bool × aw_M) :=
  (f_X6_step F t μ).bind fun r5 =>
  some (true, r5)
theorem c_X6_passNumber_31 (l : Launch) (F : Nat) (t : Nat) (ht : (aw_sh t).1 = 11) (a2 : Nat) (ha2 : aw_sh a2 = (0, (aw_sh a2).2)) (μ : aw_M) : AW l k_X6_passNumber aw_gz 31 [some (.ref t), none, none, none, none] [] μ (f_X6_passNumber_31 F t a2 μ) := by
  unfold f_X6_passNumber_31
  refine aw_aload_n (n := 32) dX6_passNumber_31 rfl rfl ?_
  refine aw_callVv (n := 35) (as := []) (st := []) (RX6, TX6, 13) 6 dX6_passNumber_32 rfl rfl (m_X6_step l F t ht μ) ht (by decide) rfl rfl cw_RX6_49 ⟨Nat.le_of_ble_eq_true rfl, Nat.le_of_ble_eq_true rfl⟩ (fun _ => Nat.le_of_ble_eq_true rfl) (fun r5 => ?_)
  refine aw_iconst (n := 36) 1 dX6_passNumber_35 rfl (by decide) ?_
  exact aw_zreturn (b := true) dX6_passNumber_36 rfl rfl
def f_X6_passNumber (F : Nat) (t a2 : Nat) (a0 : Int32) (a1 : Int32) (a3 : Int32) (μ : aw_M) : Option (Bool × aw_M) :=
  (f_X6_seeNumber F t a0 a1 μ).bind fun r4 =>
  (if r4.1 = true then
  (if a3 < 0 then
  f_X6_passNumber_31 F t a2 r4.2
  else
  (if (Int32.ofNat ((aw_sh a2).2)) ≤ a3 then
  f_X6_passNumber_31 F t a2 r4.2
  else
  aw_g (aw_in a3 ((aw_sh a2).2)) (aw_let (aw_wI r4.2 a2 a3.toNatClampNeg (r4.2.1 t 7)) fun μ6 =>
  f_X6_passNumber_31 F t a2 μ6)))
  else
  some (false, r4.2))
theorem m_X6_passNumber (l : Launch) (F : Nat) (t : Nat) (ht : (aw_sh t).1 = 11) (a2 : Nat) (ha2 : aw_sh a2 = (0, (aw_sh a2).2)) (a0 : Int32) (a1 : Int32) (a3 : Int32) (μ : aw_M) : AM l yX6_passNumber cX6_passNumber 5 (some .boolean) (3) (163) aw_gz [.ref t, .int a0, .int a1, .ref a2, .int a3] μ (f_X6_passNumber F t a2 a0 a1 a3 μ) := by
  refine aw_met [some (.ref t), some (.int a0), some (.int a1), some (.ref a2), some (.int a3)] (by decide) (fun _ => rfl) (fun _ => Nat.le_of_ble_eq_true rfl) ?_
  show AW l k_X6_passNumber aw_gz 0 [some (.ref t), some (.int a0), some (.int a1), some (.ref a2), some (.int a3)] [] μ _
  unfold f_X6_passNumber
  refine aw_aload_n (n := 1) dX6_passNumber_0 rfl rfl ?_
  refine aw_iload_n (n := 2) dX6_passNumber_1 rfl rfl ?_
  refine aw_iload_n (n := 3) dX6_passNumber_2 rfl rfl ?_
  refine aw_callVz (n := 6) (as := [.int a0, .int a1]) (st := []) (RX6, TX6, 13) 6 dX6_passNumber_3 rfl rfl (m_X6_seeNumber l F t ht a0 a1 μ) ht (by decide) rfl rfl cw_RX6_91 ⟨Nat.le_of_ble_eq_true rfl, Nat.le_of_ble_eq_true rfl⟩ (fun _ => Nat.le_of_ble_eq_true rfl) (fun r4 => ?_)
  refine aw_ifb_ne (n := 9) 11 dX6_passNumber_6 (by decide) rfl ?_ ?_
  · refine aw_iload (n := 13) dX6_passNumber_11 rfl rfl ?_
    refine aw_if_lt (n := 16) 31 dX6_passNumber_13 (by decide) rfl ?_ ?_
    · exact aw_weak (c_X6_passNumber_31 l F t ht a2 ha2 r4.2) (aw_ss (aw_sn (aw_sn (aw_sn (aw_sn aw_s0)))))
    · refine aw_iload (n := 18) dX6_passNumber_16 rfl rfl ?_
      refine aw_aload_n (n := 19) dX6_passNumber_18 rfl rfl ?_
      refine aw_alen (n := 20) (Int32.ofNat ((aw_sh a2).2)) dX6_passNumber_19 rfl (congrArg Prod.fst ha2) rfl ?_
      refine aw_icmp_ge (n := 23) 31 dX6_passNumber_20 (by decide) rfl ?_ ?_
      · exact aw_weak (c_X6_passNumber_31 l F t ht a2 ha2 r4.2) (aw_ss (aw_sn (aw_sn (aw_sn (aw_sn aw_s0)))))
      · refine aw_aload_n (n := 24) dX6_passNumber_23 rfl rfl ?_
        refine aw_iload (n := 26) dX6_passNumber_24 rfl rfl ?_
        refine aw_aload_n (n := 27) dX6_passNumber_26 rfl rfl ?_
        refine aw_getI (n := 30) (RX6, TX6, 13) 6 7 dX6_passNumber_27 rfl ht (by decide) fd_RX6_82 ?_
        refine aw_iastore (n := 31) ((aw_sh a2).2) dX6_passNumber_30 rfl ha2 (fun μ6 => ?_)
        exact aw_weak (c_X6_passNumber_31 l F t ht a2 ha2 μ6) (aw_ss (aw_sn (aw_sn (aw_sn (aw_sn aw_s0)))))
  · refine aw_iconst (n := 10) 0 dX6_passNumber_9 rfl (by decide) ?_
    exact aw_zreturn (b := false) dX6_passNumber_10 rfl rfl
abbrev k_X6_open : aw_K := (RX6, cX6_open, 2, none, 3, 163)
def f_X6_open (F : Nat) (t : Nat) (a0 : Int32) (μ : aw_M) : Option (aw_M) :=
  aw_let (aw_wI μ t 3 a0) fun μ1 =>
  aw_let (aw_wI μ1 t 4 0) fun μ2 =>
  aw_let (aw_wI μ2 t 11 0) fun μ3 =>
  aw_let (aw_wI μ3 t 12 0) fun μ4 =>
  (f_X6_step F t μ4).bind fun r5 =>
  some r5
theorem m_X6_open (l : Launch) (F : Nat) (t : Nat) (ht : (aw_sh t).1 = 11) (a0 : Int32) (μ : aw_M) : AM l yX6_open cX6_open 2 none (3) (163) aw_gv [.ref t, .int a0] μ (f_X6_open F t a0 μ) := by
  refine aw_met [some (.ref t), some (.int a0)] (by decide) (fun _ => rfl) (fun _ => Nat.le_of_ble_eq_true rfl) ?_
  show AW l k_X6_open aw_gv 0 [some (.ref t), some (.int a0)] [] μ _
  unfold f_X6_open
  refine aw_aload_n (n := 1) dX6_open_0 rfl rfl ?_
  refine aw_iload_n (n := 2) dX6_open_1 rfl rfl ?_
  refine aw_putI (n := 5) (RX6, TX6, 13) 6 3 dX6_open_2 rfl ht (by decide) fp_RX6_37 (fun μ1 => ?_)
  refine aw_aload_n (n := 6) dX6_open_5 rfl rfl ?_
  refine aw_iconst (n := 7) 0 dX6_open_6 rfl (by decide) ?_
  refine aw_putI (n := 10) (RX6, TX6, 13) 6 4 dX6_open_7 rfl ht (by decide) fp_RX6_40 (fun μ2 => ?_)
  refine aw_aload_n (n := 11) dX6_open_10 rfl rfl ?_
  refine aw_iconst (n := 12) 0 dX6_open_11 rfl (by decide) ?_
  refine aw_putI (n := 15) (RX6, TX6, 13) 6 11 dX6_open_12 rfl ht (by decide) fp_RX6_43 (fun μ3 => ?_)
  refine aw_aload_n (n := 16) dX6_open_15 rfl rfl ?_
  refine aw_iconst (n := 17) 0 dX6_open_16 rfl (by decide) ?_
  refine aw_putI (n := 20) (RX6, TX6, 13) 6 12 dX6_open_17 rfl ht (by decide) fp_RX6_46 (fun μ4 => ?_)
  refine aw_aload_n (n := 21) dX6_open_20 rfl rfl ?_
  refine aw_callVv (n := 24) (as := []) (st := []) (RX6, TX6, 13) 6 dX6_open_21 rfl rfl (m_X6_step l F t ht μ4) ht (by decide) rfl rfl cw_RX6_49 ⟨Nat.le_of_ble_eq_true rfl, Nat.le_of_ble_eq_true rfl⟩ (fun _ => Nat.le_of_ble_eq_true rfl) (fun r5 => ?_)
  exact aw_vreturn dX6_open_24 rfl rfl
abbrev k_X6_atSign : aw_K := (RX6, cX6_atSign, 2, (some .boolean), 1, 120)
def f_X6_atSign (F : Nat) (t : Nat) (a0 : Int32) (μ : aw_M) : Option (Bool × aw_M) :=
  (if (μ.1 t 6) = 3 then
  (if (μ.1 t 10) = a0 then
  some (true, μ)
  else
  some (false, μ))
  else
  some (false, μ))
theorem m_X6_atSign (l : Launch) (F : Nat) (t : Nat) (ht : (aw_sh t).1 = 11) (a0 : Int32) (μ : aw_M) : AM l yX6_atSign cX6_atSign 2 (some .boolean) 1 120 aw_gz [.ref t, .int a0] μ (f_X6_atSign F t a0 μ) := by
  refine aw_met [some (.ref t), some (.int a0)] (by decide) (fun _ => rfl) (fun _ => Nat.le_of_ble_eq_true rfl) ?_
  show AW l k_X6_atSign aw_gz 0 [some (.ref t), some (.int a0)] [] μ _
  unfold f_X6_atSign
  refine aw_aload_n (n := 1) dX6_atSign_0 rfl rfl ?_
  refine aw_getI (n := 4) (RX6, TX6, 13) 6 6 dX6_atSign_1 rfl ht (by decide) fd_RX6_62 ?_
  refine aw_iconst (n := 5) 3 dX6_atSign_4 rfl (by decide) ?_
  refine aw_icmp_ne (n := 8) 20 dX6_atSign_5 (by decide) rfl ?_ ?_
  · refine aw_iconst (n := 21) 0 dX6_atSign_20 rfl (by decide) ?_
    exact aw_zreturn (b := false) dX6_atSign_21 rfl rfl
  · refine aw_aload_n (n := 9) dX6_atSign_8 rfl rfl ?_
    refine aw_getI (n := 12) (RX6, TX6, 13) 6 10 dX6_atSign_9 rfl ht (by decide) fd_RX6_68 ?_
    refine aw_iload_n (n := 13) dX6_atSign_12 rfl rfl ?_
    refine aw_icmp_ne (n := 16) 20 dX6_atSign_13 (by decide) rfl ?_ ?_
    · refine aw_iconst (n := 21) 0 dX6_atSign_20 rfl (by decide) ?_
      exact aw_zreturn (b := false) dX6_atSign_21 rfl rfl
    · refine aw_iconst (n := 17) 1 dX6_atSign_16 rfl (by decide) ?_
      refine aw_goto 21 dX6_atSign_17 (by decide) ?_
      exact aw_zreturn (b := true) dX6_atSign_21 rfl rfl
abbrev k_X6_passSign : aw_K := (RX6, cX6_passSign, 2, (some .boolean), 3, 163)
def f_X6_passSign (F : Nat) (t : Nat) (a0 : Int32) (μ : aw_M) : Option (Bool × aw_M) :=
  (f_X6_atSign F t a0 μ).bind fun r1 =>
  (if r1.1 = true then
  (f_X6_step F t r1.2).bind fun r2 =>
  some (true, r2)
  else
  (f_X6_fail F t 1 r1.2).bind fun r3 =>
  some (r3.1, r3.2))
theorem m_X6_passSign (l : Launch) (F : Nat) (t : Nat) (ht : (aw_sh t).1 = 11) (a0 : Int32) (μ : aw_M) : AM l yX6_passSign cX6_passSign 2 (some .boolean) (3) (163) aw_gz [.ref t, .int a0] μ (f_X6_passSign F t a0 μ) := by
  refine aw_met [some (.ref t), some (.int a0)] (by decide) (fun _ => rfl) (fun _ => Nat.le_of_ble_eq_true rfl) ?_
  show AW l k_X6_passSign aw_gz 0 [some (.ref t), some (.int a0)] [] μ _
  unfold f_X6_passSign
  refine aw_aload_n (n := 1) dX6_passSign_0 rfl rfl ?_
  refine aw_iload_n (n := 2) dX6_passSign_1 rfl rfl ?_
  refine aw_callVz (n := 5) (as := [.int a0]) (st := []) (RX6, TX6, 13) 6 dX6_passSign_2 rfl rfl (m_X6_atSign l F t ht a0 μ) ht (by decide) rfl rfl cw_RX6_85 ⟨Nat.le_of_ble_eq_true rfl, Nat.le_of_ble_eq_true rfl⟩ (fun _ => Nat.le_of_ble_eq_true rfl) (fun r1 => ?_)
  refine aw_ifb_ne (n := 8) 14 dX6_passSign_5 (by decide) rfl ?_ ?_
  · refine aw_aload_n (n := 15) dX6_passSign_14 rfl rfl ?_
    refine aw_callVv (n := 18) (as := []) (st := []) (RX6, TX6, 13) 6 dX6_passSign_15 rfl rfl (m_X6_step l F t ht r1.2) ht (by decide) rfl rfl cw_RX6_49 ⟨Nat.le_of_ble_eq_true rfl, Nat.le_of_ble_eq_true rfl⟩ (fun _ => Nat.le_of_ble_eq_true rfl) (fun r2 => ?_)
    refine aw_iconst (n := 19) 1 dX6_passSign_18 rfl (by decide) ?_
    exact aw_zreturn (b := true) dX6_passSign_19 rfl rfl
  · refine aw_aload_n (n := 9) dX6_passSign_8 rfl rfl ?_
    refine aw_iconst (n := 10) 1 dX6_passSign_9 rfl (by decide) ?_
    refine aw_callVz (n := 13) (as := [.int 1]) (st := []) (RX6, TX6, 13) 6 dX6_passSign_10 rfl rfl (m_X6_fail l F t ht 1 r1.2) ht (by decide) rfl rfl cw_RX6_88 ⟨Nat.le_of_ble_eq_true rfl, Nat.le_of_ble_eq_true rfl⟩ (fun _ => Nat.le_of_ble_eq_true rfl) (fun r3 => ?_)
    exact aw_zreturn (b := r3.1) dX6_passSign_13 rfl rfl
abbrev k_X10_isPlan : aw_K := (RX10, cX10_isPlan, 2, (some .boolean), 1, 120)
def f_X10_isPlan (F : Nat)  (a0 : Int32) (a1 : Int32) (μ : aw_M) : Option (Bool × aw_M) :=
  (if a0 < 0 then
  some (false, μ)
  else
  (if 18 < a0 then
  some (false, μ)
  else
  (if a1 < 0 then
  some (false, μ)
  else
  (if 99 < a1 then
  some (false, μ)
  else
  some (true, μ)))))
theorem m_X10_isPlan (l : Launch) (F : Nat) (a0 : Int32) (a1 : Int32) (μ : aw_M) : AM l yX10_isPlan cX10_isPlan 2 (some .boolean) 1 120 aw_gz [.int a0, .int a1] μ (f_X10_isPlan F  a0 a1 μ) := by
  refine aw_met [some (.int a0), some (.int a1)] (by decide) (fun _ => rfl) (fun _ => Nat.le_of_ble_eq_true rfl) ?_
  show AW l k_X10_isPlan aw_gz 0 [some (.int a0), some (.int a1)] [] μ _
  unfold f_X10_isPlan
  refine aw_iload_n (n := 1) dX10_isPlan_0 rfl rfl ?_
  refine aw_if_lt (n := 4) 24 dX10_isPlan_1 (by decide) rfl ?_ ?_
  · refine aw_iconst (n := 25) 0 dX10_isPlan_24 rfl (by decide) ?_
    exact aw_zreturn (b := false) dX10_isPlan_25 rfl rfl
  · refine aw_iload_n (n := 5) dX10_isPlan_4 rfl rfl ?_
    refine aw_bipush (n := 7) 18 dX10_isPlan_5 rfl (by decide) ?_
    refine aw_icmp_gt (n := 10) 24 dX10_isPlan_7 (by decide) rfl ?_ ?_
    · refine aw_iconst (n := 25) 0 dX10_isPlan_24 rfl (by decide) ?_
      exact aw_zreturn (b := false) dX10_isPlan_25 rfl rfl
    · refine aw_iload_n (n := 11) dX10_isPlan_10 rfl rfl ?_
      refine aw_if_lt (n := 14) 24 dX10_isPlan_11 (by decide) rfl ?_ ?_
      · refine aw_iconst (n := 25) 0 dX10_isPlan_24 rfl (by decide) ?_
        exact aw_zreturn (b := false) dX10_isPlan_25 rfl rfl
      · refine aw_iload_n (n := 15) dX10_isPlan_14 rfl rfl ?_
        refine aw_bipush (n := 17) 99 dX10_isPlan_15 rfl (by decide) ?_
        refine aw_icmp_gt (n := 20) 24 dX10_isPlan_17 (by decide) rfl ?_ ?_
        · refine aw_iconst (n := 25) 0 dX10_isPlan_24 rfl (by decide) ?_
          exact aw_zreturn (b := false) dX10_isPlan_25 rfl rfl
        · refine aw_iconst (n := 21) 1 dX10_isPlan_20 rfl (by decide) ?_
          refine aw_goto 25 dX10_isPlan_21 (by decide) ?_
          exact aw_zreturn (b := true) dX10_isPlan_25 rfl rfl
abbrev k_X6_hasRoom : aw_K := (RX6, cX6_hasRoom, 1, (some .boolean), 1, 120)
def f_X6_hasRoom (F : Nat) (t : Nat) (μ : aw_M) : Option (Bool × aw_M) :=
  (if 920 < (μ.1 t 1) then
  some (false, μ)
  else
  some (true, μ))
theorem m_X6_hasRoom (l : Launch) (F : Nat) (t : Nat) (ht : (aw_sh t).1 = 11) (μ : aw_M) : AM l yX6_hasRoom cX6_hasRoom 1 (some .boolean) 1 120 aw_gz [.ref t] μ (f_X6_hasRoom F t μ) := by
  refine aw_met [some (.ref t)] (by decide) (fun _ => rfl) (fun _ => Nat.le_of_ble_eq_true rfl) ?_
  show AW l k_X6_hasRoom aw_gz 0 [some (.ref t)] [] μ _
  unfold f_X6_hasRoom
  refine aw_aload_n (n := 1) dX6_hasRoom_0 rfl rfl ?_
  refine aw_getI (n := 4) (RX6, TX6, 13) 6 1 dX6_hasRoom_1 rfl ht (by decide) fd_RX6_33 ?_
  refine aw_sipush (n := 7) 920 dX6_hasRoom_4 rfl (by decide) ?_
  refine aw_icmp_gt (n := 10) 14 dX6_hasRoom_7 (by decide) rfl ?_ ?_
  · refine aw_iconst (n := 15) 0 dX6_hasRoom_14 rfl (by decide) ?_
    exact aw_zreturn (b := false) dX6_hasRoom_15 rfl rfl
  · refine aw_iconst (n := 11) 1 dX6_hasRoom_10 rfl (by decide) ?_
    refine aw_goto 15 dX6_hasRoom_11 (by decide) ?_
    exact aw_zreturn (b := true) dX6_hasRoom_15 rfl rfl
abbrev k_X6_addNumber : aw_K := (RX6, cX6_addNumber, 3, none, 1, 120)
def f_X6_addNumber_3 (F : Nat) (t : Nat) (k3 : Int32 × Int32 × aw_M → Option (aw_M)) (x1 : Int32) (x2 : Int32) (μ : aw_M) : Option (aw_M) :=
  (if x2 < 0 then
  some μ
  else
  (if 940 ≤ (μ.1 t 1) then
  some μ
  else
  aw_g (aw_in (μ.1 t 1) 940) (aw_let (aw_wI μ (aw_rf t 0) (μ.1 t 1).toNatClampNeg ((((x1).toUInt32 >>> ((x2 : Int32).toUInt32 &&& Int32.toUInt32 31)).toInt32) &&& 255)) fun μ3 =>
  aw_let (aw_wI μ3 t 1 ((μ3.1 t 1) + 1)) fun μ4 =>
  k3 (x1, (x2 + (-8)), μ4))))
theorem c_X6_addNumber_3 (l : Launch) (F : Nat) (t : Nat) (ht : (aw_sh t).1 = 11) : ∀ (N : Nat) (s : Int32 × Int32 × aw_M), AW l k_X6_addNumber aw_gv 3 [some (.ref t), some (.int s.1), some (.int s.2.1)] [] s.2.2 (aw_loop (fun k s => f_X6_addNumber_3 F t k s.1 s.2.1 s.2.2) N s) := by
  refine aw_loop_ok (f := fun k s => f_X6_addNumber_3 F t k s.1 s.2.1 s.2.2) (Ls := fun s => [some (.ref t), some (.int s.1), some (.int s.2.1)]) (ms := fun s => s.2.2) ?_
  intro k3 hk3 s
  obtain ⟨x1, x2, μ⟩ := s
  show AW l k_X6_addNumber aw_gv 3 [some (.ref t), some (.int x1), some (.int x2)] [] μ (f_X6_addNumber_3 F t k3 x1 x2 μ)
  unfold f_X6_addNumber_3
  refine aw_iload_n (n := 4) dX6_addNumber_3 rfl rfl ?_
  refine aw_if_lt (n := 7) 49 dX6_addNumber_4 (by decide) rfl ?_ ?_
  · exact aw_vreturn dX6_addNumber_49 rfl rfl
  · refine aw_aload_n (n := 8) dX6_addNumber_7 rfl rfl ?_
    refine aw_getI (n := 11) (RX6, TX6, 13) 6 1 dX6_addNumber_8 rfl ht (by decide) fd_RX6_33 ?_
    refine aw_sipush (n := 14) 940 dX6_addNumber_11 rfl (by decide) ?_
    refine aw_icmp_ge (n := 17) 49 dX6_addNumber_14 (by decide) rfl ?_ ?_
    · exact aw_vreturn dX6_addNumber_49 rfl rfl
    · refine aw_aload_n (n := 18) dX6_addNumber_17 rfl rfl ?_
      refine aw_getR (n := 21) (RX6, TX6, 13) 6 0 dX6_addNumber_18 rfl ht (by decide) fd_RX6_11 ?_
      refine aw_aload_n (n := 22) dX6_addNumber_21 rfl rfl ?_
      refine aw_getI (n := 25) (RX6, TX6, 13) 6 1 dX6_addNumber_22 rfl ht (by decide) fd_RX6_33 ?_
      refine aw_iload_n (n := 26) dX6_addNumber_25 rfl rfl ?_
      refine aw_iload_n (n := 27) dX6_addNumber_26 rfl rfl ?_
      refine aw_iushr (n := 28) dX6_addNumber_27 rfl ?_
      refine aw_sipush (n := 31) 255 dX6_addNumber_28 rfl (by decide) ?_
      refine aw_iand (n := 32) dX6_addNumber_31 rfl ?_
      refine aw_iastore (n := 33) 940 dX6_addNumber_32 rfl (sf_6_0 ht) (fun μ3 => ?_)
      refine aw_aload_n (n := 34) dX6_addNumber_33 rfl rfl ?_
      refine aw_dup (n := 35) dX6_addNumber_34 rfl (fun _ => rfl) ?_
      refine aw_getI (n := 38) (RX6, TX6, 13) 6 1 dX6_addNumber_35 rfl ht (by decide) fd_RX6_33 ?_
      refine aw_iconst (n := 39) 1 dX6_addNumber_38 rfl (by decide) ?_
      refine aw_iadd (n := 40) dX6_addNumber_39 rfl ?_
      refine aw_putI (n := 43) (RX6, TX6, 13) 6 1 dX6_addNumber_40 rfl ht (by decide) fp_RX6_33 (fun μ4 => ?_)
      refine aw_iinc (n := 46) (x2 + (-8)) [some (.ref t), some (.int x1), some (.int (x2 + (-8)))] dX6_addNumber_43 rfl rfl (by rfl) rfl (Nat.le_of_ble_eq_true rfl) rfl ?_
      refine aw_goto 3 dX6_addNumber_46 (by decide) ?_
      exact aw_weak (hk3 (x1, (x2 + (-8)), μ4)) (aw_ss (aw_ss (aw_ss aw_s0)))
def f_X6_addNumber (F : Nat) (t : Nat) (a0 : Int32) (μ : aw_M) : Option (aw_M) :=
  aw_loop (fun k s => f_X6_addNumber_3 F t k s.1 s.2.1 s.2.2) F (a0, 24, μ)
theorem m_X6_addNumber (l : Launch) (F : Nat) (t : Nat) (ht : (aw_sh t).1 = 11) (a0 : Int32) (μ : aw_M) : AM l yX6_addNumber cX6_addNumber 3 none 1 120 aw_gv [.ref t, .int a0] μ (f_X6_addNumber F t a0 μ) := by
  refine aw_met [some (.ref t), some (.int a0), none] (by decide) (fun _ => rfl) (fun _ => Nat.le_of_ble_eq_true rfl) ?_
  show AW l k_X6_addNumber aw_gv 0 [some (.ref t), some (.int a0), none] [] μ _
  unfold f_X6_addNumber
  refine aw_bipush (n := 2) 24 dX6_addNumber_0 rfl (by decide) ?_
  refine aw_istore_n (n := 3) [some (.ref t), some (.int a0), some (.int 24)] dX6_addNumber_2 rfl rfl (Nat.le_of_ble_eq_true rfl) (Nat.le_of_ble_eq_true rfl) rfl ?_
  exact aw_weak (c_X6_addNumber_3 l F t ht F (a0, 24, μ)) (aw_ss (aw_ss (aw_ss aw_s0)))
abbrev k_X7_overDays : aw_K := (RX7, cX7_overDays, 4, (some .int), 1, 120)
def f_X7_overDays (F : Nat) (a0 : Nat) (a1 : Int32) (a2 : Int32) (a3 : Int32) (μ : aw_M) : Option (Int32 × aw_M) :=
  aw_g (aw_in 0 ((aw_sh a0).2)) (aw_g (aw_in 1 ((aw_sh a0).2)) (aw_g (aw_in 2 ((aw_sh a0).2)) (some (((((μ.1 a0 (0 : Int32).toNatClampNeg) * a1) + ((μ.1 a0 (1 : Int32).toNatClampNeg) * a2)) + ((μ.1 a0 (2 : Int32).toNatClampNeg) * a3)), μ))))
theorem m_X7_overDays (l : Launch) (F : Nat) (a0 : Nat) (ha0 : aw_sh a0 = (0, (aw_sh a0).2)) (a1 : Int32) (a2 : Int32) (a3 : Int32) (μ : aw_M) : AM l yX7_overDays cX7_overDays 4 (some .int) 1 120 aw_gi [.ref a0, .int a1, .int a2, .int a3] μ (f_X7_overDays F a0 a1 a2 a3 μ) := by
  refine aw_met [some (.ref a0), some (.int a1), some (.int a2), some (.int a3)] (by decide) (fun _ => rfl) (fun _ => Nat.le_of_ble_eq_true rfl) ?_
  show AW l k_X7_overDays aw_gi 0 [some (.ref a0), some (.int a1), some (.int a2), some (.int a3)] [] μ _
  unfold f_X7_overDays
  refine aw_aload_n (n := 1) dX7_overDays_0 rfl rfl ?_
  refine aw_iconst (n := 2) 0 dX7_overDays_1 rfl (by decide) ?_
  refine aw_iaload (n := 3) ((aw_sh a0).2) dX7_overDays_2 rfl ha0 ?_
  refine aw_iload_n (n := 4) dX7_overDays_3 rfl rfl ?_
  refine aw_imul (n := 5) dX7_overDays_4 rfl ?_
  refine aw_aload_n (n := 6) dX7_overDays_5 rfl rfl ?_
  refine aw_iconst (n := 7) 1 dX7_overDays_6 rfl (by decide) ?_
  refine aw_iaload (n := 8) ((aw_sh a0).2) dX7_overDays_7 rfl ha0 ?_
  refine aw_iload_n (n := 9) dX7_overDays_8 rfl rfl ?_
  refine aw_imul (n := 10) dX7_overDays_9 rfl ?_
  refine aw_iadd (n := 11) dX7_overDays_10 rfl ?_
  refine aw_aload_n (n := 12) dX7_overDays_11 rfl rfl ?_
  refine aw_iconst (n := 13) 2 dX7_overDays_12 rfl (by decide) ?_
  refine aw_iaload (n := 14) ((aw_sh a0).2) dX7_overDays_13 rfl ha0 ?_
  refine aw_iload_n (n := 15) dX7_overDays_14 rfl rfl ?_
  refine aw_imul (n := 16) dX7_overDays_15 rfl ?_
  refine aw_iadd (n := 17) dX7_overDays_16 rfl ?_
  exact aw_ireturn dX7_overDays_17 rfl rfl
abbrev k_X7_spreadBoxes : aw_K := (RX7, cX7_spreadBoxes, 10, (some .int), 2, 143)
def f_X7_spreadBoxes_200 (F : Nat) (t a0 : Nat) (k78 : Int32 × Int32 × Int32 × Int32 × aw_M → Option (Int32 × aw_M)) (x2 : Int32) (x3 : Int32) (x4 : Int32) (x5 : Int32) (μ : aw_M) : Option (Int32 × aw_M) :=
  k78 (x2, x3, x4, (x5 + 1), μ)
theorem c_X7_spreadBoxes_200 (l : Launch) (F : Nat) (t : Nat) (ht : (aw_sh t).1 = 12) (a0 : Nat) (ha0 : (aw_sh a0).1 = 11) (k78 : Int32 × Int32 × Int32 × Int32 × aw_M → Option (Int32 × aw_M)) (hk78 : ∀ s : Int32 × Int32 × Int32 × Int32 × aw_M, AW l k_X7_spreadBoxes aw_gi 78 [some (.ref t), some (.ref a0), some (.int s.1), some (.int s.2.1), some (.int s.2.2.1), some (.int s.2.2.2.1), none, none, none, none] [] s.2.2.2.2 (k78 s)) (x2 : Int32) (x3 : Int32) (x4 : Int32) (x5 : Int32) (μ : aw_M) : AW l k_X7_spreadBoxes aw_gi 200 [some (.ref t), some (.ref a0), some (.int x2), some (.int x3), some (.int x4), some (.int x5), none, none, none, none] [] μ (f_X7_spreadBoxes_200 F t a0 k78 x2 x3 x4 x5 μ) := by
  unfold f_X7_spreadBoxes_200
  refine aw_iinc (n := 203) (x5 + 1) [some (.ref t), some (.ref a0), some (.int x2), some (.int x3), some (.int x4), some (.int (x5 + 1)), none, none, none, none] dX7_spreadBoxes_200 rfl rfl (by rfl) rfl (Nat.le_of_ble_eq_true rfl) rfl ?_
  refine aw_goto 78 dX7_spreadBoxes_203 (by decide) ?_
  exact aw_weak (hk78 (x2, x3, x4, (x5 + 1), μ)) (aw_ss (aw_ss (aw_ss (aw_ss (aw_ss (aw_ss (aw_sn (aw_sn (aw_sn (aw_sn aw_s0))))))))))
def f_X7_spreadBoxes_194 (F : Nat) (t a0 : Nat) (k78 : Int32 × Int32 × Int32 × Int32 × aw_M → Option (Int32 × aw_M)) (k87 : Int32 × Int32 × Int32 × Int32 × Int32 × aw_M → Option (Int32 × aw_M)) (x2 : Int32) (x3 : Int32) (x4 : Int32) (x5 : Int32) (x6 : Int32) (μ : aw_M) : Option (Int32 × aw_M) :=
  k87 (x2, x3, x4, x5, (x6 + 1), μ)
theorem c_X7_spreadBoxes_194 (l : Launch) (F : Nat) (t : Nat) (ht : (aw_sh t).1 = 12) (a0 : Nat) (ha0 : (aw_sh a0).1 = 11) (k78 : Int32 × Int32 × Int32 × Int32 × aw_M → Option (Int32 × aw_M)) (hk78 : ∀ s : Int32 × Int32 × Int32 × Int32 × aw_M, AW l k_X7_spreadBoxes aw_gi 78 [some (.ref t), some (.ref a0), some (.int s.1), some (.int s.2.1), some (.int s.2.2.1), some (.int s.2.2.2.1), none, none, none, none] [] s.2.2.2.2 (k78 s)) (k87 : Int32 × Int32 × Int32 × Int32 × Int32 × aw_M → Option (Int32 × aw_M)) (hk87 : ∀ s : Int32 × Int32 × Int32 × Int32 × Int32 × aw_M, AW l k_X7_spreadBoxes aw_gi 87 [some (.ref t), some (.ref a0), some (.int s.1), some (.int s.2.1), some (.int s.2.2.1), some (.int s.2.2.2.1), some (.int s.2.2.2.2.1), none, none, none] [] s.2.2.2.2.2 (k87 s)) (x2 : Int32) (x3 : Int32) (x4 : Int32) (x5 : Int32) (x6 : Int32) (μ : aw_M) : AW l k_X7_spreadBoxes aw_gi 194 [some (.ref t), some (.ref a0), some (.int x2), some (.int x3), some (.int x4), some (.int x5), some (.int x6), none, none, none] [] μ (f_X7_spreadBoxes_194 F t a0 k78 k87 x2 x3 x4 x5 x6 μ) := by
  unfold f_X7_spreadBoxes_194
  refine aw_iinc (n := 197) (x6 + 1) [some (.ref t), some (.ref a0), some (.int x2), some (.int x3), some (.int x4), some (.int x5), some (.int (x6 + 1)), none, none, none] dX7_spreadBoxes_194 rfl rfl (by rfl) rfl (Nat.le_of_ble_eq_true rfl) rfl ?_
  refine aw_goto 87 dX7_spreadBoxes_197 (by decide) ?_
  exact aw_weak (hk87 (x2, x3, x4, x5, (x6 + 1), μ)) (aw_ss (aw_ss (aw_ss (aw_ss (aw_ss (aw_ss (aw_ss (aw_sn (aw_sn (aw_sn aw_s0))))))))))
def f_X7_spreadBoxes_188 (F : Nat) (t a0 : Nat) (k78 : Int32 × Int32 × Int32 × Int32 × aw_M → Option (Int32 × aw_M)) (k87 : Int32 × Int32 × Int32 × Int32 × Int32 × aw_M → Option (Int32 × aw_M)) (k96 : Int32 × Int32 × Int32 × Int32 × Int32 × Int32 × aw_M → Option (Int32 × aw_M)) (x2 : Int32) (x3 : Int32) (x4 : Int32) (x5 : Int32) (x6 : Int32) (x7 : Int32) (μ : aw_M) : Option (Int32 × aw_M) :=
  k96 (x2, x3, x4, x5, x6, (x7 + 1), μ)
theorem c_X7_spreadBoxes_188 (l : Launch) (F : Nat) (t : Nat) (ht : (aw_sh t).1 = 12) (a0 : Nat) (ha0 : (aw_sh a0).1 = 11) (k78 : Int32 × Int32 × Int32 × Int32 × aw_M → Option (Int32 × aw_M)) (hk78 : ∀ s : Int32 × Int32 × Int32 × Int32 × aw_M, AW l k_X7_spreadBoxes aw_gi 78 [some (.ref t), some (.ref a0), some (.int s.1), some (.int s.2.1), some (.int s.2.2.1), some (.int s.2.2.2.1), none, none, none, none] [] s.2.2.2.2 (k78 s)) (k87 : Int32 × Int32 × Int32 × Int32 × Int32 × aw_M → Option (Int32 × aw_M)) (hk87 : ∀ s : Int32 × Int32 × Int32 × Int32 × Int32 × aw_M, AW l k_X7_spreadBoxes aw_gi 87 [some (.ref t), some (.ref a0), some (.int s.1), some (.int s.2.1), some (.int s.2.2.1), some (.int s.2.2.2.1), some (.int s.2.2.2.2.1), none, none, none] [] s.2.2.2.2.2 (k87 s)) (k96 : Int32 × Int32 × Int32 × Int32 × Int32 × Int32 × aw_M → Option (Int32 × aw_M)) (hk96 : ∀ s : Int32 × Int32 × Int32 × Int32 × Int32 × Int32 × aw_M, AW l k_X7_spreadBoxes aw_gi 96 [some (.ref t), some (.ref a0), some (.int s.1), some (.int s.2.1), some (.int s.2.2.1), some (.int s.2.2.2.1), some (.int s.2.2.2.2.1), some (.int s.2.2.2.2.2.1), none, none] [] s.2.2.2.2.2.2 (k96 s)) (x2 : Int32) (x3 : Int32) (x4 : Int32) (x5 : Int32) (x6 : Int32) (x7 : Int32) (μ : aw_M) : AW l k_X7_spreadBoxes aw_gi 188 [some (.ref t), some (.ref a0), some (.int x2), some (.int x3), some (.int x4), some (.int x5), some (.int x6), some (.int x7), none, none] [] μ (f_X7_spreadBoxes_188 F t a0 k78 k87 k96 x2 x3 x4 x5 x6 x7 μ) := by
  unfold f_X7_spreadBoxes_188
  refine aw_iinc (n := 191) (x7 + 1) [some (.ref t), some (.ref a0), some (.int x2), some (.int x3), some (.int x4), some (.int x5), some (.int x6), some (.int (x7 + 1)), none, none] dX7_spreadBoxes_188 rfl rfl (by rfl) rfl (Nat.le_of_ble_eq_true rfl) rfl ?_
  refine aw_goto 96 dX7_spreadBoxes_191 (by decide) ?_
  exact aw_weak (hk96 (x2, x3, x4, x5, x6, (x7 + 1), μ)) (aw_ss (aw_ss (aw_ss (aw_ss (aw_ss (aw_ss (aw_ss (aw_ss (aw_sn (aw_sn aw_s0))))))))))
def f_X7_spreadBoxes_96 (F : Nat) (t a0 : Nat) (k96 : Int32 × Int32 × Int32 × Int32 × Int32 × Int32 × aw_M → Option (Int32 × aw_M)) (k78 : Int32 × Int32 × Int32 × Int32 × aw_M → Option (Int32 × aw_M)) (k87 : Int32 × Int32 × Int32 × Int32 × Int32 × aw_M → Option (Int32 × aw_M)) (x2 : Int32) (x3 : Int32) (x4 : Int32) (x5 : Int32) (x6 : Int32) (x7 : Int32) (μ : aw_M) : Option (Int32 × aw_M) :=
  (if x3 < x7 then
  f_X7_spreadBoxes_194 F t a0 k78 k87 x2 x3 x4 x5 x6 μ
  else
  (f_X7_overDays F (aw_rf a0 0) x5 x6 x7 μ).bind fun r16 =>
  aw_g (aw_in x5 10) (aw_g (aw_in x6 10) (aw_g (aw_in x7 10) ((f_X7_overDays F (aw_rf a0 0) (r16.2.1 (aw_rf t 1) x5.toNatClampNeg) (r16.2.1 (aw_rf t 1) x6.toNatClampNeg) (r16.2.1 (aw_rf t 1) x7.toNatClampNeg) r16.2).bind fun r17 =>
  (if x2 < r16.1 then
  f_X7_spreadBoxes_188 F t a0 k78 k87 k96 x2 x3 x4 x5 x6 x7 r17.2
  else
  (if r17.1 ≤ x4 then
  f_X7_spreadBoxes_188 F t a0 k78 k87 k96 x2 x3 x4 x5 x6 x7 r17.2
  else
  aw_g (aw_in 0 3) (aw_let (aw_wI r17.2 (aw_rf t 0) (0 : Int32).toNatClampNeg x5) fun μ18 =>
  aw_g (aw_in 1 3) (aw_let (aw_wI μ18 (aw_rf t 0) (1 : Int32).toNatClampNeg x6) fun μ19 =>
  aw_g (aw_in 2 3) (aw_let (aw_wI μ19 (aw_rf t 0) (2 : Int32).toNatClampNeg x7) fun μ20 =>
  f_X7_spreadBoxes_188 F t a0 k78 k87 k96 x2 x3 r17.1 x5 x6 x7 μ20)))))))))
theorem c_X7_spreadBoxes_96 (l : Launch) (F : Nat) (t : Nat) (ht : (aw_sh t).1 = 12) (a0 : Nat) (ha0 : (aw_sh a0).1 = 11) (k78 : Int32 × Int32 × Int32 × Int32 × aw_M → Option (Int32 × aw_M)) (hk78 : ∀ s : Int32 × Int32 × Int32 × Int32 × aw_M, AW l k_X7_spreadBoxes aw_gi 78 [some (.ref t), some (.ref a0), some (.int s.1), some (.int s.2.1), some (.int s.2.2.1), some (.int s.2.2.2.1), none, none, none, none] [] s.2.2.2.2 (k78 s)) (k87 : Int32 × Int32 × Int32 × Int32 × Int32 × aw_M → Option (Int32 × aw_M)) (hk87 : ∀ s : Int32 × Int32 × Int32 × Int32 × Int32 × aw_M, AW l k_X7_spreadBoxes aw_gi 87 [some (.ref t), some (.ref a0), some (.int s.1), some (.int s.2.1), some (.int s.2.2.1), some (.int s.2.2.2.1), some (.int s.2.2.2.2.1), none, none, none] [] s.2.2.2.2.2 (k87 s)) : ∀ (N : Nat) (s : Int32 × Int32 × Int32 × Int32 × Int32 × Int32 × aw_M), AW l k_X7_spreadBoxes aw_gi 96 [some (.ref t), some (.ref a0), some (.int s.1), some (.int s.2.1), some (.int s.2.2.1), some (.int s.2.2.2.1), some (.int s.2.2.2.2.1), some (.int s.2.2.2.2.2.1), none, none] [] s.2.2.2.2.2.2 (aw_loop (fun k s => f_X7_spreadBoxes_96 F t a0 k k78 k87 s.1 s.2.1 s.2.2.1 s.2.2.2.1 s.2.2.2.2.1 s.2.2.2.2.2.1 s.2.2.2.2.2.2) N s) := by
  refine aw_loop_ok (f := fun k s => f_X7_spreadBoxes_96 F t a0 k k78 k87 s.1 s.2.1 s.2.2.1 s.2.2.2.1 s.2.2.2.2.1 s.2.2.2.2.2.1 s.2.2.2.2.2.2) (Ls := fun s => [some (.ref t), some (.ref a0), some (.int s.1), some (.int s.2.1), some (.int s.2.2.1), some (.int s.2.2.2.1), some (.int s.2.2.2.2.1), some (.int s.2.2.2.2.2.1), none, none]) (ms := fun s => s.2.2.2.2.2.2) ?_
  intro k96 hk96 s
  obtain ⟨x2, x3, x4, x5, x6, x7, μ⟩ := s
  show AW l k_X7_spreadBoxes aw_gi 96 [some (.ref t), some (.ref a0), some (.int x2), some (.int x3), some (.int x4), some (.int x5), some (.int x6), some (.int x7), none, none] [] μ (f_X7_spreadBoxes_96 F t a0 k96 k78 k87 x2 x3 x4 x5 x6 x7 μ)
  unfold f_X7_spreadBoxes_96
  refine aw_iload (n := 98) dX7_spreadBoxes_96 rfl rfl ?_
  refine aw_iload_n (n := 99) dX7_spreadBoxes_98 rfl rfl ?_
  refine aw_icmp_gt (n := 102) 194 dX7_spreadBoxes_99 (by decide) rfl ?_ ?_
  · exact aw_weak (c_X7_spreadBoxes_194 l F t ht a0 ha0 k78 hk78 k87 hk87 x2 x3 x4 x5 x6 μ) (aw_ss (aw_ss (aw_ss (aw_ss (aw_ss (aw_ss (aw_ss (aw_sn (aw_sn (aw_sn aw_s0))))))))))
  · refine aw_aload_n (n := 103) dX7_spreadBoxes_102 rfl rfl ?_
    refine aw_getR (n := 106) (RX6, TX6, 13) 6 0 dX7_spreadBoxes_103 rfl ha0 (by decide) fd_RX7_33 ?_
    refine aw_iload (n := 108) dX7_spreadBoxes_106 rfl rfl ?_
    refine aw_iload (n := 110) dX7_spreadBoxes_108 rfl rfl ?_
    refine aw_iload (n := 112) dX7_spreadBoxes_110 rfl rfl ?_
    refine aw_callSi (n := 115) (as := [.ref (aw_rf a0 0), .int x5, .int x6, .int x7]) (st := []) dX7_spreadBoxes_112 rfl rfl (m_X7_overDays l F (aw_rf a0 0) (aw_arr (sf_6_0 ha0)) x5 x6 x7 μ) cw_RX7_36 ⟨Nat.le_of_ble_eq_true rfl, Nat.le_of_ble_eq_true rfl⟩ (fun _ => Nat.le_of_ble_eq_true rfl) (fun r16 => ?_)
    refine aw_istore (n := 117) [some (.ref t), some (.ref a0), some (.int x2), some (.int x3), some (.int x4), some (.int x5), some (.int x6), some (.int x7), some (.int r16.1), none] dX7_spreadBoxes_115 rfl rfl (Nat.le_of_ble_eq_true rfl) (Nat.le_of_ble_eq_true rfl) rfl ?_
    refine aw_aload_n (n := 118) dX7_spreadBoxes_117 rfl rfl ?_
    refine aw_getR (n := 121) (RX6, TX6, 13) 6 0 dX7_spreadBoxes_118 rfl ha0 (by decide) fd_RX7_33 ?_
    refine aw_aload_n (n := 122) dX7_spreadBoxes_121 rfl rfl ?_
    refine aw_getR (n := 125) (RX7, TX7, 4) 7 1 dX7_spreadBoxes_122 rfl ht (by decide) fd_RX7_15 ?_
    refine aw_iload (n := 127) dX7_spreadBoxes_125 rfl rfl ?_
    refine aw_iaload (n := 128) 10 dX7_spreadBoxes_127 rfl (sf_7_1 ht) ?_
    refine aw_aload_n (n := 129) dX7_spreadBoxes_128 rfl rfl ?_
    refine aw_getR (n := 132) (RX7, TX7, 4) 7 1 dX7_spreadBoxes_129 rfl ht (by decide) fd_RX7_15 ?_
    refine aw_iload (n := 134) dX7_spreadBoxes_132 rfl rfl ?_
    refine aw_iaload (n := 135) 10 dX7_spreadBoxes_134 rfl (sf_7_1 ht) ?_
    refine aw_aload_n (n := 136) dX7_spreadBoxes_135 rfl rfl ?_
    refine aw_getR (n := 139) (RX7, TX7, 4) 7 1 dX7_spreadBoxes_136 rfl ht (by decide) fd_RX7_15 ?_
    refine aw_iload (n := 141) dX7_spreadBoxes_139 rfl rfl ?_
    refine aw_iaload (n := 142) 10 dX7_spreadBoxes_141 rfl (sf_7_1 ht) ?_
    refine aw_callSi (n := 145) (as := [.ref (aw_rf a0 0), .int (r16.2.1 (aw_rf t 1) x5.toNatClampNeg), .int (r16.2.1 (aw_rf t 1) x6.toNatClampNeg), .int (r16.2.1 (aw_rf t 1) x7.toNatClampNeg)]) (st := []) dX7_spreadBoxes_142 rfl rfl (m_X7_overDays l F (aw_rf a0 0) (aw_arr (sf_6_0 ha0)) (r16.2.1 (aw_rf t 1) x5.toNatClampNeg) (r16.2.1 (aw_rf t 1) x6.toNatClampNeg) (r16.2.1 (aw_rf t 1) x7.toNatClampNeg) r16.2) cw_RX7_36 ⟨Nat.le_of_ble_eq_true rfl, Nat.le_of_ble_eq_true rfl⟩ (fun _ => Nat.le_of_ble_eq_true rfl) (fun r17 => ?_)
    refine aw_istore (n := 147) [some (.ref t), some (.ref a0), some (.int x2), some (.int x3), some (.int x4), some (.int x5), some (.int x6), some (.int x7), some (.int r16.1), some (.int r17.1)] dX7_spreadBoxes_145 rfl rfl (Nat.le_of_ble_eq_true rfl) (Nat.le_of_ble_eq_true rfl) rfl ?_
    refine aw_iload (n := 149) dX7_spreadBoxes_147 rfl rfl ?_
    refine aw_iload_n (n := 150) dX7_spreadBoxes_149 rfl rfl ?_
    refine aw_icmp_gt (n := 153) 188 dX7_spreadBoxes_150 (by decide) rfl ?_ ?_
    · exact aw_weak (c_X7_spreadBoxes_188 l F t ht a0 ha0 k78 hk78 k87 hk87 k96 hk96 x2 x3 x4 x5 x6 x7 r17.2) (aw_ss (aw_ss (aw_ss (aw_ss (aw_ss (aw_ss (aw_ss (aw_ss (aw_sn (aw_sn aw_s0))))))))))
    · refine aw_iload (n := 155) dX7_spreadBoxes_153 rfl rfl ?_
      refine aw_iload (n := 157) dX7_spreadBoxes_155 rfl rfl ?_
      refine aw_icmp_le (n := 160) 188 dX7_spreadBoxes_157 (by decide) rfl ?_ ?_
      · exact aw_weak (c_X7_spreadBoxes_188 l F t ht a0 ha0 k78 hk78 k87 hk87 k96 hk96 x2 x3 x4 x5 x6 x7 r17.2) (aw_ss (aw_ss (aw_ss (aw_ss (aw_ss (aw_ss (aw_ss (aw_ss (aw_sn (aw_sn aw_s0))))))))))
      · refine aw_iload (n := 162) dX7_spreadBoxes_160 rfl rfl ?_
        refine aw_istore (n := 164) [some (.ref t), some (.ref a0), some (.int x2), some (.int x3), some (.int r17.1), some (.int x5), some (.int x6), some (.int x7), some (.int r16.1), some (.int r17.1)] dX7_spreadBoxes_162 rfl rfl (Nat.le_of_ble_eq_true rfl) (Nat.le_of_ble_eq_true rfl) rfl ?_
        refine aw_aload_n (n := 165) dX7_spreadBoxes_164 rfl rfl ?_
        refine aw_getR (n := 168) (RX7, TX7, 4) 7 0 dX7_spreadBoxes_165 rfl ht (by decide) fd_RX7_9 ?_
        refine aw_iconst (n := 169) 0 dX7_spreadBoxes_168 rfl (by decide) ?_
        refine aw_iload (n := 171) dX7_spreadBoxes_169 rfl rfl ?_
        refine aw_iastore (n := 172) 3 dX7_spreadBoxes_171 rfl (sf_7_0 ht) (fun μ18 => ?_)
        refine aw_aload_n (n := 173) dX7_spreadBoxes_172 rfl rfl ?_
        refine aw_getR (n := 176) (RX7, TX7, 4) 7 0 dX7_spreadBoxes_173 rfl ht (by decide) fd_RX7_9 ?_
        refine aw_iconst (n := 177) 1 dX7_spreadBoxes_176 rfl (by decide) ?_
        refine aw_iload (n := 179) dX7_spreadBoxes_177 rfl rfl ?_
        refine aw_iastore (n := 180) 3 dX7_spreadBoxes_179 rfl (sf_7_0 ht) (fun μ19 => ?_)
        refine aw_aload_n (n := 181) dX7_spreadBoxes_180 rfl rfl ?_
        refine aw_getR (n := 184) (RX7, TX7, 4) 7 0 dX7_spreadBoxes_181 rfl ht (by decide) fd_RX7_9 ?_
        refine aw_iconst (n := 185) 2 dX7_spreadBoxes_184 rfl (by decide) ?_
        refine aw_iload (n := 187) dX7_spreadBoxes_185 rfl rfl ?_
        refine aw_iastore (n := 188) 3 dX7_spreadBoxes_187 rfl (sf_7_0 ht) (fun μ20 => ?_)
        exact aw_weak (c_X7_spreadBoxes_188 l F t ht a0 ha0 k78 hk78 k87 hk87 k96 hk96 x2 x3 r17.1 x5 x6 x7 μ20) (aw_ss (aw_ss (aw_ss (aw_ss (aw_ss (aw_ss (aw_ss (aw_ss (aw_sn (aw_sn aw_s0))))))))))
def f_X7_spreadBoxes_87 (F : Nat) (t a0 : Nat) (k87 : Int32 × Int32 × Int32 × Int32 × Int32 × aw_M → Option (Int32 × aw_M)) (k78 : Int32 × Int32 × Int32 × Int32 × aw_M → Option (Int32 × aw_M)) (x2 : Int32) (x3 : Int32) (x4 : Int32) (x5 : Int32) (x6 : Int32) (μ : aw_M) : Option (Int32 × aw_M) :=
  (if x3 < x6 then
  f_X7_spreadBoxes_200 F t a0 k78 x2 x3 x4 x5 μ
  else
  aw_loop (fun k s => f_X7_spreadBoxes_96 F t a0 k k78 k87 s.1 s.2.1 s.2.2.1 s.2.2.2.1 s.2.2.2.2.1 s.2.2.2.2.2.1 s.2.2.2.2.2.2) F (x2, x3, x4, x5, x6, 0, μ))
theorem c_X7_spreadBoxes_87 (l : Launch) (F : Nat) (t : Nat) (ht : (aw_sh t).1 = 12) (a0 : Nat) (ha0 : (aw_sh a0).1 = 11) (k78 : Int32 × Int32 × Int32 × Int32 × aw_M → Option (Int32 × aw_M)) (hk78 : ∀ s : Int32 × Int32 × Int32 × Int32 × aw_M, AW l k_X7_spreadBoxes aw_gi 78 [some (.ref t), some (.ref a0), some (.int s.1), some (.int s.2.1), some (.int s.2.2.1), some (.int s.2.2.2.1), none, none, none, none] [] s.2.2.2.2 (k78 s)) : ∀ (N : Nat) (s : Int32 × Int32 × Int32 × Int32 × Int32 × aw_M), AW l k_X7_spreadBoxes aw_gi 87 [some (.ref t), some (.ref a0), some (.int s.1), some (.int s.2.1), some (.int s.2.2.1), some (.int s.2.2.2.1), some (.int s.2.2.2.2.1), none, none, none] [] s.2.2.2.2.2 (aw_loop (fun k s => f_X7_spreadBoxes_87 F t a0 k k78 s.1 s.2.1 s.2.2.1 s.2.2.2.1 s.2.2.2.2.1 s.2.2.2.2.2) N s) := by
  refine aw_loop_ok (f := fun k s => f_X7_spreadBoxes_87 F t a0 k k78 s.1 s.2.1 s.2.2.1 s.2.2.2.1 s.2.2.2.2.1 s.2.2.2.2.2) (Ls := fun s => [some (.ref t), some (.ref a0), some (.int s.1), some (.int s.2.1), some (.int s.2.2.1), some (.int s.2.2.2.1), some (.int s.2.2.2.2.1), none, none, none]) (ms := fun s => s.2.2.2.2.2) ?_
  intro k87 hk87 s
  obtain ⟨x2, x3, x4, x5, x6, μ⟩ := s
  show AW l k_X7_spreadBoxes aw_gi 87 [some (.ref t), some (.ref a0), some (.int x2), some (.int x3), some (.int x4), some (.int x5), some (.int x6), none, none, none] [] μ (f_X7_spreadBoxes_87 F t a0 k87 k78 x2 x3 x4 x5 x6 μ)
  unfold f_X7_spreadBoxes_87
  refine aw_iload (n := 89) dX7_spreadBoxes_87 rfl rfl ?_
  refine aw_iload_n (n := 90) dX7_spreadBoxes_89 rfl rfl ?_
  refine aw_icmp_gt (n := 93) 200 dX7_spreadBoxes_90 (by decide) rfl ?_ ?_
  · exact aw_weak (c_X7_spreadBoxes_200 l F t ht a0 ha0 k78 hk78 x2 x3 x4 x5 μ) (aw_ss (aw_ss (aw_ss (aw_ss (aw_ss (aw_ss (aw_sn (aw_sn (aw_sn (aw_sn aw_s0))))))))))
  · refine aw_iconst (n := 94) 0 dX7_spreadBoxes_93 rfl (by decide) ?_
    refine aw_istore (n := 96) [some (.ref t), some (.ref a0), some (.int x2), some (.int x3), some (.int x4), some (.int x5), some (.int x6), some (.int 0), none, none] dX7_spreadBoxes_94 rfl rfl (Nat.le_of_ble_eq_true rfl) (Nat.le_of_ble_eq_true rfl) rfl ?_
    exact aw_weak (c_X7_spreadBoxes_96 l F t ht a0 ha0 k78 hk78 k87 hk87 F (x2, x3, x4, x5, x6, 0, μ)) (aw_ss (aw_ss (aw_ss (aw_ss (aw_ss (aw_ss (aw_ss (aw_ss (aw_sn (aw_sn aw_s0))))))))))
def f_X7_spreadBoxes_78 (F : Nat) (t a0 : Nat) (k78 : Int32 × Int32 × Int32 × Int32 × aw_M → Option (Int32 × aw_M)) (x2 : Int32) (x3 : Int32) (x4 : Int32) (x5 : Int32) (μ : aw_M) : Option (Int32 × aw_M) :=
  (if x3 < x5 then
  some (x4, μ)
  else
  aw_loop (fun k s => f_X7_spreadBoxes_87 F t a0 k k78 s.1 s.2.1 s.2.2.1 s.2.2.2.1 s.2.2.2.2.1 s.2.2.2.2.2) F (x2, x3, x4, x5, 0, μ))
theorem c_X7_spreadBoxes_78 (l : Launch) (F : Nat) (t : Nat) (ht : (aw_sh t).1 = 12) (a0 : Nat) (ha0 : (aw_sh a0).1 = 11) : ∀ (N : Nat) (s : Int32 × Int32 × Int32 × Int32 × aw_M), AW l k_X7_spreadBoxes aw_gi 78 [some (.ref t), some (.ref a0), some (.int s.1), some (.int s.2.1), some (.int s.2.2.1), some (.int s.2.2.2.1), none, none, none, none] [] s.2.2.2.2 (aw_loop (fun k s => f_X7_spreadBoxes_78 F t a0 k s.1 s.2.1 s.2.2.1 s.2.2.2.1 s.2.2.2.2) N s) := by
  refine aw_loop_ok (f := fun k s => f_X7_spreadBoxes_78 F t a0 k s.1 s.2.1 s.2.2.1 s.2.2.2.1 s.2.2.2.2) (Ls := fun s => [some (.ref t), some (.ref a0), some (.int s.1), some (.int s.2.1), some (.int s.2.2.1), some (.int s.2.2.2.1), none, none, none, none]) (ms := fun s => s.2.2.2.2) ?_
  intro k78 hk78 s
  obtain ⟨x2, x3, x4, x5, μ⟩ := s
  show AW l k_X7_spreadBoxes aw_gi 78 [some (.ref t), some (.ref a0), some (.int x2), some (.int x3), some (.int x4), some (.int x5), none, none, none, none] [] μ (f_X7_spreadBoxes_78 F t a0 k78 x2 x3 x4 x5 μ)
  unfold f_X7_spreadBoxes_78
  refine aw_iload (n := 80) dX7_spreadBoxes_78 rfl rfl ?_
  refine aw_iload_n (n := 81) dX7_spreadBoxes_80 rfl rfl ?_
  refine aw_icmp_gt (n := 84) 206 dX7_spreadBoxes_81 (by decide) rfl ?_ ?_
  · refine aw_iload (n := 208) dX7_spreadBoxes_206 rfl rfl ?_
    exact aw_ireturn dX7_spreadBoxes_208 rfl rfl
  · refine aw_iconst (n := 85) 0 dX7_spreadBoxes_84 rfl (by decide) ?_
    refine aw_istore (n := 87) [some (.ref t), some (.ref a0), some (.int x2), some (.int x3), some (.int x4), some (.int x5), some (.int 0), none, none, none] dX7_spreadBoxes_85 rfl rfl (Nat.le_of_ble_eq_true rfl) (Nat.le_of_ble_eq_true rfl) rfl ?_
    exact aw_weak (c_X7_spreadBoxes_87 l F t ht a0 ha0 k78 hk78 F (x2, x3, x4, x5, 0, μ)) (aw_ss (aw_ss (aw_ss (aw_ss (aw_ss (aw_ss (aw_ss (aw_sn (aw_sn (aw_sn aw_s0))))))))))
def f_X7_spreadBoxes_72 (F : Nat) (t a0 : Nat) (x2 : Int32) (x3 : Int32) (μ : aw_M) : Option (Int32 × aw_M) :=
  aw_loop (fun k s => f_X7_spreadBoxes_78 F t a0 k s.1 s.2.1 s.2.2.1 s.2.2.2.1 s.2.2.2.2) F (x2, x3, (-1), 0, μ)
theorem c_X7_spreadBoxes_72 (l : Launch) (F : Nat) (t : Nat) (ht : (aw_sh t).1 = 12) (a0 : Nat) (ha0 : (aw_sh a0).1 = 11) (x2 : Int32) (x3 : Int32) (μ : aw_M) : AW l k_X7_spreadBoxes aw_gi 72 [some (.ref t), some (.ref a0), some (.int x2), some (.int x3), none, none, none, none, none, none] [] μ (f_X7_spreadBoxes_72 F t a0 x2 x3 μ) := by
  unfold f_X7_spreadBoxes_72
  refine aw_iconst (n := 73) (-1) dX7_spreadBoxes_72 rfl (by decide) ?_
  refine aw_istore (n := 75) [some (.ref t), some (.ref a0), some (.int x2), some (.int x3), some (.int (-1)), none, none, none, none, none] dX7_spreadBoxes_73 rfl rfl (Nat.le_of_ble_eq_true rfl) (Nat.le_of_ble_eq_true rfl) rfl ?_
  refine aw_iconst (n := 76) 0 dX7_spreadBoxes_75 rfl (by decide) ?_
  refine aw_istore (n := 78) [some (.ref t), some (.ref a0), some (.int x2), some (.int x3), some (.int (-1)), some (.int 0), none, none, none, none] dX7_spreadBoxes_76 rfl rfl (Nat.le_of_ble_eq_true rfl) (Nat.le_of_ble_eq_true rfl) rfl ?_
  exact aw_weak (c_X7_spreadBoxes_78 l F t ht a0 ha0 F (x2, x3, (-1), 0, μ)) (aw_ss (aw_ss (aw_ss (aw_ss (aw_ss (aw_ss (aw_sn (aw_sn (aw_sn (aw_sn aw_s0))))))))))
def f_X7_spreadBoxes_34 (F : Nat) (t a0 : Nat) (k34 : Int32 × Int32 × Int32 × aw_M → Option (Int32 × aw_M)) (x2 : Int32) (x3 : Int32) (x4 : Int32) (μ : aw_M) : Option (Int32 × aw_M) :=
  (if x3 ≤ x4 then
  f_X7_spreadBoxes_72 F t a0 x2 x3 μ
  else
  aw_g (aw_in x4 10) (aw_g (aw_in (3 + x4) 940) (aw_g (aw_in (x4 + 1) 10) (aw_let (aw_wI μ (aw_rf t 1) (x4 + 1).toNatClampNeg ((μ.1 (aw_rf t 1) x4.toNatClampNeg) + (μ.1 (aw_rf a0 0) (3 + x4).toNatClampNeg))) fun μ21 =>
  k34 (x2, x3, (x4 + 1), μ21)))))
theorem c_X7_spreadBoxes_34 (l : Launch) (F : Nat) (t : Nat) (ht : (aw_sh t).1 = 12) (a0 : Nat) (ha0 : (aw_sh a0).1 = 11) : ∀ (N : Nat) (s : Int32 × Int32 × Int32 × aw_M), AW l k_X7_spreadBoxes aw_gi 34 [some (.ref t), some (.ref a0), some (.int s.1), some (.int s.2.1), some (.int s.2.2.1), none, none, none, none, none] [] s.2.2.2 (aw_loop (fun k s => f_X7_spreadBoxes_34 F t a0 k s.1 s.2.1 s.2.2.1 s.2.2.2) N s) := by
  refine aw_loop_ok (f := fun k s => f_X7_spreadBoxes_34 F t a0 k s.1 s.2.1 s.2.2.1 s.2.2.2) (Ls := fun s => [some (.ref t), some (.ref a0), some (.int s.1), some (.int s.2.1), some (.int s.2.2.1), none, none, none, none, none]) (ms := fun s => s.2.2.2) ?_
  intro k34 hk34 s
  obtain ⟨x2, x3, x4, μ⟩ := s
  show AW l k_X7_spreadBoxes aw_gi 34 [some (.ref t), some (.ref a0), some (.int x2), some (.int x3), some (.int x4), none, none, none, none, none] [] μ (f_X7_spreadBoxes_34 F t a0 k34 x2 x3 x4 μ)
  unfold f_X7_spreadBoxes_34
  refine aw_iload (n := 36) dX7_spreadBoxes_34 rfl rfl ?_
  refine aw_iload_n (n := 37) dX7_spreadBoxes_36 rfl rfl ?_
  refine aw_icmp_ge (n := 40) 72 dX7_spreadBoxes_37 (by decide) rfl ?_ ?_
  · exact aw_weak (c_X7_spreadBoxes_72 l F t ht a0 ha0 x2 x3 μ) (aw_ss (aw_ss (aw_ss (aw_ss (aw_sn (aw_sn (aw_sn (aw_sn (aw_sn (aw_sn aw_s0))))))))))
  · refine aw_aload_n (n := 41) dX7_spreadBoxes_40 rfl rfl ?_
    refine aw_getR (n := 44) (RX7, TX7, 4) 7 1 dX7_spreadBoxes_41 rfl ht (by decide) fd_RX7_15 ?_
    refine aw_iload (n := 46) dX7_spreadBoxes_44 rfl rfl ?_
    refine aw_iconst (n := 47) 1 dX7_spreadBoxes_46 rfl (by decide) ?_
    refine aw_iadd (n := 48) dX7_spreadBoxes_47 rfl ?_
    refine aw_aload_n (n := 49) dX7_spreadBoxes_48 rfl rfl ?_
    refine aw_getR (n := 52) (RX7, TX7, 4) 7 1 dX7_spreadBoxes_49 rfl ht (by decide) fd_RX7_15 ?_
    refine aw_iload (n := 54) dX7_spreadBoxes_52 rfl rfl ?_
    refine aw_iaload (n := 55) 10 dX7_spreadBoxes_54 rfl (sf_7_1 ht) ?_
    refine aw_aload_n (n := 56) dX7_spreadBoxes_55 rfl rfl ?_
    refine aw_getR (n := 59) (RX6, TX6, 13) 6 0 dX7_spreadBoxes_56 rfl ha0 (by decide) fd_RX7_33 ?_
    refine aw_iconst (n := 60) 3 dX7_spreadBoxes_59 rfl (by decide) ?_
    refine aw_iload (n := 62) dX7_spreadBoxes_60 rfl rfl ?_
    refine aw_iadd (n := 63) dX7_spreadBoxes_62 rfl ?_
    refine aw_iaload (n := 64) 940 dX7_spreadBoxes_63 rfl (sf_6_0 ha0) ?_
    refine aw_iadd (n := 65) dX7_spreadBoxes_64 rfl ?_
    refine aw_iastore (n := 66) 10 dX7_spreadBoxes_65 rfl (sf_7_1 ht) (fun μ21 => ?_)
    refine aw_iinc (n := 69) (x4 + 1) [some (.ref t), some (.ref a0), some (.int x2), some (.int x3), some (.int (x4 + 1)), none, none, none, none, none] dX7_spreadBoxes_66 rfl rfl (by rfl) rfl (Nat.le_of_ble_eq_true rfl) rfl ?_
    refine aw_goto 34 dX7_spreadBoxes_69 (by decide) ?_
    exact aw_weak (hk34 (x2, x3, (x4 + 1), μ21)) (aw_ss (aw_ss (aw_ss (aw_ss (aw_ss (aw_sn (aw_sn (aw_sn (aw_sn (aw_sn aw_s0))))))))))
def f_X7_spreadBoxes (F : Nat) (t a0 : Nat) (a1 : Int32) (μ : aw_M) : Option (Int32 × aw_M) :=
  aw_let (((μ.1 a0 1) - 3)) fun v15 =>
  (if a1 < 0 then
  some ((-1), μ)
  else
  (if 9999 < a1 then
  some ((-1), μ)
  else
  (if v15 < 1 then
  some ((-1), μ)
  else
  (if v15 ≤ 9 then
  aw_loop (fun k s => f_X7_spreadBoxes_34 F t a0 k s.1 s.2.1 s.2.2.1 s.2.2.2) F (a1, v15, 0, μ)
  else
  some ((-1), μ)))))
theorem m_X7_spreadBoxes (l : Launch) (F : Nat) (t : Nat) (ht : (aw_sh t).1 = 12) (a0 : Nat) (ha0 : (aw_sh a0).1 = 11) (a1 : Int32) (μ : aw_M) : AM l yX7_spreadBoxes cX7_spreadBoxes 10 (some .int) 2 143 aw_gi [.ref t, .ref a0, .int a1] μ (f_X7_spreadBoxes F t a0 a1 μ) := by
  refine aw_met [some (.ref t), some (.ref a0), some (.int a1), none, none, none, none, none, none, none] (by decide) (fun _ => rfl) (fun _ => Nat.le_of_ble_eq_true rfl) ?_
  show AW l k_X7_spreadBoxes aw_gi 0 [some (.ref t), some (.ref a0), some (.int a1), none, none, none, none, none, none, none] [] μ _
  unfold f_X7_spreadBoxes
  refine aw_aload_n (n := 1) dX7_spreadBoxes_0 rfl rfl ?_
  refine aw_getI (n := 4) (RX6, TX6, 13) 6 1 dX7_spreadBoxes_1 rfl ha0 (by decide) fd_RX7_27 ?_
  refine aw_iconst (n := 5) 3 dX7_spreadBoxes_4 rfl (by decide) ?_
  refine aw_isub (n := 6) dX7_spreadBoxes_5 rfl ?_
  refine aw_nmI (fun v15 => ?_)
  refine aw_istore_n (n := 7) [some (.ref t), some (.ref a0), some (.int a1), some (.int v15), none, none, none, none, none, none] dX7_spreadBoxes_6 rfl rfl (Nat.le_of_ble_eq_true rfl) (Nat.le_of_ble_eq_true rfl) rfl ?_
  refine aw_iload_n (n := 8) dX7_spreadBoxes_7 rfl rfl ?_
  refine aw_if_lt (n := 11) 29 dX7_spreadBoxes_8 (by decide) rfl ?_ ?_
  · refine aw_iconst (n := 30) (-1) dX7_spreadBoxes_29 rfl (by decide) ?_
    exact aw_ireturn dX7_spreadBoxes_30 rfl rfl
  · refine aw_iload_n (n := 12) dX7_spreadBoxes_11 rfl rfl ?_
    refine aw_sipush (n := 15) 9999 dX7_spreadBoxes_12 rfl (by decide) ?_
    refine aw_icmp_gt (n := 18) 29 dX7_spreadBoxes_15 (by decide) rfl ?_ ?_
    · refine aw_iconst (n := 30) (-1) dX7_spreadBoxes_29 rfl (by decide) ?_
      exact aw_ireturn dX7_spreadBoxes_30 rfl rfl
    · refine aw_iload_n (n := 19) dX7_spreadBoxes_18 rfl rfl ?_
      refine aw_iconst (n := 20) 1 dX7_spreadBoxes_19 rfl (by decide) ?_
      refine aw_icmp_lt (n := 23) 29 dX7_spreadBoxes_20 (by decide) rfl ?_ ?_
      · refine aw_iconst (n := 30) (-1) dX7_spreadBoxes_29 rfl (by decide) ?_
        exact aw_ireturn dX7_spreadBoxes_30 rfl rfl
      · refine aw_iload_n (n := 24) dX7_spreadBoxes_23 rfl rfl ?_
        refine aw_bipush (n := 26) 9 dX7_spreadBoxes_24 rfl (by decide) ?_
        refine aw_icmp_le (n := 29) 31 dX7_spreadBoxes_26 (by decide) rfl ?_ ?_
        · refine aw_iconst (n := 32) 0 dX7_spreadBoxes_31 rfl (by decide) ?_
          refine aw_istore (n := 34) [some (.ref t), some (.ref a0), some (.int a1), some (.int v15), some (.int 0), none, none, none, none, none] dX7_spreadBoxes_32 rfl rfl (Nat.le_of_ble_eq_true rfl) (Nat.le_of_ble_eq_true rfl) rfl ?_
          exact aw_weak (c_X7_spreadBoxes_34 l F t ht a0 ha0 F (a1, v15, 0, μ)) (aw_ss (aw_ss (aw_ss (aw_ss (aw_ss (aw_sn (aw_sn (aw_sn (aw_sn (aw_sn aw_s0))))))))))
        · refine aw_iconst (n := 30) (-1) dX7_spreadBoxes_29 rfl (by decide) ?_
          exact aw_ireturn dX7_spreadBoxes_30 rfl rfl
abbrev k_X7_areRows : aw_K := (RX7, cX7_areRows, 3, (some .boolean), 1, 120)
def f_X7_areRows_35 (F : Nat) (a0 : Nat) (k35 : Int32 × aw_M → Option (Bool × aw_M)) (x2 : Int32) (μ : aw_M) : Option (Bool × aw_M) :=
  (if (μ.1 a0 1) ≤ x2 then
  some (true, μ)
  else
  aw_g (aw_in x2 940) ((if 20 < (μ.1 (aw_rf a0 0) x2.toNatClampNeg) then
  some (false, μ)
  else
  aw_g (aw_in (x2 + 1) 940) ((if 1 < (μ.1 (aw_rf a0 0) (x2 + 1).toNatClampNeg) then
  some (false, μ)
  else
  aw_g (aw_in (x2 + 2) 940) ((if 8 < (μ.1 (aw_rf a0 0) (x2 + 2).toNatClampNeg) then
  some (false, μ)
  else
  aw_g (aw_in (x2 + 3) 940) ((if (μ.1 (aw_rf a0 0) (x2 + 3).toNatClampNeg) ≤ 1 then
  k35 ((x2 + 5), μ)
  else
  some (false, μ))))))))))
theorem c_X7_areRows_35 (l : Launch) (F : Nat) (a0 : Nat) (ha0 : (aw_sh a0).1 = 11) : ∀ (N : Nat) (s : Int32 × aw_M), AW l k_X7_areRows aw_gz 35 [some (.ref a0), some (.ref (aw_rf a0 0)), some (.int s.1)] [] s.2 (aw_loop (fun k s => f_X7_areRows_35 F a0 k s.1 s.2) N s) := by
  refine aw_loop_ok (f := fun k s => f_X7_areRows_35 F a0 k s.1 s.2) (Ls := fun s => [some (.ref a0), some (.ref (aw_rf a0 0)), some (.int s.1)]) (ms := fun s => s.2) ?_
  intro k35 hk35 s
  obtain ⟨x2, μ⟩ := s
  show AW l k_X7_areRows aw_gz 35 [some (.ref a0), some (.ref (aw_rf a0 0)), some (.int x2)] [] μ (f_X7_areRows_35 F a0 k35 x2 μ)
  unfold f_X7_areRows_35
  refine aw_iload_n (n := 36) dX7_areRows_35 rfl rfl ?_
  refine aw_aload_n (n := 37) dX7_areRows_36 rfl rfl ?_
  refine aw_getI (n := 40) (RX6, TX6, 13) 6 1 dX7_areRows_37 rfl ha0 (by decide) fd_RX7_27 ?_
  refine aw_icmp_ge (n := 43) 87 dX7_areRows_40 (by decide) rfl ?_ ?_
  · refine aw_iconst (n := 88) 1 dX7_areRows_87 rfl (by decide) ?_
    exact aw_zreturn (b := true) dX7_areRows_88 rfl rfl
  · refine aw_aload_n (n := 44) dX7_areRows_43 rfl rfl ?_
    refine aw_iload_n (n := 45) dX7_areRows_44 rfl rfl ?_
    refine aw_iaload (n := 46) 940 dX7_areRows_45 rfl (sf_6_0 ha0) ?_
    refine aw_bipush (n := 48) 20 dX7_areRows_46 rfl (by decide) ?_
    refine aw_icmp_gt (n := 51) 79 dX7_areRows_48 (by decide) rfl ?_ ?_
    · refine aw_iconst (n := 80) 0 dX7_areRows_79 rfl (by decide) ?_
      exact aw_zreturn (b := false) dX7_areRows_80 rfl rfl
    · refine aw_aload_n (n := 52) dX7_areRows_51 rfl rfl ?_
      refine aw_iload_n (n := 53) dX7_areRows_52 rfl rfl ?_
      refine aw_iconst (n := 54) 1 dX7_areRows_53 rfl (by decide) ?_
      refine aw_iadd (n := 55) dX7_areRows_54 rfl ?_
      refine aw_iaload (n := 56) 940 dX7_areRows_55 rfl (sf_6_0 ha0) ?_
      refine aw_iconst (n := 57) 1 dX7_areRows_56 rfl (by decide) ?_
      refine aw_icmp_gt (n := 60) 79 dX7_areRows_57 (by decide) rfl ?_ ?_
      · refine aw_iconst (n := 80) 0 dX7_areRows_79 rfl (by decide) ?_
        exact aw_zreturn (b := false) dX7_areRows_80 rfl rfl
      · refine aw_aload_n (n := 61) dX7_areRows_60 rfl rfl ?_
        refine aw_iload_n (n := 62) dX7_areRows_61 rfl rfl ?_
        refine aw_iconst (n := 63) 2 dX7_areRows_62 rfl (by decide) ?_
        refine aw_iadd (n := 64) dX7_areRows_63 rfl ?_
        refine aw_iaload (n := 65) 940 dX7_areRows_64 rfl (sf_6_0 ha0) ?_
        refine aw_bipush (n := 67) 8 dX7_areRows_65 rfl (by decide) ?_
        refine aw_icmp_gt (n := 70) 79 dX7_areRows_67 (by decide) rfl ?_ ?_
        · refine aw_iconst (n := 80) 0 dX7_areRows_79 rfl (by decide) ?_
          exact aw_zreturn (b := false) dX7_areRows_80 rfl rfl
        · refine aw_aload_n (n := 71) dX7_areRows_70 rfl rfl ?_
          refine aw_iload_n (n := 72) dX7_areRows_71 rfl rfl ?_
          refine aw_iconst (n := 73) 3 dX7_areRows_72 rfl (by decide) ?_
          refine aw_iadd (n := 74) dX7_areRows_73 rfl ?_
          refine aw_iaload (n := 75) 940 dX7_areRows_74 rfl (sf_6_0 ha0) ?_
          refine aw_iconst (n := 76) 1 dX7_areRows_75 rfl (by decide) ?_
          refine aw_icmp_le (n := 79) 81 dX7_areRows_76 (by decide) rfl ?_ ?_
          · refine aw_iinc (n := 84) (x2 + 5) [some (.ref a0), some (.ref (aw_rf a0 0)), some (.int (x2 + 5))] dX7_areRows_81 rfl rfl (by rfl) rfl (Nat.le_of_ble_eq_true rfl) rfl ?_
            refine aw_goto 35 dX7_areRows_84 (by decide) ?_
            exact aw_weak (hk35 ((x2 + 5), μ)) (aw_ss (aw_ss (aw_ss aw_s0)))
          · refine aw_iconst (n := 80) 0 dX7_areRows_79 rfl (by decide) ?_
            exact aw_zreturn (b := false) dX7_areRows_80 rfl rfl
def f_X7_areRows (F : Nat) (a0 : Nat) (μ : aw_M) : Option (Bool × aw_M) :=
  (if (μ.1 a0 1) < 5 then
  some (false, μ)
  else
  (if 60 < (μ.1 a0 1) then
  some (false, μ)
  else
  (if ((μ.1 a0 1) - (μ.1 a0 1) / 5 * 5) = 0 then
  aw_loop (fun k s => f_X7_areRows_35 F a0 k s.1 s.2) F (0, μ)
  else
  some (false, μ))))
theorem m_X7_areRows (l : Launch) (F : Nat) (a0 : Nat) (ha0 : (aw_sh a0).1 = 11) (μ : aw_M) : AM l yX7_areRows cX7_areRows 3 (some .boolean) 1 120 aw_gz [.ref a0] μ (f_X7_areRows F a0 μ) := by
  refine aw_met [some (.ref a0), none, none] (by decide) (fun _ => rfl) (fun _ => Nat.le_of_ble_eq_true rfl) ?_
  show AW l k_X7_areRows aw_gz 0 [some (.ref a0), none, none] [] μ _
  unfold f_X7_areRows
  refine aw_aload_n (n := 1) dX7_areRows_0 rfl rfl ?_
  refine aw_getI (n := 4) (RX6, TX6, 13) 6 1 dX7_areRows_1 rfl ha0 (by decide) fd_RX7_27 ?_
  refine aw_iconst (n := 5) 5 dX7_areRows_4 rfl (by decide) ?_
  refine aw_icmp_lt (n := 8) 26 dX7_areRows_5 (by decide) rfl ?_ ?_
  · refine aw_iconst (n := 27) 0 dX7_areRows_26 rfl (by decide) ?_
    exact aw_zreturn (b := false) dX7_areRows_27 rfl rfl
  · refine aw_aload_n (n := 9) dX7_areRows_8 rfl rfl ?_
    refine aw_getI (n := 12) (RX6, TX6, 13) 6 1 dX7_areRows_9 rfl ha0 (by decide) fd_RX7_27 ?_
    refine aw_bipush (n := 14) 60 dX7_areRows_12 rfl (by decide) ?_
    refine aw_icmp_gt (n := 17) 26 dX7_areRows_14 (by decide) rfl ?_ ?_
    · refine aw_iconst (n := 27) 0 dX7_areRows_26 rfl (by decide) ?_
      exact aw_zreturn (b := false) dX7_areRows_27 rfl rfl
    · refine aw_aload_n (n := 18) dX7_areRows_17 rfl rfl ?_
      refine aw_getI (n := 21) (RX6, TX6, 13) 6 1 dX7_areRows_18 rfl ha0 (by decide) fd_RX7_27 ?_
      refine aw_iconst (n := 22) 5 dX7_areRows_21 rfl (by decide) ?_
      refine aw_iremK (n := 23) dX7_areRows_22 rfl (by decide) ?_
      refine aw_if_eq (n := 26) 28 dX7_areRows_23 (by decide) rfl ?_ ?_
      · refine aw_aload_n (n := 29) dX7_areRows_28 rfl rfl ?_
        refine aw_getR (n := 32) (RX6, TX6, 13) 6 0 dX7_areRows_29 rfl ha0 (by decide) fd_RX7_33 ?_
        refine aw_astore_n (n := 33) [some (.ref a0), some (.ref (aw_rf a0 0)), none] dX7_areRows_32 rfl rfl (Nat.le_of_ble_eq_true rfl) (Nat.le_of_ble_eq_true rfl) rfl ?_
        refine aw_iconst (n := 34) 0 dX7_areRows_33 rfl (by decide) ?_
        refine aw_istore_n (n := 35) [some (.ref a0), some (.ref (aw_rf a0 0)), some (.int 0)] dX7_areRows_34 rfl rfl (Nat.le_of_ble_eq_true rfl) (Nat.le_of_ble_eq_true rfl) rfl ?_
        exact aw_weak (c_X7_areRows_35 l F a0 ha0 F (0, μ)) (aw_ss (aw_ss (aw_ss aw_s0)))
      · refine aw_iconst (n := 27) 0 dX7_areRows_26 rfl (by decide) ?_
        exact aw_zreturn (b := false) dX7_areRows_27 rfl rfl
abbrev k_X7_tellsRows : aw_K := (RX7, cX7_tellsRows, 9, (some .boolean), 1, 120)
def f_X7_tellsRows_38 (F : Nat) (a1 : Nat) (k38 : Int32 × Int32 × Int32 × Int32 × Int32 × aw_M → Option (Bool × aw_M)) (x2 : Int32) (x3 : Int32) (x4 : Int32) (x5 : Int32) (x7 : Int32) (μ : aw_M) : Option (Bool × aw_M) :=
  (if (μ.1 a1 1) ≤ x7 then
  some (true, μ)
  else
  aw_g (aw_in x7 940) (aw_g (aw_in (x7 + 1) 940) (aw_g (aw_in (x7 + 2) 940) (aw_g (aw_in (x7 + 3) 940) (aw_let (((((x2 * (μ.1 (aw_rf a1 0) x7.toNatClampNeg)) + ((x3 * 2) * (μ.1 (aw_rf a1 0) (x7 + 1).toNatClampNeg))) + (x4 * (μ.1 (aw_rf a1 0) (x7 + 2).toNatClampNeg))) - (x5 * (μ.1 (aw_rf a1 0) (x7 + 3).toNatClampNeg)))) fun v10 =>
  aw_g (aw_in (x7 + 4) 940) ((if v10 = ((μ.1 (aw_rf a1 0) (x7 + 4).toNatClampNeg) - 100) then
  k38 (x2, x3, x4, x5, (x7 + 5), μ)
  else
  some (false, μ))))))))
theorem c_X7_tellsRows_38 (l : Launch) (F : Nat) (a1 : Nat) (ha1 : (aw_sh a1).1 = 11) : ∀ (N : Nat) (s : Int32 × Int32 × Int32 × Int32 × Int32 × aw_M), AW l k_X7_tellsRows aw_gz 38 [none, some (.ref a1), some (.int s.1), some (.int s.2.1), some (.int s.2.2.1), some (.int s.2.2.2.1), some (.ref (aw_rf a1 0)), some (.int s.2.2.2.2.1), none] [] s.2.2.2.2.2 (aw_loop (fun k s => f_X7_tellsRows_38 F a1 k s.1 s.2.1 s.2.2.1 s.2.2.2.1 s.2.2.2.2.1 s.2.2.2.2.2) N s) := by
  refine aw_loop_ok (f := fun k s => f_X7_tellsRows_38 F a1 k s.1 s.2.1 s.2.2.1 s.2.2.2.1 s.2.2.2.2.1 s.2.2.2.2.2) (Ls := fun s => [none, some (.ref a1), some (.int s.1), some (.int s.2.1), some (.int s.2.2.1), some (.int s.2.2.2.1), some (.ref (aw_rf a1 0)), some (.int s.2.2.2.2.1), none]) (ms := fun s => s.2.2.2.2.2) ?_
  intro k38 hk38 s
  obtain ⟨x2, x3, x4, x5, x7, μ⟩ := s
  show AW l k_X7_tellsRows aw_gz 38 [none, some (.ref a1), some (.int x2), some (.int x3), some (.int x4), some (.int x5), some (.ref (aw_rf a1 0)), some (.int x7), none] [] μ (f_X7_tellsRows_38 F a1 k38 x2 x3 x4 x5 x7 μ)
  unfold f_X7_tellsRows_38
  refine aw_iload (n := 40) dX7_tellsRows_38 rfl rfl ?_
  refine aw_aload_n (n := 41) dX7_tellsRows_40 rfl rfl ?_
  refine aw_getI (n := 44) (RX6, TX6, 13) 6 1 dX7_tellsRows_41 rfl ha1 (by decide) fd_RX7_27 ?_
  refine aw_icmp_ge (n := 47) 113 dX7_tellsRows_44 (by decide) rfl ?_ ?_
  · refine aw_iconst (n := 114) 1 dX7_tellsRows_113 rfl (by decide) ?_
    exact aw_zreturn (b := true) dX7_tellsRows_114 rfl rfl
  · refine aw_iload_n (n := 48) dX7_tellsRows_47 rfl rfl ?_
    refine aw_aload (n := 50) dX7_tellsRows_48 rfl rfl ?_
    refine aw_iload (n := 52) dX7_tellsRows_50 rfl rfl ?_
    refine aw_iaload (n := 53) 940 dX7_tellsRows_52 rfl (sf_6_0 ha1) ?_
    refine aw_imul (n := 54) dX7_tellsRows_53 rfl ?_
    refine aw_iload_n (n := 55) dX7_tellsRows_54 rfl rfl ?_
    refine aw_iconst (n := 56) 2 dX7_tellsRows_55 rfl (by decide) ?_
    refine aw_imul (n := 57) dX7_tellsRows_56 rfl ?_
    refine aw_aload (n := 59) dX7_tellsRows_57 rfl rfl ?_
    refine aw_iload (n := 61) dX7_tellsRows_59 rfl rfl ?_
    refine aw_iconst (n := 62) 1 dX7_tellsRows_61 rfl (by decide) ?_
    refine aw_iadd (n := 63) dX7_tellsRows_62 rfl ?_
    refine aw_iaload (n := 64) 940 dX7_tellsRows_63 rfl (sf_6_0 ha1) ?_
    refine aw_imul (n := 65) dX7_tellsRows_64 rfl ?_
    refine aw_iadd (n := 66) dX7_tellsRows_65 rfl ?_
    refine aw_iload (n := 68) dX7_tellsRows_66 rfl rfl ?_
    refine aw_aload (n := 70) dX7_tellsRows_68 rfl rfl ?_
    refine aw_iload (n := 72) dX7_tellsRows_70 rfl rfl ?_
    refine aw_iconst (n := 73) 2 dX7_tellsRows_72 rfl (by decide) ?_
    refine aw_iadd (n := 74) dX7_tellsRows_73 rfl ?_
    refine aw_iaload (n := 75) 940 dX7_tellsRows_74 rfl (sf_6_0 ha1) ?_
    refine aw_imul (n := 76) dX7_tellsRows_75 rfl ?_
    refine aw_iadd (n := 77) dX7_tellsRows_76 rfl ?_
    refine aw_iload (n := 79) dX7_tellsRows_77 rfl rfl ?_
    refine aw_aload (n := 81) dX7_tellsRows_79 rfl rfl ?_
    refine aw_iload (n := 83) dX7_tellsRows_81 rfl rfl ?_
    refine aw_iconst (n := 84) 3 dX7_tellsRows_83 rfl (by decide) ?_
    refine aw_iadd (n := 85) dX7_tellsRows_84 rfl ?_
    refine aw_iaload (n := 86) 940 dX7_tellsRows_85 rfl (sf_6_0 ha1) ?_
    refine aw_imul (n := 87) dX7_tellsRows_86 rfl ?_
    refine aw_isub (n := 88) dX7_tellsRows_87 rfl ?_
    refine aw_nmI (fun v10 => ?_)
    refine aw_istore (n := 90) [none, some (.ref a1), some (.int x2), some (.int x3), some (.int x4), some (.int x5), some (.ref (aw_rf a1 0)), some (.int x7), some (.int v10)] dX7_tellsRows_88 rfl rfl (Nat.le_of_ble_eq_true rfl) (Nat.le_of_ble_eq_true rfl) rfl ?_
    refine aw_iload (n := 92) dX7_tellsRows_90 rfl rfl ?_
    refine aw_aload (n := 94) dX7_tellsRows_92 rfl rfl ?_
    refine aw_iload (n := 96) dX7_tellsRows_94 rfl rfl ?_
    refine aw_iconst (n := 97) 4 dX7_tellsRows_96 rfl (by decide) ?_
    refine aw_iadd (n := 98) dX7_tellsRows_97 rfl ?_
    refine aw_iaload (n := 99) 940 dX7_tellsRows_98 rfl (sf_6_0 ha1) ?_
    refine aw_bipush (n := 101) 100 dX7_tellsRows_99 rfl (by decide) ?_
    refine aw_isub (n := 102) dX7_tellsRows_101 rfl ?_
    refine aw_icmp_eq (n := 105) 107 dX7_tellsRows_102 (by decide) rfl ?_ ?_
    · refine aw_iinc (n := 110) (x7 + 5) [none, some (.ref a1), some (.int x2), some (.int x3), some (.int x4), some (.int x5), some (.ref (aw_rf a1 0)), some (.int (x7 + 5)), some (.int v10)] dX7_tellsRows_107 rfl rfl (by rfl) rfl (Nat.le_of_ble_eq_true rfl) rfl ?_
      refine aw_goto 38 dX7_tellsRows_110 (by decide) ?_
      exact aw_weak (hk38 (x2, x3, x4, x5, (x7 + 5), μ)) (aw_sn (aw_ss (aw_ss (aw_ss (aw_ss (aw_ss (aw_ss (aw_ss (aw_sn aw_s0)))))))))
    · refine aw_iconst (n := 106) 0 dX7_tellsRows_105 rfl (by decide) ?_
      exact aw_zreturn (b := false) dX7_tellsRows_106 rfl rfl
def f_X7_tellsRows (F : Nat) (a1 : Nat) (a0 : Int32) (μ : aw_M) : Option (Bool × aw_M) :=
  aw_let ((a0 / 1000)) fun v6 =>
  aw_let (((a0 / 100) - (a0 / 100) / 10 * 10)) fun v7 =>
  aw_let (((a0 / 10) - (a0 / 10) / 10 * 10)) fun v8 =>
  aw_let ((a0 - a0 / 10 * 10)) fun v9 =>
  aw_loop (fun k s => f_X7_tellsRows_38 F a1 k s.1 s.2.1 s.2.2.1 s.2.2.2.1 s.2.2.2.2.1 s.2.2.2.2.2) F (v6, v7, v8, v9, 0, μ)
theorem m_X7_tellsRows (l : Launch) (F : Nat) (a1 : Nat) (ha1 : (aw_sh a1).1 = 11) (a0 : Int32) (μ : aw_M) : AM l yX7_tellsRows cX7_tellsRows 9 (some .boolean) 1 120 aw_gz [.int a0, .ref a1] μ (f_X7_tellsRows F a1 a0 μ) := by
  refine aw_met [some (.int a0), some (.ref a1), none, none, none, none, none, none, none] (by decide) (fun _ => rfl) (fun _ => Nat.le_of_ble_eq_true rfl) ?_
  show AW l k_X7_tellsRows aw_gz 0 [some (.int a0), some (.ref a1), none, none, none, none, none, none, none] [] μ _
  unfold f_X7_tellsRows
  refine aw_iload_n (n := 1) dX7_tellsRows_0 rfl rfl ?_
  refine aw_sipush (n := 4) 1000 dX7_tellsRows_1 rfl (by decide) ?_
  refine aw_idivK (n := 5) dX7_tellsRows_4 rfl (by decide) ?_
  refine aw_nmI (fun v6 => ?_)
  refine aw_istore_n (n := 6) [some (.int a0), some (.ref a1), some (.int v6), none, none, none, none, none, none] dX7_tellsRows_5 rfl rfl (Nat.le_of_ble_eq_true rfl) (Nat.le_of_ble_eq_true rfl) rfl ?_
  refine aw_iload_n (n := 7) dX7_tellsRows_6 rfl rfl ?_
  refine aw_bipush (n := 9) 100 dX7_tellsRows_7 rfl (by decide) ?_
  refine aw_idivK (n := 10) dX7_tellsRows_9 rfl (by decide) ?_
  refine aw_bipush (n := 12) 10 dX7_tellsRows_10 rfl (by decide) ?_
  refine aw_iremK (n := 13) dX7_tellsRows_12 rfl (by decide) ?_
  refine aw_nmI (fun v7 => ?_)
  refine aw_istore_n (n := 14) [some (.int a0), some (.ref a1), some (.int v6), some (.int v7), none, none, none, none, none] dX7_tellsRows_13 rfl rfl (Nat.le_of_ble_eq_true rfl) (Nat.le_of_ble_eq_true rfl) rfl ?_
  refine aw_iload_n (n := 15) dX7_tellsRows_14 rfl rfl ?_
  refine aw_bipush (n := 17) 10 dX7_tellsRows_15 rfl (by decide) ?_
  refine aw_idivK (n := 18) dX7_tellsRows_17 rfl (by decide) ?_
  refine aw_bipush (n := 20) 10 dX7_tellsRows_18 rfl (by decide) ?_
  refine aw_iremK (n := 21) dX7_tellsRows_20 rfl (by decide) ?_
  refine aw_nmI (fun v8 => ?_)
  refine aw_istore (n := 23) [some (.int a0), some (.ref a1), some (.int v6), some (.int v7), some (.int v8), none, none, none, none] dX7_tellsRows_21 rfl rfl (Nat.le_of_ble_eq_true rfl) (Nat.le_of_ble_eq_true rfl) rfl ?_
  refine aw_iload_n (n := 24) dX7_tellsRows_23 rfl rfl ?_
  refine aw_bipush (n := 26) 10 dX7_tellsRows_24 rfl (by decide) ?_
  refine aw_iremK (n := 27) dX7_tellsRows_26 rfl (by decide) ?_
  refine aw_nmI (fun v9 => ?_)
  refine aw_istore (n := 29) [some (.int a0), some (.ref a1), some (.int v6), some (.int v7), some (.int v8), some (.int v9), none, none, none] dX7_tellsRows_27 rfl rfl (Nat.le_of_ble_eq_true rfl) (Nat.le_of_ble_eq_true rfl) rfl ?_
  refine aw_aload_n (n := 30) dX7_tellsRows_29 rfl rfl ?_
  refine aw_getR (n := 33) (RX6, TX6, 13) 6 0 dX7_tellsRows_30 rfl ha1 (by decide) fd_RX7_33 ?_
  refine aw_astore (n := 35) [some (.int a0), some (.ref a1), some (.int v6), some (.int v7), some (.int v8), some (.int v9), some (.ref (aw_rf a1 0)), none, none] dX7_tellsRows_33 rfl rfl (Nat.le_of_ble_eq_true rfl) (Nat.le_of_ble_eq_true rfl) rfl ?_
  refine aw_iconst (n := 36) 0 dX7_tellsRows_35 rfl (by decide) ?_
  refine aw_istore (n := 38) [some (.int a0), some (.ref a1), some (.int v6), some (.int v7), some (.int v8), some (.int v9), some (.ref (aw_rf a1 0)), some (.int 0), none] dX7_tellsRows_36 rfl rfl (Nat.le_of_ble_eq_true rfl) (Nat.le_of_ble_eq_true rfl) rfl ?_
  exact aw_weak (c_X7_tellsRows_38 l F a1 ha1 F (v6, v7, v8, v9, 0, μ)) (aw_sn (aw_ss (aw_ss (aw_ss (aw_ss (aw_ss (aw_ss (aw_ss (aw_sn aw_s0)))))))))
abbrev k_X7_findLaws : aw_K := (RX7, cX7_findLaws, 3, (some .int), 2, 148)
def f_X7_findLaws_60 (F : Nat) (t a0 : Nat) (k16 : Int32 × aw_M → Option (Int32 × aw_M)) (x2 : Int32) (μ : aw_M) : Option (Int32 × aw_M) :=
  k16 ((x2 + 1), μ)
theorem c_X7_findLaws_60 (l : Launch) (F : Nat) (t : Nat) (ht : (aw_sh t).1 = 12) (a0 : Nat) (ha0 : (aw_sh a0).1 = 11) (k16 : Int32 × aw_M → Option (Int32 × aw_M)) (hk16 : ∀ s : Int32 × aw_M, AW l k_X7_findLaws aw_gi 16 [some (.ref t), some (.ref a0), some (.int s.1)] [] s.2 (k16 s)) (x2 : Int32) (μ : aw_M) : AW l k_X7_findLaws aw_gi 60 [some (.ref t), some (.ref a0), some (.int x2)] [] μ (f_X7_findLaws_60 F t a0 k16 x2 μ) := by
  unfold f_X7_findLaws_60
  refine aw_iinc (n := 63) (x2 + 1) [some (.ref t), some (.ref a0), some (.int (x2 + 1))] dX7_findLaws_60 rfl rfl (by rfl) rfl (Nat.le_of_ble_eq_true rfl) rfl ?_
  refine aw_goto 16 dX7_findLaws_63 (by decide) ?_
  exact aw_weak (hk16 ((x2 + 1), μ)) (aw_ss (aw_ss (aw_ss aw_s0)))
def f_X7_findLaws_50 (F : Nat) (t a0 : Nat) (k16 : Int32 × aw_M → Option (Int32 × aw_M)) (x2 : Int32) (μ : aw_M) : Option (Int32 × aw_M) :=
  aw_let (aw_wI μ t 2 ((μ.1 t 2) + 1)) fun μ14 =>
  f_X7_findLaws_60 F t a0 k16 x2 μ14
theorem c_X7_findLaws_50 (l : Launch) (F : Nat) (t : Nat) (ht : (aw_sh t).1 = 12) (a0 : Nat) (ha0 : (aw_sh a0).1 = 11) (k16 : Int32 × aw_M → Option (Int32 × aw_M)) (hk16 : ∀ s : Int32 × aw_M, AW l k_X7_findLaws aw_gi 16 [some (.ref t), some (.ref a0), some (.int s.1)] [] s.2 (k16 s)) (x2 : Int32) (μ : aw_M) : AW l k_X7_findLaws aw_gi 50 [some (.ref t), some (.ref a0), some (.int x2)] [] μ (f_X7_findLaws_50 F t a0 k16 x2 μ) := by
  unfold f_X7_findLaws_50
  refine aw_aload_n (n := 51) dX7_findLaws_50 rfl rfl ?_
  refine aw_dup (n := 52) dX7_findLaws_51 rfl (fun _ => rfl) ?_
  refine aw_getI (n := 55) (RX7, TX7, 4) 7 2 dX7_findLaws_52 rfl ht (by decide) fd_RX7_44 ?_
  refine aw_iconst (n := 56) 1 dX7_findLaws_55 rfl (by decide) ?_
  refine aw_iadd (n := 57) dX7_findLaws_56 rfl ?_
  refine aw_putI (n := 60) (RX7, TX7, 4) 7 2 dX7_findLaws_57 rfl ht (by decide) fp_RX7_44 (fun μ14 => ?_)
  exact aw_weak (c_X7_findLaws_60 l F t ht a0 ha0 k16 hk16 x2 μ14) (aw_ss (aw_ss (aw_ss aw_s0)))
def f_X7_findLaws_16 (F : Nat) (t a0 : Nat) (k16 : Int32 × aw_M → Option (Int32 × aw_M)) (x2 : Int32) (μ : aw_M) : Option (Int32 × aw_M) :=
  (if 10000 ≤ x2 then
  some ((μ.1 t 2), μ)
  else
  (f_X7_tellsRows F a0 x2 μ).bind fun r13 =>
  (if r13.1 = true then
  (if 100 ≤ (r13.2.1 t 2) then
  f_X7_findLaws_50 F t a0 k16 x2 r13.2
  else
  aw_g (aw_in (r13.2.1 t 2) 100) (aw_let (aw_wI r13.2 (aw_rf t 3) (r13.2.1 t 2).toNatClampNeg x2) fun μ15 =>
  f_X7_findLaws_50 F t a0 k16 x2 μ15))
  else
  f_X7_findLaws_60 F t a0 k16 x2 r13.2))
theorem c_X7_findLaws_16 (l : Launch) (F : Nat) (t : Nat) (ht : (aw_sh t).1 = 12) (a0 : Nat) (ha0 : (aw_sh a0).1 = 11) : ∀ (N : Nat) (s : Int32 × aw_M), AW l k_X7_findLaws aw_gi 16 [some (.ref t), some (.ref a0), some (.int s.1)] [] s.2 (aw_loop (fun k s => f_X7_findLaws_16 F t a0 k s.1 s.2) N s) := by
  refine aw_loop_ok (f := fun k s => f_X7_findLaws_16 F t a0 k s.1 s.2) (Ls := fun s => [some (.ref t), some (.ref a0), some (.int s.1)]) (ms := fun s => s.2) ?_
  intro k16 hk16 s
  obtain ⟨x2, μ⟩ := s
  show AW l k_X7_findLaws aw_gi 16 [some (.ref t), some (.ref a0), some (.int x2)] [] μ (f_X7_findLaws_16 F t a0 k16 x2 μ)
  unfold f_X7_findLaws_16
  refine aw_iload_n (n := 17) dX7_findLaws_16 rfl rfl ?_
  refine aw_sipush (n := 20) 10000 dX7_findLaws_17 rfl (by decide) ?_
  refine aw_icmp_ge (n := 23) 66 dX7_findLaws_20 (by decide) rfl ?_ ?_
  · refine aw_aload_n (n := 67) dX7_findLaws_66 rfl rfl ?_
    refine aw_getI (n := 70) (RX7, TX7, 4) 7 2 dX7_findLaws_67 rfl ht (by decide) fd_RX7_44 ?_
    exact aw_ireturn dX7_findLaws_70 rfl rfl
  · refine aw_iload_n (n := 24) dX7_findLaws_23 rfl rfl ?_
    refine aw_aload_n (n := 25) dX7_findLaws_24 rfl rfl ?_
    refine aw_callSz (n := 28) (as := [.int x2, .ref a0]) (st := []) dX7_findLaws_25 rfl rfl (m_X7_tellsRows l F a0 ha0 x2 μ) cw_RX7_47 ⟨Nat.le_of_ble_eq_true rfl, Nat.le_of_ble_eq_true rfl⟩ (fun _ => Nat.le_of_ble_eq_true rfl) (fun r13 => ?_)
    refine aw_ifb_eq (n := 31) 60 dX7_findLaws_28 (by decide) rfl ?_ ?_
    · exact aw_weak (c_X7_findLaws_60 l F t ht a0 ha0 k16 hk16 x2 r13.2) (aw_ss (aw_ss (aw_ss aw_s0)))
    · refine aw_aload_n (n := 32) dX7_findLaws_31 rfl rfl ?_
      refine aw_getI (n := 35) (RX7, TX7, 4) 7 2 dX7_findLaws_32 rfl ht (by decide) fd_RX7_44 ?_
      refine aw_bipush (n := 37) 100 dX7_findLaws_35 rfl (by decide) ?_
      refine aw_icmp_ge (n := 40) 50 dX7_findLaws_37 (by decide) rfl ?_ ?_
      · exact aw_weak (c_X7_findLaws_50 l F t ht a0 ha0 k16 hk16 x2 r13.2) (aw_ss (aw_ss (aw_ss aw_s0)))
      · refine aw_aload_n (n := 41) dX7_findLaws_40 rfl rfl ?_
        refine aw_getR (n := 44) (RX7, TX7, 4) 7 3 dX7_findLaws_41 rfl ht (by decide) fd_RX7_18 ?_
        refine aw_aload_n (n := 45) dX7_findLaws_44 rfl rfl ?_
        refine aw_getI (n := 48) (RX7, TX7, 4) 7 2 dX7_findLaws_45 rfl ht (by decide) fd_RX7_44 ?_
        refine aw_iload_n (n := 49) dX7_findLaws_48 rfl rfl ?_
        refine aw_iastore (n := 50) 100 dX7_findLaws_49 rfl (sf_7_3 ht) (fun μ15 => ?_)
        exact aw_weak (c_X7_findLaws_50 l F t ht a0 ha0 k16 hk16 x2 μ15) (aw_ss (aw_ss (aw_ss aw_s0)))
def f_X7_findLaws (F : Nat) (t a0 : Nat) (μ : aw_M) : Option (Int32 × aw_M) :=
  (f_X7_areRows F a0 μ).bind fun r11 =>
  (if r11.1 = true then
  aw_let (aw_wI r11.2 t 2 0) fun μ12 =>
  aw_loop (fun k s => f_X7_findLaws_16 F t a0 k s.1 s.2) F (0, μ12)
  else
  some ((-1), r11.2))
theorem m_X7_findLaws (l : Launch) (F : Nat) (t : Nat) (ht : (aw_sh t).1 = 12) (a0 : Nat) (ha0 : (aw_sh a0).1 = 11) (μ : aw_M) : AM l yX7_findLaws cX7_findLaws 3 (some .int) 2 148 aw_gi [.ref t, .ref a0] μ (f_X7_findLaws F t a0 μ) := by
  refine aw_met [some (.ref t), some (.ref a0), none] (by decide) (fun _ => rfl) (fun _ => Nat.le_of_ble_eq_true rfl) ?_
  show AW l k_X7_findLaws aw_gi 0 [some (.ref t), some (.ref a0), none] [] μ _
  unfold f_X7_findLaws
  refine aw_aload_n (n := 1) dX7_findLaws_0 rfl rfl ?_
  refine aw_callSz (n := 4) (as := [.ref a0]) (st := []) dX7_findLaws_1 rfl rfl (m_X7_areRows l F a0 ha0 μ) cw_RX7_40 ⟨Nat.le_of_ble_eq_true rfl, Nat.le_of_ble_eq_true rfl⟩ (fun _ => Nat.le_of_ble_eq_true rfl) (fun r11 => ?_)
  refine aw_ifb_ne (n := 7) 9 dX7_findLaws_4 (by decide) rfl ?_ ?_
  · refine aw_aload_n (n := 10) dX7_findLaws_9 rfl rfl ?_
    refine aw_iconst (n := 11) 0 dX7_findLaws_10 rfl (by decide) ?_
    refine aw_putI (n := 14) (RX7, TX7, 4) 7 2 dX7_findLaws_11 rfl ht (by decide) fp_RX7_44 (fun μ12 => ?_)
    refine aw_iconst (n := 15) 0 dX7_findLaws_14 rfl (by decide) ?_
    refine aw_istore_n (n := 16) [some (.ref t), some (.ref a0), some (.int 0)] dX7_findLaws_15 rfl rfl (Nat.le_of_ble_eq_true rfl) (Nat.le_of_ble_eq_true rfl) rfl ?_
    exact aw_weak (c_X7_findLaws_16 l F t ht a0 ha0 F (0, μ12)) (aw_ss (aw_ss (aw_ss aw_s0)))
  · refine aw_iconst (n := 8) (-1) dX7_findLaws_7 rfl (by decide) ?_
    exact aw_ireturn dX7_findLaws_8 rfl rfl
abbrev k_X7_lawAt : aw_K := (RX7, cX7_lawAt, 2, (some .int), 1, 120)
def f_X7_lawAt_18 (F : Nat) (t : Nat) (μ : aw_M) : Option (Int32 × aw_M) :=
  some ((-1), μ)
theorem c_X7_lawAt_18 (l : Launch) (F : Nat) (t : Nat) (ht : (aw_sh t).1 = 12) (μ : aw_M) : AW l k_X7_lawAt aw_gi 18 [none, none] [] μ (f_X7_lawAt_18 F t μ) := by
  unfold f_X7_lawAt_18
  refine aw_iconst (n := 19) (-1) dX7_lawAt_18 rfl (by decide) ?_
  refine aw_goto 28 dX7_lawAt_19 (by decide) ?_
  exact aw_ireturn dX7_lawAt_28 rfl rfl
def f_X7_lawAt (F : Nat) (t : Nat) (a0 : Int32) (μ : aw_M) : Option (Int32 × aw_M) :=
  (if a0 < 0 then
  f_X7_lawAt_18 F t μ
  else
  (if (μ.1 t 2) ≤ a0 then
  f_X7_lawAt_18 F t μ
  else
  (if a0 < 100 then
  aw_g (aw_in a0 100) (some ((μ.1 (aw_rf t 3) a0.toNatClampNeg), μ))
  else
  f_X7_lawAt_18 F t μ)))
theorem m_X7_lawAt (l : Launch) (F : Nat) (t : Nat) (ht : (aw_sh t).1 = 12) (a0 : Int32) (μ : aw_M) : AM l yX7_lawAt cX7_lawAt 2 (some .int) 1 120 aw_gi [.ref t, .int a0] μ (f_X7_lawAt F t a0 μ) := by
  refine aw_met [some (.ref t), some (.int a0)] (by decide) (fun _ => rfl) (fun _ => Nat.le_of_ble_eq_true rfl) ?_
  show AW l k_X7_lawAt aw_gi 0 [some (.ref t), some (.int a0)] [] μ _
  unfold f_X7_lawAt
  refine aw_iload_n (n := 1) dX7_lawAt_0 rfl rfl ?_
  refine aw_if_lt (n := 4) 18 dX7_lawAt_1 (by decide) rfl ?_ ?_
  · exact aw_weak (c_X7_lawAt_18 l F t ht μ) (aw_sn (aw_sn aw_s0))
  · refine aw_iload_n (n := 5) dX7_lawAt_4 rfl rfl ?_
    refine aw_aload_n (n := 6) dX7_lawAt_5 rfl rfl ?_
    refine aw_getI (n := 9) (RX7, TX7, 4) 7 2 dX7_lawAt_6 rfl ht (by decide) fd_RX7_44 ?_
    refine aw_icmp_ge (n := 12) 18 dX7_lawAt_9 (by decide) rfl ?_ ?_
    · exact aw_weak (c_X7_lawAt_18 l F t ht μ) (aw_sn (aw_sn aw_s0))
    · refine aw_iload_n (n := 13) dX7_lawAt_12 rfl rfl ?_
      refine aw_bipush (n := 15) 100 dX7_lawAt_13 rfl (by decide) ?_
      refine aw_icmp_lt (n := 18) 22 dX7_lawAt_15 (by decide) rfl ?_ ?_
      · refine aw_aload_n (n := 23) dX7_lawAt_22 rfl rfl ?_
        refine aw_getR (n := 26) (RX7, TX7, 4) 7 3 dX7_lawAt_23 rfl ht (by decide) fd_RX7_18 ?_
        refine aw_iload_n (n := 27) dX7_lawAt_26 rfl rfl ?_
        refine aw_iaload (n := 28) 100 dX7_lawAt_27 rfl (sf_7_3 ht) ?_
        exact aw_ireturn dX7_lawAt_28 rfl rfl
      · exact aw_weak (c_X7_lawAt_18 l F t ht μ) (aw_sn (aw_sn aw_s0))
abbrev k_X7_rounds : aw_K := (RX7, cX7_rounds, 4, (some .int), 1, 120)
def f_X7_rounds_26 (F : Nat) (t : Nat) (k26 : Int32 × Int32 × Int32 × aw_M → Option (Int32 × aw_M)) (x1 : Int32) (x2 : Int32) (x3 : Int32) (μ : aw_M) : Option (Int32 × aw_M) :=
  (if x2 ≤ x3 then
  some (x3, μ)
  else
  aw_g (aw_nz x2) ((if ((x3 * x1) - (x3 * x1) / x2 * x2) = 0 then
  some (x3, μ)
  else
  k26 (x1, x2, (x3 + 1), μ))))
theorem c_X7_rounds_26 (l : Launch) (F : Nat) (t : Nat) (ht : (aw_sh t).1 = 12) : ∀ (N : Nat) (s : Int32 × Int32 × Int32 × aw_M), AW l k_X7_rounds aw_gi 26 [none, some (.int s.1), some (.int s.2.1), some (.int s.2.2.1)] [] s.2.2.2 (aw_loop (fun k s => f_X7_rounds_26 F t k s.1 s.2.1 s.2.2.1 s.2.2.2) N s) := by
  refine aw_loop_ok (f := fun k s => f_X7_rounds_26 F t k s.1 s.2.1 s.2.2.1 s.2.2.2) (Ls := fun s => [none, some (.int s.1), some (.int s.2.1), some (.int s.2.2.1)]) (ms := fun s => s.2.2.2) ?_
  intro k26 hk26 s
  obtain ⟨x1, x2, x3, μ⟩ := s
  show AW l k_X7_rounds aw_gi 26 [none, some (.int x1), some (.int x2), some (.int x3)] [] μ (f_X7_rounds_26 F t k26 x1 x2 x3 μ)
  unfold f_X7_rounds_26
  refine aw_iload_n (n := 27) dX7_rounds_26 rfl rfl ?_
  refine aw_iload_n (n := 28) dX7_rounds_27 rfl rfl ?_
  refine aw_icmp_ge (n := 31) 45 dX7_rounds_28 (by decide) rfl ?_ ?_
  · refine aw_iload_n (n := 46) dX7_rounds_45 rfl rfl ?_
    exact aw_ireturn dX7_rounds_46 rfl rfl
  · refine aw_iload_n (n := 32) dX7_rounds_31 rfl rfl ?_
    refine aw_iload_n (n := 33) dX7_rounds_32 rfl rfl ?_
    refine aw_imul (n := 34) dX7_rounds_33 rfl ?_
    refine aw_iload_n (n := 35) dX7_rounds_34 rfl rfl ?_
    refine aw_irem (n := 36) dX7_rounds_35 rfl ?_
    refine aw_if_eq (n := 39) 45 dX7_rounds_36 (by decide) rfl ?_ ?_
    · refine aw_iload_n (n := 46) dX7_rounds_45 rfl rfl ?_
      exact aw_ireturn dX7_rounds_46 rfl rfl
    · refine aw_iinc (n := 42) (x3 + 1) [none, some (.int x1), some (.int x2), some (.int (x3 + 1))] dX7_rounds_39 rfl rfl (by rfl) rfl (Nat.le_of_ble_eq_true rfl) rfl ?_
      refine aw_goto 26 dX7_rounds_42 (by decide) ?_
      exact aw_weak (hk26 (x1, x2, (x3 + 1), μ)) (aw_sn (aw_ss (aw_ss (aw_ss aw_s0))))
def f_X7_rounds (F : Nat) (t : Nat) (a0 : Int32) (a1 : Int32) (μ : aw_M) : Option (Int32 × aw_M) :=
  (if a0 < 1 then
  some ((-1), μ)
  else
  (if 12 < a0 then
  some ((-1), μ)
  else
  (if a1 < 1 then
  some ((-1), μ)
  else
  (if a1 ≤ 9 then
  aw_loop (fun k s => f_X7_rounds_26 F t k s.1 s.2.1 s.2.2.1 s.2.2.2) F (a0, a1, 1, μ)
  else
  some ((-1), μ)))))
theorem m_X7_rounds (l : Launch) (F : Nat) (t : Nat) (ht : (aw_sh t).1 = 12) (a0 : Int32) (a1 : Int32) (μ : aw_M) : AM l yX7_rounds cX7_rounds 4 (some .int) 1 120 aw_gi [.ref t, .int a0, .int a1] μ (f_X7_rounds F t a0 a1 μ) := by
  refine aw_met [some (.ref t), some (.int a0), some (.int a1), none] (by decide) (fun _ => rfl) (fun _ => Nat.le_of_ble_eq_true rfl) ?_
  show AW l k_X7_rounds aw_gi 0 [some (.ref t), some (.int a0), some (.int a1), none] [] μ _
  unfold f_X7_rounds
  refine aw_iload_n (n := 1) dX7_rounds_0 rfl rfl ?_
  refine aw_iconst (n := 2) 1 dX7_rounds_1 rfl (by decide) ?_
  refine aw_icmp_lt (n := 5) 22 dX7_rounds_2 (by decide) rfl ?_ ?_
  · refine aw_iconst (n := 23) (-1) dX7_rounds_22 rfl (by decide) ?_
    exact aw_ireturn dX7_rounds_23 rfl rfl
  · refine aw_iload_n (n := 6) dX7_rounds_5 rfl rfl ?_
    refine aw_bipush (n := 8) 12 dX7_rounds_6 rfl (by decide) ?_
    refine aw_icmp_gt (n := 11) 22 dX7_rounds_8 (by decide) rfl ?_ ?_
    · refine aw_iconst (n := 23) (-1) dX7_rounds_22 rfl (by decide) ?_
      exact aw_ireturn dX7_rounds_23 rfl rfl
    · refine aw_iload_n (n := 12) dX7_rounds_11 rfl rfl ?_
      refine aw_iconst (n := 13) 1 dX7_rounds_12 rfl (by decide) ?_
      refine aw_icmp_lt (n := 16) 22 dX7_rounds_13 (by decide) rfl ?_ ?_
      · refine aw_iconst (n := 23) (-1) dX7_rounds_22 rfl (by decide) ?_
        exact aw_ireturn dX7_rounds_23 rfl rfl
      · refine aw_iload_n (n := 17) dX7_rounds_16 rfl rfl ?_
        refine aw_bipush (n := 19) 9 dX7_rounds_17 rfl (by decide) ?_
        refine aw_icmp_le (n := 22) 24 dX7_rounds_19 (by decide) rfl ?_ ?_
        · refine aw_iconst (n := 25) 1 dX7_rounds_24 rfl (by decide) ?_
          refine aw_istore_n (n := 26) [some (.ref t), some (.int a0), some (.int a1), some (.int 1)] dX7_rounds_25 rfl rfl (Nat.le_of_ble_eq_true rfl) (Nat.le_of_ble_eq_true rfl) rfl ?_
          exact aw_weak (c_X7_rounds_26 l F t ht F (a0, a1, 1, μ)) (aw_sn (aw_ss (aw_ss (aw_ss aw_s0))))
        · refine aw_iconst (n := 23) (-1) dX7_rounds_22 rfl (by decide) ?_
          exact aw_ireturn dX7_rounds_23 rfl rfl
