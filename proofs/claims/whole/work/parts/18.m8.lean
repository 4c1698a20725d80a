abbrev k_X11_plans : aw_K := (RX11, cX11_plans, 3, (some .int), 5, 206)
def f_X11_plans_110 (F : Nat) (t : Nat) (x1 : Int32) (μ : aw_M) : Option (Int32 × aw_M) :=
  aw_g (aw_in 454 1155) (aw_let (aw_wI μ (aw_rf t 6) (454 : Int32).toNatClampNeg x1) fun μ23 =>
  some (x1, μ23))
theorem c_X11_plans_110 (l : Launch) (F : Nat) (t : Nat) (ht : (aw_sh t).1 = 16) (x1 : Int32) (μ : aw_M) : AW l k_X11_plans aw_gi 110 [some (.ref t), some (.int x1), none] [] μ (f_X11_plans_110 F t x1 μ) := by
  unfold f_X11_plans_110
  refine aw_aload_n (n := 111) dX11_plans_110 rfl rfl ?_
  refine aw_getR (n := 114) (RX11, TX11, 52) 11 6 dX11_plans_111 rfl ht (by decide) fd_RX11_33 ?_
  refine aw_sipush (n := 117) 454 dX11_plans_114 rfl (by decide) ?_
  refine aw_iload_n (n := 118) dX11_plans_117 rfl rfl ?_
  refine aw_iastore (n := 119) 1155 dX11_plans_118 rfl (sf_11_6 ht) (fun μ23 => ?_)
  refine aw_iload_n (n := 120) dX11_plans_119 rfl rfl ?_
  exact aw_ireturn dX11_plans_120 rfl rfl
def f_X11_plans_82 (F : Nat) (t : Nat) (k82 : Int32 × Int32 × aw_M → Option (Int32 × aw_M)) (x1 : Int32) (x2 : Int32) (μ : aw_M) : Option (Int32 × aw_M) :=
  (if 27 ≤ x2 then
  f_X11_plans_110 F t x1 μ
  else
  aw_g (aw_in x2 135) (aw_g (aw_in (427 + x2) 1155) (aw_let (aw_wI μ (aw_rf t 6) (427 + x2).toNatClampNeg (μ.1 (aw_rf t 8) x2.toNatClampNeg)) fun μ24 =>
  k82 (x1, (x2 + 1), μ24))))
theorem c_X11_plans_82 (l : Launch) (F : Nat) (t : Nat) (ht : (aw_sh t).1 = 16) : ∀ (N : Nat) (s : Int32 × Int32 × aw_M), AW l k_X11_plans aw_gi 82 [some (.ref t), some (.int s.1), some (.int s.2.1)] [] s.2.2 (aw_loop (fun k s => f_X11_plans_82 F t k s.1 s.2.1 s.2.2) N s) := by
  refine aw_loop_ok (f := fun k s => f_X11_plans_82 F t k s.1 s.2.1 s.2.2) (Ls := fun s => [some (.ref t), some (.int s.1), some (.int s.2.1)]) (ms := fun s => s.2.2) ?_
  intro k82 hk82 s
  obtain ⟨x1, x2, μ⟩ := s
  show AW l k_X11_plans aw_gi 82 [some (.ref t), some (.int x1), some (.int x2)] [] μ (f_X11_plans_82 F t k82 x1 x2 μ)
  unfold f_X11_plans_82
  refine aw_iload_n (n := 83) dX11_plans_82 rfl rfl ?_
  refine aw_bipush (n := 85) 27 dX11_plans_83 rfl (by decide) ?_
  refine aw_icmp_ge (n := 88) 110 dX11_plans_85 (by decide) rfl ?_ ?_
  · exact aw_weak (c_X11_plans_110 l F t ht x1 μ) (aw_ss (aw_ss (aw_sn aw_s0)))
  · refine aw_aload_n (n := 89) dX11_plans_88 rfl rfl ?_
    refine aw_getR (n := 92) (RX11, TX11, 52) 11 6 dX11_plans_89 rfl ht (by decide) fd_RX11_33 ?_
    refine aw_sipush (n := 95) 427 dX11_plans_92 rfl (by decide) ?_
    refine aw_iload_n (n := 96) dX11_plans_95 rfl rfl ?_
    refine aw_iadd (n := 97) dX11_plans_96 rfl ?_
    refine aw_aload_n (n := 98) dX11_plans_97 rfl rfl ?_
    refine aw_getR (n := 101) (RX11, TX11, 52) 11 8 dX11_plans_98 rfl ht (by decide) fd_RX11_40 ?_
    refine aw_iload_n (n := 102) dX11_plans_101 rfl rfl ?_
    refine aw_iaload (n := 103) 135 dX11_plans_102 rfl (sf_11_8 ht) ?_
    refine aw_iastore (n := 104) 1155 dX11_plans_103 rfl (sf_11_6 ht) (fun μ24 => ?_)
    refine aw_iinc (n := 107) (x2 + 1) [some (.ref t), some (.int x1), some (.int (x2 + 1))] dX11_plans_104 rfl rfl (by rfl) rfl (Nat.le_of_ble_eq_true rfl) rfl ?_
    refine aw_goto 82 dX11_plans_107 (by decide) ?_
    exact aw_weak (hk82 (x1, (x2 + 1), μ24)) (aw_ss (aw_ss (aw_ss aw_s0)))
def f_X11_plans_80 (F : Nat) (t : Nat) (x1 : Int32) (μ : aw_M) : Option (Int32 × aw_M) :=
  aw_loop (fun k s => f_X11_plans_82 F t k s.1 s.2.1 s.2.2) F (x1, 0, μ)
theorem c_X11_plans_80 (l : Launch) (F : Nat) (t : Nat) (ht : (aw_sh t).1 = 16) (x1 : Int32) (μ : aw_M) : AW l k_X11_plans aw_gi 80 [some (.ref t), some (.int x1), none] [] μ (f_X11_plans_80 F t x1 μ) := by
  unfold f_X11_plans_80
  refine aw_iconst (n := 81) 0 dX11_plans_80 rfl (by decide) ?_
  refine aw_istore_n (n := 82) [some (.ref t), some (.int x1), some (.int 0)] dX11_plans_81 rfl rfl (Nat.le_of_ble_eq_true rfl) (Nat.le_of_ble_eq_true rfl) rfl ?_
  exact aw_weak (c_X11_plans_82 l F t ht F (x1, 0, μ)) (aw_ss (aw_ss (aw_ss aw_s0)))
def f_X11_plans_44 (F : Nat) (t : Nat) (k44 : Int32 × aw_M → Option (Int32 × aw_M)) (x1 : Int32) (μ : aw_M) : Option (Int32 × aw_M) :=
  (if (μ.1 t 11) = 0 then
  f_X11_plans_80 F t x1 μ
  else
  (f_X11_planRow F t μ).bind fun r25 =>
  (if r25.1 = true then
  (f_X11_sign F t 59 r25.2).bind fun r26 =>
  (if r26.1 = true then
  k44 ((x1 + 1), r26.2)
  else
  some (((-1) - (r26.2.1 t 16)), r26.2))
  else
  some (((-1) - (r25.2.1 t 16)), r25.2)))
theorem c_X11_plans_44 (l : Launch) (F : Nat) (t : Nat) (ht : (aw_sh t).1 = 16) : ∀ (N : Nat) (s : Int32 × aw_M), AW l k_X11_plans aw_gi 44 [some (.ref t), some (.int s.1), none] [] s.2 (aw_loop (fun k s => f_X11_plans_44 F t k s.1 s.2) N s) := by
  refine aw_loop_ok (f := fun k s => f_X11_plans_44 F t k s.1 s.2) (Ls := fun s => [some (.ref t), some (.int s.1), none]) (ms := fun s => s.2) ?_
  intro k44 hk44 s
  obtain ⟨x1, μ⟩ := s
  show AW l k_X11_plans aw_gi 44 [some (.ref t), some (.int x1), none] [] μ (f_X11_plans_44 F t k44 x1 μ)
  unfold f_X11_plans_44
  refine aw_aload_n (n := 45) dX11_plans_44 rfl rfl ?_
  refine aw_getI (n := 48) (RX11, TX11, 52) 11 11 dX11_plans_45 rfl ht (by decide) fd_RX11_162 ?_
  refine aw_if_eq (n := 51) 80 dX11_plans_48 (by decide) rfl ?_ ?_
  · exact aw_weak (c_X11_plans_80 l F t ht x1 μ) (aw_ss (aw_ss (aw_sn aw_s0)))
  · refine aw_aload_n (n := 52) dX11_plans_51 rfl rfl ?_
    refine aw_callVz (n := 55) (as := []) (st := []) (RX11, TX11, 52) 11 dX11_plans_52 rfl rfl (m_X11_planRow l F t ht μ) ht (by decide) rfl rfl cw_RX11_251 ⟨Nat.le_of_ble_eq_true rfl, Nat.le_of_ble_eq_true rfl⟩ (fun _ => Nat.le_of_ble_eq_true rfl) (fun r25 => ?_)
    refine aw_ifb_eq (n := 58) 67 dX11_plans_55 (by decide) rfl ?_ ?_
    · refine aw_iconst (n := 68) (-1) dX11_plans_67 rfl (by decide) ?_
      refine aw_aload_n (n := 69) dX11_plans_68 rfl rfl ?_
      refine aw_getI (n := 72) (RX11, TX11, 52) 11 16 dX11_plans_69 rfl ht (by decide) fd_RX11_182 ?_
      refine aw_isub (n := 73) dX11_plans_72 rfl ?_
      exact aw_ireturn dX11_plans_73 rfl rfl
    · refine aw_aload_n (n := 59) dX11_plans_58 rfl rfl ?_
      refine aw_bipush (n := 61) 59 dX11_plans_59 rfl (by decide) ?_
      refine aw_callVz (n := 64) (as := [.int 59]) (st := []) (RX11, TX11, 52) 11 dX11_plans_61 rfl rfl (m_X11_sign l F t ht 59 r25.2) ht (by decide) rfl rfl cw_RX11_245 ⟨Nat.le_of_ble_eq_true rfl, Nat.le_of_ble_eq_true rfl⟩ (fun _ => Nat.le_of_ble_eq_true rfl) (fun r26 => ?_)
      refine aw_ifb_ne (n := 67) 74 dX11_plans_64 (by decide) rfl ?_ ?_
      · refine aw_iinc (n := 77) (x1 + 1) [some (.ref t), some (.int (x1 + 1)), none] dX11_plans_74 rfl rfl (by rfl) rfl (Nat.le_of_ble_eq_true rfl) rfl ?_
        refine aw_goto 44 dX11_plans_77 (by decide) ?_
        exact aw_weak (hk44 ((x1 + 1), r26.2)) (aw_ss (aw_ss (aw_sn aw_s0)))
      · refine aw_iconst (n := 68) (-1) dX11_plans_67 rfl (by decide) ?_
        refine aw_aload_n (n := 69) dX11_plans_68 rfl rfl ?_
        refine aw_getI (n := 72) (RX11, TX11, 52) 11 16 dX11_plans_69 rfl ht (by decide) fd_RX11_182 ?_
        refine aw_isub (n := 73) dX11_plans_72 rfl ?_
        exact aw_ireturn dX11_plans_73 rfl rfl
def f_X11_plans_40 (F : Nat) (t : Nat) (x1 : Bool) (μ : aw_M) : Option (Int32 × aw_M) :=
  (f_X11_next F t μ).bind fun r22 =>
  aw_loop (fun k s => f_X11_plans_44 F t k s.1 s.2) F ((aw_b x1), r22)
theorem c_X11_plans_40 (l : Launch) (F : Nat) (t : Nat) (ht : (aw_sh t).1 = 16) (x1 : Bool) (μ : aw_M) : AW l k_X11_plans aw_gi 40 [some (.ref t), some (.int (aw_b x1)), none] [] μ (f_X11_plans_40 F t x1 μ) := by
  unfold f_X11_plans_40
  refine aw_aload_n (n := 41) dX11_plans_40 rfl rfl ?_
  refine aw_callVv (n := 44) (as := []) (st := []) (RX11, TX11, 52) 11 dX11_plans_41 rfl rfl (m_X11_next l F t ht μ) ht (by decide) rfl rfl cw_RX11_191 ⟨Nat.le_of_ble_eq_true rfl, Nat.le_of_ble_eq_true rfl⟩ (fun _ => Nat.le_of_ble_eq_true rfl) (fun r22 => ?_)
  exact aw_weak (c_X11_plans_44 l F t ht F ((aw_b x1), r22)) (aw_ss (aw_ss (aw_sn aw_s0)))
def f_X11_plans_21 (F : Nat) (t : Nat) (k21 : Bool × Int32 × aw_M → Option (Int32 × aw_M)) (x1 : Bool) (x2 : Int32) (μ : aw_M) : Option (Int32 × aw_M) :=
  (if 27 ≤ x2 then
  f_X11_plans_40 F t x1 μ
  else
  aw_g (aw_in x2 135) (aw_let (aw_wI μ (aw_rf t 8) x2.toNatClampNeg 0) fun μ27 =>
  k21 (x1, (x2 + 1), μ27)))
theorem c_X11_plans_21 (l : Launch) (F : Nat) (t : Nat) (ht : (aw_sh t).1 = 16) : ∀ (N : Nat) (s : Bool × Int32 × aw_M), AW l k_X11_plans aw_gi 21 [some (.ref t), some (.int (aw_b s.1)), some (.int s.2.1)] [] s.2.2 (aw_loop (fun k s => f_X11_plans_21 F t k s.1 s.2.1 s.2.2) N s) := by
  refine aw_loop_ok (f := fun k s => f_X11_plans_21 F t k s.1 s.2.1 s.2.2) (Ls := fun s => [some (.ref t), some (.int (aw_b s.1)), some (.int s.2.1)]) (ms := fun s => s.2.2) ?_
  intro k21 hk21 s
  obtain ⟨x1, x2, μ⟩ := s
  show AW l k_X11_plans aw_gi 21 [some (.ref t), some (.int (aw_b x1)), some (.int x2)] [] μ (f_X11_plans_21 F t k21 x1 x2 μ)
  unfold f_X11_plans_21
  refine aw_iload_n (n := 22) dX11_plans_21 rfl rfl ?_
  refine aw_bipush (n := 24) 27 dX11_plans_22 rfl (by decide) ?_
  refine aw_icmp_ge (n := 27) 40 dX11_plans_24 (by decide) rfl ?_ ?_
  · exact aw_weak (c_X11_plans_40 l F t ht x1 μ) (aw_ss (aw_ss (aw_sn aw_s0)))
  · refine aw_aload_n (n := 28) dX11_plans_27 rfl rfl ?_
    refine aw_getR (n := 31) (RX11, TX11, 52) 11 8 dX11_plans_28 rfl ht (by decide) fd_RX11_40 ?_
    refine aw_iload_n (n := 32) dX11_plans_31 rfl rfl ?_
    refine aw_iconst (n := 33) 0 dX11_plans_32 rfl (by decide) ?_
    refine aw_iastore (n := 34) 135 dX11_plans_33 rfl (sf_11_8 ht) (fun μ27 => ?_)
    refine aw_iinc (n := 37) (x2 + 1) [some (.ref t), some (.int (aw_b x1)), some (.int (x2 + 1))] dX11_plans_34 rfl rfl (by rfl) rfl (Nat.le_of_ble_eq_true rfl) rfl ?_
    refine aw_goto 21 dX11_plans_37 (by decide) ?_
    exact aw_weak (hk21 (x1, (x2 + 1), μ27)) (aw_ss (aw_ss (aw_ss aw_s0)))
def f_X11_plans (F : Nat) (t : Nat) (μ : aw_M) : Option (Int32 × aw_M) :=
  aw_let (aw_wI μ t 0 0) fun μ19 =>
  (f_X11_taken F t 400 μ19).bind fun r20 =>
  aw_let (aw_wI r20 t 15 0) fun μ21 =>
  aw_loop (fun k s => f_X11_plans_21 F t k s.1 s.2.1 s.2.2) F (false, 0, μ21)
theorem m_X11_plans (l : Launch) (F : Nat) (t : Nat) (ht : (aw_sh t).1 = 16) (μ : aw_M) : AM l yX11_plans cX11_plans 3 (some .int) 5 206 aw_gi [.ref t] μ (f_X11_plans F t μ) := by
  refine aw_met [some (.ref t), none, none] (by decide) (fun _ => rfl) (fun _ => Nat.le_of_ble_eq_true rfl) ?_
  show AW l k_X11_plans aw_gi 0 [some (.ref t), none, none] [] μ _
  unfold f_X11_plans
  refine aw_aload_n (n := 1) dX11_plans_0 rfl rfl ?_
  refine aw_iconst (n := 2) 0 dX11_plans_1 rfl (by decide) ?_
  refine aw_putI (n := 5) (RX11, TX11, 52) 11 0 dX11_plans_2 rfl ht (by decide) fp_RX11_1 (fun μ19 => ?_)
  refine aw_aload_n (n := 6) dX11_plans_5 rfl rfl ?_
  refine aw_sipush (n := 9) 400 dX11_plans_6 rfl (by decide) ?_
  refine aw_callVv (n := 12) (as := [.int 400]) (st := []) (RX11, TX11, 52) 11 dX11_plans_9 rfl rfl (m_X11_taken l F t ht 400 μ19) ht (by decide) rfl rfl cw_RX11_236 ⟨Nat.le_of_ble_eq_true rfl, Nat.le_of_ble_eq_true rfl⟩ (fun _ => Nat.le_of_ble_eq_true rfl) (fun r20 => ?_)
  refine aw_aload_n (n := 13) dX11_plans_12 rfl rfl ?_
  refine aw_iconst (n := 14) 0 dX11_plans_13 rfl (by decide) ?_
  refine aw_putI (n := 17) (RX11, TX11, 52) 11 15 dX11_plans_14 rfl ht (by decide) fp_RX11_179 (fun μ21 => ?_)
  refine aw_iconst (n := 18) 0 dX11_plans_17 rfl (by decide) ?_
  refine aw_istore_n (n := 19) [some (.ref t), some (.int 0), none] dX11_plans_18 rfl rfl (Nat.le_of_ble_eq_true rfl) (Nat.le_of_ble_eq_true rfl) rfl ?_
  refine aw_iconst (n := 20) 0 dX11_plans_19 rfl (by decide) ?_
  refine aw_istore_n (n := 21) [some (.ref t), some (.int 0), some (.int 0)] dX11_plans_20 rfl rfl (Nat.le_of_ble_eq_true rfl) (Nat.le_of_ble_eq_true rfl) rfl ?_
  exact aw_weak (c_X11_plans_21 l F t ht F (false, 0, μ21)) (aw_ss (aw_ss (aw_ss aw_s0)))
abbrev k_X11_isCell : aw_K := (RX11, cX11_isCell, 2, (some .boolean), 1, 120)
def f_X11_isCell (F : Nat) (t : Nat) (a0 : Int32) (μ : aw_M) : Option (Bool × aw_M) :=
  (if a0 < 0 then
  some (false, μ)
  else
  aw_g (aw_in 0 1155) ((if (μ.1 (aw_rf t 6) (0 : Int32).toNatClampNeg) ≤ (a0 - a0 / 10 * 10) then
  some (false, μ)
  else
  aw_g (aw_in 1 1155) ((if (μ.1 (aw_rf t 6) (1 : Int32).toNatClampNeg) ≤ (a0 / 10) then
  some (false, μ)
  else
  some (true, μ))))))
theorem m_X11_isCell (l : Launch) (F : Nat) (t : Nat) (ht : (aw_sh t).1 = 16) (a0 : Int32) (μ : aw_M) : AM l yX11_isCell cX11_isCell 2 (some .boolean) 1 120 aw_gz [.ref t, .int a0] μ (f_X11_isCell F t a0 μ) := by
  refine aw_met [some (.ref t), some (.int a0)] (by decide) (fun _ => rfl) (fun _ => Nat.le_of_ble_eq_true rfl) ?_
  show AW l k_X11_isCell aw_gz 0 [some (.ref t), some (.int a0)] [] μ _
  unfold f_X11_isCell
  refine aw_iload_n (n := 1) dX11_isCell_0 rfl rfl ?_
  refine aw_if_lt (n := 4) 34 dX11_isCell_1 (by decide) rfl ?_ ?_
  · refine aw_iconst (n := 35) 0 dX11_isCell_34 rfl (by decide) ?_
    exact aw_zreturn (b := false) dX11_isCell_35 rfl rfl
  · refine aw_iload_n (n := 5) dX11_isCell_4 rfl rfl ?_
    refine aw_bipush (n := 7) 10 dX11_isCell_5 rfl (by decide) ?_
    refine aw_iremK (n := 8) dX11_isCell_7 rfl (by decide) ?_
    refine aw_aload_n (n := 9) dX11_isCell_8 rfl rfl ?_
    refine aw_getR (n := 12) (RX11, TX11, 52) 11 6 dX11_isCell_9 rfl ht (by decide) fd_RX11_33 ?_
    refine aw_iconst (n := 13) 0 dX11_isCell_12 rfl (by decide) ?_
    refine aw_iaload (n := 14) 1155 dX11_isCell_13 rfl (sf_11_6 ht) ?_
    refine aw_icmp_ge (n := 17) 34 dX11_isCell_14 (by decide) rfl ?_ ?_
    · refine aw_iconst (n := 35) 0 dX11_isCell_34 rfl (by decide) ?_
      exact aw_zreturn (b := false) dX11_isCell_35 rfl rfl
    · refine aw_iload_n (n := 18) dX11_isCell_17 rfl rfl ?_
      refine aw_bipush (n := 20) 10 dX11_isCell_18 rfl (by decide) ?_
      refine aw_idivK (n := 21) dX11_isCell_20 rfl (by decide) ?_
      refine aw_aload_n (n := 22) dX11_isCell_21 rfl rfl ?_
      refine aw_getR (n := 25) (RX11, TX11, 52) 11 6 dX11_isCell_22 rfl ht (by decide) fd_RX11_33 ?_
      refine aw_iconst (n := 26) 1 dX11_isCell_25 rfl (by decide) ?_
      refine aw_iaload (n := 27) 1155 dX11_isCell_26 rfl (sf_11_6 ht) ?_
      refine aw_icmp_ge (n := 30) 34 dX11_isCell_27 (by decide) rfl ?_ ?_
      · refine aw_iconst (n := 35) 0 dX11_isCell_34 rfl (by decide) ?_
        exact aw_zreturn (b := false) dX11_isCell_35 rfl rfl
      · refine aw_iconst (n := 31) 1 dX11_isCell_30 rfl (by decide) ?_
        refine aw_goto 35 dX11_isCell_31 (by decide) ?_
        exact aw_zreturn (b := true) dX11_isCell_35 rfl rfl
abbrev k_X11_isQuarter : aw_K := (RX11, cX11_isQuarter, 2, (some .boolean), 2, 142)
def f_X11_isQuarter (F : Nat) (t : Nat) (a0 : Int32) (μ : aw_M) : Option (Bool × aw_M) :=
  aw_g (aw_in 2 1155) ((f_X11_isIn F a0 0 ((μ.1 (aw_rf t 6) (2 : Int32).toNatClampNeg) - 1) μ).bind fun r1 =>
  some (r1.1, r1.2))
theorem m_X11_isQuarter (l : Launch) (F : Nat) (t : Nat) (ht : (aw_sh t).1 = 16) (a0 : Int32) (μ : aw_M) : AM l yX11_isQuarter cX11_isQuarter 2 (some .boolean) 2 142 aw_gz [.ref t, .int a0] μ (f_X11_isQuarter F t a0 μ) := by
  refine aw_met [some (.ref t), some (.int a0)] (by decide) (fun _ => rfl) (fun _ => Nat.le_of_ble_eq_true rfl) ?_
  show AW l k_X11_isQuarter aw_gz 0 [some (.ref t), some (.int a0)] [] μ _
  unfold f_X11_isQuarter
  refine aw_iload_n (n := 1) dX11_isQuarter_0 rfl rfl ?_
  refine aw_iconst (n := 2) 0 dX11_isQuarter_1 rfl (by decide) ?_
  refine aw_aload_n (n := 3) dX11_isQuarter_2 rfl rfl ?_
  refine aw_getR (n := 6) (RX11, TX11, 52) 11 6 dX11_isQuarter_3 rfl ht (by decide) fd_RX11_33 ?_
  refine aw_iconst (n := 7) 2 dX11_isQuarter_6 rfl (by decide) ?_
  refine aw_iaload (n := 8) 1155 dX11_isQuarter_7 rfl (sf_11_6 ht) ?_
  refine aw_iconst (n := 9) 1 dX11_isQuarter_8 rfl (by decide) ?_
  refine aw_isub (n := 10) dX11_isQuarter_9 rfl ?_
  refine aw_callSz (n := 13) (as := [.int a0, .int 0, .int ((μ.1 (aw_rf t 6) (2 : Int32).toNatClampNeg) - 1)]) (st := []) dX11_isQuarter_10 rfl rfl (m_X11_isIn l F a0 0 ((μ.1 (aw_rf t 6) (2 : Int32).toNatClampNeg) - 1) μ) cw_RX11_194 ⟨Nat.le_of_ble_eq_true rfl, Nat.le_of_ble_eq_true rfl⟩ (fun _ => Nat.le_of_ble_eq_true rfl) (fun r1 => ?_)
  exact aw_zreturn (b := r1.1) dX11_isQuarter_13 rfl rfl
abbrev k_X11_isCart : aw_K := (RX11, cX11_isCart, 2, (some .boolean), 2, 142)
def f_X11_isCart (F : Nat) (t : Nat) (a0 : Int32) (μ : aw_M) : Option (Bool × aw_M) :=
  aw_g (aw_in 3 1155) ((f_X11_isIn F a0 0 ((μ.1 (aw_rf t 6) (3 : Int32).toNatClampNeg) - 1) μ).bind fun r1 =>
  some (r1.1, r1.2))
theorem m_X11_isCart (l : Launch) (F : Nat) (t : Nat) (ht : (aw_sh t).1 = 16) (a0 : Int32) (μ : aw_M) : AM l yX11_isCart cX11_isCart 2 (some .boolean) 2 142 aw_gz [.ref t, .int a0] μ (f_X11_isCart F t a0 μ) := by
  refine aw_met [some (.ref t), some (.int a0)] (by decide) (fun _ => rfl) (fun _ => Nat.le_of_ble_eq_true rfl) ?_
  show AW l k_X11_isCart aw_gz 0 [some (.ref t), some (.int a0)] [] μ _
  unfold f_X11_isCart
  refine aw_iload_n (n := 1) dX11_isCart_0 rfl rfl ?_
  refine aw_iconst (n := 2) 0 dX11_isCart_1 rfl (by decide) ?_
  refine aw_aload_n (n := 3) dX11_isCart_2 rfl rfl ?_
  refine aw_getR (n := 6) (RX11, TX11, 52) 11 6 dX11_isCart_3 rfl ht (by decide) fd_RX11_33 ?_
  refine aw_iconst (n := 7) 3 dX11_isCart_6 rfl (by decide) ?_
  refine aw_iaload (n := 8) 1155 dX11_isCart_7 rfl (sf_11_6 ht) ?_
  refine aw_iconst (n := 9) 1 dX11_isCart_8 rfl (by decide) ?_
  refine aw_isub (n := 10) dX11_isCart_9 rfl ?_
  refine aw_callSz (n := 13) (as := [.int a0, .int 0, .int ((μ.1 (aw_rf t 6) (3 : Int32).toNatClampNeg) - 1)]) (st := []) dX11_isCart_10 rfl rfl (m_X11_isIn l F a0 0 ((μ.1 (aw_rf t 6) (3 : Int32).toNatClampNeg) - 1) μ) cw_RX11_194 ⟨Nat.le_of_ble_eq_true rfl, Nat.le_of_ble_eq_true rfl⟩ (fun _ => Nat.le_of_ble_eq_true rfl) (fun r1 => ?_)
  exact aw_zreturn (b := r1.1) dX11_isCart_13 rfl rfl
abbrev k_X11_apart : aw_K := (RX11, cX11_apart, 2, (some .int), 2, 140)
def f_X11_apart (F : Nat)  (a0 : Int32) (a1 : Int32) (μ : aw_M) : Option (Int32 × aw_M) :=
  (f_X11_sizeOf F ((a0 - a0 / 10 * 10) - (a1 - a1 / 10 * 10)) μ).bind fun r1 =>
  (f_X11_sizeOf F ((a0 / 10) - (a1 / 10)) r1.2).bind fun r2 =>
  some ((r1.1 + r2.1), r2.2)
theorem m_X11_apart (l : Launch) (F : Nat) (a0 : Int32) (a1 : Int32) (μ : aw_M) : AM l yX11_apart cX11_apart 2 (some .int) 2 140 aw_gi [.int a0, .int a1] μ (f_X11_apart F  a0 a1 μ) := by
  refine aw_met [some (.int a0), some (.int a1)] (by decide) (fun _ => rfl) (fun _ => Nat.le_of_ble_eq_true rfl) ?_
  show AW l k_X11_apart aw_gi 0 [some (.int a0), some (.int a1)] [] μ _
  unfold f_X11_apart
  refine aw_iload_n (n := 1) dX11_apart_0 rfl rfl ?_
  refine aw_bipush (n := 3) 10 dX11_apart_1 rfl (by decide) ?_
  refine aw_iremK (n := 4) dX11_apart_3 rfl (by decide) ?_
  refine aw_iload_n (n := 5) dX11_apart_4 rfl rfl ?_
  refine aw_bipush (n := 7) 10 dX11_apart_5 rfl (by decide) ?_
  refine aw_iremK (n := 8) dX11_apart_7 rfl (by decide) ?_
  refine aw_isub (n := 9) dX11_apart_8 rfl ?_
  refine aw_callSi (n := 12) (as := [.int ((a0 - a0 / 10 * 10) - (a1 - a1 / 10 * 10))]) (st := []) dX11_apart_9 rfl rfl (m_X11_sizeOf l F ((a0 - a0 / 10 * 10) - (a1 - a1 / 10 * 10)) μ) cw_RX11_254 ⟨Nat.le_of_ble_eq_true rfl, Nat.le_of_ble_eq_true rfl⟩ (fun _ => Nat.le_of_ble_eq_true rfl) (fun r1 => ?_)
  refine aw_iload_n (n := 13) dX11_apart_12 rfl rfl ?_
  refine aw_bipush (n := 15) 10 dX11_apart_13 rfl (by decide) ?_
  refine aw_idivK (n := 16) dX11_apart_15 rfl (by decide) ?_
  refine aw_iload_n (n := 17) dX11_apart_16 rfl rfl ?_
  refine aw_bipush (n := 19) 10 dX11_apart_17 rfl (by decide) ?_
  refine aw_idivK (n := 20) dX11_apart_19 rfl (by decide) ?_
  refine aw_isub (n := 21) dX11_apart_20 rfl ?_
  refine aw_callSi (n := 24) (as := [.int ((a0 / 10) - (a1 / 10))]) (st := [.int r1.1]) dX11_apart_21 rfl rfl (m_X11_sizeOf l F ((a0 / 10) - (a1 / 10)) r1.2) cw_RX11_254 ⟨Nat.le_of_ble_eq_true rfl, Nat.le_of_ble_eq_true rfl⟩ (fun _ => Nat.le_of_ble_eq_true rfl) (fun r2 => ?_)
  refine aw_iadd (n := 25) dX11_apart_24 rfl ?_
  exact aw_ireturn dX11_apart_25 rfl rfl
abbrev k_X11_quarter : aw_K := (RX11, cX11_quarter, 4, (some .int), 3, 163)
def f_X11_quarter_50 (F : Nat) (t : Nat) (x1 : Int32) (x2 : Int32) (z0 : Bool) (μ : aw_M) : Option (Int32 × aw_M) :=
  (aw_sel ((x2 : Int32).toInt - 0) [(aw_g (aw_in (11 + x1) 1155) (some ((μ.1 (aw_rf t 6) (11 + x1).toNatClampNeg), μ))), (aw_g (aw_in (29 + x1) 1155) (some ((μ.1 (aw_rf t 6) (29 + x1).toNatClampNeg), μ))), (aw_g (aw_in (458 + x1) 1155) (some ((μ.1 (aw_rf t 6) (458 + x1).toNatClampNeg), μ))), (aw_g (aw_in (467 + x1) 1155) (some ((μ.1 (aw_rf t 6) (467 + x1).toNatClampNeg), μ))), (aw_g (aw_in (476 + x1) 1155) (some ((μ.1 (aw_rf t 6) (476 + x1).toNatClampNeg), μ))), (aw_g (aw_in (485 + x1) 1155) (some ((μ.1 (aw_rf t 6) (485 + x1).toNatClampNeg), μ))), (aw_g (aw_in (427 + x1) 1155) (some (((μ.1 (aw_rf t 6) (427 + x1).toNatClampNeg) - 1), μ))), ((if z0 = true then
  aw_g (aw_in (436 + x1) 1155) (some ((μ.1 (aw_rf t 6) (436 + x1).toNatClampNeg), μ))
  else
  some ((-1), μ))), ((if z0 = true then
  aw_g (aw_in (445 + x1) 1155) (some ((μ.1 (aw_rf t 6) (445 + x1).toNatClampNeg), μ))
  else
  some ((-1), μ)))] (aw_g (aw_in (38 + x1) 1155) (some (((μ.1 (aw_rf t 6) (38 + x1).toNatClampNeg) - 1), μ))))
theorem c_X11_quarter_50 (l : Launch) (F : Nat) (t : Nat) (ht : (aw_sh t).1 = 16) (x1 : Int32) (x2 : Int32) (z0 : Bool) (μ : aw_M) : AW l k_X11_quarter aw_gi 50 [some (.ref t), some (.int x1), some (.int x2), none] [.int (aw_b z0)] μ (f_X11_quarter_50 F t x1 x2 z0 μ) := by
  unfold f_X11_quarter_50
  refine aw_istore_n (n := 51) [some (.ref t), some (.int x1), some (.int x2), some (.int (aw_b z0))] dX11_quarter_50 rfl rfl (Nat.le_of_ble_eq_true rfl) (Nat.le_of_ble_eq_true rfl) rfl ?_
  refine aw_iload_n (n := 52) dX11_quarter_51 rfl rfl ?_
  refine aw_tsw [104, 114, 124, 135, 146, 157, 168, 181, 200] 219 dX11_quarter_52 (by decide) (by decide) (by decide) ⟨?_, ?_, ?_, ?_, ?_, ?_, ?_, ?_, ?_, trivial⟩ ?_
  · refine aw_aload_n (n := 105) dX11_quarter_104 rfl rfl ?_
    refine aw_getR (n := 108) (RX11, TX11, 52) 11 6 dX11_quarter_105 rfl ht (by decide) fd_RX11_33 ?_
    refine aw_bipush (n := 110) 11 dX11_quarter_108 rfl (by decide) ?_
    refine aw_iload_n (n := 111) dX11_quarter_110 rfl rfl ?_
    refine aw_iadd (n := 112) dX11_quarter_111 rfl ?_
    refine aw_iaload (n := 113) 1155 dX11_quarter_112 rfl (sf_11_6 ht) ?_
    exact aw_ireturn dX11_quarter_113 rfl rfl
  · refine aw_aload_n (n := 115) dX11_quarter_114 rfl rfl ?_
    refine aw_getR (n := 118) (RX11, TX11, 52) 11 6 dX11_quarter_115 rfl ht (by decide) fd_RX11_33 ?_
    refine aw_bipush (n := 120) 29 dX11_quarter_118 rfl (by decide) ?_
    refine aw_iload_n (n := 121) dX11_quarter_120 rfl rfl ?_
    refine aw_iadd (n := 122) dX11_quarter_121 rfl ?_
    refine aw_iaload (n := 123) 1155 dX11_quarter_122 rfl (sf_11_6 ht) ?_
    exact aw_ireturn dX11_quarter_123 rfl rfl
  · refine aw_aload_n (n := 125) dX11_quarter_124 rfl rfl ?_
    refine aw_getR (n := 128) (RX11, TX11, 52) 11 6 dX11_quarter_125 rfl ht (by decide) fd_RX11_33 ?_
    refine aw_sipush (n := 131) 458 dX11_quarter_128 rfl (by decide) ?_
    refine aw_iload_n (n := 132) dX11_quarter_131 rfl rfl ?_
    refine aw_iadd (n := 133) dX11_quarter_132 rfl ?_
    refine aw_iaload (n := 134) 1155 dX11_quarter_133 rfl (sf_11_6 ht) ?_
    exact aw_ireturn dX11_quarter_134 rfl rfl
  · refine aw_aload_n (n := 136) dX11_quarter_135 rfl rfl ?_
    refine aw_getR (n := 139) (RX11, TX11, 52) 11 6 dX11_quarter_136 rfl ht (by decide) fd_RX11_33 ?_
    refine aw_sipush (n := 142) 467 dX11_quarter_139 rfl (by decide) ?_
    refine aw_iload_n (n := 143) dX11_quarter_142 rfl rfl ?_
    refine aw_iadd (n := 144) dX11_quarter_143 rfl ?_
    refine aw_iaload (n := 145) 1155 dX11_quarter_144 rfl (sf_11_6 ht) ?_
    exact aw_ireturn dX11_quarter_145 rfl rfl
  · refine aw_aload_n (n := 147) dX11_quarter_146 rfl rfl ?_
    refine aw_getR (n := 150) (RX11, TX11, 52) 11 6 dX11_quarter_147 rfl ht (by decide) fd_RX11_33 ?_
    refine aw_sipush (n := 153) 476 dX11_quarter_150 rfl (by decide) ?_
    refine aw_iload_n (n := 154) dX11_quarter_153 rfl rfl ?_
    refine aw_iadd (n := 155) dX11_quarter_154 rfl ?_
    refine aw_iaload (n := 156) 1155 dX11_quarter_155 rfl (sf_11_6 ht) ?_
    exact aw_ireturn dX11_quarter_156 rfl rfl
  · refine aw_aload_n (n := 158) dX11_quarter_157 rfl rfl ?_
    refine aw_getR (n := 161) (RX11, TX11, 52) 11 6 dX11_quarter_158 rfl ht (by decide) fd_RX11_33 ?_
    refine aw_sipush (n := 164) 485 dX11_quarter_161 rfl (by decide) ?_
    refine aw_iload_n (n := 165) dX11_quarter_164 rfl rfl ?_
    refine aw_iadd (n := 166) dX11_quarter_165 rfl ?_
    refine aw_iaload (n := 167) 1155 dX11_quarter_166 rfl (sf_11_6 ht) ?_
    exact aw_ireturn dX11_quarter_167 rfl rfl
  · refine aw_aload_n (n := 169) dX11_quarter_168 rfl rfl ?_
    refine aw_getR (n := 172) (RX11, TX11, 52) 11 6 dX11_quarter_169 rfl ht (by decide) fd_RX11_33 ?_
    refine aw_sipush (n := 175) 427 dX11_quarter_172 rfl (by decide) ?_
    refine aw_iload_n (n := 176) dX11_quarter_175 rfl rfl ?_
    refine aw_iadd (n := 177) dX11_quarter_176 rfl ?_
    refine aw_iaload (n := 178) 1155 dX11_quarter_177 rfl (sf_11_6 ht) ?_
    refine aw_iconst (n := 179) 1 dX11_quarter_178 rfl (by decide) ?_
    refine aw_isub (n := 180) dX11_quarter_179 rfl ?_
    exact aw_ireturn dX11_quarter_180 rfl rfl
  · refine aw_iload_n (n := 182) dX11_quarter_181 rfl rfl ?_
    refine aw_ifb_eq (n := 185) 198 dX11_quarter_182 (by decide) rfl ?_ ?_
    · refine aw_iconst (n := 199) (-1) dX11_quarter_198 rfl (by decide) ?_
      exact aw_ireturn dX11_quarter_199 rfl rfl
    · refine aw_aload_n (n := 186) dX11_quarter_185 rfl rfl ?_
      refine aw_getR (n := 189) (RX11, TX11, 52) 11 6 dX11_quarter_186 rfl ht (by decide) fd_RX11_33 ?_
      refine aw_sipush (n := 192) 436 dX11_quarter_189 rfl (by decide) ?_
      refine aw_iload_n (n := 193) dX11_quarter_192 rfl rfl ?_
      refine aw_iadd (n := 194) dX11_quarter_193 rfl ?_
      refine aw_iaload (n := 195) 1155 dX11_quarter_194 rfl (sf_11_6 ht) ?_
      refine aw_goto 199 dX11_quarter_195 (by decide) ?_
      exact aw_ireturn dX11_quarter_199 rfl rfl
  · refine aw_iload_n (n := 201) dX11_quarter_200 rfl rfl ?_
    refine aw_ifb_eq (n := 204) 217 dX11_quarter_201 (by decide) rfl ?_ ?_
    · refine aw_iconst (n := 218) (-1) dX11_quarter_217 rfl (by decide) ?_
      exact aw_ireturn dX11_quarter_218 rfl rfl
    · refine aw_aload_n (n := 205) dX11_quarter_204 rfl rfl ?_
      refine aw_getR (n := 208) (RX11, TX11, 52) 11 6 dX11_quarter_205 rfl ht (by decide) fd_RX11_33 ?_
      refine aw_sipush (n := 211) 445 dX11_quarter_208 rfl (by decide) ?_
      refine aw_iload_n (n := 212) dX11_quarter_211 rfl rfl ?_
      refine aw_iadd (n := 213) dX11_quarter_212 rfl ?_
      refine aw_iaload (n := 214) 1155 dX11_quarter_213 rfl (sf_11_6 ht) ?_
      refine aw_goto 218 dX11_quarter_214 (by decide) ?_
      exact aw_ireturn dX11_quarter_218 rfl rfl
  · refine aw_aload_n (n := 220) dX11_quarter_219 rfl rfl ?_
    refine aw_getR (n := 223) (RX11, TX11, 52) 11 6 dX11_quarter_220 rfl ht (by decide) fd_RX11_33 ?_
    refine aw_bipush (n := 225) 38 dX11_quarter_223 rfl (by decide) ?_
    refine aw_iload_n (n := 226) dX11_quarter_225 rfl rfl ?_
    refine aw_iadd (n := 227) dX11_quarter_226 rfl ?_
    refine aw_iaload (n := 228) 1155 dX11_quarter_227 rfl (sf_11_6 ht) ?_
    refine aw_iconst (n := 229) 1 dX11_quarter_228 rfl (by decide) ?_
    refine aw_isub (n := 230) dX11_quarter_229 rfl ?_
    exact aw_ireturn dX11_quarter_230 rfl rfl
def f_X11_quarter_24 (F : Nat) (t : Nat) (x1 : Int32) (x2 : Int32) (z0 : Bool) (μ : aw_M) : Option (Int32 × aw_M) :=
  (f_X11_throwsIf F t (aw_b z0) μ).bind fun r5 =>
  (if r5.1 = true then
  some (0, r5.2)
  else
  aw_g (aw_in (427 + x1) 1155) ((if (r5.2.1 (aw_rf t 6) (427 + x1).toNatClampNeg) ≤ 0 then
  f_X11_quarter_50 F t x1 x2 false r5.2
  else
  f_X11_quarter_50 F t x1 x2 true r5.2)))
theorem c_X11_quarter_24 (l : Launch) (F : Nat) (t : Nat) (ht : (aw_sh t).1 = 16) (x1 : Int32) (x2 : Int32) (z0 : Bool) (μ : aw_M) : AW l k_X11_quarter aw_gi 24 [some (.ref t), some (.int x1), some (.int x2), none] [.int (aw_b z0), .ref t] μ (f_X11_quarter_24 F t x1 x2 z0 μ) := by
  unfold f_X11_quarter_24
  refine aw_callVz (n := 27) (as := [.int (aw_b z0)]) (st := []) (RX11, TX11, 52) 11 dX11_quarter_24 rfl rfl (m_X11_throwsIf l F t ht (aw_b z0) μ) ht (by decide) rfl rfl cw_RX11_261 ⟨Nat.le_of_ble_eq_true rfl, Nat.le_of_ble_eq_true rfl⟩ (fun _ => Nat.le_of_ble_eq_true rfl) (fun r5 => ?_)
  refine aw_ifb_eq (n := 30) 32 dX11_quarter_27 (by decide) rfl ?_ ?_
  · refine aw_aload_n (n := 33) dX11_quarter_32 rfl rfl ?_
    refine aw_getR (n := 36) (RX11, TX11, 52) 11 6 dX11_quarter_33 rfl ht (by decide) fd_RX11_33 ?_
    refine aw_sipush (n := 39) 427 dX11_quarter_36 rfl (by decide) ?_
    refine aw_iload_n (n := 40) dX11_quarter_39 rfl rfl ?_
    refine aw_iadd (n := 41) dX11_quarter_40 rfl ?_
    refine aw_iaload (n := 42) 1155 dX11_quarter_41 rfl (sf_11_6 ht) ?_
    refine aw_if_le (n := 45) 49 dX11_quarter_42 (by decide) rfl ?_ ?_
    · refine aw_iconst (n := 50) 0 dX11_quarter_49 rfl (by decide) ?_
      exact aw_weak (c_X11_quarter_50 l F t ht x1 x2 false r5.2) (aw_ss (aw_ss (aw_ss (aw_sn aw_s0))))
    · refine aw_iconst (n := 46) 1 dX11_quarter_45 rfl (by decide) ?_
      refine aw_goto 50 dX11_quarter_46 (by decide) ?_
      exact aw_weak (c_X11_quarter_50 l F t ht x1 x2 true r5.2) (aw_ss (aw_ss (aw_ss (aw_sn aw_s0))))
  · refine aw_iconst (n := 31) 0 dX11_quarter_30 rfl (by decide) ?_
    exact aw_ireturn dX11_quarter_31 rfl rfl
def f_X11_quarter_19 (F : Nat) (t : Nat) (x1 : Int32) (x2 : Int32) (μ : aw_M) : Option (Int32 × aw_M) :=
  f_X11_quarter_24 F t x1 x2 true μ
theorem c_X11_quarter_19 (l : Launch) (F : Nat) (t : Nat) (ht : (aw_sh t).1 = 16) (x1 : Int32) (x2 : Int32) (μ : aw_M) : AW l k_X11_quarter aw_gi 19 [some (.ref t), some (.int x1), some (.int x2), none] [.ref t] μ (f_X11_quarter_19 F t x1 x2 μ) := by
  unfold f_X11_quarter_19
  refine aw_iconst (n := 20) 1 dX11_quarter_19 rfl (by decide) ?_
  refine aw_goto 24 dX11_quarter_20 (by decide) ?_
  exact aw_weak (c_X11_quarter_24 l F t ht x1 x2 true μ) (aw_ss (aw_ss (aw_ss (aw_sn aw_s0))))
def f_X11_quarter (F : Nat) (t : Nat) (a0 : Int32) (a1 : Int32) (μ : aw_M) : Option (Int32 × aw_M) :=
  (f_X11_isQuarter F t a0 μ).bind fun r4 =>
  (if r4.1 = true then
  (f_X11_isIn F a1 0 9 r4.2).bind fun r6 =>
  (if r6.1 = true then
  f_X11_quarter_24 F t a0 a1 false r6.2
  else
  f_X11_quarter_19 F t a0 a1 r6.2)
  else
  f_X11_quarter_19 F t a0 a1 r4.2)
theorem m_X11_quarter (l : Launch) (F : Nat) (t : Nat) (ht : (aw_sh t).1 = 16) (a0 : Int32) (a1 : Int32) (μ : aw_M) : AM l yX11_quarter cX11_quarter 4 (some .int) 3 163 aw_gi [.ref t, .int a0, .int a1] μ (f_X11_quarter F t a0 a1 μ) := by
  refine aw_met [some (.ref t), some (.int a0), some (.int a1), none] (by decide) (fun _ => rfl) (fun _ => Nat.le_of_ble_eq_true rfl) ?_
  show AW l k_X11_quarter aw_gi 0 [some (.ref t), some (.int a0), some (.int a1), none] [] μ _
  unfold f_X11_quarter
  refine aw_aload_n (n := 1) dX11_quarter_0 rfl rfl ?_
  refine aw_aload_n (n := 2) dX11_quarter_1 rfl rfl ?_
  refine aw_iload_n (n := 3) dX11_quarter_2 rfl rfl ?_
  refine aw_callVz (n := 6) (as := [.int a0]) (st := [.ref t]) (RX11, TX11, 52) 11 dX11_quarter_3 rfl rfl (m_X11_isQuarter l F t ht a0 μ) ht (by decide) rfl rfl cw_RX11_258 ⟨Nat.le_of_ble_eq_true rfl, Nat.le_of_ble_eq_true rfl⟩ (fun _ => Nat.le_of_ble_eq_true rfl) (fun r4 => ?_)
  refine aw_ifb_eq (n := 9) 19 dX11_quarter_6 (by decide) rfl ?_ ?_
  · exact aw_weak (c_X11_quarter_19 l F t ht a0 a1 r4.2) (aw_ss (aw_ss (aw_ss (aw_sn aw_s0))))
  · refine aw_iload_n (n := 10) dX11_quarter_9 rfl rfl ?_
    refine aw_iconst (n := 11) 0 dX11_quarter_10 rfl (by decide) ?_
    refine aw_bipush (n := 13) 9 dX11_quarter_11 rfl (by decide) ?_
    refine aw_callSz (n := 16) (as := [.int a1, .int 0, .int 9]) (st := [.ref t]) dX11_quarter_13 rfl rfl (m_X11_isIn l F a1 0 9 r4.2) cw_RX11_194 ⟨Nat.le_of_ble_eq_true rfl, Nat.le_of_ble_eq_true rfl⟩ (fun _ => Nat.le_of_ble_eq_true rfl) (fun r6 => ?_)
    refine aw_ifb_ne (n := 19) 23 dX11_quarter_16 (by decide) rfl ?_ ?_
    · refine aw_iconst (n := 24) 0 dX11_quarter_23 rfl (by decide) ?_
      exact aw_weak (c_X11_quarter_24 l F t ht a0 a1 false r6.2) (aw_ss (aw_ss (aw_ss (aw_sn aw_s0))))
    · exact aw_weak (c_X11_quarter_19 l F t ht a0 a1 r6.2) (aw_ss (aw_ss (aw_ss (aw_sn aw_s0))))
abbrev k_X11_isThere : aw_K := (RX11, cX11_isThere, 3, (some .boolean), 2, 142)
def f_X11_isThere (F : Nat) (t : Nat) (a0 : Int32) (a1 : Int32) (μ : aw_M) : Option (Bool × aw_M) :=
  aw_g (aw_in (47 + a0) 1155) ((f_X11_isIn F (a1 - (μ.1 (aw_rf t 6) (47 + a0).toNatClampNeg)) 0 3 μ).bind fun r1 =>
  some (r1.1, r1.2))
theorem m_X11_isThere (l : Launch) (F : Nat) (t : Nat) (ht : (aw_sh t).1 = 16) (a0 : Int32) (a1 : Int32) (μ : aw_M) : AM l yX11_isThere cX11_isThere 3 (some .boolean) 2 142 aw_gz [.ref t, .int a0, .int a1] μ (f_X11_isThere F t a0 a1 μ) := by
  refine aw_met [some (.ref t), some (.int a0), some (.int a1)] (by decide) (fun _ => rfl) (fun _ => Nat.le_of_ble_eq_true rfl) ?_
  show AW l k_X11_isThere aw_gz 0 [some (.ref t), some (.int a0), some (.int a1)] [] μ _
  unfold f_X11_isThere
  refine aw_iload_n (n := 1) dX11_isThere_0 rfl rfl ?_
  refine aw_aload_n (n := 2) dX11_isThere_1 rfl rfl ?_
  refine aw_getR (n := 5) (RX11, TX11, 52) 11 6 dX11_isThere_2 rfl ht (by decide) fd_RX11_33 ?_
  refine aw_bipush (n := 7) 47 dX11_isThere_5 rfl (by decide) ?_
  refine aw_iload_n (n := 8) dX11_isThere_7 rfl rfl ?_
  refine aw_iadd (n := 9) dX11_isThere_8 rfl ?_
  refine aw_iaload (n := 10) 1155 dX11_isThere_9 rfl (sf_11_6 ht) ?_
  refine aw_isub (n := 11) dX11_isThere_10 rfl ?_
  refine aw_iconst (n := 12) 0 dX11_isThere_11 rfl (by decide) ?_
  refine aw_iconst (n := 13) 3 dX11_isThere_12 rfl (by decide) ?_
  refine aw_callSz (n := 16) (as := [.int (a1 - (μ.1 (aw_rf t 6) (47 + a0).toNatClampNeg)), .int 0, .int 3]) (st := []) dX11_isThere_13 rfl rfl (m_X11_isIn l F (a1 - (μ.1 (aw_rf t 6) (47 + a0).toNatClampNeg)) 0 3 μ) cw_RX11_194 ⟨Nat.le_of_ble_eq_true rfl, Nat.le_of_ble_eq_true rfl⟩ (fun _ => Nat.le_of_ble_eq_true rfl) (fun r1 => ?_)
  exact aw_zreturn (b := r1.1) dX11_isThere_16 rfl rfl
abbrev k_X11_cart : aw_K := (RX11, cX11_cart, 3, (some .int), 3, 164)
def f_X11_cart_23 (F : Nat) (t : Nat) (x1 : Int32) (x2 : Int32) (z0 : Bool) (μ : aw_M) : Option (Int32 × aw_M) :=
  (f_X11_throwsIf F t (aw_b z0) μ).bind fun r6 =>
  (if r6.1 = true then
  some (0, r6.2)
  else
  (aw_sel ((x2 : Int32).toInt - 0) [(aw_g (aw_in (67 + x1) 1155) (some ((r6.2.1 (aw_rf t 6) (67 + x1).toNatClampNeg), r6.2))), (aw_g (aw_in (47 + x1) 1155) (some ((r6.2.1 (aw_rf t 6) (47 + x1).toNatClampNeg), r6.2))), (aw_g (aw_in (674 + x1) 1155) (some ((r6.2.1 (aw_rf t 6) (674 + x1).toNatClampNeg), r6.2))), (aw_g (aw_in (107 + x1) 1155) (some ((r6.2.1 (aw_rf t 6) (107 + x1).toNatClampNeg), r6.2))), (aw_g (aw_in (694 + x1) 1155) (some ((r6.2.1 (aw_rf t 6) (694 + x1).toNatClampNeg), r6.2)))] (aw_g (aw_in 455 1155) ((if 3 ≤ (r6.2.1 (aw_rf t 6) (455 : Int32).toNatClampNeg) then
  some (0, r6.2)
  else
  aw_g (aw_in 456 1155) ((f_X11_isThere F t x1 (r6.2.1 (aw_rf t 6) (456 : Int32).toNatClampNeg) r6.2).bind fun r7 =>
  (if r7.1 = true then
  some (1, r7.2)
  else
  some (0, r7.2))))))))
theorem c_X11_cart_23 (l : Launch) (F : Nat) (t : Nat) (ht : (aw_sh t).1 = 16) (x1 : Int32) (x2 : Int32) (z0 : Bool) (μ : aw_M) : AW l k_X11_cart aw_gi 23 [some (.ref t), some (.int x1), some (.int x2)] [.int (aw_b z0), .ref t] μ (f_X11_cart_23 F t x1 x2 z0 μ) := by
  unfold f_X11_cart_23
  refine aw_callVz (n := 26) (as := [.int (aw_b z0)]) (st := []) (RX11, TX11, 52) 11 dX11_cart_23 rfl rfl (m_X11_throwsIf l F t ht (aw_b z0) μ) ht (by decide) rfl rfl cw_RX11_261 ⟨Nat.le_of_ble_eq_true rfl, Nat.le_of_ble_eq_true rfl⟩ (fun _ => Nat.le_of_ble_eq_true rfl) (fun r6 => ?_)
  refine aw_ifb_eq (n := 29) 31 dX11_cart_26 (by decide) rfl ?_ ?_
  · refine aw_iload_n (n := 32) dX11_cart_31 rfl rfl ?_
    refine aw_tsw [68, 78, 88, 99, 109] 120 dX11_cart_32 (by decide) (by decide) (by decide) ⟨?_, ?_, ?_, ?_, ?_, trivial⟩ ?_
    · refine aw_aload_n (n := 69) dX11_cart_68 rfl rfl ?_
      refine aw_getR (n := 72) (RX11, TX11, 52) 11 6 dX11_cart_69 rfl ht (by decide) fd_RX11_33 ?_
      refine aw_bipush (n := 74) 67 dX11_cart_72 rfl (by decide) ?_
      refine aw_iload_n (n := 75) dX11_cart_74 rfl rfl ?_
      refine aw_iadd (n := 76) dX11_cart_75 rfl ?_
      refine aw_iaload (n := 77) 1155 dX11_cart_76 rfl (sf_11_6 ht) ?_
      exact aw_ireturn dX11_cart_77 rfl rfl
    · refine aw_aload_n (n := 79) dX11_cart_78 rfl rfl ?_
      refine aw_getR (n := 82) (RX11, TX11, 52) 11 6 dX11_cart_79 rfl ht (by decide) fd_RX11_33 ?_
      refine aw_bipush (n := 84) 47 dX11_cart_82 rfl (by decide) ?_
      refine aw_iload_n (n := 85) dX11_cart_84 rfl rfl ?_
      refine aw_iadd (n := 86) dX11_cart_85 rfl ?_
      refine aw_iaload (n := 87) 1155 dX11_cart_86 rfl (sf_11_6 ht) ?_
      exact aw_ireturn dX11_cart_87 rfl rfl
    · refine aw_aload_n (n := 89) dX11_cart_88 rfl rfl ?_
      refine aw_getR (n := 92) (RX11, TX11, 52) 11 6 dX11_cart_89 rfl ht (by decide) fd_RX11_33 ?_
      refine aw_sipush (n := 95) 674 dX11_cart_92 rfl (by decide) ?_
      refine aw_iload_n (n := 96) dX11_cart_95 rfl rfl ?_
      refine aw_iadd (n := 97) dX11_cart_96 rfl ?_
      refine aw_iaload (n := 98) 1155 dX11_cart_97 rfl (sf_11_6 ht) ?_
      exact aw_ireturn dX11_cart_98 rfl rfl
    · refine aw_aload_n (n := 100) dX11_cart_99 rfl rfl ?_
      refine aw_getR (n := 103) (RX11, TX11, 52) 11 6 dX11_cart_100 rfl ht (by decide) fd_RX11_33 ?_
      refine aw_bipush (n := 105) 107 dX11_cart_103 rfl (by decide) ?_
      refine aw_iload_n (n := 106) dX11_cart_105 rfl rfl ?_
      refine aw_iadd (n := 107) dX11_cart_106 rfl ?_
      refine aw_iaload (n := 108) 1155 dX11_cart_107 rfl (sf_11_6 ht) ?_
      exact aw_ireturn dX11_cart_108 rfl rfl
    · refine aw_aload_n (n := 110) dX11_cart_109 rfl rfl ?_
      refine aw_getR (n := 113) (RX11, TX11, 52) 11 6 dX11_cart_110 rfl ht (by decide) fd_RX11_33 ?_
      refine aw_sipush (n := 116) 694 dX11_cart_113 rfl (by decide) ?_
      refine aw_iload_n (n := 117) dX11_cart_116 rfl rfl ?_
      refine aw_iadd (n := 118) dX11_cart_117 rfl ?_
      refine aw_iaload (n := 119) 1155 dX11_cart_118 rfl (sf_11_6 ht) ?_
      exact aw_ireturn dX11_cart_119 rfl rfl
    · refine aw_aload_n (n := 121) dX11_cart_120 rfl rfl ?_
      refine aw_getR (n := 124) (RX11, TX11, 52) 11 6 dX11_cart_121 rfl ht (by decide) fd_RX11_33 ?_
      refine aw_sipush (n := 127) 455 dX11_cart_124 rfl (by decide) ?_
      refine aw_iaload (n := 128) 1155 dX11_cart_127 rfl (sf_11_6 ht) ?_
      refine aw_iconst (n := 129) 3 dX11_cart_128 rfl (by decide) ?_
      refine aw_icmp_ge (n := 132) 152 dX11_cart_129 (by decide) rfl ?_ ?_
      · refine aw_iconst (n := 153) 0 dX11_cart_152 rfl (by decide) ?_
        exact aw_ireturn dX11_cart_153 rfl rfl
      · refine aw_aload_n (n := 133) dX11_cart_132 rfl rfl ?_
        refine aw_iload_n (n := 134) dX11_cart_133 rfl rfl ?_
        refine aw_aload_n (n := 135) dX11_cart_134 rfl rfl ?_
        refine aw_getR (n := 138) (RX11, TX11, 52) 11 6 dX11_cart_135 rfl ht (by decide) fd_RX11_33 ?_
        refine aw_sipush (n := 141) 456 dX11_cart_138 rfl (by decide) ?_
        refine aw_iaload (n := 142) 1155 dX11_cart_141 rfl (sf_11_6 ht) ?_
        refine aw_callVz (n := 145) (as := [.int x1, .int (r6.2.1 (aw_rf t 6) (456 : Int32).toNatClampNeg)]) (st := []) (RX11, TX11, 52) 11 dX11_cart_142 rfl rfl (m_X11_isThere l F t ht x1 (r6.2.1 (aw_rf t 6) (456 : Int32).toNatClampNeg) r6.2) ht (by decide) rfl rfl cw_RX11_268 ⟨Nat.le_of_ble_eq_true rfl, Nat.le_of_ble_eq_true rfl⟩ (fun _ => Nat.le_of_ble_eq_true rfl) (fun r7 => ?_)
        refine aw_ifb_eq (n := 148) 152 dX11_cart_145 (by decide) rfl ?_ ?_
        · refine aw_iconst (n := 153) 0 dX11_cart_152 rfl (by decide) ?_
          exact aw_ireturn dX11_cart_153 rfl rfl
        · refine aw_iconst (n := 149) 1 dX11_cart_148 rfl (by decide) ?_
          refine aw_goto 153 dX11_cart_149 (by decide) ?_
          exact aw_ireturn dX11_cart_153 rfl rfl
  · refine aw_iconst (n := 30) 0 dX11_cart_29 rfl (by decide) ?_
    exact aw_ireturn dX11_cart_30 rfl rfl
def f_X11_cart_18 (F : Nat) (t : Nat) (x1 : Int32) (x2 : Int32) (μ : aw_M) : Option (Int32 × aw_M) :=
  f_X11_cart_23 F t x1 x2 true μ
theorem c_X11_cart_18 (l : Launch) (F : Nat) (t : Nat) (ht : (aw_sh t).1 = 16) (x1 : Int32) (x2 : Int32) (μ : aw_M) : AW l k_X11_cart aw_gi 18 [some (.ref t), some (.int x1), some (.int x2)] [.ref t] μ (f_X11_cart_18 F t x1 x2 μ) := by
  unfold f_X11_cart_18
  refine aw_iconst (n := 19) 1 dX11_cart_18 rfl (by decide) ?_
  refine aw_goto 23 dX11_cart_19 (by decide) ?_
  exact aw_weak (c_X11_cart_23 l F t ht x1 x2 true μ) (aw_ss (aw_ss (aw_ss aw_s0)))
def f_X11_cart (F : Nat) (t : Nat) (a0 : Int32) (a1 : Int32) (μ : aw_M) : Option (Int32 × aw_M) :=
  (f_X11_isCart F t a0 μ).bind fun r5 =>
  (if r5.1 = true then
  (f_X11_isIn F a1 0 5 r5.2).bind fun r8 =>
  (if r8.1 = true then
  f_X11_cart_23 F t a0 a1 false r8.2
  else
  f_X11_cart_18 F t a0 a1 r8.2)
  else
  f_X11_cart_18 F t a0 a1 r5.2)
theorem m_X11_cart (l : Launch) (F : Nat) (t : Nat) (ht : (aw_sh t).1 = 16) (a0 : Int32) (a1 : Int32) (μ : aw_M) : AM l yX11_cart cX11_cart 3 (some .int) 3 164 aw_gi [.ref t, .int a0, .int a1] μ (f_X11_cart F t a0 a1 μ) := by
  refine aw_met [some (.ref t), some (.int a0), some (.int a1)] (by decide) (fun _ => rfl) (fun _ => Nat.le_of_ble_eq_true rfl) ?_
  show AW l k_X11_cart aw_gi 0 [some (.ref t), some (.int a0), some (.int a1)] [] μ _
  unfold f_X11_cart
  refine aw_aload_n (n := 1) dX11_cart_0 rfl rfl ?_
  refine aw_aload_n (n := 2) dX11_cart_1 rfl rfl ?_
  refine aw_iload_n (n := 3) dX11_cart_2 rfl rfl ?_
  refine aw_callVz (n := 6) (as := [.int a0]) (st := [.ref t]) (RX11, TX11, 52) 11 dX11_cart_3 rfl rfl (m_X11_isCart l F t ht a0 μ) ht (by decide) rfl rfl cw_RX11_265 ⟨Nat.le_of_ble_eq_true rfl, Nat.le_of_ble_eq_true rfl⟩ (fun _ => Nat.le_of_ble_eq_true rfl) (fun r5 => ?_)
  refine aw_ifb_eq (n := 9) 18 dX11_cart_6 (by decide) rfl ?_ ?_
  · exact aw_weak (c_X11_cart_18 l F t ht a0 a1 r5.2) (aw_ss (aw_ss (aw_ss aw_s0)))
  · refine aw_iload_n (n := 10) dX11_cart_9 rfl rfl ?_
    refine aw_iconst (n := 11) 0 dX11_cart_10 rfl (by decide) ?_
    refine aw_iconst (n := 12) 5 dX11_cart_11 rfl (by decide) ?_
    refine aw_callSz (n := 15) (as := [.int a1, .int 0, .int 5]) (st := [.ref t]) dX11_cart_12 rfl rfl (m_X11_isIn l F a1 0 5 r5.2) cw_RX11_194 ⟨Nat.le_of_ble_eq_true rfl, Nat.le_of_ble_eq_true rfl⟩ (fun _ => Nat.le_of_ble_eq_true rfl) (fun r8 => ?_)
    refine aw_ifb_ne (n := 18) 22 dX11_cart_15 (by decide) rfl ?_ ?_
    · refine aw_iconst (n := 23) 0 dX11_cart_22 rfl (by decide) ?_
      exact aw_weak (c_X11_cart_23 l F t ht a0 a1 false r8.2) (aw_ss (aw_ss (aw_ss aw_s0)))
    · exact aw_weak (c_X11_cart_18 l F t ht a0 a1 r8.2) (aw_ss (aw_ss (aw_ss aw_s0)))
abbrev k_X11_cell : aw_K := (RX11, cX11_cell, 5, (some .int), 2, 142)
def f_X11_cell_70 (F : Nat) (t : Nat) (x1 : Int32) (x2 : Int32) (x3 : Int32) (μ : aw_M) : Option (Int32 × aw_M) :=
  (aw_sel ((x2 : Int32).toInt - 0) [(aw_g (aw_in (714 + x1) 1155) (some ((μ.1 (aw_rf t 6) (714 + x1).toNatClampNeg), μ))), (some (x3, μ)), (aw_g (aw_in (127 + x1) 1155) (some ((μ.1 (aw_rf t 6) (127 + x1).toNatClampNeg), μ))), (aw_g (aw_in (227 + x1) 1155) (some ((μ.1 (aw_rf t 6) (227 + x1).toNatClampNeg), μ))), (aw_g (aw_in (327 + x1) 1155) (some ((μ.1 (aw_rf t 6) (327 + x1).toNatClampNeg), μ)))] (aw_g (aw_in (814 + x1) 1155) (some ((μ.1 (aw_rf t 6) (814 + x1).toNatClampNeg), μ))))
theorem c_X11_cell_70 (l : Launch) (F : Nat) (t : Nat) (ht : (aw_sh t).1 = 16) (x1 : Int32) (x2 : Int32) (x3 : Int32) (μ : aw_M) : AW l k_X11_cell aw_gi 70 [some (.ref t), some (.int x1), some (.int x2), some (.int x3), none] [] μ (f_X11_cell_70 F t x1 x2 x3 μ) := by
  unfold f_X11_cell_70
  refine aw_iload_n (n := 71) dX11_cell_70 rfl rfl ?_
  refine aw_tsw [104, 115, 117, 127, 138] 149 dX11_cell_71 (by decide) (by decide) (by decide) ⟨?_, ?_, ?_, ?_, ?_, trivial⟩ ?_
  · refine aw_aload_n (n := 105) dX11_cell_104 rfl rfl ?_
    refine aw_getR (n := 108) (RX11, TX11, 52) 11 6 dX11_cell_105 rfl ht (by decide) fd_RX11_33 ?_
    refine aw_sipush (n := 111) 714 dX11_cell_108 rfl (by decide) ?_
    refine aw_iload_n (n := 112) dX11_cell_111 rfl rfl ?_
    refine aw_iadd (n := 113) dX11_cell_112 rfl ?_
    refine aw_iaload (n := 114) 1155 dX11_cell_113 rfl (sf_11_6 ht) ?_
    exact aw_ireturn dX11_cell_114 rfl rfl
  · refine aw_iload_n (n := 116) dX11_cell_115 rfl rfl ?_
    exact aw_ireturn dX11_cell_116 rfl rfl
  · refine aw_aload_n (n := 118) dX11_cell_117 rfl rfl ?_
    refine aw_getR (n := 121) (RX11, TX11, 52) 11 6 dX11_cell_118 rfl ht (by decide) fd_RX11_33 ?_
    refine aw_bipush (n := 123) 127 dX11_cell_121 rfl (by decide) ?_
    refine aw_iload_n (n := 124) dX11_cell_123 rfl rfl ?_
    refine aw_iadd (n := 125) dX11_cell_124 rfl ?_
    refine aw_iaload (n := 126) 1155 dX11_cell_125 rfl (sf_11_6 ht) ?_
    exact aw_ireturn dX11_cell_126 rfl rfl
  · refine aw_aload_n (n := 128) dX11_cell_127 rfl rfl ?_
    refine aw_getR (n := 131) (RX11, TX11, 52) 11 6 dX11_cell_128 rfl ht (by decide) fd_RX11_33 ?_
    refine aw_sipush (n := 134) 227 dX11_cell_131 rfl (by decide) ?_
    refine aw_iload_n (n := 135) dX11_cell_134 rfl rfl ?_
    refine aw_iadd (n := 136) dX11_cell_135 rfl ?_
    refine aw_iaload (n := 137) 1155 dX11_cell_136 rfl (sf_11_6 ht) ?_
    exact aw_ireturn dX11_cell_137 rfl rfl
  · refine aw_aload_n (n := 139) dX11_cell_138 rfl rfl ?_
    refine aw_getR (n := 142) (RX11, TX11, 52) 11 6 dX11_cell_139 rfl ht (by decide) fd_RX11_33 ?_
    refine aw_sipush (n := 145) 327 dX11_cell_142 rfl (by decide) ?_
    refine aw_iload_n (n := 146) dX11_cell_145 rfl rfl ?_
    refine aw_iadd (n := 147) dX11_cell_146 rfl ?_
    refine aw_iaload (n := 148) 1155 dX11_cell_147 rfl (sf_11_6 ht) ?_
    exact aw_ireturn dX11_cell_148 rfl rfl
  · refine aw_aload_n (n := 150) dX11_cell_149 rfl rfl ?_
    refine aw_getR (n := 153) (RX11, TX11, 52) 11 6 dX11_cell_150 rfl ht (by decide) fd_RX11_33 ?_
    refine aw_sipush (n := 156) 814 dX11_cell_153 rfl (by decide) ?_
    refine aw_iload_n (n := 157) dX11_cell_156 rfl rfl ?_
    refine aw_iadd (n := 158) dX11_cell_157 rfl ?_
    refine aw_iaload (n := 159) 1155 dX11_cell_158 rfl (sf_11_6 ht) ?_
    exact aw_ireturn dX11_cell_159 rfl rfl
def f_X11_cell_64 (F : Nat) (t : Nat) (k36 : Int32 × Int32 × Int32 × Int32 × aw_M → Option (Int32 × aw_M)) (x1 : Int32) (x2 : Int32) (x3 : Int32) (x4 : Int32) (μ : aw_M) : Option (Int32 × aw_M) :=
  k36 (x1, x2, x3, (x4 + 1), μ)
theorem c_X11_cell_64 (l : Launch) (F : Nat) (t : Nat) (ht : (aw_sh t).1 = 16) (k36 : Int32 × Int32 × Int32 × Int32 × aw_M → Option (Int32 × aw_M)) (hk36 : ∀ s : Int32 × Int32 × Int32 × Int32 × aw_M, AW l k_X11_cell aw_gi 36 [some (.ref t), some (.int s.1), some (.int s.2.1), some (.int s.2.2.1), some (.int s.2.2.2.1)] [] s.2.2.2.2 (k36 s)) (x1 : Int32) (x2 : Int32) (x3 : Int32) (x4 : Int32) (μ : aw_M) : AW l k_X11_cell aw_gi 64 [some (.ref t), some (.int x1), some (.int x2), some (.int x3), some (.int x4)] [] μ (f_X11_cell_64 F t k36 x1 x2 x3 x4 μ) := by
  unfold f_X11_cell_64
  refine aw_iinc (n := 67) (x4 + 1) [some (.ref t), some (.int x1), some (.int x2), some (.int x3), some (.int (x4 + 1))] dX11_cell_64 rfl rfl (by rfl) rfl (Nat.le_of_ble_eq_true rfl) rfl ?_
  refine aw_goto 36 dX11_cell_67 (by decide) ?_
  exact aw_weak (hk36 (x1, x2, x3, (x4 + 1), μ)) (aw_ss (aw_ss (aw_ss (aw_ss (aw_ss aw_s0)))))
def f_X11_cell_36 (F : Nat) (t : Nat) (k36 : Int32 × Int32 × Int32 × Int32 × aw_M → Option (Int32 × aw_M)) (x1 : Int32) (x2 : Int32) (x3 : Int32) (x4 : Int32) (μ : aw_M) : Option (Int32 × aw_M) :=
  aw_g (aw_in 2 1155) ((if (μ.1 (aw_rf t 6) (2 : Int32).toNatClampNeg) ≤ x4 then
  f_X11_cell_70 F t x1 x2 x3 μ
  else
  aw_g (aw_in (11 + x4) 1155) ((if (μ.1 (aw_rf t 6) (11 + x4).toNatClampNeg) = x1 then
  f_X11_cell_64 F t k36 x1 x2 x4 x4 μ
  else
  f_X11_cell_64 F t k36 x1 x2 x3 x4 μ))))
theorem c_X11_cell_36 (l : Launch) (F : Nat) (t : Nat) (ht : (aw_sh t).1 = 16) : ∀ (N : Nat) (s : Int32 × Int32 × Int32 × Int32 × aw_M), AW l k_X11_cell aw_gi 36 [some (.ref t), some (.int s.1), some (.int s.2.1), some (.int s.2.2.1), some (.int s.2.2.2.1)] [] s.2.2.2.2 (aw_loop (fun k s => f_X11_cell_36 F t k s.1 s.2.1 s.2.2.1 s.2.2.2.1 s.2.2.2.2) N s) := by
  refine aw_loop_ok (f := fun k s => f_X11_cell_36 F t k s.1 s.2.1 s.2.2.1 s.2.2.2.1 s.2.2.2.2) (Ls := fun s => [some (.ref t), some (.int s.1), some (.int s.2.1), some (.int s.2.2.1), some (.int s.2.2.2.1)]) (ms := fun s => s.2.2.2.2) ?_
  intro k36 hk36 s
  obtain ⟨x1, x2, x3, x4, μ⟩ := s
  show AW l k_X11_cell aw_gi 36 [some (.ref t), some (.int x1), some (.int x2), some (.int x3), some (.int x4)] [] μ (f_X11_cell_36 F t k36 x1 x2 x3 x4 μ)
  unfold f_X11_cell_36
  refine aw_iload (n := 38) dX11_cell_36 rfl rfl ?_
  refine aw_aload_n (n := 39) dX11_cell_38 rfl rfl ?_
  refine aw_getR (n := 42) (RX11, TX11, 52) 11 6 dX11_cell_39 rfl ht (by decide) fd_RX11_33 ?_
  refine aw_iconst (n := 43) 2 dX11_cell_42 rfl (by decide) ?_
  refine aw_iaload (n := 44) 1155 dX11_cell_43 rfl (sf_11_6 ht) ?_
  refine aw_icmp_ge (n := 47) 70 dX11_cell_44 (by decide) rfl ?_ ?_
  · exact aw_weak (c_X11_cell_70 l F t ht x1 x2 x3 μ) (aw_ss (aw_ss (aw_ss (aw_ss (aw_sn aw_s0)))))
  · refine aw_aload_n (n := 48) dX11_cell_47 rfl rfl ?_
    refine aw_getR (n := 51) (RX11, TX11, 52) 11 6 dX11_cell_48 rfl ht (by decide) fd_RX11_33 ?_
    refine aw_bipush (n := 53) 11 dX11_cell_51 rfl (by decide) ?_
    refine aw_iload (n := 55) dX11_cell_53 rfl rfl ?_
    refine aw_iadd (n := 56) dX11_cell_55 rfl ?_
    refine aw_iaload (n := 57) 1155 dX11_cell_56 rfl (sf_11_6 ht) ?_
    refine aw_iload_n (n := 58) dX11_cell_57 rfl rfl ?_
    refine aw_icmp_ne (n := 61) 64 dX11_cell_58 (by decide) rfl ?_ ?_
    · exact aw_weak (c_X11_cell_64 l F t ht k36 hk36 x1 x2 x3 x4 μ) (aw_ss (aw_ss (aw_ss (aw_ss (aw_ss aw_s0)))))
    · refine aw_iload (n := 63) dX11_cell_61 rfl rfl ?_
      refine aw_istore_n (n := 64) [some (.ref t), some (.int x1), some (.int x2), some (.int x4), some (.int x4)] dX11_cell_63 rfl rfl (Nat.le_of_ble_eq_true rfl) (Nat.le_of_ble_eq_true rfl) rfl ?_
      exact aw_weak (c_X11_cell_64 l F t ht k36 hk36 x1 x2 x4 x4 μ) (aw_ss (aw_ss (aw_ss (aw_ss (aw_ss aw_s0)))))
def f_X11_cell_23 (F : Nat) (t : Nat) (x1 : Int32) (x2 : Int32) (z0 : Bool) (μ : aw_M) : Option (Int32 × aw_M) :=
  (f_X11_throwsIf F t (aw_b z0) μ).bind fun r8 =>
  (if r8.1 = true then
  some (0, r8.2)
  else
  aw_loop (fun k s => f_X11_cell_36 F t k s.1 s.2.1 s.2.2.1 s.2.2.2.1 s.2.2.2.2) F (x1, x2, (-1), 0, r8.2))
theorem c_X11_cell_23 (l : Launch) (F : Nat) (t : Nat) (ht : (aw_sh t).1 = 16) (x1 : Int32) (x2 : Int32) (z0 : Bool) (μ : aw_M) : AW l k_X11_cell aw_gi 23 [some (.ref t), some (.int x1), some (.int x2), none, none] [.int (aw_b z0), .ref t] μ (f_X11_cell_23 F t x1 x2 z0 μ) := by
  unfold f_X11_cell_23
  refine aw_callVz (n := 26) (as := [.int (aw_b z0)]) (st := []) (RX11, TX11, 52) 11 dX11_cell_23 rfl rfl (m_X11_throwsIf l F t ht (aw_b z0) μ) ht (by decide) rfl rfl cw_RX11_261 ⟨Nat.le_of_ble_eq_true rfl, Nat.le_of_ble_eq_true rfl⟩ (fun _ => Nat.le_of_ble_eq_true rfl) (fun r8 => ?_)
  refine aw_ifb_eq (n := 29) 31 dX11_cell_26 (by decide) rfl ?_ ?_
  · refine aw_iconst (n := 32) (-1) dX11_cell_31 rfl (by decide) ?_
    refine aw_istore_n (n := 33) [some (.ref t), some (.int x1), some (.int x2), some (.int (-1)), none] dX11_cell_32 rfl rfl (Nat.le_of_ble_eq_true rfl) (Nat.le_of_ble_eq_true rfl) rfl ?_
    refine aw_iconst (n := 34) 0 dX11_cell_33 rfl (by decide) ?_
    refine aw_istore (n := 36) [some (.ref t), some (.int x1), some (.int x2), some (.int (-1)), some (.int 0)] dX11_cell_34 rfl rfl (Nat.le_of_ble_eq_true rfl) (Nat.le_of_ble_eq_true rfl) rfl ?_
    exact aw_weak (c_X11_cell_36 l F t ht F (x1, x2, (-1), 0, r8.2)) (aw_ss (aw_ss (aw_ss (aw_ss (aw_ss aw_s0)))))
  · refine aw_iconst (n := 30) 0 dX11_cell_29 rfl (by decide) ?_
    exact aw_ireturn dX11_cell_30 rfl rfl
def f_X11_cell_18 (F : Nat) (t : Nat) (x1 : Int32) (x2 : Int32) (μ : aw_M) : Option (Int32 × aw_M) :=
  f_X11_cell_23 F t x1 x2 true μ
theorem c_X11_cell_18 (l : Launch) (F : Nat) (t : Nat) (ht : (aw_sh t).1 = 16) (x1 : Int32) (x2 : Int32) (μ : aw_M) : AW l k_X11_cell aw_gi 18 [some (.ref t), some (.int x1), some (.int x2), none, none] [.ref t] μ (f_X11_cell_18 F t x1 x2 μ) := by
  unfold f_X11_cell_18
  refine aw_iconst (n := 19) 1 dX11_cell_18 rfl (by decide) ?_
  refine aw_goto 23 dX11_cell_19 (by decide) ?_
  exact aw_weak (c_X11_cell_23 l F t ht x1 x2 true μ) (aw_ss (aw_ss (aw_ss (aw_sn (aw_sn aw_s0)))))
def f_X11_cell (F : Nat) (t : Nat) (a0 : Int32) (a1 : Int32) (μ : aw_M) : Option (Int32 × aw_M) :=
  (f_X11_isCell F t a0 μ).bind fun r7 =>
  (if r7.1 = true then
  (f_X11_isIn F a1 0 5 r7.2).bind fun r9 =>
  (if r9.1 = true then
  f_X11_cell_23 F t a0 a1 false r9.2
  else
  f_X11_cell_18 F t a0 a1 r9.2)
  else
  f_X11_cell_18 F t a0 a1 r7.2)
theorem m_X11_cell (l : Launch) (F : Nat) (t : Nat) (ht : (aw_sh t).1 = 16) (a0 : Int32) (a1 : Int32) (μ : aw_M) : AM l yX11_cell cX11_cell 5 (some .int) 2 142 aw_gi [.ref t, .int a0, .int a1] μ (f_X11_cell F t a0 a1 μ) := by
  refine aw_met [some (.ref t), some (.int a0), some (.int a1), none, none] (by decide) (fun _ => rfl) (fun _ => Nat.le_of_ble_eq_true rfl) ?_
  show AW l k_X11_cell aw_gi 0 [some (.ref t), some (.int a0), some (.int a1), none, none] [] μ _
  unfold f_X11_cell
  refine aw_aload_n (n := 1) dX11_cell_0 rfl rfl ?_
  refine aw_aload_n (n := 2) dX11_cell_1 rfl rfl ?_
  refine aw_iload_n (n := 3) dX11_cell_2 rfl rfl ?_
  refine aw_callVz (n := 6) (as := [.int a0]) (st := [.ref t]) (RX11, TX11, 52) 11 dX11_cell_3 rfl rfl (m_X11_isCell l F t ht a0 μ) ht (by decide) rfl rfl cw_RX11_271 ⟨Nat.le_of_ble_eq_true rfl, Nat.le_of_ble_eq_true rfl⟩ (fun _ => Nat.le_of_ble_eq_true rfl) (fun r7 => ?_)
  refine aw_ifb_eq (n := 9) 18 dX11_cell_6 (by decide) rfl ?_ ?_
  · exact aw_weak (c_X11_cell_18 l F t ht a0 a1 r7.2) (aw_ss (aw_ss (aw_ss (aw_sn (aw_sn aw_s0)))))
  · refine aw_iload_n (n := 10) dX11_cell_9 rfl rfl ?_
    refine aw_iconst (n := 11) 0 dX11_cell_10 rfl (by decide) ?_
    refine aw_iconst (n := 12) 5 dX11_cell_11 rfl (by decide) ?_
    refine aw_callSz (n := 15) (as := [.int a1, .int 0, .int 5]) (st := [.ref t]) dX11_cell_12 rfl rfl (m_X11_isIn l F a1 0 5 r7.2) cw_RX11_194 ⟨Nat.le_of_ble_eq_true rfl, Nat.le_of_ble_eq_true rfl⟩ (fun _ => Nat.le_of_ble_eq_true rfl) (fun r9 => ?_)
    refine aw_ifb_ne (n := 18) 22 dX11_cell_15 (by decide) rfl ?_ ?_
    · refine aw_iconst (n := 23) 0 dX11_cell_22 rfl (by decide) ?_
      exact aw_weak (c_X11_cell_23 l F t ht a0 a1 false r9.2) (aw_ss (aw_ss (aw_ss (aw_sn (aw_sn aw_s0)))))
    · exact aw_weak (c_X11_cell_18 l F t ht a0 a1 r9.2) (aw_ss (aw_ss (aw_ss (aw_sn (aw_sn aw_s0)))))
abbrev k_X11_draw : aw_K := (RX11, cX11_draw, 2, (some .int), 1, 120)
def f_X11_draw (F : Nat) (t : Nat) (a0 : Int32) (μ : aw_M) : Option (Int32 × aw_M) :=
  aw_g (aw_in 457 1155) (aw_g (aw_in 457 1155) (aw_let (aw_wI μ (aw_rf t 6) (457 : Int32).toNatClampNeg (((μ.1 (aw_rf t 6) (457 : Int32).toNatClampNeg) * 1103515245) + 12345)) fun μ1 =>
  aw_g (aw_in 457 1155) (aw_g (aw_nz a0) (some ((((((μ1.1 (aw_rf t 6) (457 : Int32).toNatClampNeg)).toUInt32 >>> ((8 : Int32).toUInt32 &&& Int32.toUInt32 31)).toInt32) - ((((μ1.1 (aw_rf t 6) (457 : Int32).toNatClampNeg)).toUInt32 >>> ((8 : Int32).toUInt32 &&& Int32.toUInt32 31)).toInt32) / a0 * a0), μ1)))))
theorem m_X11_draw (l : Launch) (F : Nat) (t : Nat) (ht : (aw_sh t).1 = 16) (a0 : Int32) (μ : aw_M) : AM l yX11_draw cX11_draw 2 (some .int) 1 120 aw_gi [.ref t, .int a0] μ (f_X11_draw F t a0 μ) := by
  refine aw_met [some (.ref t), some (.int a0)] (by decide) (fun _ => rfl) (fun _ => Nat.le_of_ble_eq_true rfl) ?_
  show AW l k_X11_draw aw_gi 0 [some (.ref t), some (.int a0)] [] μ _
  unfold f_X11_draw
  refine aw_aload_n (n := 1) dX11_draw_0 rfl rfl ?_
  refine aw_getR (n := 4) (RX11, TX11, 52) 11 6 dX11_draw_1 rfl ht (by decide) fd_RX11_33 ?_
  refine aw_sipush (n := 7) 457 dX11_draw_4 rfl (by decide) ?_
  refine aw_aload_n (n := 8) dX11_draw_7 rfl rfl ?_
  refine aw_getR (n := 11) (RX11, TX11, 52) 11 6 dX11_draw_8 rfl ht (by decide) fd_RX11_33 ?_
  refine aw_sipush (n := 14) 457 dX11_draw_11 rfl (by decide) ?_
  refine aw_iaload (n := 15) 1155 dX11_draw_14 rfl (sf_11_6 ht) ?_
  refine aw_ldcw (n := 18) dX11_draw_15 rfl tb_1802 ?_
  refine aw_imul (n := 19) dX11_draw_18 rfl ?_
  refine aw_sipush (n := 22) 12345 dX11_draw_19 rfl (by decide) ?_
  refine aw_iadd (n := 23) dX11_draw_22 rfl ?_
  refine aw_iastore (n := 24) 1155 dX11_draw_23 rfl (sf_11_6 ht) (fun μ1 => ?_)
  refine aw_aload_n (n := 25) dX11_draw_24 rfl rfl ?_
  refine aw_getR (n := 28) (RX11, TX11, 52) 11 6 dX11_draw_25 rfl ht (by decide) fd_RX11_33 ?_
  refine aw_sipush (n := 31) 457 dX11_draw_28 rfl (by decide) ?_
  refine aw_iaload (n := 32) 1155 dX11_draw_31 rfl (sf_11_6 ht) ?_
  refine aw_bipush (n := 34) 8 dX11_draw_32 rfl (by decide) ?_
  refine aw_iushr (n := 35) dX11_draw_34 rfl ?_
  refine aw_iload_n (n := 36) dX11_draw_35 rfl rfl ?_
  refine aw_irem (n := 37) dX11_draw_36 rfl ?_
  exact aw_ireturn dX11_draw_37 rfl rfl
abbrev k_X11_begin : aw_K := (RX11, cX11_begin, 2, none, 3, 164)
def f_X11_begin (F : Nat) (t : Nat) (a0 : Int32) (μ : aw_M) : Option (aw_M) :=
  aw_let (aw_wI μ t 0 0) fun μ1 =>
  (f_X11_begins F t a0 μ1).bind fun r2 =>
  some r2
theorem m_X11_begin (l : Launch) (F : Nat) (t : Nat) (ht : (aw_sh t).1 = 16) (a0 : Int32) (μ : aw_M) : AM l yX11_begin cX11_begin 2 none 3 164 aw_gv [.ref t, .int a0] μ (f_X11_begin F t a0 μ) := by
  refine aw_met [some (.ref t), some (.int a0)] (by decide) (fun _ => rfl) (fun _ => Nat.le_of_ble_eq_true rfl) ?_
  show AW l k_X11_begin aw_gv 0 [some (.ref t), some (.int a0)] [] μ _
  unfold f_X11_begin
  refine aw_aload_n (n := 1) dX11_begin_0 rfl rfl ?_
  refine aw_iconst (n := 2) 0 dX11_begin_1 rfl (by decide) ?_
  refine aw_putI (n := 5) (RX11, TX11, 52) 11 0 dX11_begin_2 rfl ht (by decide) fp_RX11_1 (fun μ1 => ?_)
  refine aw_aload_n (n := 6) dX11_begin_5 rfl rfl ?_
  refine aw_iload_n (n := 7) dX11_begin_6 rfl rfl ?_
  refine aw_callVv (n := 10) (as := [.int a0]) (st := []) (RX11, TX11, 52) 11 dX11_begin_7 rfl rfl (m_X11_begins l F t ht a0 μ1) ht (by decide) rfl rfl cw_RX11_248 ⟨Nat.le_of_ble_eq_true rfl, Nat.le_of_ble_eq_true rfl⟩ (fun _ => Nat.le_of_ble_eq_true rfl) (fun r2 => ?_)
  exact aw_vreturn dX11_begin_10 rfl rfl
abbrev k_X11_aimed : aw_K := (RX11, cX11_aimed, 6, (some .int), 3, 164)
def f_X11_aimed_158 (F : Nat) (t : Nat) (k33 : Int32 × Int32 × Int32 × Int32 × aw_M → Option (Int32 × aw_M)) (x1 : Int32) (x2 : Int32) (x3 : Int32) (x4 : Int32) (μ : aw_M) : Option (Int32 × aw_M) :=
  k33 (x1, x2, x3, (x4 + 1), μ)
theorem c_X11_aimed_158 (l : Launch) (F : Nat) (t : Nat) (ht : (aw_sh t).1 = 16) (k33 : Int32 × Int32 × Int32 × Int32 × aw_M → Option (Int32 × aw_M)) (hk33 : ∀ s : Int32 × Int32 × Int32 × Int32 × aw_M, AW l k_X11_aimed aw_gi 33 [some (.ref t), some (.int s.1), some (.int s.2.1), some (.int s.2.2.1), some (.int s.2.2.2.1), none] [] s.2.2.2.2 (k33 s)) (x1 : Int32) (x2 : Int32) (x3 : Int32) (x4 : Int32) (μ : aw_M) : AW l k_X11_aimed aw_gi 158 [some (.ref t), some (.int x1), some (.int x2), some (.int x3), some (.int x4), none] [] μ (f_X11_aimed_158 F t k33 x1 x2 x3 x4 μ) := by
  unfold f_X11_aimed_158
  refine aw_iinc (n := 161) (x4 + 1) [some (.ref t), some (.int x1), some (.int x2), some (.int x3), some (.int (x4 + 1)), none] dX11_aimed_158 rfl rfl (by rfl) rfl (Nat.le_of_ble_eq_true rfl) rfl ?_
  refine aw_goto 33 dX11_aimed_161 (by decide) ?_
  exact aw_weak (hk33 (x1, x2, x3, (x4 + 1), μ)) (aw_ss (aw_ss (aw_ss (aw_ss (aw_ss (aw_sn aw_s0))))))
def f_X11_aimed_155 (F : Nat) (t : Nat) (k33 : Int32 × Int32 × Int32 × Int32 × aw_M → Option (Int32 × aw_M)) (x1 : Int32) (x2 : Int32) (x4 : Int32) (μ : aw_M) : Option (Int32 × aw_M) :=
  f_X11_aimed_158 F t k33 x1 x2 x4 x4 μ
theorem c_X11_aimed_155 (l : Launch) (F : Nat) (t : Nat) (ht : (aw_sh t).1 = 16) (k33 : Int32 × Int32 × Int32 × Int32 × aw_M → Option (Int32 × aw_M)) (hk33 : ∀ s : Int32 × Int32 × Int32 × Int32 × aw_M, AW l k_X11_aimed aw_gi 33 [some (.ref t), some (.int s.1), some (.int s.2.1), some (.int s.2.2.1), some (.int s.2.2.2.1), none] [] s.2.2.2.2 (k33 s)) (x1 : Int32) (x2 : Int32) (x4 : Int32) (μ : aw_M) : AW l k_X11_aimed aw_gi 155 [some (.ref t), some (.int x1), some (.int x2), none, some (.int x4), none] [] μ (f_X11_aimed_155 F t k33 x1 x2 x4 μ) := by
  unfold f_X11_aimed_155
  refine aw_iload (n := 157) dX11_aimed_155 rfl rfl ?_
  refine aw_istore_n (n := 158) [some (.ref t), some (.int x1), some (.int x2), some (.int x4), some (.int x4), none] dX11_aimed_157 rfl rfl (Nat.le_of_ble_eq_true rfl) (Nat.le_of_ble_eq_true rfl) rfl ?_
  exact aw_weak (c_X11_aimed_158 l F t ht k33 hk33 x1 x2 x4 x4 μ) (aw_ss (aw_ss (aw_ss (aw_ss (aw_ss (aw_sn aw_s0))))))
def f_X11_aimed_33 (F : Nat) (t : Nat) (k33 : Int32 × Int32 × Int32 × Int32 × aw_M → Option (Int32 × aw_M)) (x1 : Int32) (x2 : Int32) (x3 : Int32) (x4 : Int32) (μ : aw_M) : Option (Int32 × aw_M) :=
  aw_g (aw_in 3 1155) ((if (μ.1 (aw_rf t 6) (3 : Int32).toNatClampNeg) ≤ x4 then
  some (x3, μ)
  else
  aw_g (aw_in (11 + x1) 1155) (aw_g (aw_in (67 + x4) 1155) ((f_X11_apart F (μ.1 (aw_rf t 6) (11 + x1).toNatClampNeg) (μ.1 (aw_rf t 6) (67 + x4).toNatClampNeg) μ).bind fun r7 =>
  (f_X11_isThere F t x4 x2 r7.2).bind fun r8 =>
  (if r8.1 = true then
  aw_g (aw_in (427 + x1) 1155) ((if (r8.2.1 (aw_rf t 6) (427 + x1).toNatClampNeg) ≤ r7.1 then
  f_X11_aimed_158 F t k33 x1 x2 x3 x4 r8.2
  else
  aw_g (aw_in ((494 + (20 * x1)) + x4) 1155) (aw_g (aw_in (436 + x1) 1155) ((if (r8.2.1 (aw_rf t 6) ((494 + (20 * x1)) + x4).toNatClampNeg) < (r8.2.1 (aw_rf t 6) (436 + x1).toNatClampNeg) then
  (if x3 < 0 then
  f_X11_aimed_155 F t k33 x1 x2 x4 r8.2
  else
  aw_g (aw_in (11 + x1) 1155) (aw_g (aw_in (67 + x3) 1155) ((f_X11_apart F (r8.2.1 (aw_rf t 6) (11 + x1).toNatClampNeg) (r8.2.1 (aw_rf t 6) (67 + x3).toNatClampNeg) r8.2).bind fun r9 =>
  (if r9.1 ≤ r7.1 then
  f_X11_aimed_158 F t k33 x1 x2 x3 x4 r9.2
  else
  f_X11_aimed_155 F t k33 x1 x2 x4 r9.2))))
  else
  f_X11_aimed_158 F t k33 x1 x2 x3 x4 r8.2)))))
  else
  f_X11_aimed_158 F t k33 x1 x2 x3 x4 r8.2)))))
theorem c_X11_aimed_33 (l : Launch) (F : Nat) (t : Nat) (ht : (aw_sh t).1 = 16) : ∀ (N : Nat) (s : Int32 × Int32 × Int32 × Int32 × aw_M), AW l k_X11_aimed aw_gi 33 [some (.ref t), some (.int s.1), some (.int s.2.1), some (.int s.2.2.1), some (.int s.2.2.2.1), none] [] s.2.2.2.2 (aw_loop (fun k s => f_X11_aimed_33 F t k s.1 s.2.1 s.2.2.1 s.2.2.2.1 s.2.2.2.2) N s) := by
  refine aw_loop_ok (f := fun k s => f_X11_aimed_33 F t k s.1 s.2.1 s.2.2.1 s.2.2.2.1 s.2.2.2.2) (Ls := fun s => [some (.ref t), some (.int s.1), some (.int s.2.1), some (.int s.2.2.1), some (.int s.2.2.2.1), none]) (ms := fun s => s.2.2.2.2) ?_
  intro k33 hk33 s
  obtain ⟨x1, x2, x3, x4, μ⟩ := s
  show AW l k_X11_aimed aw_gi 33 [some (.ref t), some (.int x1), some (.int x2), some (.int x3), some (.int x4), none] [] μ (f_X11_aimed_33 F t k33 x1 x2 x3 x4 μ)
  unfold f_X11_aimed_33
  refine aw_iload (n := 35) dX11_aimed_33 rfl rfl ?_
  refine aw_aload_n (n := 36) dX11_aimed_35 rfl rfl ?_
  refine aw_getR (n := 39) (RX11, TX11, 52) 11 6 dX11_aimed_36 rfl ht (by decide) fd_RX11_33 ?_
  refine aw_iconst (n := 40) 3 dX11_aimed_39 rfl (by decide) ?_
  refine aw_iaload (n := 41) 1155 dX11_aimed_40 rfl (sf_11_6 ht) ?_
  refine aw_icmp_ge (n := 44) 164 dX11_aimed_41 (by decide) rfl ?_ ?_
  · refine aw_iload_n (n := 165) dX11_aimed_164 rfl rfl ?_
    exact aw_ireturn dX11_aimed_165 rfl rfl
  · refine aw_aload_n (n := 45) dX11_aimed_44 rfl rfl ?_
    refine aw_getR (n := 48) (RX11, TX11, 52) 11 6 dX11_aimed_45 rfl ht (by decide) fd_RX11_33 ?_
    refine aw_bipush (n := 50) 11 dX11_aimed_48 rfl (by decide) ?_
    refine aw_iload_n (n := 51) dX11_aimed_50 rfl rfl ?_
    refine aw_iadd (n := 52) dX11_aimed_51 rfl ?_
    refine aw_iaload (n := 53) 1155 dX11_aimed_52 rfl (sf_11_6 ht) ?_
    refine aw_aload_n (n := 54) dX11_aimed_53 rfl rfl ?_
    refine aw_getR (n := 57) (RX11, TX11, 52) 11 6 dX11_aimed_54 rfl ht (by decide) fd_RX11_33 ?_
    refine aw_bipush (n := 59) 67 dX11_aimed_57 rfl (by decide) ?_
    refine aw_iload (n := 61) dX11_aimed_59 rfl rfl ?_
    refine aw_iadd (n := 62) dX11_aimed_61 rfl ?_
    refine aw_iaload (n := 63) 1155 dX11_aimed_62 rfl (sf_11_6 ht) ?_
    refine aw_callSi (n := 66) (as := [.int (μ.1 (aw_rf t 6) (11 + x1).toNatClampNeg), .int (μ.1 (aw_rf t 6) (67 + x4).toNatClampNeg)]) (st := []) dX11_aimed_63 rfl rfl (m_X11_apart l F (μ.1 (aw_rf t 6) (11 + x1).toNatClampNeg) (μ.1 (aw_rf t 6) (67 + x4).toNatClampNeg) μ) cw_RX11_278 ⟨Nat.le_of_ble_eq_true rfl, Nat.le_of_ble_eq_true rfl⟩ (fun _ => Nat.le_of_ble_eq_true rfl) (fun r7 => ?_)
    refine aw_istore (n := 68) [some (.ref t), some (.int x1), some (.int x2), some (.int x3), some (.int x4), some (.int r7.1)] dX11_aimed_66 rfl rfl (Nat.le_of_ble_eq_true rfl) (Nat.le_of_ble_eq_true rfl) rfl ?_
    refine aw_aload_n (n := 69) dX11_aimed_68 rfl rfl ?_
    refine aw_iload (n := 71) dX11_aimed_69 rfl rfl ?_
    refine aw_iload_n (n := 72) dX11_aimed_71 rfl rfl ?_
    refine aw_callVz (n := 75) (as := [.int x4, .int x2]) (st := []) (RX11, TX11, 52) 11 dX11_aimed_72 rfl rfl (m_X11_isThere l F t ht x4 x2 r7.2) ht (by decide) rfl rfl cw_RX11_268 ⟨Nat.le_of_ble_eq_true rfl, Nat.le_of_ble_eq_true rfl⟩ (fun _ => Nat.le_of_ble_eq_true rfl) (fun r8 => ?_)
    refine aw_ifb_eq (n := 78) 158 dX11_aimed_75 (by decide) rfl ?_ ?_
    · exact aw_weak (c_X11_aimed_158 l F t ht k33 hk33 x1 x2 x3 x4 r8.2) (aw_ss (aw_ss (aw_ss (aw_ss (aw_ss (aw_sn aw_s0))))))
    · refine aw_iload (n := 80) dX11_aimed_78 rfl rfl ?_
      refine aw_aload_n (n := 81) dX11_aimed_80 rfl rfl ?_
      refine aw_getR (n := 84) (RX11, TX11, 52) 11 6 dX11_aimed_81 rfl ht (by decide) fd_RX11_33 ?_
      refine aw_sipush (n := 87) 427 dX11_aimed_84 rfl (by decide) ?_
      refine aw_iload_n (n := 88) dX11_aimed_87 rfl rfl ?_
      refine aw_iadd (n := 89) dX11_aimed_88 rfl ?_
      refine aw_iaload (n := 90) 1155 dX11_aimed_89 rfl (sf_11_6 ht) ?_
      refine aw_icmp_ge (n := 93) 158 dX11_aimed_90 (by decide) rfl ?_ ?_
      · exact aw_weak (c_X11_aimed_158 l F t ht k33 hk33 x1 x2 x3 x4 r8.2) (aw_ss (aw_ss (aw_ss (aw_ss (aw_ss (aw_sn aw_s0))))))
      · refine aw_aload_n (n := 94) dX11_aimed_93 rfl rfl ?_
        refine aw_getR (n := 97) (RX11, TX11, 52) 11 6 dX11_aimed_94 rfl ht (by decide) fd_RX11_33 ?_
        refine aw_sipush (n := 100) 494 dX11_aimed_97 rfl (by decide) ?_
        refine aw_bipush (n := 102) 20 dX11_aimed_100 rfl (by decide) ?_
        refine aw_iload_n (n := 103) dX11_aimed_102 rfl rfl ?_
        refine aw_imul (n := 104) dX11_aimed_103 rfl ?_
        refine aw_iadd (n := 105) dX11_aimed_104 rfl ?_
        refine aw_iload (n := 107) dX11_aimed_105 rfl rfl ?_
        refine aw_iadd (n := 108) dX11_aimed_107 rfl ?_
        refine aw_iaload (n := 109) 1155 dX11_aimed_108 rfl (sf_11_6 ht) ?_
        refine aw_aload_n (n := 110) dX11_aimed_109 rfl rfl ?_
        refine aw_getR (n := 113) (RX11, TX11, 52) 11 6 dX11_aimed_110 rfl ht (by decide) fd_RX11_33 ?_
        refine aw_sipush (n := 116) 436 dX11_aimed_113 rfl (by decide) ?_
        refine aw_iload_n (n := 117) dX11_aimed_116 rfl rfl ?_
        refine aw_iadd (n := 118) dX11_aimed_117 rfl ?_
        refine aw_iaload (n := 119) 1155 dX11_aimed_118 rfl (sf_11_6 ht) ?_
        refine aw_icmp_lt (n := 122) 125 dX11_aimed_119 (by decide) rfl ?_ ?_
        · refine aw_iload_n (n := 126) dX11_aimed_125 rfl rfl ?_
          refine aw_if_lt (n := 129) 155 dX11_aimed_126 (by decide) rfl ?_ ?_
          · exact aw_weak (c_X11_aimed_155 l F t ht k33 hk33 x1 x2 x4 r8.2) (aw_ss (aw_ss (aw_ss (aw_sn (aw_ss (aw_sn aw_s0))))))
          · refine aw_iload (n := 131) dX11_aimed_129 rfl rfl ?_
            refine aw_aload_n (n := 132) dX11_aimed_131 rfl rfl ?_
            refine aw_getR (n := 135) (RX11, TX11, 52) 11 6 dX11_aimed_132 rfl ht (by decide) fd_RX11_33 ?_
            refine aw_bipush (n := 137) 11 dX11_aimed_135 rfl (by decide) ?_
            refine aw_iload_n (n := 138) dX11_aimed_137 rfl rfl ?_
            refine aw_iadd (n := 139) dX11_aimed_138 rfl ?_
            refine aw_iaload (n := 140) 1155 dX11_aimed_139 rfl (sf_11_6 ht) ?_
            refine aw_aload_n (n := 141) dX11_aimed_140 rfl rfl ?_
            refine aw_getR (n := 144) (RX11, TX11, 52) 11 6 dX11_aimed_141 rfl ht (by decide) fd_RX11_33 ?_
            refine aw_bipush (n := 146) 67 dX11_aimed_144 rfl (by decide) ?_
            refine aw_iload_n (n := 147) dX11_aimed_146 rfl rfl ?_
            refine aw_iadd (n := 148) dX11_aimed_147 rfl ?_
            refine aw_iaload (n := 149) 1155 dX11_aimed_148 rfl (sf_11_6 ht) ?_
            refine aw_callSi (n := 152) (as := [.int (r8.2.1 (aw_rf t 6) (11 + x1).toNatClampNeg), .int (r8.2.1 (aw_rf t 6) (67 + x3).toNatClampNeg)]) (st := [.int r7.1]) dX11_aimed_149 rfl rfl (m_X11_apart l F (r8.2.1 (aw_rf t 6) (11 + x1).toNatClampNeg) (r8.2.1 (aw_rf t 6) (67 + x3).toNatClampNeg) r8.2) cw_RX11_278 ⟨Nat.le_of_ble_eq_true rfl, Nat.le_of_ble_eq_true rfl⟩ (fun _ => Nat.le_of_ble_eq_true rfl) (fun r9 => ?_)
            refine aw_icmp_ge (n := 155) 158 dX11_aimed_152 (by decide) rfl ?_ ?_
            · exact aw_weak (c_X11_aimed_158 l F t ht k33 hk33 x1 x2 x3 x4 r9.2) (aw_ss (aw_ss (aw_ss (aw_ss (aw_ss (aw_sn aw_s0))))))
            · exact aw_weak (c_X11_aimed_155 l F t ht k33 hk33 x1 x2 x4 r9.2) (aw_ss (aw_ss (aw_ss (aw_sn (aw_ss (aw_sn aw_s0))))))
        · refine aw_goto 158 dX11_aimed_122 (by decide) ?_
          exact aw_weak (c_X11_aimed_158 l F t ht k33 hk33 x1 x2 x3 x4 r8.2) (aw_ss (aw_ss (aw_ss (aw_ss (aw_ss (aw_sn aw_s0))))))
def f_X11_aimed (F : Nat) (t : Nat) (a0 : Int32) (a1 : Int32) (μ : aw_M) : Option (Int32 × aw_M) :=
  aw_g (aw_in (427 + a0) 1155) ((if (μ.1 (aw_rf t 6) (427 + a0).toNatClampNeg) = 0 then
  some ((-1), μ)
  else
  aw_g (aw_in (458 + a0) 1155) ((if (μ.1 (aw_rf t 6) (458 + a0).toNatClampNeg) = 0 then
  some ((-1), μ)
  else
  aw_loop (fun k s => f_X11_aimed_33 F t k s.1 s.2.1 s.2.2.1 s.2.2.2.1 s.2.2.2.2) F (a0, a1, (-1), 0, μ)))))
theorem m_X11_aimed (l : Launch) (F : Nat) (t : Nat) (ht : (aw_sh t).1 = 16) (a0 : Int32) (a1 : Int32) (μ : aw_M) : AM l yX11_aimed cX11_aimed 6 (some .int) 3 164 aw_gi [.ref t, .int a0, .int a1] μ (f_X11_aimed F t a0 a1 μ) := by
  refine aw_met [some (.ref t), some (.int a0), some (.int a1), none, none, none] (by decide) (fun _ => rfl) (fun _ => Nat.le_of_ble_eq_true rfl) ?_
  show AW l k_X11_aimed aw_gi 0 [some (.ref t), some (.int a0), some (.int a1), none, none, none] [] μ _
  unfold f_X11_aimed
  refine aw_iconst (n := 1) (-1) dX11_aimed_0 rfl (by decide) ?_
  refine aw_istore_n (n := 2) [some (.ref t), some (.int a0), some (.int a1), some (.int (-1)), none, none] dX11_aimed_1 rfl rfl (Nat.le_of_ble_eq_true rfl) (Nat.le_of_ble_eq_true rfl) rfl ?_
  refine aw_aload_n (n := 3) dX11_aimed_2 rfl rfl ?_
  refine aw_getR (n := 6) (RX11, TX11, 52) 11 6 dX11_aimed_3 rfl ht (by decide) fd_RX11_33 ?_
  refine aw_sipush (n := 9) 427 dX11_aimed_6 rfl (by decide) ?_
  refine aw_iload_n (n := 10) dX11_aimed_9 rfl rfl ?_
  refine aw_iadd (n := 11) dX11_aimed_10 rfl ?_
  refine aw_iaload (n := 12) 1155 dX11_aimed_11 rfl (sf_11_6 ht) ?_
  refine aw_if_eq (n := 15) 28 dX11_aimed_12 (by decide) rfl ?_ ?_
  · refine aw_iconst (n := 29) (-1) dX11_aimed_28 rfl (by decide) ?_
    exact aw_ireturn dX11_aimed_29 rfl rfl
  · refine aw_aload_n (n := 16) dX11_aimed_15 rfl rfl ?_
    refine aw_getR (n := 19) (RX11, TX11, 52) 11 6 dX11_aimed_16 rfl ht (by decide) fd_RX11_33 ?_
    refine aw_sipush (n := 22) 458 dX11_aimed_19 rfl (by decide) ?_
    refine aw_iload_n (n := 23) dX11_aimed_22 rfl rfl ?_
    refine aw_iadd (n := 24) dX11_aimed_23 rfl ?_
    refine aw_iaload (n := 25) 1155 dX11_aimed_24 rfl (sf_11_6 ht) ?_
    refine aw_if_ne (n := 28) 30 dX11_aimed_25 (by decide) rfl ?_ ?_
    · refine aw_iconst (n := 31) 0 dX11_aimed_30 rfl (by decide) ?_
      refine aw_istore (n := 33) [some (.ref t), some (.int a0), some (.int a1), some (.int (-1)), some (.int 0), none] dX11_aimed_31 rfl rfl (Nat.le_of_ble_eq_true rfl) (Nat.le_of_ble_eq_true rfl) rfl ?_
      exact aw_weak (c_X11_aimed_33 l F t ht F (a0, a1, (-1), 0, μ)) (aw_ss (aw_ss (aw_ss (aw_ss (aw_ss (aw_sn aw_s0))))))
    · refine aw_iconst (n := 29) (-1) dX11_aimed_28 rfl (by decide) ?_
      exact aw_ireturn dX11_aimed_29 rfl rfl
abbrev k_X11_besides : aw_K := (RX11, cX11_besides, 5, (some .int), 2, 142)
def f_X11_besides_47 (F : Nat) (t : Nat) (x3 : Int32) (z0 : Int32) (z1 : Int32) (μ : aw_M) : Option (Int32 × aw_M) :=
  aw_let ((z1 + z0)) fun v6 =>
  aw_g (aw_in 0 1155) ((f_X11_isIn F x3 0 ((μ.1 (aw_rf t 6) (0 : Int32).toNatClampNeg) - 1) μ).bind fun r7 =>
  (if r7.1 = true then
  aw_g (aw_in 1 1155) ((f_X11_isIn F v6 0 ((r7.2.1 (aw_rf t 6) (1 : Int32).toNatClampNeg) - 1) r7.2).bind fun r8 =>
  (if r8.1 = true then
  some (((10 * v6) + x3), r8.2)
  else
  some ((-1), r8.2)))
  else
  some ((-1), r7.2)))
theorem c_X11_besides_47 (l : Launch) (F : Nat) (t : Nat) (ht : (aw_sh t).1 = 16) (x3 : Int32) (z0 : Int32) (z1 : Int32) (μ : aw_M) : AW l k_X11_besides aw_gi 47 [some (.ref t), none, none, some (.int x3), none] [.int z0, .int z1] μ (f_X11_besides_47 F t x3 z0 z1 μ) := by
  unfold f_X11_besides_47
  refine aw_iadd (n := 48) dX11_besides_47 rfl ?_
  refine aw_nmI (fun v6 => ?_)
  refine aw_istore (n := 50) [some (.ref t), none, none, some (.int x3), some (.int v6)] dX11_besides_48 rfl rfl (Nat.le_of_ble_eq_true rfl) (Nat.le_of_ble_eq_true rfl) rfl ?_
  refine aw_iload_n (n := 51) dX11_besides_50 rfl rfl ?_
  refine aw_iconst (n := 52) 0 dX11_besides_51 rfl (by decide) ?_
  refine aw_aload_n (n := 53) dX11_besides_52 rfl rfl ?_
  refine aw_getR (n := 56) (RX11, TX11, 52) 11 6 dX11_besides_53 rfl ht (by decide) fd_RX11_33 ?_
  refine aw_iconst (n := 57) 0 dX11_besides_56 rfl (by decide) ?_
  refine aw_iaload (n := 58) 1155 dX11_besides_57 rfl (sf_11_6 ht) ?_
  refine aw_iconst (n := 59) 1 dX11_besides_58 rfl (by decide) ?_
  refine aw_isub (n := 60) dX11_besides_59 rfl ?_
  refine aw_callSz (n := 63) (as := [.int x3, .int 0, .int ((μ.1 (aw_rf t 6) (0 : Int32).toNatClampNeg) - 1)]) (st := []) dX11_besides_60 rfl rfl (m_X11_isIn l F x3 0 ((μ.1 (aw_rf t 6) (0 : Int32).toNatClampNeg) - 1) μ) cw_RX11_194 ⟨Nat.le_of_ble_eq_true rfl, Nat.le_of_ble_eq_true rfl⟩ (fun _ => Nat.le_of_ble_eq_true rfl) (fun r7 => ?_)
  refine aw_ifb_eq (n := 66) 93 dX11_besides_63 (by decide) rfl ?_ ?_
  · refine aw_iconst (n := 94) (-1) dX11_besides_93 rfl (by decide) ?_
    exact aw_ireturn dX11_besides_94 rfl rfl
  · refine aw_iload (n := 68) dX11_besides_66 rfl rfl ?_
    refine aw_iconst (n := 69) 0 dX11_besides_68 rfl (by decide) ?_
    refine aw_aload_n (n := 70) dX11_besides_69 rfl rfl ?_
    refine aw_getR (n := 73) (RX11, TX11, 52) 11 6 dX11_besides_70 rfl ht (by decide) fd_RX11_33 ?_
    refine aw_iconst (n := 74) 1 dX11_besides_73 rfl (by decide) ?_
    refine aw_iaload (n := 75) 1155 dX11_besides_74 rfl (sf_11_6 ht) ?_
    refine aw_iconst (n := 76) 1 dX11_besides_75 rfl (by decide) ?_
    refine aw_isub (n := 77) dX11_besides_76 rfl ?_
    refine aw_callSz (n := 80) (as := [.int v6, .int 0, .int ((r7.2.1 (aw_rf t 6) (1 : Int32).toNatClampNeg) - 1)]) (st := []) dX11_besides_77 rfl rfl (m_X11_isIn l F v6 0 ((r7.2.1 (aw_rf t 6) (1 : Int32).toNatClampNeg) - 1) r7.2) cw_RX11_194 ⟨Nat.le_of_ble_eq_true rfl, Nat.le_of_ble_eq_true rfl⟩ (fun _ => Nat.le_of_ble_eq_true rfl) (fun r8 => ?_)
    refine aw_ifb_eq (n := 83) 93 dX11_besides_80 (by decide) rfl ?_ ?_
    · refine aw_iconst (n := 94) (-1) dX11_besides_93 rfl (by decide) ?_
      exact aw_ireturn dX11_besides_94 rfl rfl
    · refine aw_bipush (n := 85) 10 dX11_besides_83 rfl (by decide) ?_
      refine aw_iload (n := 87) dX11_besides_85 rfl rfl ?_
      refine aw_imul (n := 88) dX11_besides_87 rfl ?_
      refine aw_iload_n (n := 89) dX11_besides_88 rfl rfl ?_
      refine aw_iadd (n := 90) dX11_besides_89 rfl ?_
      refine aw_goto 94 dX11_besides_90 (by decide) ?_
      exact aw_ireturn dX11_besides_94 rfl rfl
def f_X11_besides_23 (F : Nat) (t : Nat) (x1 : Int32) (x2 : Int32) (z0 : Int32) (z1 : Int32) (μ : aw_M) : Option (Int32 × aw_M) :=
  aw_let ((z1 + z0)) fun v5 =>
  (if x2 = 2 then
  f_X11_besides_47 F t v5 1 (x1 / 10) μ
  else
  (if x2 = 0 then
  f_X11_besides_47 F t v5 (-1) (x1 / 10) μ
  else
  f_X11_besides_47 F t v5 0 (x1 / 10) μ))
theorem c_X11_besides_23 (l : Launch) (F : Nat) (t : Nat) (ht : (aw_sh t).1 = 16) (x1 : Int32) (x2 : Int32) (z0 : Int32) (z1 : Int32) (μ : aw_M) : AW l k_X11_besides aw_gi 23 [some (.ref t), some (.int x1), some (.int x2), none, none] [.int z0, .int z1] μ (f_X11_besides_23 F t x1 x2 z0 z1 μ) := by
  unfold f_X11_besides_23
  refine aw_iadd (n := 24) dX11_besides_23 rfl ?_
  refine aw_nmI (fun v5 => ?_)
  refine aw_istore_n (n := 25) [some (.ref t), some (.int x1), some (.int x2), some (.int v5), none] dX11_besides_24 rfl rfl (Nat.le_of_ble_eq_true rfl) (Nat.le_of_ble_eq_true rfl) rfl ?_
  refine aw_iload_n (n := 26) dX11_besides_25 rfl rfl ?_
  refine aw_bipush (n := 28) 10 dX11_besides_26 rfl (by decide) ?_
  refine aw_idivK (n := 29) dX11_besides_28 rfl (by decide) ?_
  refine aw_iload_n (n := 30) dX11_besides_29 rfl rfl ?_
  refine aw_iconst (n := 31) 2 dX11_besides_30 rfl (by decide) ?_
  refine aw_icmp_ne (n := 34) 38 dX11_besides_31 (by decide) rfl ?_ ?_
  · refine aw_iload_n (n := 39) dX11_besides_38 rfl rfl ?_
    refine aw_if_ne (n := 42) 46 dX11_besides_39 (by decide) rfl ?_ ?_
    · refine aw_iconst (n := 47) 0 dX11_besides_46 rfl (by decide) ?_
      exact aw_weak (c_X11_besides_47 l F t ht v5 0 (x1 / 10) μ) (aw_ss (aw_sn (aw_sn (aw_ss (aw_sn aw_s0)))))
    · refine aw_iconst (n := 43) (-1) dX11_besides_42 rfl (by decide) ?_
      refine aw_goto 47 dX11_besides_43 (by decide) ?_
      exact aw_weak (c_X11_besides_47 l F t ht v5 (-1) (x1 / 10) μ) (aw_ss (aw_sn (aw_sn (aw_ss (aw_sn aw_s0)))))
  · refine aw_iconst (n := 35) 1 dX11_besides_34 rfl (by decide) ?_
    refine aw_goto 47 dX11_besides_35 (by decide) ?_
    exact aw_weak (c_X11_besides_47 l F t ht v5 1 (x1 / 10) μ) (aw_ss (aw_sn (aw_sn (aw_ss (aw_sn aw_s0)))))
def f_X11_besides (F : Nat) (t : Nat) (a0 : Int32) (a1 : Int32) (μ : aw_M) : Option (Int32 × aw_M) :=
  (if a1 = 1 then
  f_X11_besides_23 F t a0 a1 1 (a0 - a0 / 10 * 10) μ
  else
  (if a1 = 3 then
  f_X11_besides_23 F t a0 a1 (-1) (a0 - a0 / 10 * 10) μ
  else
  f_X11_besides_23 F t a0 a1 0 (a0 - a0 / 10 * 10) μ))
theorem m_X11_besides (l : Launch) (F : Nat) (t : Nat) (ht : (aw_sh t).1 = 16) (a0 : Int32) (a1 : Int32) (μ : aw_M) : AM l yX11_besides cX11_besides 5 (some .int) 2 142 aw_gi [.ref t, .int a0, .int a1] μ (f_X11_besides F t a0 a1 μ) := by
  refine aw_met [some (.ref t), some (.int a0), some (.int a1), none, none] (by decide) (fun _ => rfl) (fun _ => Nat.le_of_ble_eq_true rfl) ?_
  show AW l k_X11_besides aw_gi 0 [some (.ref t), some (.int a0), some (.int a1), none, none] [] μ _
  unfold f_X11_besides
  refine aw_iload_n (n := 1) dX11_besides_0 rfl rfl ?_
  refine aw_bipush (n := 3) 10 dX11_besides_1 rfl (by decide) ?_
  refine aw_iremK (n := 4) dX11_besides_3 rfl (by decide) ?_
  refine aw_iload_n (n := 5) dX11_besides_4 rfl rfl ?_
  refine aw_iconst (n := 6) 1 dX11_besides_5 rfl (by decide) ?_
  refine aw_icmp_ne (n := 9) 13 dX11_besides_6 (by decide) rfl ?_ ?_
  · refine aw_iload_n (n := 14) dX11_besides_13 rfl rfl ?_
    refine aw_iconst (n := 15) 3 dX11_besides_14 rfl (by decide) ?_
    refine aw_icmp_ne (n := 18) 22 dX11_besides_15 (by decide) rfl ?_ ?_
    · refine aw_iconst (n := 23) 0 dX11_besides_22 rfl (by decide) ?_
      exact aw_weak (c_X11_besides_23 l F t ht a0 a1 0 (a0 - a0 / 10 * 10) μ) (aw_ss (aw_ss (aw_ss (aw_sn (aw_sn aw_s0)))))
    · refine aw_iconst (n := 19) (-1) dX11_besides_18 rfl (by decide) ?_
      refine aw_goto 23 dX11_besides_19 (by decide) ?_
      exact aw_weak (c_X11_besides_23 l F t ht a0 a1 (-1) (a0 - a0 / 10 * 10) μ) (aw_ss (aw_ss (aw_ss (aw_sn (aw_sn aw_s0)))))
  · refine aw_iconst (n := 10) 1 dX11_besides_9 rfl (by decide) ?_
    refine aw_goto 23 dX11_besides_10 (by decide) ?_
    exact aw_weak (c_X11_besides_23 l F t ht a0 a1 1 (a0 - a0 / 10 * 10) μ) (aw_ss (aw_ss (aw_ss (aw_sn (aw_sn aw_s0)))))
abbrev k_X11_isBarred : aw_K := (RX11, cX11_isBarred, 6, (some .boolean), 3, 166)
def f_X11_isBarred_97 (F : Nat) (t : Nat) (k52 : Int32 × Bool × Int32 × aw_M → Option (Bool × aw_M)) (x3 : Int32) (x5 : Int32) (z0 : Bool) (μ : aw_M) : Option (Bool × aw_M) :=
  k52 (x3, z0, (x5 + 1), μ)
theorem c_X11_isBarred_97 (l : Launch) (F : Nat) (t : Nat) (ht : (aw_sh t).1 = 16) (k52 : Int32 × Bool × Int32 × aw_M → Option (Bool × aw_M)) (hk52 : ∀ s : Int32 × Bool × Int32 × aw_M, AW l k_X11_isBarred aw_gz 52 [some (.ref t), none, none, some (.int s.1), some (.int (aw_b s.2.1)), some (.int s.2.2.1)] [] s.2.2.2 (k52 s)) (x3 : Int32) (x5 : Int32) (z0 : Bool) (μ : aw_M) : AW l k_X11_isBarred aw_gz 97 [some (.ref t), none, none, some (.int x3), none, some (.int x5)] [.int (aw_b z0)] μ (f_X11_isBarred_97 F t k52 x3 x5 z0 μ) := by
  unfold f_X11_isBarred_97
  refine aw_istore (n := 99) [some (.ref t), none, none, some (.int x3), some (.int (aw_b z0)), some (.int x5)] dX11_isBarred_97 rfl rfl (Nat.le_of_ble_eq_true rfl) (Nat.le_of_ble_eq_true rfl) rfl ?_
  refine aw_iinc (n := 102) (x5 + 1) [some (.ref t), none, none, some (.int x3), some (.int (aw_b z0)), some (.int (x5 + 1))] dX11_isBarred_99 rfl rfl (by rfl) rfl (Nat.le_of_ble_eq_true rfl) rfl ?_
  refine aw_goto 52 dX11_isBarred_102 (by decide) ?_
  exact aw_weak (hk52 (x3, z0, (x5 + 1), μ)) (aw_ss (aw_sn (aw_sn (aw_ss (aw_ss (aw_ss aw_s0))))))
def f_X11_isBarred_92 (F : Nat) (t : Nat) (k52 : Int32 × Bool × Int32 × aw_M → Option (Bool × aw_M)) (x3 : Int32) (x5 : Int32) (μ : aw_M) : Option (Bool × aw_M) :=
  f_X11_isBarred_97 F t k52 x3 x5 true μ
theorem c_X11_isBarred_92 (l : Launch) (F : Nat) (t : Nat) (ht : (aw_sh t).1 = 16) (k52 : Int32 × Bool × Int32 × aw_M → Option (Bool × aw_M)) (hk52 : ∀ s : Int32 × Bool × Int32 × aw_M, AW l k_X11_isBarred aw_gz 52 [some (.ref t), none, none, some (.int s.1), some (.int (aw_b s.2.1)), some (.int s.2.2.1)] [] s.2.2.2 (k52 s)) (x3 : Int32) (x5 : Int32) (μ : aw_M) : AW l k_X11_isBarred aw_gz 92 [some (.ref t), none, none, some (.int x3), none, some (.int x5)] [] μ (f_X11_isBarred_92 F t k52 x3 x5 μ) := by
  unfold f_X11_isBarred_92
  refine aw_iconst (n := 93) 1 dX11_isBarred_92 rfl (by decide) ?_
  refine aw_goto 97 dX11_isBarred_93 (by decide) ?_
  exact aw_weak (c_X11_isBarred_97 l F t ht k52 hk52 x3 x5 true μ) (aw_ss (aw_sn (aw_sn (aw_ss (aw_sn (aw_ss aw_s0))))))
def f_X11_isBarred_96 (F : Nat) (t : Nat) (k52 : Int32 × Bool × Int32 × aw_M → Option (Bool × aw_M)) (x3 : Int32) (x5 : Int32) (μ : aw_M) : Option (Bool × aw_M) :=
  f_X11_isBarred_97 F t k52 x3 x5 false μ
theorem c_X11_isBarred_96 (l : Launch) (F : Nat) (t : Nat) (ht : (aw_sh t).1 = 16) (k52 : Int32 × Bool × Int32 × aw_M → Option (Bool × aw_M)) (hk52 : ∀ s : Int32 × Bool × Int32 × aw_M, AW l k_X11_isBarred aw_gz 52 [some (.ref t), none, none, some (.int s.1), some (.int (aw_b s.2.1)), some (.int s.2.2.1)] [] s.2.2.2 (k52 s)) (x3 : Int32) (x5 : Int32) (μ : aw_M) : AW l k_X11_isBarred aw_gz 96 [some (.ref t), none, none, some (.int x3), none, some (.int x5)] [] μ (f_X11_isBarred_96 F t k52 x3 x5 μ) := by
  unfold f_X11_isBarred_96
  refine aw_iconst (n := 97) 0 dX11_isBarred_96 rfl (by decide) ?_
  exact aw_weak (c_X11_isBarred_97 l F t ht k52 hk52 x3 x5 false μ) (aw_ss (aw_sn (aw_sn (aw_ss (aw_sn (aw_ss aw_s0))))))
def f_X11_isBarred_52 (F : Nat) (t : Nat) (k52 : Int32 × Bool × Int32 × aw_M → Option (Bool × aw_M)) (x3 : Int32) (x4 : Bool) (x5 : Int32) (μ : aw_M) : Option (Bool × aw_M) :=
  (if 4 ≤ x5 then
  some (x4, μ)
  else
  (if x4 = true then
  f_X11_isBarred_92 F t k52 x3 x5 μ
  else
  (f_X11_besides F t x3 x5 μ).bind fun r11 =>
  (if r11.1 < 0 then
  f_X11_isBarred_96 F t k52 x3 x5 r11.2
  else
  (f_X11_besides F t x3 x5 r11.2).bind fun r12 =>
  aw_g (aw_in (127 + r12.1) 1155) ((if (r12.2.1 (aw_rf t 6) (127 + r12.1).toNatClampNeg) = 1 then
  f_X11_isBarred_92 F t k52 x3 x5 r12.2
  else
  f_X11_isBarred_96 F t k52 x3 x5 r12.2)))))
theorem c_X11_isBarred_52 (l : Launch) (F : Nat) (t : Nat) (ht : (aw_sh t).1 = 16) : ∀ (N : Nat) (s : Int32 × Bool × Int32 × aw_M), AW l k_X11_isBarred aw_gz 52 [some (.ref t), none, none, some (.int s.1), some (.int (aw_b s.2.1)), some (.int s.2.2.1)] [] s.2.2.2 (aw_loop (fun k s => f_X11_isBarred_52 F t k s.1 s.2.1 s.2.2.1 s.2.2.2) N s) := by
  refine aw_loop_ok (f := fun k s => f_X11_isBarred_52 F t k s.1 s.2.1 s.2.2.1 s.2.2.2) (Ls := fun s => [some (.ref t), none, none, some (.int s.1), some (.int (aw_b s.2.1)), some (.int s.2.2.1)]) (ms := fun s => s.2.2.2) ?_
  intro k52 hk52 s
  obtain ⟨x3, x4, x5, μ⟩ := s
  show AW l k_X11_isBarred aw_gz 52 [some (.ref t), none, none, some (.int x3), some (.int (aw_b x4)), some (.int x5)] [] μ (f_X11_isBarred_52 F t k52 x3 x4 x5 μ)
  unfold f_X11_isBarred_52
  refine aw_iload (n := 54) dX11_isBarred_52 rfl rfl ?_
  refine aw_iconst (n := 55) 4 dX11_isBarred_54 rfl (by decide) ?_
  refine aw_icmp_ge (n := 58) 105 dX11_isBarred_55 (by decide) rfl ?_ ?_
  · refine aw_iload (n := 107) dX11_isBarred_105 rfl rfl ?_
    exact aw_zreturn (b := x4) dX11_isBarred_107 rfl rfl
  · refine aw_iload (n := 60) dX11_isBarred_58 rfl rfl ?_
    refine aw_ifb_ne (n := 63) 92 dX11_isBarred_60 (by decide) rfl ?_ ?_
    · exact aw_weak (c_X11_isBarred_92 l F t ht k52 hk52 x3 x5 μ) (aw_ss (aw_sn (aw_sn (aw_ss (aw_sn (aw_ss aw_s0))))))
    · refine aw_aload_n (n := 64) dX11_isBarred_63 rfl rfl ?_
      refine aw_iload_n (n := 65) dX11_isBarred_64 rfl rfl ?_
      refine aw_iload (n := 67) dX11_isBarred_65 rfl rfl ?_
      refine aw_callVi (n := 70) (as := [.int x3, .int x5]) (st := []) (RX11, TX11, 52) 11 dX11_isBarred_67 rfl rfl (m_X11_besides l F t ht x3 x5 μ) ht (by decide) rfl rfl cw_RX11_281 ⟨Nat.le_of_ble_eq_true rfl, Nat.le_of_ble_eq_true rfl⟩ (fun _ => Nat.le_of_ble_eq_true rfl) (fun r11 => ?_)
      refine aw_if_lt (n := 73) 96 dX11_isBarred_70 (by decide) rfl ?_ ?_
      · exact aw_weak (c_X11_isBarred_96 l F t ht k52 hk52 x3 x5 r11.2) (aw_ss (aw_sn (aw_sn (aw_ss (aw_sn (aw_ss aw_s0))))))
      · refine aw_aload_n (n := 74) dX11_isBarred_73 rfl rfl ?_
        refine aw_getR (n := 77) (RX11, TX11, 52) 11 6 dX11_isBarred_74 rfl ht (by decide) fd_RX11_33 ?_
        refine aw_bipush (n := 79) 127 dX11_isBarred_77 rfl (by decide) ?_
        refine aw_aload_n (n := 80) dX11_isBarred_79 rfl rfl ?_
        refine aw_iload_n (n := 81) dX11_isBarred_80 rfl rfl ?_
        refine aw_iload (n := 83) dX11_isBarred_81 rfl rfl ?_
        refine aw_callVi (n := 86) (as := [.int x3, .int x5]) (st := [.int 127, .ref (aw_rf t 6)]) (RX11, TX11, 52) 11 dX11_isBarred_83 rfl rfl (m_X11_besides l F t ht x3 x5 r11.2) ht (by decide) rfl rfl cw_RX11_281 ⟨Nat.le_of_ble_eq_true rfl, Nat.le_of_ble_eq_true rfl⟩ (fun _ => Nat.le_of_ble_eq_true rfl) (fun r12 => ?_)
        refine aw_iadd (n := 87) dX11_isBarred_86 rfl ?_
        refine aw_iaload (n := 88) 1155 dX11_isBarred_87 rfl (sf_11_6 ht) ?_
        refine aw_iconst (n := 89) 1 dX11_isBarred_88 rfl (by decide) ?_
        refine aw_icmp_ne (n := 92) 96 dX11_isBarred_89 (by decide) rfl ?_ ?_
        · exact aw_weak (c_X11_isBarred_96 l F t ht k52 hk52 x3 x5 r12.2) (aw_ss (aw_sn (aw_sn (aw_ss (aw_sn (aw_ss aw_s0))))))
        · exact aw_weak (c_X11_isBarred_92 l F t ht k52 hk52 x3 x5 r12.2) (aw_ss (aw_sn (aw_sn (aw_ss (aw_sn (aw_ss aw_s0))))))
def f_X11_isBarred_47 (F : Nat) (t : Nat) (x3 : Int32) (z0 : Bool) (μ : aw_M) : Option (Bool × aw_M) :=
  aw_loop (fun k s => f_X11_isBarred_52 F t k s.1 s.2.1 s.2.2.1 s.2.2.2) F (x3, z0, 0, μ)
theorem c_X11_isBarred_47 (l : Launch) (F : Nat) (t : Nat) (ht : (aw_sh t).1 = 16) (x3 : Int32) (z0 : Bool) (μ : aw_M) : AW l k_X11_isBarred aw_gz 47 [some (.ref t), none, none, some (.int x3), none, none] [.int (aw_b z0)] μ (f_X11_isBarred_47 F t x3 z0 μ) := by
  unfold f_X11_isBarred_47
  refine aw_istore (n := 49) [some (.ref t), none, none, some (.int x3), some (.int (aw_b z0)), none] dX11_isBarred_47 rfl rfl (Nat.le_of_ble_eq_true rfl) (Nat.le_of_ble_eq_true rfl) rfl ?_
  refine aw_iconst (n := 50) 0 dX11_isBarred_49 rfl (by decide) ?_
  refine aw_istore (n := 52) [some (.ref t), none, none, some (.int x3), some (.int (aw_b z0)), some (.int 0)] dX11_isBarred_50 rfl rfl (Nat.le_of_ble_eq_true rfl) (Nat.le_of_ble_eq_true rfl) rfl ?_
  exact aw_weak (c_X11_isBarred_52 l F t ht F (x3, z0, 0, μ)) (aw_ss (aw_sn (aw_sn (aw_ss (aw_ss (aw_ss aw_s0))))))
def f_X11_isBarred (F : Nat) (t : Nat) (a0 : Int32) (a1 : Int32) (μ : aw_M) : Option (Bool × aw_M) :=
  aw_g (aw_in (67 + a1) 1155) (aw_let ((μ.1 (aw_rf t 6) (67 + a1).toNatClampNeg)) fun v9 =>
  aw_g (aw_in (11 + a0) 1155) ((f_X11_apart F (μ.1 (aw_rf t 6) (11 + a0).toNatClampNeg) v9 μ).bind fun r10 =>
  (if 3 ≤ r10.1 then
  aw_g (aw_in (127 + v9) 1155) ((if (r10.2.1 (aw_rf t 6) (127 + v9).toNatClampNeg) = 1 then
  f_X11_isBarred_47 F t v9 true r10.2
  else
  f_X11_isBarred_47 F t v9 false r10.2))
  else
  some (false, r10.2))))
theorem m_X11_isBarred (l : Launch) (F : Nat) (t : Nat) (ht : (aw_sh t).1 = 16) (a0 : Int32) (a1 : Int32) (μ : aw_M) : AM l yX11_isBarred cX11_isBarred 6 (some .boolean) 3 166 aw_gz [.ref t, .int a0, .int a1] μ (f_X11_isBarred F t a0 a1 μ) := by
  refine aw_met [some (.ref t), some (.int a0), some (.int a1), none, none, none] (by decide) (fun _ => rfl) (fun _ => Nat.le_of_ble_eq_true rfl) ?_
  show AW l k_X11_isBarred aw_gz 0 [some (.ref t), some (.int a0), some (.int a1), none, none, none] [] μ _
  unfold f_X11_isBarred
  refine aw_aload_n (n := 1) dX11_isBarred_0 rfl rfl ?_
  refine aw_getR (n := 4) (RX11, TX11, 52) 11 6 dX11_isBarred_1 rfl ht (by decide) fd_RX11_33 ?_
  refine aw_bipush (n := 6) 67 dX11_isBarred_4 rfl (by decide) ?_
  refine aw_iload_n (n := 7) dX11_isBarred_6 rfl rfl ?_
  refine aw_iadd (n := 8) dX11_isBarred_7 rfl ?_
  refine aw_iaload (n := 9) 1155 dX11_isBarred_8 rfl (sf_11_6 ht) ?_
  refine aw_nmI (fun v9 => ?_)
  refine aw_istore_n (n := 10) [some (.ref t), some (.int a0), some (.int a1), some (.int v9), none, none] dX11_isBarred_9 rfl rfl (Nat.le_of_ble_eq_true rfl) (Nat.le_of_ble_eq_true rfl) rfl ?_
  refine aw_aload_n (n := 11) dX11_isBarred_10 rfl rfl ?_
  refine aw_getR (n := 14) (RX11, TX11, 52) 11 6 dX11_isBarred_11 rfl ht (by decide) fd_RX11_33 ?_
  refine aw_bipush (n := 16) 11 dX11_isBarred_14 rfl (by decide) ?_
  refine aw_iload_n (n := 17) dX11_isBarred_16 rfl rfl ?_
  refine aw_iadd (n := 18) dX11_isBarred_17 rfl ?_
  refine aw_iaload (n := 19) 1155 dX11_isBarred_18 rfl (sf_11_6 ht) ?_
  refine aw_iload_n (n := 20) dX11_isBarred_19 rfl rfl ?_
  refine aw_callSi (n := 23) (as := [.int (μ.1 (aw_rf t 6) (11 + a0).toNatClampNeg), .int v9]) (st := []) dX11_isBarred_20 rfl rfl (m_X11_apart l F (μ.1 (aw_rf t 6) (11 + a0).toNatClampNeg) v9 μ) cw_RX11_278 ⟨Nat.le_of_ble_eq_true rfl, Nat.le_of_ble_eq_true rfl⟩ (fun _ => Nat.le_of_ble_eq_true rfl) (fun r10 => ?_)
  refine aw_iconst (n := 24) 3 dX11_isBarred_23 rfl (by decide) ?_
  refine aw_icmp_ge (n := 27) 29 dX11_isBarred_24 (by decide) rfl ?_ ?_
  · refine aw_aload_n (n := 30) dX11_isBarred_29 rfl rfl ?_
    refine aw_getR (n := 33) (RX11, TX11, 52) 11 6 dX11_isBarred_30 rfl ht (by decide) fd_RX11_33 ?_
    refine aw_bipush (n := 35) 127 dX11_isBarred_33 rfl (by decide) ?_
    refine aw_iload_n (n := 36) dX11_isBarred_35 rfl rfl ?_
    refine aw_iadd (n := 37) dX11_isBarred_36 rfl ?_
    refine aw_iaload (n := 38) 1155 dX11_isBarred_37 rfl (sf_11_6 ht) ?_
    refine aw_iconst (n := 39) 1 dX11_isBarred_38 rfl (by decide) ?_
    refine aw_icmp_ne (n := 42) 46 dX11_isBarred_39 (by decide) rfl ?_ ?_
    · refine aw_iconst (n := 47) 0 dX11_isBarred_46 rfl (by decide) ?_
      exact aw_weak (c_X11_isBarred_47 l F t ht v9 false r10.2) (aw_ss (aw_sn (aw_sn (aw_ss (aw_sn (aw_sn aw_s0))))))
    · refine aw_iconst (n := 43) 1 dX11_isBarred_42 rfl (by decide) ?_
      refine aw_goto 47 dX11_isBarred_43 (by decide) ?_
      exact aw_weak (c_X11_isBarred_47 l F t ht v9 true r10.2) (aw_ss (aw_sn (aw_sn (aw_ss (aw_sn (aw_sn aw_s0))))))
  · refine aw_iconst (n := 28) 0 dX11_isBarred_27 rfl (by decide) ?_
    exact aw_zreturn (b := false) dX11_isBarred_28 rfl rfl
abbrev k_X11_hitOf : aw_K := (RX11, cX11_hitOf, 5, (some .int), 3, 161)
def f_X11_hitOf_53 (F : Nat) (t : Nat) (x2 : Int32) (z0 : Int32) (z1 : Int32) (μ : aw_M) : Option (Int32 × aw_M) :=
  aw_g (aw_in (107 + x2) 1155) (aw_let (((z1 + z0) - (μ.1 (aw_rf t 6) (107 + x2).toNatClampNeg))) fun v4 =>
  (if 0 ≤ v4 then
  some (v4, μ)
  else
  some (0, μ)))
theorem c_X11_hitOf_53 (l : Launch) (F : Nat) (t : Nat) (ht : (aw_sh t).1 = 16) (x2 : Int32) (z0 : Int32) (z1 : Int32) (μ : aw_M) : AW l k_X11_hitOf aw_gi 53 [some (.ref t), none, some (.int x2), none, none] [.int z0, .int z1] μ (f_X11_hitOf_53 F t x2 z0 z1 μ) := by
  unfold f_X11_hitOf_53
  refine aw_iadd (n := 54) dX11_hitOf_53 rfl ?_
  refine aw_aload_n (n := 55) dX11_hitOf_54 rfl rfl ?_
  refine aw_getR (n := 58) (RX11, TX11, 52) 11 6 dX11_hitOf_55 rfl ht (by decide) fd_RX11_33 ?_
  refine aw_bipush (n := 60) 107 dX11_hitOf_58 rfl (by decide) ?_
  refine aw_iload_n (n := 61) dX11_hitOf_60 rfl rfl ?_
  refine aw_iadd (n := 62) dX11_hitOf_61 rfl ?_
  refine aw_iaload (n := 63) 1155 dX11_hitOf_62 rfl (sf_11_6 ht) ?_
  refine aw_isub (n := 64) dX11_hitOf_63 rfl ?_
  refine aw_nmI (fun v4 => ?_)
  refine aw_istore (n := 66) [some (.ref t), none, some (.int x2), none, some (.int v4)] dX11_hitOf_64 rfl rfl (Nat.le_of_ble_eq_true rfl) (Nat.le_of_ble_eq_true rfl) rfl ?_
  refine aw_iload (n := 68) dX11_hitOf_66 rfl rfl ?_
  refine aw_if_ge (n := 71) 75 dX11_hitOf_68 (by decide) rfl ?_ ?_
  · refine aw_iload (n := 77) dX11_hitOf_75 rfl rfl ?_
    exact aw_ireturn dX11_hitOf_77 rfl rfl
  · refine aw_iconst (n := 72) 0 dX11_hitOf_71 rfl (by decide) ?_
    refine aw_goto 77 dX11_hitOf_72 (by decide) ?_
    exact aw_ireturn dX11_hitOf_77 rfl rfl
def f_X11_hitOf (F : Nat) (t : Nat) (a0 : Int32) (a1 : Int32) (μ : aw_M) : Option (Int32 × aw_M) :=
  aw_g (aw_in (11 + a0) 1155) (aw_g (aw_in (67 + a1) 1155) ((f_X11_apart F (μ.1 (aw_rf t 6) (11 + a0).toNatClampNeg) (μ.1 (aw_rf t 6) (67 + a1).toNatClampNeg) μ).bind fun r3 =>
  aw_g (aw_in (29 + a0) 1155) (aw_g (aw_in (485 + a0) 1155) ((if 2 < r3.1 then
  f_X11_hitOf_53 F t a1 (-r3.1) ((r3.2.1 (aw_rf t 6) (29 + a0).toNatClampNeg) + (r3.2.1 (aw_rf t 6) (485 + a0).toNatClampNeg)) r3.2
  else
  f_X11_hitOf_53 F t a1 2 ((r3.2.1 (aw_rf t 6) (29 + a0).toNatClampNeg) + (r3.2.1 (aw_rf t 6) (485 + a0).toNatClampNeg)) r3.2)))))
theorem m_X11_hitOf (l : Launch) (F : Nat) (t : Nat) (ht : (aw_sh t).1 = 16) (a0 : Int32) (a1 : Int32) (μ : aw_M) : AM l yX11_hitOf cX11_hitOf 5 (some .int) 3 161 aw_gi [.ref t, .int a0, .int a1] μ (f_X11_hitOf F t a0 a1 μ) := by
  refine aw_met [some (.ref t), some (.int a0), some (.int a1), none, none] (by decide) (fun _ => rfl) (fun _ => Nat.le_of_ble_eq_true rfl) ?_
  show AW l k_X11_hitOf aw_gi 0 [some (.ref t), some (.int a0), some (.int a1), none, none] [] μ _
  unfold f_X11_hitOf
  refine aw_aload_n (n := 1) dX11_hitOf_0 rfl rfl ?_
  refine aw_getR (n := 4) (RX11, TX11, 52) 11 6 dX11_hitOf_1 rfl ht (by decide) fd_RX11_33 ?_
  refine aw_bipush (n := 6) 11 dX11_hitOf_4 rfl (by decide) ?_
  refine aw_iload_n (n := 7) dX11_hitOf_6 rfl rfl ?_
  refine aw_iadd (n := 8) dX11_hitOf_7 rfl ?_
  refine aw_iaload (n := 9) 1155 dX11_hitOf_8 rfl (sf_11_6 ht) ?_
  refine aw_aload_n (n := 10) dX11_hitOf_9 rfl rfl ?_
  refine aw_getR (n := 13) (RX11, TX11, 52) 11 6 dX11_hitOf_10 rfl ht (by decide) fd_RX11_33 ?_
  refine aw_bipush (n := 15) 67 dX11_hitOf_13 rfl (by decide) ?_
  refine aw_iload_n (n := 16) dX11_hitOf_15 rfl rfl ?_
  refine aw_iadd (n := 17) dX11_hitOf_16 rfl ?_
  refine aw_iaload (n := 18) 1155 dX11_hitOf_17 rfl (sf_11_6 ht) ?_
  refine aw_callSi (n := 21) (as := [.int (μ.1 (aw_rf t 6) (11 + a0).toNatClampNeg), .int (μ.1 (aw_rf t 6) (67 + a1).toNatClampNeg)]) (st := []) dX11_hitOf_18 rfl rfl (m_X11_apart l F (μ.1 (aw_rf t 6) (11 + a0).toNatClampNeg) (μ.1 (aw_rf t 6) (67 + a1).toNatClampNeg) μ) cw_RX11_278 ⟨Nat.le_of_ble_eq_true rfl, Nat.le_of_ble_eq_true rfl⟩ (fun _ => Nat.le_of_ble_eq_true rfl) (fun r3 => ?_)
  refine aw_istore_n (n := 22) [some (.ref t), some (.int a0), some (.int a1), some (.int r3.1), none] dX11_hitOf_21 rfl rfl (Nat.le_of_ble_eq_true rfl) (Nat.le_of_ble_eq_true rfl) rfl ?_
  refine aw_aload_n (n := 23) dX11_hitOf_22 rfl rfl ?_
  refine aw_getR (n := 26) (RX11, TX11, 52) 11 6 dX11_hitOf_23 rfl ht (by decide) fd_RX11_33 ?_
  refine aw_bipush (n := 28) 29 dX11_hitOf_26 rfl (by decide) ?_
  refine aw_iload_n (n := 29) dX11_hitOf_28 rfl rfl ?_
  refine aw_iadd (n := 30) dX11_hitOf_29 rfl ?_
  refine aw_iaload (n := 31) 1155 dX11_hitOf_30 rfl (sf_11_6 ht) ?_
  refine aw_aload_n (n := 32) dX11_hitOf_31 rfl rfl ?_
  refine aw_getR (n := 35) (RX11, TX11, 52) 11 6 dX11_hitOf_32 rfl ht (by decide) fd_RX11_33 ?_
  refine aw_sipush (n := 38) 485 dX11_hitOf_35 rfl (by decide) ?_
  refine aw_iload_n (n := 39) dX11_hitOf_38 rfl rfl ?_
  refine aw_iadd (n := 40) dX11_hitOf_39 rfl ?_
  refine aw_iaload (n := 41) 1155 dX11_hitOf_40 rfl (sf_11_6 ht) ?_
  refine aw_iadd (n := 42) dX11_hitOf_41 rfl ?_
  refine aw_iload_n (n := 43) dX11_hitOf_42 rfl rfl ?_
  refine aw_iconst (n := 44) 2 dX11_hitOf_43 rfl (by decide) ?_
  refine aw_icmp_gt (n := 47) 51 dX11_hitOf_44 (by decide) rfl ?_ ?_
  · refine aw_iload_n (n := 52) dX11_hitOf_51 rfl rfl ?_
    refine aw_ineg (n := 53) dX11_hitOf_52 rfl ?_
    exact aw_weak (c_X11_hitOf_53 l F t ht a1 (-r3.1) ((r3.2.1 (aw_rf t 6) (29 + a0).toNatClampNeg) + (r3.2.1 (aw_rf t 6) (485 + a0).toNatClampNeg)) r3.2) (aw_ss (aw_sn (aw_ss (aw_sn (aw_sn aw_s0)))))
  · refine aw_iconst (n := 48) 2 dX11_hitOf_47 rfl (by decide) ?_
    refine aw_goto 53 dX11_hitOf_48 (by decide) ?_
    exact aw_weak (c_X11_hitOf_53 l F t ht a1 2 ((r3.2.1 (aw_rf t 6) (29 + a0).toNatClampNeg) + (r3.2.1 (aw_rf t 6) (485 + a0).toNatClampNeg)) r3.2) (aw_ss (aw_sn (aw_ss (aw_sn (aw_sn aw_s0)))))
abbrev k_X11_uses : aw_K := (RX11, cX11_uses, 3, none, 1, 120)
def f_X11_uses (F : Nat) (t : Nat) (a0 : Int32) (a1 : Int32) (μ : aw_M) : Option (aw_M) :=
  aw_g (aw_in (458 + a0) 1155) (aw_g (aw_in (458 + a0) 1155) (aw_let (aw_wI μ (aw_rf t 6) (458 + a0).toNatClampNeg ((μ.1 (aw_rf t 6) (458 + a0).toNatClampNeg) - 1)) fun μ1 =>
  aw_g (aw_in ((494 + (20 * a0)) + a1) 1155) (aw_g (aw_in ((494 + (20 * a0)) + a1) 1155) (aw_let (aw_wI μ1 (aw_rf t 6) ((494 + (20 * a0)) + a1).toNatClampNeg ((μ1.1 (aw_rf t 6) ((494 + (20 * a0)) + a1).toNatClampNeg) + 1)) fun μ2 =>
  aw_g (aw_in 914 1155) (aw_g (aw_in 914 1155) (aw_let (aw_wI μ2 (aw_rf t 6) (914 : Int32).toNatClampNeg ((μ2.1 (aw_rf t 6) (914 : Int32).toNatClampNeg) + 1)) fun μ3 =>
  some μ3))))))
theorem m_X11_uses (l : Launch) (F : Nat) (t : Nat) (ht : (aw_sh t).1 = 16) (a0 : Int32) (a1 : Int32) (μ : aw_M) : AM l yX11_uses cX11_uses 3 none 1 120 aw_gv [.ref t, .int a0, .int a1] μ (f_X11_uses F t a0 a1 μ) := by
  refine aw_met [some (.ref t), some (.int a0), some (.int a1)] (by decide) (fun _ => rfl) (fun _ => Nat.le_of_ble_eq_true rfl) ?_
  show AW l k_X11_uses aw_gv 0 [some (.ref t), some (.int a0), some (.int a1)] [] μ _
  unfold f_X11_uses
  refine aw_aload_n (n := 1) dX11_uses_0 rfl rfl ?_
  refine aw_getR (n := 4) (RX11, TX11, 52) 11 6 dX11_uses_1 rfl ht (by decide) fd_RX11_33 ?_
  refine aw_sipush (n := 7) 458 dX11_uses_4 rfl (by decide) ?_
  refine aw_iload_n (n := 8) dX11_uses_7 rfl rfl ?_
  refine aw_iadd (n := 9) dX11_uses_8 rfl ?_
  refine aw_dup2 (n := 10) dX11_uses_9 rfl (fun _ => rfl) (fun _ => rfl) ?_
  refine aw_iaload (n := 11) 1155 dX11_uses_10 rfl (sf_11_6 ht) ?_
  refine aw_iconst (n := 12) 1 dX11_uses_11 rfl (by decide) ?_
  refine aw_isub (n := 13) dX11_uses_12 rfl ?_
  refine aw_iastore (n := 14) 1155 dX11_uses_13 rfl (sf_11_6 ht) (fun μ1 => ?_)
  refine aw_aload_n (n := 15) dX11_uses_14 rfl rfl ?_
  refine aw_getR (n := 18) (RX11, TX11, 52) 11 6 dX11_uses_15 rfl ht (by decide) fd_RX11_33 ?_
  refine aw_sipush (n := 21) 494 dX11_uses_18 rfl (by decide) ?_
  refine aw_bipush (n := 23) 20 dX11_uses_21 rfl (by decide) ?_
  refine aw_iload_n (n := 24) dX11_uses_23 rfl rfl ?_
  refine aw_imul (n := 25) dX11_uses_24 rfl ?_
  refine aw_iadd (n := 26) dX11_uses_25 rfl ?_
  refine aw_iload_n (n := 27) dX11_uses_26 rfl rfl ?_
  refine aw_iadd (n := 28) dX11_uses_27 rfl ?_
  refine aw_dup2 (n := 29) dX11_uses_28 rfl (fun _ => rfl) (fun _ => rfl) ?_
  refine aw_iaload (n := 30) 1155 dX11_uses_29 rfl (sf_11_6 ht) ?_
  refine aw_iconst (n := 31) 1 dX11_uses_30 rfl (by decide) ?_
  refine aw_iadd (n := 32) dX11_uses_31 rfl ?_
  refine aw_iastore (n := 33) 1155 dX11_uses_32 rfl (sf_11_6 ht) (fun μ2 => ?_)
  refine aw_aload_n (n := 34) dX11_uses_33 rfl rfl ?_
  refine aw_getR (n := 37) (RX11, TX11, 52) 11 6 dX11_uses_34 rfl ht (by decide) fd_RX11_33 ?_
  refine aw_sipush (n := 40) 914 dX11_uses_37 rfl (by decide) ?_
  refine aw_dup2 (n := 41) dX11_uses_40 rfl (fun _ => rfl) (fun _ => rfl) ?_
  refine aw_iaload (n := 42) 1155 dX11_uses_41 rfl (sf_11_6 ht) ?_
  refine aw_iconst (n := 43) 1 dX11_uses_42 rfl (by decide) ?_
  refine aw_iadd (n := 44) dX11_uses_43 rfl ?_
  refine aw_iastore (n := 45) 1155 dX11_uses_44 rfl (sf_11_6 ht) (fun μ3 => ?_)
  exact aw_vreturn dX11_uses_45 rfl rfl
abbrev k_X11_throwsAt : aw_K := (RX11, cX11_throwsAt, 8, none, 4, 191)
def f_X11_throwsAt_265 (F : Nat) (t : Nat) (x1 : Int32) (x2 : Int32) (x4 : Int32) (x5 : Int32) (μ : aw_M) : Option (aw_M) :=
  aw_g (aw_in 919 1155) (aw_let ((920 + (6 * (μ.1 (aw_rf t 6) (919 : Int32).toNatClampNeg)))) fun v32 =>
  aw_g (aw_in v32 1155) (aw_let (aw_wI μ (aw_rf t 6) v32.toNatClampNeg x1) fun μ33 =>
  aw_g (aw_in (v32 + 1) 1155) (aw_let (aw_wI μ33 (aw_rf t 6) (v32 + 1).toNatClampNeg x2) fun μ34 =>
  aw_g (aw_in (v32 + 2) 1155) (aw_let (aw_wI μ34 (aw_rf t 6) (v32 + 2).toNatClampNeg x4) fun μ35 =>
  aw_g (aw_in (v32 + 3) 1155) (aw_let (aw_wI μ35 (aw_rf t 6) (v32 + 3).toNatClampNeg x5) fun μ36 =>
  aw_g (aw_in (v32 + 4) 1155) (aw_let (aw_wI μ36 (aw_rf t 6) (v32 + 4).toNatClampNeg 0) fun μ37 =>
  aw_g (aw_in (v32 + 5) 1155) (aw_let (aw_wI μ37 (aw_rf t 6) (v32 + 5).toNatClampNeg 0) fun μ38 =>
  aw_g (aw_in 919 1155) (aw_g (aw_in 919 1155) (aw_let (aw_wI μ38 (aw_rf t 6) (919 : Int32).toNatClampNeg ((μ38.1 (aw_rf t 6) (919 : Int32).toNatClampNeg) + 1)) fun μ39 =>
  some μ39)))))))))
theorem c_X11_throwsAt_265 (l : Launch) (F : Nat) (t : Nat) (ht : (aw_sh t).1 = 16) (x1 : Int32) (x2 : Int32) (x4 : Int32) (x5 : Int32) (μ : aw_M) : AW l k_X11_throwsAt aw_gv 265 [some (.ref t), some (.int x1), some (.int x2), none, some (.int x4), some (.int x5), none, none] [] μ (f_X11_throwsAt_265 F t x1 x2 x4 x5 μ) := by
  unfold f_X11_throwsAt_265
  refine aw_sipush (n := 268) 920 dX11_throwsAt_265 rfl (by decide) ?_
  refine aw_bipush (n := 270) 6 dX11_throwsAt_268 rfl (by decide) ?_
  refine aw_aload_n (n := 271) dX11_throwsAt_270 rfl rfl ?_
  refine aw_getR (n := 274) (RX11, TX11, 52) 11 6 dX11_throwsAt_271 rfl ht (by decide) fd_RX11_33 ?_
  refine aw_sipush (n := 277) 919 dX11_throwsAt_274 rfl (by decide) ?_
  refine aw_iaload (n := 278) 1155 dX11_throwsAt_277 rfl (sf_11_6 ht) ?_
  refine aw_imul (n := 279) dX11_throwsAt_278 rfl ?_
  refine aw_iadd (n := 280) dX11_throwsAt_279 rfl ?_
  refine aw_nmI (fun v32 => ?_)
  refine aw_istore (n := 282) [some (.ref t), some (.int x1), some (.int x2), none, some (.int x4), some (.int x5), none, some (.int v32)] dX11_throwsAt_280 rfl rfl (Nat.le_of_ble_eq_true rfl) (Nat.le_of_ble_eq_true rfl) rfl ?_
  refine aw_aload_n (n := 283) dX11_throwsAt_282 rfl rfl ?_
  refine aw_getR (n := 286) (RX11, TX11, 52) 11 6 dX11_throwsAt_283 rfl ht (by decide) fd_RX11_33 ?_
  refine aw_iload (n := 288) dX11_throwsAt_286 rfl rfl ?_
  refine aw_iload_n (n := 289) dX11_throwsAt_288 rfl rfl ?_
  refine aw_iastore (n := 290) 1155 dX11_throwsAt_289 rfl (sf_11_6 ht) (fun μ33 => ?_)
  refine aw_aload_n (n := 291) dX11_throwsAt_290 rfl rfl ?_
  refine aw_getR (n := 294) (RX11, TX11, 52) 11 6 dX11_throwsAt_291 rfl ht (by decide) fd_RX11_33 ?_
  refine aw_iload (n := 296) dX11_throwsAt_294 rfl rfl ?_
  refine aw_iconst (n := 297) 1 dX11_throwsAt_296 rfl (by decide) ?_
  refine aw_iadd (n := 298) dX11_throwsAt_297 rfl ?_
  refine aw_iload_n (n := 299) dX11_throwsAt_298 rfl rfl ?_
  refine aw_iastore (n := 300) 1155 dX11_throwsAt_299 rfl (sf_11_6 ht) (fun μ34 => ?_)
  refine aw_aload_n (n := 301) dX11_throwsAt_300 rfl rfl ?_
  refine aw_getR (n := 304) (RX11, TX11, 52) 11 6 dX11_throwsAt_301 rfl ht (by decide) fd_RX11_33 ?_
  refine aw_iload (n := 306) dX11_throwsAt_304 rfl rfl ?_
  refine aw_iconst (n := 307) 2 dX11_throwsAt_306 rfl (by decide) ?_
  refine aw_iadd (n := 308) dX11_throwsAt_307 rfl ?_
  refine aw_iload (n := 310) dX11_throwsAt_308 rfl rfl ?_
  refine aw_iastore (n := 311) 1155 dX11_throwsAt_310 rfl (sf_11_6 ht) (fun μ35 => ?_)
  refine aw_aload_n (n := 312) dX11_throwsAt_311 rfl rfl ?_
  refine aw_getR (n := 315) (RX11, TX11, 52) 11 6 dX11_throwsAt_312 rfl ht (by decide) fd_RX11_33 ?_
  refine aw_iload (n := 317) dX11_throwsAt_315 rfl rfl ?_
  refine aw_iconst (n := 318) 3 dX11_throwsAt_317 rfl (by decide) ?_
  refine aw_iadd (n := 319) dX11_throwsAt_318 rfl ?_
  refine aw_iload (n := 321) dX11_throwsAt_319 rfl rfl ?_
  refine aw_iastore (n := 322) 1155 dX11_throwsAt_321 rfl (sf_11_6 ht) (fun μ36 => ?_)
  refine aw_aload_n (n := 323) dX11_throwsAt_322 rfl rfl ?_
  refine aw_getR (n := 326) (RX11, TX11, 52) 11 6 dX11_throwsAt_323 rfl ht (by decide) fd_RX11_33 ?_
  refine aw_iload (n := 328) dX11_throwsAt_326 rfl rfl ?_
  refine aw_iconst (n := 329) 4 dX11_throwsAt_328 rfl (by decide) ?_
  refine aw_iadd (n := 330) dX11_throwsAt_329 rfl ?_
  refine aw_iconst (n := 331) 0 dX11_throwsAt_330 rfl (by decide) ?_
  refine aw_iastore (n := 332) 1155 dX11_throwsAt_331 rfl (sf_11_6 ht) (fun μ37 => ?_)
  refine aw_aload_n (n := 333) dX11_throwsAt_332 rfl rfl ?_
  refine aw_getR (n := 336) (RX11, TX11, 52) 11 6 dX11_throwsAt_333 rfl ht (by decide) fd_RX11_33 ?_
  refine aw_iload (n := 338) dX11_throwsAt_336 rfl rfl ?_
  refine aw_iconst (n := 339) 5 dX11_throwsAt_338 rfl (by decide) ?_
  refine aw_iadd (n := 340) dX11_throwsAt_339 rfl ?_
  refine aw_iconst (n := 341) 0 dX11_throwsAt_340 rfl (by decide) ?_
  refine aw_iastore (n := 342) 1155 dX11_throwsAt_341 rfl (sf_11_6 ht) (fun μ38 => ?_)
  refine aw_aload_n (n := 343) dX11_throwsAt_342 rfl rfl ?_
  refine aw_getR (n := 346) (RX11, TX11, 52) 11 6 dX11_throwsAt_343 rfl ht (by decide) fd_RX11_33 ?_
  refine aw_sipush (n := 349) 919 dX11_throwsAt_346 rfl (by decide) ?_
  refine aw_dup2 (n := 350) dX11_throwsAt_349 rfl (fun _ => rfl) (fun _ => rfl) ?_
  refine aw_iaload (n := 351) 1155 dX11_throwsAt_350 rfl (sf_11_6 ht) ?_
  refine aw_iconst (n := 352) 1 dX11_throwsAt_351 rfl (by decide) ?_
  refine aw_iadd (n := 353) dX11_throwsAt_352 rfl ?_
  refine aw_iastore (n := 354) 1155 dX11_throwsAt_353 rfl (sf_11_6 ht) (fun μ39 => ?_)
  exact aw_vreturn dX11_throwsAt_354 rfl rfl
def f_X11_throwsAt_201 (F : Nat) (t : Nat) (x1 : Int32) (x2 : Int32) (z0 : Int32) (μ : aw_M) : Option (aw_M) :=
  (f_X11_hitOf F t x1 x2 μ).bind fun r27 =>
  aw_g (aw_in (485 + x1) 1155) (aw_let (aw_wI r27.2 (aw_rf t 6) (485 + x1).toNatClampNeg 0) fun μ28 =>
  (f_X11_uses F t x1 x2 μ28).bind fun r29 =>
  aw_g (aw_in (67 + x2) 1155) (aw_g (aw_in (714 + (r29.1 (aw_rf t 6) (67 + x2).toNatClampNeg)) 1155) (aw_g (aw_in (714 + (r29.1 (aw_rf t 6) (67 + x2).toNatClampNeg)) 1155) (aw_let (aw_wI r29 (aw_rf t 6) (714 + (r29.1 (aw_rf t 6) (67 + x2).toNatClampNeg)).toNatClampNeg ((r29.1 (aw_rf t 6) (714 + (r29.1 (aw_rf t 6) (67 + x2).toNatClampNeg)).toNatClampNeg) + 1)) fun μ30 =>
  aw_g (aw_in (694 + x2) 1155) (aw_g (aw_in (694 + x2) 1155) (aw_let (aw_wI μ30 (aw_rf t 6) (694 + x2).toNatClampNeg ((μ30.1 (aw_rf t 6) (694 + x2).toNatClampNeg) + r27.1)) fun μ31 =>
  f_X11_throwsAt_265 F t x1 x2 z0 r27.1 μ31))))))
theorem c_X11_throwsAt_201 (l : Launch) (F : Nat) (t : Nat) (ht : (aw_sh t).1 = 16) (x1 : Int32) (x2 : Int32) (z0 : Int32) (μ : aw_M) : AW l k_X11_throwsAt aw_gv 201 [some (.ref t), some (.int x1), some (.int x2), none, none, none, none, none] [.int z0] μ (f_X11_throwsAt_201 F t x1 x2 z0 μ) := by
  unfold f_X11_throwsAt_201
  refine aw_istore (n := 203) [some (.ref t), some (.int x1), some (.int x2), none, some (.int z0), none, none, none] dX11_throwsAt_201 rfl rfl (Nat.le_of_ble_eq_true rfl) (Nat.le_of_ble_eq_true rfl) rfl ?_
  refine aw_aload_n (n := 204) dX11_throwsAt_203 rfl rfl ?_
  refine aw_iload_n (n := 205) dX11_throwsAt_204 rfl rfl ?_
  refine aw_iload_n (n := 206) dX11_throwsAt_205 rfl rfl ?_
  refine aw_callVi (n := 209) (as := [.int x1, .int x2]) (st := []) (RX11, TX11, 52) 11 dX11_throwsAt_206 rfl rfl (m_X11_hitOf l F t ht x1 x2 μ) ht (by decide) rfl rfl cw_RX11_294 ⟨Nat.le_of_ble_eq_true rfl, Nat.le_of_ble_eq_true rfl⟩ (fun _ => Nat.le_of_ble_eq_true rfl) (fun r27 => ?_)
  refine aw_istore (n := 211) [some (.ref t), some (.int x1), some (.int x2), none, some (.int z0), some (.int r27.1), none, none] dX11_throwsAt_209 rfl rfl (Nat.le_of_ble_eq_true rfl) (Nat.le_of_ble_eq_true rfl) rfl ?_
  refine aw_aload_n (n := 212) dX11_throwsAt_211 rfl rfl ?_
  refine aw_getR (n := 215) (RX11, TX11, 52) 11 6 dX11_throwsAt_212 rfl ht (by decide) fd_RX11_33 ?_
  refine aw_sipush (n := 218) 485 dX11_throwsAt_215 rfl (by decide) ?_
  refine aw_iload_n (n := 219) dX11_throwsAt_218 rfl rfl ?_
  refine aw_iadd (n := 220) dX11_throwsAt_219 rfl ?_
  refine aw_iconst (n := 221) 0 dX11_throwsAt_220 rfl (by decide) ?_
  refine aw_iastore (n := 222) 1155 dX11_throwsAt_221 rfl (sf_11_6 ht) (fun μ28 => ?_)
  refine aw_aload_n (n := 223) dX11_throwsAt_222 rfl rfl ?_
  refine aw_iload_n (n := 224) dX11_throwsAt_223 rfl rfl ?_
  refine aw_iload_n (n := 225) dX11_throwsAt_224 rfl rfl ?_
  refine aw_callVv (n := 228) (as := [.int x1, .int x2]) (st := []) (RX11, TX11, 52) 11 dX11_throwsAt_225 rfl rfl (m_X11_uses l F t ht x1 x2 μ28) ht (by decide) rfl rfl cw_RX11_290 ⟨Nat.le_of_ble_eq_true rfl, Nat.le_of_ble_eq_true rfl⟩ (fun _ => Nat.le_of_ble_eq_true rfl) (fun r29 => ?_)
  refine aw_aload_n (n := 229) dX11_throwsAt_228 rfl rfl ?_
  refine aw_getR (n := 232) (RX11, TX11, 52) 11 6 dX11_throwsAt_229 rfl ht (by decide) fd_RX11_33 ?_
  refine aw_sipush (n := 235) 714 dX11_throwsAt_232 rfl (by decide) ?_
  refine aw_aload_n (n := 236) dX11_throwsAt_235 rfl rfl ?_
  refine aw_getR (n := 239) (RX11, TX11, 52) 11 6 dX11_throwsAt_236 rfl ht (by decide) fd_RX11_33 ?_
  refine aw_bipush (n := 241) 67 dX11_throwsAt_239 rfl (by decide) ?_
  refine aw_iload_n (n := 242) dX11_throwsAt_241 rfl rfl ?_
  refine aw_iadd (n := 243) dX11_throwsAt_242 rfl ?_
  refine aw_iaload (n := 244) 1155 dX11_throwsAt_243 rfl (sf_11_6 ht) ?_
  refine aw_iadd (n := 245) dX11_throwsAt_244 rfl ?_
  refine aw_dup2 (n := 246) dX11_throwsAt_245 rfl (fun _ => rfl) (fun _ => rfl) ?_
  refine aw_iaload (n := 247) 1155 dX11_throwsAt_246 rfl (sf_11_6 ht) ?_
  refine aw_iconst (n := 248) 1 dX11_throwsAt_247 rfl (by decide) ?_
  refine aw_iadd (n := 249) dX11_throwsAt_248 rfl ?_
  refine aw_iastore (n := 250) 1155 dX11_throwsAt_249 rfl (sf_11_6 ht) (fun μ30 => ?_)
  refine aw_aload_n (n := 251) dX11_throwsAt_250 rfl rfl ?_
  refine aw_getR (n := 254) (RX11, TX11, 52) 11 6 dX11_throwsAt_251 rfl ht (by decide) fd_RX11_33 ?_
  refine aw_sipush (n := 257) 694 dX11_throwsAt_254 rfl (by decide) ?_
  refine aw_iload_n (n := 258) dX11_throwsAt_257 rfl rfl ?_
  refine aw_iadd (n := 259) dX11_throwsAt_258 rfl ?_
  refine aw_dup2 (n := 260) dX11_throwsAt_259 rfl (fun _ => rfl) (fun _ => rfl) ?_
  refine aw_iaload (n := 261) 1155 dX11_throwsAt_260 rfl (sf_11_6 ht) ?_
  refine aw_iload (n := 263) dX11_throwsAt_261 rfl rfl ?_
  refine aw_iadd (n := 264) dX11_throwsAt_263 rfl ?_
  refine aw_iastore (n := 265) 1155 dX11_throwsAt_264 rfl (sf_11_6 ht) (fun μ31 => ?_)
  exact aw_weak (c_X11_throwsAt_265 l F t ht x1 x2 z0 r27.1 μ31) (aw_ss (aw_ss (aw_ss (aw_sn (aw_ss (aw_ss (aw_sn (aw_sn aw_s0))))))))
def f_X11_throwsAt_178 (F : Nat) (t : Nat) (x1 : Int32) (x2 : Int32) (x6 : Int32) (μ : aw_M) : Option (aw_M) :=
  aw_g (aw_in (67 + x2) 1155) ((f_X11_apart F x6 (μ.1 (aw_rf t 6) (67 + x2).toNatClampNeg) μ).bind fun r26 =>
  (if 2 < r26.1 then
  f_X11_throwsAt_201 F t x1 x2 4 r26.2
  else
  f_X11_throwsAt_201 F t x1 x2 3 r26.2))
theorem c_X11_throwsAt_178 (l : Launch) (F : Nat) (t : Nat) (ht : (aw_sh t).1 = 16) (x1 : Int32) (x2 : Int32) (x6 : Int32) (μ : aw_M) : AW l k_X11_throwsAt aw_gv 178 [some (.ref t), some (.int x1), some (.int x2), none, none, none, some (.int x6), none] [] μ (f_X11_throwsAt_178 F t x1 x2 x6 μ) := by
  unfold f_X11_throwsAt_178
  refine aw_iload (n := 180) dX11_throwsAt_178 rfl rfl ?_
  refine aw_aload_n (n := 181) dX11_throwsAt_180 rfl rfl ?_
  refine aw_getR (n := 184) (RX11, TX11, 52) 11 6 dX11_throwsAt_181 rfl ht (by decide) fd_RX11_33 ?_
  refine aw_bipush (n := 186) 67 dX11_throwsAt_184 rfl (by decide) ?_
  refine aw_iload_n (n := 187) dX11_throwsAt_186 rfl rfl ?_
  refine aw_iadd (n := 188) dX11_throwsAt_187 rfl ?_
  refine aw_iaload (n := 189) 1155 dX11_throwsAt_188 rfl (sf_11_6 ht) ?_
  refine aw_callSi (n := 192) (as := [.int x6, .int (μ.1 (aw_rf t 6) (67 + x2).toNatClampNeg)]) (st := []) dX11_throwsAt_189 rfl rfl (m_X11_apart l F x6 (μ.1 (aw_rf t 6) (67 + x2).toNatClampNeg) μ) cw_RX11_278 ⟨Nat.le_of_ble_eq_true rfl, Nat.le_of_ble_eq_true rfl⟩ (fun _ => Nat.le_of_ble_eq_true rfl) (fun r26 => ?_)
  refine aw_iconst (n := 193) 2 dX11_throwsAt_192 rfl (by decide) ?_
  refine aw_icmp_gt (n := 196) 200 dX11_throwsAt_193 (by decide) rfl ?_ ?_
  · refine aw_iconst (n := 201) 4 dX11_throwsAt_200 rfl (by decide) ?_
    exact aw_weak (c_X11_throwsAt_201 l F t ht x1 x2 4 r26.2) (aw_ss (aw_ss (aw_ss (aw_sn (aw_sn (aw_sn (aw_sn (aw_sn aw_s0))))))))
  · refine aw_iconst (n := 197) 3 dX11_throwsAt_196 rfl (by decide) ?_
    refine aw_goto 201 dX11_throwsAt_197 (by decide) ?_
    exact aw_weak (c_X11_throwsAt_201 l F t ht x1 x2 3 r26.2) (aw_ss (aw_ss (aw_ss (aw_sn (aw_sn (aw_sn (aw_sn (aw_sn aw_s0))))))))
def f_X11_throwsAt_121 (F : Nat) (t : Nat) (x1 : Int32) (x2 : Int32) (x5 : Bool) (x6 : Int32) (μ : aw_M) : Option (aw_M) :=
  aw_g (aw_in (445 + x1) 1155) ((if (μ.1 (aw_rf t 6) (445 + x1).toNatClampNeg) = 1 then
  aw_g (aw_in 456 1155) ((if ((μ.1 (aw_rf t 6) (456 : Int32).toNatClampNeg) - (μ.1 (aw_rf t 6) (456 : Int32).toNatClampNeg) / 2 * 2) = 1 then
  aw_g (aw_in (485 + x1) 1155) (aw_let (aw_wI μ (aw_rf t 6) (485 + x1).toNatClampNeg 2) fun μ40 =>
  aw_g (aw_in 918 1155) (aw_g (aw_in 918 1155) (aw_let (aw_wI μ40 (aw_rf t 6) (918 : Int32).toNatClampNeg ((μ40.1 (aw_rf t 6) (918 : Int32).toNatClampNeg) + 1)) fun μ41 =>
  f_X11_throwsAt_265 F t x1 x2 2 (aw_b x5) μ41)))
  else
  f_X11_throwsAt_178 F t x1 x2 x6 μ))
  else
  f_X11_throwsAt_178 F t x1 x2 x6 μ))
theorem c_X11_throwsAt_121 (l : Launch) (F : Nat) (t : Nat) (ht : (aw_sh t).1 = 16) (x1 : Int32) (x2 : Int32) (x5 : Bool) (x6 : Int32) (μ : aw_M) : AW l k_X11_throwsAt aw_gv 121 [some (.ref t), some (.int x1), some (.int x2), none, none, some (.int (aw_b x5)), some (.int x6), none] [] μ (f_X11_throwsAt_121 F t x1 x2 x5 x6 μ) := by
  unfold f_X11_throwsAt_121
  refine aw_aload_n (n := 122) dX11_throwsAt_121 rfl rfl ?_
  refine aw_getR (n := 125) (RX11, TX11, 52) 11 6 dX11_throwsAt_122 rfl ht (by decide) fd_RX11_33 ?_
  refine aw_sipush (n := 128) 445 dX11_throwsAt_125 rfl (by decide) ?_
  refine aw_iload_n (n := 129) dX11_throwsAt_128 rfl rfl ?_
  refine aw_iadd (n := 130) dX11_throwsAt_129 rfl ?_
  refine aw_iaload (n := 131) 1155 dX11_throwsAt_130 rfl (sf_11_6 ht) ?_
  refine aw_iconst (n := 132) 1 dX11_throwsAt_131 rfl (by decide) ?_
  refine aw_icmp_ne (n := 135) 178 dX11_throwsAt_132 (by decide) rfl ?_ ?_
  · exact aw_weak (c_X11_throwsAt_178 l F t ht x1 x2 x6 μ) (aw_ss (aw_ss (aw_ss (aw_sn (aw_sn (aw_sn (aw_ss (aw_sn aw_s0))))))))
  · refine aw_aload_n (n := 136) dX11_throwsAt_135 rfl rfl ?_
    refine aw_getR (n := 139) (RX11, TX11, 52) 11 6 dX11_throwsAt_136 rfl ht (by decide) fd_RX11_33 ?_
    refine aw_sipush (n := 142) 456 dX11_throwsAt_139 rfl (by decide) ?_
    refine aw_iaload (n := 143) 1155 dX11_throwsAt_142 rfl (sf_11_6 ht) ?_
    refine aw_iconst (n := 144) 2 dX11_throwsAt_143 rfl (by decide) ?_
    refine aw_iremK (n := 145) dX11_throwsAt_144 rfl (by decide) ?_
    refine aw_iconst (n := 146) 1 dX11_throwsAt_145 rfl (by decide) ?_
    refine aw_icmp_ne (n := 149) 178 dX11_throwsAt_146 (by decide) rfl ?_ ?_
    · exact aw_weak (c_X11_throwsAt_178 l F t ht x1 x2 x6 μ) (aw_ss (aw_ss (aw_ss (aw_sn (aw_sn (aw_sn (aw_ss (aw_sn aw_s0))))))))
    · refine aw_iconst (n := 150) 2 dX11_throwsAt_149 rfl (by decide) ?_
      refine aw_istore (n := 152) [some (.ref t), some (.int x1), some (.int x2), none, some (.int 2), some (.int (aw_b x5)), some (.int x6), none] dX11_throwsAt_150 rfl rfl (Nat.le_of_ble_eq_true rfl) (Nat.le_of_ble_eq_true rfl) rfl ?_
      refine aw_aload_n (n := 153) dX11_throwsAt_152 rfl rfl ?_
      refine aw_getR (n := 156) (RX11, TX11, 52) 11 6 dX11_throwsAt_153 rfl ht (by decide) fd_RX11_33 ?_
      refine aw_sipush (n := 159) 485 dX11_throwsAt_156 rfl (by decide) ?_
      refine aw_iload_n (n := 160) dX11_throwsAt_159 rfl rfl ?_
      refine aw_iadd (n := 161) dX11_throwsAt_160 rfl ?_
      refine aw_iconst (n := 162) 2 dX11_throwsAt_161 rfl (by decide) ?_
      refine aw_iastore (n := 163) 1155 dX11_throwsAt_162 rfl (sf_11_6 ht) (fun μ40 => ?_)
      refine aw_aload_n (n := 164) dX11_throwsAt_163 rfl rfl ?_
      refine aw_getR (n := 167) (RX11, TX11, 52) 11 6 dX11_throwsAt_164 rfl ht (by decide) fd_RX11_33 ?_
      refine aw_sipush (n := 170) 918 dX11_throwsAt_167 rfl (by decide) ?_
      refine aw_dup2 (n := 171) dX11_throwsAt_170 rfl (fun _ => rfl) (fun _ => rfl) ?_
      refine aw_iaload (n := 172) 1155 dX11_throwsAt_171 rfl (sf_11_6 ht) ?_
      refine aw_iconst (n := 173) 1 dX11_throwsAt_172 rfl (by decide) ?_
      refine aw_iadd (n := 174) dX11_throwsAt_173 rfl ?_
      refine aw_iastore (n := 175) 1155 dX11_throwsAt_174 rfl (sf_11_6 ht) (fun μ41 => ?_)
      refine aw_goto 265 dX11_throwsAt_175 (by decide) ?_
      exact aw_weak (c_X11_throwsAt_265 l F t ht x1 x2 2 (aw_b x5) μ41) (aw_ss (aw_ss (aw_ss (aw_sn (aw_ss (aw_ss (aw_sn (aw_sn aw_s0))))))))
def f_X11_throwsAt (F : Nat) (t : Nat) (a0 : Int32) (a1 : Int32) (a2 : Int32) (μ : aw_M) : Option (aw_M) :=
  aw_g (aw_in (11 + a0) 1155) (aw_let ((μ.1 (aw_rf t 6) (11 + a0).toNatClampNeg)) fun v24 =>
  (f_X11_isBarred F t a0 a1 μ).bind fun r25 =>
  (if r25.1 = true then
  aw_g (aw_in 917 1155) (aw_g (aw_in 917 1155) (aw_let (aw_wI r25.2 (aw_rf t 6) (917 : Int32).toNatClampNeg ((r25.2.1 (aw_rf t 6) (917 : Int32).toNatClampNeg) + 1)) fun μ46 =>
  f_X11_throwsAt_265 F t a0 a1 0 0 μ46))
  else
  (if a2 = 0 then
  aw_g (aw_in (814 + v24) 1155) ((if (r25.2.1 (aw_rf t 6) (814 + v24).toNatClampNeg) = 0 then
  (f_X11_draw F t 40 r25.2).bind fun r42 =>
  aw_g (aw_in (714 + v24) 1155) ((if (r42.2.1 (aw_rf t 6) (714 + v24).toNatClampNeg) ≤ r42.1 then
  f_X11_throwsAt_121 F t a0 a1 false v24 r42.2
  else
  (f_X11_uses F t a0 a1 r42.2).bind fun r43 =>
  aw_g (aw_in 916 1155) (aw_g (aw_in 916 1155) (aw_let (aw_wI r43 (aw_rf t 6) (916 : Int32).toNatClampNeg ((r43.1 (aw_rf t 6) (916 : Int32).toNatClampNeg) + 1)) fun μ44 =>
  aw_g (aw_in (714 + v24) 1155) (aw_g (aw_in (714 + v24) 1155) (aw_let (aw_wI μ44 (aw_rf t 6) (714 + v24).toNatClampNeg ((μ44.1 (aw_rf t 6) (714 + v24).toNatClampNeg) + 1)) fun μ45 =>
  f_X11_throwsAt_265 F t a0 a1 1 0 μ45))))))
  else
  f_X11_throwsAt_121 F t a0 a1 false v24 r25.2))
  else
  f_X11_throwsAt_121 F t a0 a1 false v24 r25.2)))
theorem m_X11_throwsAt (l : Launch) (F : Nat) (t : Nat) (ht : (aw_sh t).1 = 16) (a0 : Int32) (a1 : Int32) (a2 : Int32) (μ : aw_M) : AM l yX11_throwsAt cX11_throwsAt 8 none 4 191 aw_gv [.ref t, .int a0, .int a1, .int a2] μ (f_X11_throwsAt F t a0 a1 a2 μ) := by
  refine aw_met [some (.ref t), some (.int a0), some (.int a1), some (.int a2), none, none, none, none] (by decide) (fun _ => rfl) (fun _ => Nat.le_of_ble_eq_true rfl) ?_
  show AW l k_X11_throwsAt aw_gv 0 [some (.ref t), some (.int a0), some (.int a1), some (.int a2), none, none, none, none] [] μ _
  unfold f_X11_throwsAt
  refine aw_iconst (n := 1) 4 dX11_throwsAt_0 rfl (by decide) ?_
  refine aw_istore (n := 3) [some (.ref t), some (.int a0), some (.int a1), some (.int a2), some (.int 4), none, none, none] dX11_throwsAt_1 rfl rfl (Nat.le_of_ble_eq_true rfl) (Nat.le_of_ble_eq_true rfl) rfl ?_
  refine aw_iconst (n := 4) 0 dX11_throwsAt_3 rfl (by decide) ?_
  refine aw_istore (n := 6) [some (.ref t), some (.int a0), some (.int a1), some (.int a2), some (.int 4), some (.int 0), none, none] dX11_throwsAt_4 rfl rfl (Nat.le_of_ble_eq_true rfl) (Nat.le_of_ble_eq_true rfl) rfl ?_
  refine aw_aload_n (n := 7) dX11_throwsAt_6 rfl rfl ?_
  refine aw_getR (n := 10) (RX11, TX11, 52) 11 6 dX11_throwsAt_7 rfl ht (by decide) fd_RX11_33 ?_
  refine aw_bipush (n := 12) 11 dX11_throwsAt_10 rfl (by decide) ?_
  refine aw_iload_n (n := 13) dX11_throwsAt_12 rfl rfl ?_
  refine aw_iadd (n := 14) dX11_throwsAt_13 rfl ?_
  refine aw_iaload (n := 15) 1155 dX11_throwsAt_14 rfl (sf_11_6 ht) ?_
  refine aw_nmI (fun v24 => ?_)
  refine aw_istore (n := 17) [some (.ref t), some (.int a0), some (.int a1), some (.int a2), some (.int 4), some (.int 0), some (.int v24), none] dX11_throwsAt_15 rfl rfl (Nat.le_of_ble_eq_true rfl) (Nat.le_of_ble_eq_true rfl) rfl ?_
  refine aw_aload_n (n := 18) dX11_throwsAt_17 rfl rfl ?_
  refine aw_iload_n (n := 19) dX11_throwsAt_18 rfl rfl ?_
  refine aw_iload_n (n := 20) dX11_throwsAt_19 rfl rfl ?_
  refine aw_callVz (n := 23) (as := [.int a0, .int a1]) (st := []) (RX11, TX11, 52) 11 dX11_throwsAt_20 rfl rfl (m_X11_isBarred l F t ht a0 a1 μ) ht (by decide) rfl rfl cw_RX11_284 ⟨Nat.le_of_ble_eq_true rfl, Nat.le_of_ble_eq_true rfl⟩ (fun _ => Nat.le_of_ble_eq_true rfl) (fun r25 => ?_)
  refine aw_ifb_eq (n := 26) 44 dX11_throwsAt_23 (by decide) rfl ?_ ?_
  · refine aw_iload_n (n := 45) dX11_throwsAt_44 rfl rfl ?_
    refine aw_if_ne (n := 48) 121 dX11_throwsAt_45 (by decide) rfl ?_ ?_
    · exact aw_weak (c_X11_throwsAt_121 l F t ht a0 a1 false v24 r25.2) (aw_ss (aw_ss (aw_ss (aw_sn (aw_sn (aw_ss (aw_ss (aw_sn aw_s0))))))))
    · refine aw_aload_n (n := 49) dX11_throwsAt_48 rfl rfl ?_
      refine aw_getR (n := 52) (RX11, TX11, 52) 11 6 dX11_throwsAt_49 rfl ht (by decide) fd_RX11_33 ?_
      refine aw_sipush (n := 55) 814 dX11_throwsAt_52 rfl (by decide) ?_
      refine aw_iload (n := 57) dX11_throwsAt_55 rfl rfl ?_
      refine aw_iadd (n := 58) dX11_throwsAt_57 rfl ?_
      refine aw_iaload (n := 59) 1155 dX11_throwsAt_58 rfl (sf_11_6 ht) ?_
      refine aw_if_ne (n := 62) 121 dX11_throwsAt_59 (by decide) rfl ?_ ?_
      · exact aw_weak (c_X11_throwsAt_121 l F t ht a0 a1 false v24 r25.2) (aw_ss (aw_ss (aw_ss (aw_sn (aw_sn (aw_ss (aw_ss (aw_sn aw_s0))))))))
      · refine aw_aload_n (n := 63) dX11_throwsAt_62 rfl rfl ?_
        refine aw_bipush (n := 65) 40 dX11_throwsAt_63 rfl (by decide) ?_
        refine aw_callVi (n := 68) (as := [.int 40]) (st := []) (RX11, TX11, 52) 11 dX11_throwsAt_65 rfl rfl (m_X11_draw l F t ht 40 r25.2) ht (by decide) rfl rfl cw_RX11_287 ⟨Nat.le_of_ble_eq_true rfl, Nat.le_of_ble_eq_true rfl⟩ (fun _ => Nat.le_of_ble_eq_true rfl) (fun r42 => ?_)
        refine aw_aload_n (n := 69) dX11_throwsAt_68 rfl rfl ?_
        refine aw_getR (n := 72) (RX11, TX11, 52) 11 6 dX11_throwsAt_69 rfl ht (by decide) fd_RX11_33 ?_
        refine aw_sipush (n := 75) 714 dX11_throwsAt_72 rfl (by decide) ?_
        refine aw_iload (n := 77) dX11_throwsAt_75 rfl rfl ?_
        refine aw_iadd (n := 78) dX11_throwsAt_77 rfl ?_
        refine aw_iaload (n := 79) 1155 dX11_throwsAt_78 rfl (sf_11_6 ht) ?_
        refine aw_icmp_ge (n := 82) 121 dX11_throwsAt_79 (by decide) rfl ?_ ?_
        · exact aw_weak (c_X11_throwsAt_121 l F t ht a0 a1 false v24 r42.2) (aw_ss (aw_ss (aw_ss (aw_sn (aw_sn (aw_ss (aw_ss (aw_sn aw_s0))))))))
        · refine aw_iconst (n := 83) 1 dX11_throwsAt_82 rfl (by decide) ?_
          refine aw_istore (n := 85) [some (.ref t), some (.int a0), some (.int a1), some (.int a2), some (.int 1), some (.int 0), some (.int v24), none] dX11_throwsAt_83 rfl rfl (Nat.le_of_ble_eq_true rfl) (Nat.le_of_ble_eq_true rfl) rfl ?_
          refine aw_aload_n (n := 86) dX11_throwsAt_85 rfl rfl ?_
          refine aw_iload_n (n := 87) dX11_throwsAt_86 rfl rfl ?_
          refine aw_iload_n (n := 88) dX11_throwsAt_87 rfl rfl ?_
          refine aw_callVv (n := 91) (as := [.int a0, .int a1]) (st := []) (RX11, TX11, 52) 11 dX11_throwsAt_88 rfl rfl (m_X11_uses l F t ht a0 a1 r42.2) ht (by decide) rfl rfl cw_RX11_290 ⟨Nat.le_of_ble_eq_true rfl, Nat.le_of_ble_eq_true rfl⟩ (fun _ => Nat.le_of_ble_eq_true rfl) (fun r43 => ?_)
          refine aw_aload_n (n := 92) dX11_throwsAt_91 rfl rfl ?_
          refine aw_getR (n := 95) (RX11, TX11, 52) 11 6 dX11_throwsAt_92 rfl ht (by decide) fd_RX11_33 ?_
          refine aw_sipush (n := 98) 916 dX11_throwsAt_95 rfl (by decide) ?_
          refine aw_dup2 (n := 99) dX11_throwsAt_98 rfl (fun _ => rfl) (fun _ => rfl) ?_
          refine aw_iaload (n := 100) 1155 dX11_throwsAt_99 rfl (sf_11_6 ht) ?_
          refine aw_iconst (n := 101) 1 dX11_throwsAt_100 rfl (by decide) ?_
          refine aw_iadd (n := 102) dX11_throwsAt_101 rfl ?_
          refine aw_iastore (n := 103) 1155 dX11_throwsAt_102 rfl (sf_11_6 ht) (fun μ44 => ?_)
          refine aw_aload_n (n := 104) dX11_throwsAt_103 rfl rfl ?_
          refine aw_getR (n := 107) (RX11, TX11, 52) 11 6 dX11_throwsAt_104 rfl ht (by decide) fd_RX11_33 ?_
          refine aw_sipush (n := 110) 714 dX11_throwsAt_107 rfl (by decide) ?_
          refine aw_iload (n := 112) dX11_throwsAt_110 rfl rfl ?_
          refine aw_iadd (n := 113) dX11_throwsAt_112 rfl ?_
          refine aw_dup2 (n := 114) dX11_throwsAt_113 rfl (fun _ => rfl) (fun _ => rfl) ?_
          refine aw_iaload (n := 115) 1155 dX11_throwsAt_114 rfl (sf_11_6 ht) ?_
          refine aw_iconst (n := 116) 1 dX11_throwsAt_115 rfl (by decide) ?_
          refine aw_iadd (n := 117) dX11_throwsAt_116 rfl ?_
          refine aw_iastore (n := 118) 1155 dX11_throwsAt_117 rfl (sf_11_6 ht) (fun μ45 => ?_)
          refine aw_goto 265 dX11_throwsAt_118 (by decide) ?_
          exact aw_weak (c_X11_throwsAt_265 l F t ht a0 a1 1 0 μ45) (aw_ss (aw_ss (aw_ss (aw_sn (aw_ss (aw_ss (aw_sn (aw_sn aw_s0))))))))
  · refine aw_iconst (n := 27) 0 dX11_throwsAt_26 rfl (by decide) ?_
    refine aw_istore (n := 29) [some (.ref t), some (.int a0), some (.int a1), some (.int a2), some (.int 0), some (.int 0), some (.int v24), none] dX11_throwsAt_27 rfl rfl (Nat.le_of_ble_eq_true rfl) (Nat.le_of_ble_eq_true rfl) rfl ?_
    refine aw_aload_n (n := 30) dX11_throwsAt_29 rfl rfl ?_
    refine aw_getR (n := 33) (RX11, TX11, 52) 11 6 dX11_throwsAt_30 rfl ht (by decide) fd_RX11_33 ?_
    refine aw_sipush (n := 36) 917 dX11_throwsAt_33 rfl (by decide) ?_
    refine aw_dup2 (n := 37) dX11_throwsAt_36 rfl (fun _ => rfl) (fun _ => rfl) ?_
    refine aw_iaload (n := 38) 1155 dX11_throwsAt_37 rfl (sf_11_6 ht) ?_
    refine aw_iconst (n := 39) 1 dX11_throwsAt_38 rfl (by decide) ?_
    refine aw_iadd (n := 40) dX11_throwsAt_39 rfl ?_
    refine aw_iastore (n := 41) 1155 dX11_throwsAt_40 rfl (sf_11_6 ht) (fun μ46 => ?_)
    refine aw_goto 265 dX11_throwsAt_41 (by decide) ?_
    exact aw_weak (c_X11_throwsAt_265 l F t ht a0 a1 0 0 μ46) (aw_ss (aw_ss (aw_ss (aw_sn (aw_ss (aw_ss (aw_sn (aw_sn aw_s0))))))))
abbrev k_X11_judges : aw_K := (RX11, cX11_judges, 4, (some .int), 3, 161)
def f_X11_judges_39 (F : Nat) (t : Nat) (k4 : Int32 × Int32 × Int32 × aw_M → Option (Int32 × aw_M)) (x1 : Int32) (x3 : Int32) (z0 : Bool) (z1 : Int32) (μ : aw_M) : Option (Int32 × aw_M) :=
  aw_let ((z1 + (aw_b z0))) fun v5 =>
  k4 (x1, v5, (x3 + 1), μ)
theorem c_X11_judges_39 (l : Launch) (F : Nat) (t : Nat) (ht : (aw_sh t).1 = 16) (k4 : Int32 × Int32 × Int32 × aw_M → Option (Int32 × aw_M)) (hk4 : ∀ s : Int32 × Int32 × Int32 × aw_M, AW l k_X11_judges aw_gi 4 [some (.ref t), some (.int s.1), some (.int s.2.1), some (.int s.2.2.1)] [] s.2.2.2 (k4 s)) (x1 : Int32) (x3 : Int32) (z0 : Bool) (z1 : Int32) (μ : aw_M) : AW l k_X11_judges aw_gi 39 [some (.ref t), some (.int x1), none, some (.int x3)] [.int (aw_b z0), .int z1] μ (f_X11_judges_39 F t k4 x1 x3 z0 z1 μ) := by
  unfold f_X11_judges_39
  refine aw_iadd (n := 40) dX11_judges_39 rfl ?_
  refine aw_nmI (fun v5 => ?_)
  refine aw_istore_n (n := 41) [some (.ref t), some (.int x1), some (.int v5), some (.int x3)] dX11_judges_40 rfl rfl (Nat.le_of_ble_eq_true rfl) (Nat.le_of_ble_eq_true rfl) rfl ?_
  refine aw_iinc (n := 44) (x3 + 1) [some (.ref t), some (.int x1), some (.int v5), some (.int (x3 + 1))] dX11_judges_41 rfl rfl (by rfl) rfl (Nat.le_of_ble_eq_true rfl) rfl ?_
  refine aw_goto 4 dX11_judges_44 (by decide) ?_
  exact aw_weak (hk4 (x1, v5, (x3 + 1), μ)) (aw_ss (aw_ss (aw_ss (aw_ss aw_s0))))
def f_X11_judges_38 (F : Nat) (t : Nat) (k4 : Int32 × Int32 × Int32 × aw_M → Option (Int32 × aw_M)) (x1 : Int32) (x3 : Int32) (z0 : Int32) (μ : aw_M) : Option (Int32 × aw_M) :=
  f_X11_judges_39 F t k4 x1 x3 false z0 μ
theorem c_X11_judges_38 (l : Launch) (F : Nat) (t : Nat) (ht : (aw_sh t).1 = 16) (k4 : Int32 × Int32 × Int32 × aw_M → Option (Int32 × aw_M)) (hk4 : ∀ s : Int32 × Int32 × Int32 × aw_M, AW l k_X11_judges aw_gi 4 [some (.ref t), some (.int s.1), some (.int s.2.1), some (.int s.2.2.1)] [] s.2.2.2 (k4 s)) (x1 : Int32) (x3 : Int32) (z0 : Int32) (μ : aw_M) : AW l k_X11_judges aw_gi 38 [some (.ref t), some (.int x1), none, some (.int x3)] [.int z0] μ (f_X11_judges_38 F t k4 x1 x3 z0 μ) := by
  unfold f_X11_judges_38
  refine aw_iconst (n := 39) 0 dX11_judges_38 rfl (by decide) ?_
  exact aw_weak (c_X11_judges_39 l F t ht k4 hk4 x1 x3 false z0 μ) (aw_ss (aw_ss (aw_sn (aw_ss aw_s0))))
def f_X11_judges_4 (F : Nat) (t : Nat) (k4 : Int32 × Int32 × Int32 × aw_M → Option (Int32 × aw_M)) (x1 : Int32) (x2 : Int32) (x3 : Int32) (μ : aw_M) : Option (Int32 × aw_M) :=
  (if 100 ≤ x3 then
  some (x2, μ)
  else
  aw_g (aw_in (327 + x3) 1155) ((if (μ.1 (aw_rf t 6) (327 + x3).toNatClampNeg) = 1 then
  (f_X11_apart F x3 x1 μ).bind fun r6 =>
  (if 4 < r6.1 then
  f_X11_judges_38 F t k4 x1 x3 x2 r6.2
  else
  f_X11_judges_39 F t k4 x1 x3 true x2 r6.2)
  else
  f_X11_judges_38 F t k4 x1 x3 x2 μ)))
theorem c_X11_judges_4 (l : Launch) (F : Nat) (t : Nat) (ht : (aw_sh t).1 = 16) : ∀ (N : Nat) (s : Int32 × Int32 × Int32 × aw_M), AW l k_X11_judges aw_gi 4 [some (.ref t), some (.int s.1), some (.int s.2.1), some (.int s.2.2.1)] [] s.2.2.2 (aw_loop (fun k s => f_X11_judges_4 F t k s.1 s.2.1 s.2.2.1 s.2.2.2) N s) := by
  refine aw_loop_ok (f := fun k s => f_X11_judges_4 F t k s.1 s.2.1 s.2.2.1 s.2.2.2) (Ls := fun s => [some (.ref t), some (.int s.1), some (.int s.2.1), some (.int s.2.2.1)]) (ms := fun s => s.2.2.2) ?_
  intro k4 hk4 s
  obtain ⟨x1, x2, x3, μ⟩ := s
  show AW l k_X11_judges aw_gi 4 [some (.ref t), some (.int x1), some (.int x2), some (.int x3)] [] μ (f_X11_judges_4 F t k4 x1 x2 x3 μ)
  unfold f_X11_judges_4
  refine aw_iload_n (n := 5) dX11_judges_4 rfl rfl ?_
  refine aw_bipush (n := 7) 100 dX11_judges_5 rfl (by decide) ?_
  refine aw_icmp_ge (n := 10) 47 dX11_judges_7 (by decide) rfl ?_ ?_
  · refine aw_iload_n (n := 48) dX11_judges_47 rfl rfl ?_
    exact aw_ireturn dX11_judges_48 rfl rfl
  · refine aw_iload_n (n := 11) dX11_judges_10 rfl rfl ?_
    refine aw_aload_n (n := 12) dX11_judges_11 rfl rfl ?_
    refine aw_getR (n := 15) (RX11, TX11, 52) 11 6 dX11_judges_12 rfl ht (by decide) fd_RX11_33 ?_
    refine aw_sipush (n := 18) 327 dX11_judges_15 rfl (by decide) ?_
    refine aw_iload_n (n := 19) dX11_judges_18 rfl rfl ?_
    refine aw_iadd (n := 20) dX11_judges_19 rfl ?_
    refine aw_iaload (n := 21) 1155 dX11_judges_20 rfl (sf_11_6 ht) ?_
    refine aw_iconst (n := 22) 1 dX11_judges_21 rfl (by decide) ?_
    refine aw_icmp_ne (n := 25) 38 dX11_judges_22 (by decide) rfl ?_ ?_
    · exact aw_weak (c_X11_judges_38 l F t ht k4 hk4 x1 x3 x2 μ) (aw_ss (aw_ss (aw_sn (aw_ss aw_s0))))
    · refine aw_iload_n (n := 26) dX11_judges_25 rfl rfl ?_
      refine aw_iload_n (n := 27) dX11_judges_26 rfl rfl ?_
      refine aw_callSi (n := 30) (as := [.int x3, .int x1]) (st := [.int x2]) dX11_judges_27 rfl rfl (m_X11_apart l F x3 x1 μ) cw_RX11_278 ⟨Nat.le_of_ble_eq_true rfl, Nat.le_of_ble_eq_true rfl⟩ (fun _ => Nat.le_of_ble_eq_true rfl) (fun r6 => ?_)
      refine aw_iconst (n := 31) 4 dX11_judges_30 rfl (by decide) ?_
      refine aw_icmp_gt (n := 34) 38 dX11_judges_31 (by decide) rfl ?_ ?_
      · exact aw_weak (c_X11_judges_38 l F t ht k4 hk4 x1 x3 x2 r6.2) (aw_ss (aw_ss (aw_sn (aw_ss aw_s0))))
      · refine aw_iconst (n := 35) 1 dX11_judges_34 rfl (by decide) ?_
        refine aw_goto 39 dX11_judges_35 (by decide) ?_
        exact aw_weak (c_X11_judges_39 l F t ht k4 hk4 x1 x3 true x2 r6.2) (aw_ss (aw_ss (aw_sn (aw_ss aw_s0))))
def f_X11_judges (F : Nat) (t : Nat) (a0 : Int32) (μ : aw_M) : Option (Int32 × aw_M) :=
  aw_loop (fun k s => f_X11_judges_4 F t k s.1 s.2.1 s.2.2.1 s.2.2.2) F (a0, 0, 0, μ)
theorem m_X11_judges (l : Launch) (F : Nat) (t : Nat) (ht : (aw_sh t).1 = 16) (a0 : Int32) (μ : aw_M) : AM l yX11_judges cX11_judges 4 (some .int) 3 161 aw_gi [.ref t, .int a0] μ (f_X11_judges F t a0 μ) := by
  refine aw_met [some (.ref t), some (.int a0), none, none] (by decide) (fun _ => rfl) (fun _ => Nat.le_of_ble_eq_true rfl) ?_
  show AW l k_X11_judges aw_gi 0 [some (.ref t), some (.int a0), none, none] [] μ _
  unfold f_X11_judges
  refine aw_iconst (n := 1) 0 dX11_judges_0 rfl (by decide) ?_
  refine aw_istore_n (n := 2) [some (.ref t), some (.int a0), some (.int 0), none] dX11_judges_1 rfl rfl (Nat.le_of_ble_eq_true rfl) (Nat.le_of_ble_eq_true rfl) rfl ?_
  refine aw_iconst (n := 3) 0 dX11_judges_2 rfl (by decide) ?_
  refine aw_istore_n (n := 4) [some (.ref t), some (.int a0), some (.int 0), some (.int 0)] dX11_judges_3 rfl rfl (Nat.le_of_ble_eq_true rfl) (Nat.le_of_ble_eq_true rfl) rfl ?_
  exact aw_weak (c_X11_judges_4 l F t ht F (a0, 0, 0, μ)) (aw_ss (aw_ss (aw_ss (aw_ss aw_s0))))
abbrev k_X11_marked : aw_K := (RX11, cX11_marked, 5, none, 4, 184)
def f_X11_marked_260 (F : Nat) (t : Nat) (k2 : Int32 × aw_M → Option (aw_M)) (x1 : Int32) (μ : aw_M) : Option (aw_M) :=
  k2 ((x1 + 1), μ)
theorem c_X11_marked_260 (l : Launch) (F : Nat) (t : Nat) (ht : (aw_sh t).1 = 16) (k2 : Int32 × aw_M → Option (aw_M)) (hk2 : ∀ s : Int32 × aw_M, AW l k_X11_marked aw_gv 2 [some (.ref t), some (.int s.1), none, none, none] [] s.2 (k2 s)) (x1 : Int32) (μ : aw_M) : AW l k_X11_marked aw_gv 260 [some (.ref t), some (.int x1), none, none, none] [] μ (f_X11_marked_260 F t k2 x1 μ) := by
  unfold f_X11_marked_260
  refine aw_iinc (n := 263) (x1 + 1) [some (.ref t), some (.int (x1 + 1)), none, none, none] dX11_marked_260 rfl rfl (by rfl) rfl (Nat.le_of_ble_eq_true rfl) rfl ?_
  refine aw_goto 2 dX11_marked_263 (by decide) ?_
  exact aw_weak (hk2 ((x1 + 1), μ)) (aw_ss (aw_ss (aw_sn (aw_sn (aw_sn aw_s0)))))
def f_X11_marked_193 (F : Nat) (t : Nat) (k2 : Int32 × aw_M → Option (aw_M)) (x1 : Int32) (x2 : Int32) (x3 : Int32) (z0 : Int32) (z1 : Int32) (μ : aw_M) : Option (aw_M) :=
  aw_let ((z1 - z0)) fun v16 =>
  aw_g (aw_in (x2 + 4) 1155) (aw_let (aw_wI μ (aw_rf t 6) (x2 + 4).toNatClampNeg x3) fun μ17 =>
  aw_g (aw_in x2 1155) (aw_g (aw_in (11 + (μ17.1 (aw_rf t 6) x2.toNatClampNeg)) 1155) ((f_X11_judges F t (μ17.1 (aw_rf t 6) (11 + (μ17.1 (aw_rf t 6) x2.toNatClampNeg)).toNatClampNeg) μ17).bind fun r18 =>
  aw_g (aw_in (x2 + 5) 1155) (aw_let (aw_wI r18.2 (aw_rf t 6) (x2 + 5).toNatClampNeg (v16 * r18.1)) fun μ19 =>
  aw_g (aw_in x2 1155) (aw_g (aw_in (467 + (μ19.1 (aw_rf t 6) x2.toNatClampNeg)) 1155) (aw_g (aw_in (x2 + 5) 1155) (aw_g (aw_in (467 + (μ19.1 (aw_rf t 6) x2.toNatClampNeg)) 1155) (aw_let (aw_wI μ19 (aw_rf t 6) (467 + (μ19.1 (aw_rf t 6) x2.toNatClampNeg)).toNatClampNeg ((μ19.1 (aw_rf t 6) (467 + (μ19.1 (aw_rf t 6) x2.toNatClampNeg)).toNatClampNeg) + (μ19.1 (aw_rf t 6) (x2 + 5).toNatClampNeg))) fun μ20 =>
  f_X11_marked_260 F t k2 x1 μ20))))))))
theorem c_X11_marked_193 (l : Launch) (F : Nat) (t : Nat) (ht : (aw_sh t).1 = 16) (k2 : Int32 × aw_M → Option (aw_M)) (hk2 : ∀ s : Int32 × aw_M, AW l k_X11_marked aw_gv 2 [some (.ref t), some (.int s.1), none, none, none] [] s.2 (k2 s)) (x1 : Int32) (x2 : Int32) (x3 : Int32) (z0 : Int32) (z1 : Int32) (μ : aw_M) : AW l k_X11_marked aw_gv 193 [some (.ref t), some (.int x1), some (.int x2), some (.int x3), none] [.int z0, .int z1] μ (f_X11_marked_193 F t k2 x1 x2 x3 z0 z1 μ) := by
  unfold f_X11_marked_193
  refine aw_isub (n := 194) dX11_marked_193 rfl ?_
  refine aw_nmI (fun v16 => ?_)
  refine aw_istore (n := 196) [some (.ref t), some (.int x1), some (.int x2), some (.int x3), some (.int v16)] dX11_marked_194 rfl rfl (Nat.le_of_ble_eq_true rfl) (Nat.le_of_ble_eq_true rfl) rfl ?_
  refine aw_aload_n (n := 197) dX11_marked_196 rfl rfl ?_
  refine aw_getR (n := 200) (RX11, TX11, 52) 11 6 dX11_marked_197 rfl ht (by decide) fd_RX11_33 ?_
  refine aw_iload_n (n := 201) dX11_marked_200 rfl rfl ?_
  refine aw_iconst (n := 202) 4 dX11_marked_201 rfl (by decide) ?_
  refine aw_iadd (n := 203) dX11_marked_202 rfl ?_
  refine aw_iload_n (n := 204) dX11_marked_203 rfl rfl ?_
  refine aw_iastore (n := 205) 1155 dX11_marked_204 rfl (sf_11_6 ht) (fun μ17 => ?_)
  refine aw_aload_n (n := 206) dX11_marked_205 rfl rfl ?_
  refine aw_getR (n := 209) (RX11, TX11, 52) 11 6 dX11_marked_206 rfl ht (by decide) fd_RX11_33 ?_
  refine aw_iload_n (n := 210) dX11_marked_209 rfl rfl ?_
  refine aw_iconst (n := 211) 5 dX11_marked_210 rfl (by decide) ?_
  refine aw_iadd (n := 212) dX11_marked_211 rfl ?_
  refine aw_iload (n := 214) dX11_marked_212 rfl rfl ?_
  refine aw_aload_n (n := 215) dX11_marked_214 rfl rfl ?_
  refine aw_aload_n (n := 216) dX11_marked_215 rfl rfl ?_
  refine aw_getR (n := 219) (RX11, TX11, 52) 11 6 dX11_marked_216 rfl ht (by decide) fd_RX11_33 ?_
  refine aw_bipush (n := 221) 11 dX11_marked_219 rfl (by decide) ?_
  refine aw_aload_n (n := 222) dX11_marked_221 rfl rfl ?_
  refine aw_getR (n := 225) (RX11, TX11, 52) 11 6 dX11_marked_222 rfl ht (by decide) fd_RX11_33 ?_
  refine aw_iload_n (n := 226) dX11_marked_225 rfl rfl ?_
  refine aw_iaload (n := 227) 1155 dX11_marked_226 rfl (sf_11_6 ht) ?_
  refine aw_iadd (n := 228) dX11_marked_227 rfl ?_
  refine aw_iaload (n := 229) 1155 dX11_marked_228 rfl (sf_11_6 ht) ?_
  refine aw_callVi (n := 232) (as := [.int (μ17.1 (aw_rf t 6) (11 + (μ17.1 (aw_rf t 6) x2.toNatClampNeg)).toNatClampNeg)]) (st := [.int v16, .int (x2 + 5), .ref (aw_rf t 6)]) (RX11, TX11, 52) 11 dX11_marked_229 rfl rfl (m_X11_judges l F t ht (μ17.1 (aw_rf t 6) (11 + (μ17.1 (aw_rf t 6) x2.toNatClampNeg)).toNatClampNeg) μ17) ht (by decide) rfl rfl cw_RX11_297 ⟨Nat.le_of_ble_eq_true rfl, Nat.le_of_ble_eq_true rfl⟩ (fun _ => Nat.le_of_ble_eq_true rfl) (fun r18 => ?_)
  refine aw_imul (n := 233) dX11_marked_232 rfl ?_
  refine aw_iastore (n := 234) 1155 dX11_marked_233 rfl (sf_11_6 ht) (fun μ19 => ?_)
  refine aw_aload_n (n := 235) dX11_marked_234 rfl rfl ?_
  refine aw_getR (n := 238) (RX11, TX11, 52) 11 6 dX11_marked_235 rfl ht (by decide) fd_RX11_33 ?_
  refine aw_sipush (n := 241) 467 dX11_marked_238 rfl (by decide) ?_
  refine aw_aload_n (n := 242) dX11_marked_241 rfl rfl ?_
  refine aw_getR (n := 245) (RX11, TX11, 52) 11 6 dX11_marked_242 rfl ht (by decide) fd_RX11_33 ?_
  refine aw_iload_n (n := 246) dX11_marked_245 rfl rfl ?_
  refine aw_iaload (n := 247) 1155 dX11_marked_246 rfl (sf_11_6 ht) ?_
  refine aw_iadd (n := 248) dX11_marked_247 rfl ?_
  refine aw_dup2 (n := 249) dX11_marked_248 rfl (fun _ => rfl) (fun _ => rfl) ?_
  refine aw_iaload (n := 250) 1155 dX11_marked_249 rfl (sf_11_6 ht) ?_
  refine aw_aload_n (n := 251) dX11_marked_250 rfl rfl ?_
  refine aw_getR (n := 254) (RX11, TX11, 52) 11 6 dX11_marked_251 rfl ht (by decide) fd_RX11_33 ?_
  refine aw_iload_n (n := 255) dX11_marked_254 rfl rfl ?_
  refine aw_iconst (n := 256) 5 dX11_marked_255 rfl (by decide) ?_
  refine aw_iadd (n := 257) dX11_marked_256 rfl ?_
  refine aw_iaload (n := 258) 1155 dX11_marked_257 rfl (sf_11_6 ht) ?_
  refine aw_iadd (n := 259) dX11_marked_258 rfl ?_
  refine aw_iastore (n := 260) 1155 dX11_marked_259 rfl (sf_11_6 ht) (fun μ20 => ?_)
  exact aw_weak (c_X11_marked_260 l F t ht k2 hk2 x1 μ20) (aw_ss (aw_ss (aw_sn (aw_sn (aw_sn aw_s0)))))
def f_X11_marked_158 (F : Nat) (t : Nat) (k2 : Int32 × aw_M → Option (aw_M)) (x1 : Int32) (x2 : Int32) (x3 : Int32) (z0 : Int32) (z1 : Int32) (μ : aw_M) : Option (aw_M) :=
  aw_g (aw_in 9 1155) (aw_g (aw_in (x2 + 3) 1155) ((if (μ.1 (aw_rf t 6) (x2 + 3).toNatClampNeg) < 7 then
  f_X11_marked_193 F t k2 x1 x2 x3 0 ((z1 + z0) + ((μ.1 (aw_rf t 6) (9 : Int32).toNatClampNeg) * x3)) μ
  else
  aw_g (aw_in 10 1155) (f_X11_marked_193 F t k2 x1 x2 x3 (μ.1 (aw_rf t 6) (10 : Int32).toNatClampNeg) ((z1 + z0) + ((μ.1 (aw_rf t 6) (9 : Int32).toNatClampNeg) * x3)) μ))))
theorem c_X11_marked_158 (l : Launch) (F : Nat) (t : Nat) (ht : (aw_sh t).1 = 16) (k2 : Int32 × aw_M → Option (aw_M)) (hk2 : ∀ s : Int32 × aw_M, AW l k_X11_marked aw_gv 2 [some (.ref t), some (.int s.1), none, none, none] [] s.2 (k2 s)) (x1 : Int32) (x2 : Int32) (x3 : Int32) (z0 : Int32) (z1 : Int32) (μ : aw_M) : AW l k_X11_marked aw_gv 158 [some (.ref t), some (.int x1), some (.int x2), some (.int x3), none] [.int z0, .int z1] μ (f_X11_marked_158 F t k2 x1 x2 x3 z0 z1 μ) := by
  unfold f_X11_marked_158
  refine aw_iadd (n := 159) dX11_marked_158 rfl ?_
  refine aw_aload_n (n := 160) dX11_marked_159 rfl rfl ?_
  refine aw_getR (n := 163) (RX11, TX11, 52) 11 6 dX11_marked_160 rfl ht (by decide) fd_RX11_33 ?_
  refine aw_bipush (n := 165) 9 dX11_marked_163 rfl (by decide) ?_
  refine aw_iaload (n := 166) 1155 dX11_marked_165 rfl (sf_11_6 ht) ?_
  refine aw_iload_n (n := 167) dX11_marked_166 rfl rfl ?_
  refine aw_imul (n := 168) dX11_marked_167 rfl ?_
  refine aw_iadd (n := 169) dX11_marked_168 rfl ?_
  refine aw_aload_n (n := 170) dX11_marked_169 rfl rfl ?_
  refine aw_getR (n := 173) (RX11, TX11, 52) 11 6 dX11_marked_170 rfl ht (by decide) fd_RX11_33 ?_
  refine aw_iload_n (n := 174) dX11_marked_173 rfl rfl ?_
  refine aw_iconst (n := 175) 3 dX11_marked_174 rfl (by decide) ?_
  refine aw_iadd (n := 176) dX11_marked_175 rfl ?_
  refine aw_iaload (n := 177) 1155 dX11_marked_176 rfl (sf_11_6 ht) ?_
  refine aw_bipush (n := 179) 7 dX11_marked_177 rfl (by decide) ?_
  refine aw_icmp_lt (n := 182) 192 dX11_marked_179 (by decide) rfl ?_ ?_
  · refine aw_iconst (n := 193) 0 dX11_marked_192 rfl (by decide) ?_
    exact aw_weak (c_X11_marked_193 l F t ht k2 hk2 x1 x2 x3 0 ((z1 + z0) + ((μ.1 (aw_rf t 6) (9 : Int32).toNatClampNeg) * x3)) μ) (aw_ss (aw_ss (aw_ss (aw_ss (aw_sn aw_s0)))))
  · refine aw_aload_n (n := 183) dX11_marked_182 rfl rfl ?_
    refine aw_getR (n := 186) (RX11, TX11, 52) 11 6 dX11_marked_183 rfl ht (by decide) fd_RX11_33 ?_
    refine aw_bipush (n := 188) 10 dX11_marked_186 rfl (by decide) ?_
    refine aw_iaload (n := 189) 1155 dX11_marked_188 rfl (sf_11_6 ht) ?_
    refine aw_goto 193 dX11_marked_189 (by decide) ?_
    exact aw_weak (c_X11_marked_193 l F t ht k2 hk2 x1 x2 x3 (μ.1 (aw_rf t 6) (10 : Int32).toNatClampNeg) ((z1 + z0) + ((μ.1 (aw_rf t 6) (9 : Int32).toNatClampNeg) * x3)) μ) (aw_ss (aw_ss (aw_ss (aw_ss (aw_sn aw_s0)))))
def f_X11_marked_117 (F : Nat) (t : Nat) (k2 : Int32 × aw_M → Option (aw_M)) (x1 : Int32) (x2 : Int32) (x3 : Int32) (μ : aw_M) : Option (aw_M) :=
  aw_g (aw_in 7 1155) (aw_g (aw_in (x2 + 3) 1155) (aw_g (aw_in (x2 + 2) 1155) ((if (μ.1 (aw_rf t 6) (x2 + 2).toNatClampNeg) = 3 then
  aw_g (aw_in 8 1155) (f_X11_marked_158 F t k2 x1 x2 x3 (2 * (μ.1 (aw_rf t 6) (8 : Int32).toNatClampNeg)) ((μ.1 (aw_rf t 6) (7 : Int32).toNatClampNeg) * (μ.1 (aw_rf t 6) (x2 + 3).toNatClampNeg)) μ)
  else
  f_X11_marked_158 F t k2 x1 x2 x3 0 ((μ.1 (aw_rf t 6) (7 : Int32).toNatClampNeg) * (μ.1 (aw_rf t 6) (x2 + 3).toNatClampNeg)) μ))))
theorem c_X11_marked_117 (l : Launch) (F : Nat) (t : Nat) (ht : (aw_sh t).1 = 16) (k2 : Int32 × aw_M → Option (aw_M)) (hk2 : ∀ s : Int32 × aw_M, AW l k_X11_marked aw_gv 2 [some (.ref t), some (.int s.1), none, none, none] [] s.2 (k2 s)) (x1 : Int32) (x2 : Int32) (x3 : Int32) (μ : aw_M) : AW l k_X11_marked aw_gv 117 [some (.ref t), some (.int x1), some (.int x2), some (.int x3), none] [] μ (f_X11_marked_117 F t k2 x1 x2 x3 μ) := by
  unfold f_X11_marked_117
  refine aw_aload_n (n := 118) dX11_marked_117 rfl rfl ?_
  refine aw_getR (n := 121) (RX11, TX11, 52) 11 6 dX11_marked_118 rfl ht (by decide) fd_RX11_33 ?_
  refine aw_bipush (n := 123) 7 dX11_marked_121 rfl (by decide) ?_
  refine aw_iaload (n := 124) 1155 dX11_marked_123 rfl (sf_11_6 ht) ?_
  refine aw_aload_n (n := 125) dX11_marked_124 rfl rfl ?_
  refine aw_getR (n := 128) (RX11, TX11, 52) 11 6 dX11_marked_125 rfl ht (by decide) fd_RX11_33 ?_
  refine aw_iload_n (n := 129) dX11_marked_128 rfl rfl ?_
  refine aw_iconst (n := 130) 3 dX11_marked_129 rfl (by decide) ?_
  refine aw_iadd (n := 131) dX11_marked_130 rfl ?_
  refine aw_iaload (n := 132) 1155 dX11_marked_131 rfl (sf_11_6 ht) ?_
  refine aw_imul (n := 133) dX11_marked_132 rfl ?_
  refine aw_aload_n (n := 134) dX11_marked_133 rfl rfl ?_
  refine aw_getR (n := 137) (RX11, TX11, 52) 11 6 dX11_marked_134 rfl ht (by decide) fd_RX11_33 ?_
  refine aw_iload_n (n := 138) dX11_marked_137 rfl rfl ?_
  refine aw_iconst (n := 139) 2 dX11_marked_138 rfl (by decide) ?_
  refine aw_iadd (n := 140) dX11_marked_139 rfl ?_
  refine aw_iaload (n := 141) 1155 dX11_marked_140 rfl (sf_11_6 ht) ?_
  refine aw_iconst (n := 142) 3 dX11_marked_141 rfl (by decide) ?_
  refine aw_icmp_ne (n := 145) 157 dX11_marked_142 (by decide) rfl ?_ ?_
  · refine aw_iconst (n := 158) 0 dX11_marked_157 rfl (by decide) ?_
    exact aw_weak (c_X11_marked_158 l F t ht k2 hk2 x1 x2 x3 0 ((μ.1 (aw_rf t 6) (7 : Int32).toNatClampNeg) * (μ.1 (aw_rf t 6) (x2 + 3).toNatClampNeg)) μ) (aw_ss (aw_ss (aw_ss (aw_ss (aw_sn aw_s0)))))
  · refine aw_iconst (n := 146) 2 dX11_marked_145 rfl (by decide) ?_
    refine aw_aload_n (n := 147) dX11_marked_146 rfl rfl ?_
    refine aw_getR (n := 150) (RX11, TX11, 52) 11 6 dX11_marked_147 rfl ht (by decide) fd_RX11_33 ?_
    refine aw_bipush (n := 152) 8 dX11_marked_150 rfl (by decide) ?_
    refine aw_iaload (n := 153) 1155 dX11_marked_152 rfl (sf_11_6 ht) ?_
    refine aw_imul (n := 154) dX11_marked_153 rfl ?_
    refine aw_goto 158 dX11_marked_154 (by decide) ?_
    exact aw_weak (c_X11_marked_158 l F t ht k2 hk2 x1 x2 x3 (2 * (μ.1 (aw_rf t 6) (8 : Int32).toNatClampNeg)) ((μ.1 (aw_rf t 6) (7 : Int32).toNatClampNeg) * (μ.1 (aw_rf t 6) (x2 + 3).toNatClampNeg)) μ) (aw_ss (aw_ss (aw_ss (aw_ss (aw_sn aw_s0)))))
def f_X11_marked_109 (F : Nat) (t : Nat) (k2 : Int32 × aw_M → Option (aw_M)) (k43 : Int32 × Int32 × Int32 × Int32 × aw_M → Option (aw_M)) (x1 : Int32) (x2 : Int32) (x4 : Int32) (z0 : Bool) (z1 : Int32) (μ : aw_M) : Option (aw_M) :=
  aw_let ((z1 + (aw_b z0))) fun v21 =>
  k43 (x1, x2, v21, (x4 + 1), μ)
theorem c_X11_marked_109 (l : Launch) (F : Nat) (t : Nat) (ht : (aw_sh t).1 = 16) (k2 : Int32 × aw_M → Option (aw_M)) (hk2 : ∀ s : Int32 × aw_M, AW l k_X11_marked aw_gv 2 [some (.ref t), some (.int s.1), none, none, none] [] s.2 (k2 s)) (k43 : Int32 × Int32 × Int32 × Int32 × aw_M → Option (aw_M)) (hk43 : ∀ s : Int32 × Int32 × Int32 × Int32 × aw_M, AW l k_X11_marked aw_gv 43 [some (.ref t), some (.int s.1), some (.int s.2.1), some (.int s.2.2.1), some (.int s.2.2.2.1)] [] s.2.2.2.2 (k43 s)) (x1 : Int32) (x2 : Int32) (x4 : Int32) (z0 : Bool) (z1 : Int32) (μ : aw_M) : AW l k_X11_marked aw_gv 109 [some (.ref t), some (.int x1), some (.int x2), none, some (.int x4)] [.int (aw_b z0), .int z1] μ (f_X11_marked_109 F t k2 k43 x1 x2 x4 z0 z1 μ) := by
  unfold f_X11_marked_109
  refine aw_iadd (n := 110) dX11_marked_109 rfl ?_
  refine aw_nmI (fun v21 => ?_)
  refine aw_istore_n (n := 111) [some (.ref t), some (.int x1), some (.int x2), some (.int v21), some (.int x4)] dX11_marked_110 rfl rfl (Nat.le_of_ble_eq_true rfl) (Nat.le_of_ble_eq_true rfl) rfl ?_
  refine aw_iinc (n := 114) (x4 + 1) [some (.ref t), some (.int x1), some (.int x2), some (.int v21), some (.int (x4 + 1))] dX11_marked_111 rfl rfl (by rfl) rfl (Nat.le_of_ble_eq_true rfl) rfl ?_
  refine aw_goto 43 dX11_marked_114 (by decide) ?_
  exact aw_weak (hk43 (x1, x2, v21, (x4 + 1), μ)) (aw_ss (aw_ss (aw_ss (aw_ss (aw_ss aw_s0)))))
def f_X11_marked_108 (F : Nat) (t : Nat) (k2 : Int32 × aw_M → Option (aw_M)) (k43 : Int32 × Int32 × Int32 × Int32 × aw_M → Option (aw_M)) (x1 : Int32) (x2 : Int32) (x4 : Int32) (z0 : Int32) (μ : aw_M) : Option (aw_M) :=
  f_X11_marked_109 F t k2 k43 x1 x2 x4 false z0 μ
theorem c_X11_marked_108 (l : Launch) (F : Nat) (t : Nat) (ht : (aw_sh t).1 = 16) (k2 : Int32 × aw_M → Option (aw_M)) (hk2 : ∀ s : Int32 × aw_M, AW l k_X11_marked aw_gv 2 [some (.ref t), some (.int s.1), none, none, none] [] s.2 (k2 s)) (k43 : Int32 × Int32 × Int32 × Int32 × aw_M → Option (aw_M)) (hk43 : ∀ s : Int32 × Int32 × Int32 × Int32 × aw_M, AW l k_X11_marked aw_gv 43 [some (.ref t), some (.int s.1), some (.int s.2.1), some (.int s.2.2.1), some (.int s.2.2.2.1)] [] s.2.2.2.2 (k43 s)) (x1 : Int32) (x2 : Int32) (x4 : Int32) (z0 : Int32) (μ : aw_M) : AW l k_X11_marked aw_gv 108 [some (.ref t), some (.int x1), some (.int x2), none, some (.int x4)] [.int z0] μ (f_X11_marked_108 F t k2 k43 x1 x2 x4 z0 μ) := by
  unfold f_X11_marked_108
  refine aw_iconst (n := 109) 0 dX11_marked_108 rfl (by decide) ?_
  exact aw_weak (c_X11_marked_109 l F t ht k2 hk2 k43 hk43 x1 x2 x4 false z0 μ) (aw_ss (aw_ss (aw_ss (aw_sn (aw_ss aw_s0)))))
def f_X11_marked_43 (F : Nat) (t : Nat) (k43 : Int32 × Int32 × Int32 × Int32 × aw_M → Option (aw_M)) (k2 : Int32 × aw_M → Option (aw_M)) (x1 : Int32) (x2 : Int32) (x3 : Int32) (x4 : Int32) (μ : aw_M) : Option (aw_M) :=
  aw_g (aw_in 919 1155) ((if (μ.1 (aw_rf t 6) (919 : Int32).toNatClampNeg) ≤ x4 then
  f_X11_marked_117 F t k2 x1 x2 x3 μ
  else
  aw_g (aw_in ((920 + (6 * x4)) + 2) 1155) ((if (μ.1 (aw_rf t 6) ((920 + (6 * x4)) + 2).toNatClampNeg) < 3 then
  f_X11_marked_108 F t k2 k43 x1 x2 x4 x3 μ
  else
  aw_g (aw_in ((920 + (6 * x4)) + 1) 1155) (aw_g (aw_in (x2 + 1) 1155) ((if (μ.1 (aw_rf t 6) ((920 + (6 * x4)) + 1).toNatClampNeg) = (μ.1 (aw_rf t 6) (x2 + 1).toNatClampNeg) then
  f_X11_marked_109 F t k2 k43 x1 x2 x4 true x3 μ
  else
  f_X11_marked_108 F t k2 k43 x1 x2 x4 x3 μ)))))))
theorem c_X11_marked_43 (l : Launch) (F : Nat) (t : Nat) (ht : (aw_sh t).1 = 16) (k2 : Int32 × aw_M → Option (aw_M)) (hk2 : ∀ s : Int32 × aw_M, AW l k_X11_marked aw_gv 2 [some (.ref t), some (.int s.1), none, none, none] [] s.2 (k2 s)) : ∀ (N : Nat) (s : Int32 × Int32 × Int32 × Int32 × aw_M), AW l k_X11_marked aw_gv 43 [some (.ref t), some (.int s.1), some (.int s.2.1), some (.int s.2.2.1), some (.int s.2.2.2.1)] [] s.2.2.2.2 (aw_loop (fun k s => f_X11_marked_43 F t k k2 s.1 s.2.1 s.2.2.1 s.2.2.2.1 s.2.2.2.2) N s) := by
  refine aw_loop_ok (f := fun k s => f_X11_marked_43 F t k k2 s.1 s.2.1 s.2.2.1 s.2.2.2.1 s.2.2.2.2) (Ls := fun s => [some (.ref t), some (.int s.1), some (.int s.2.1), some (.int s.2.2.1), some (.int s.2.2.2.1)]) (ms := fun s => s.2.2.2.2) ?_
  intro k43 hk43 s
  obtain ⟨x1, x2, x3, x4, μ⟩ := s
  show AW l k_X11_marked aw_gv 43 [some (.ref t), some (.int x1), some (.int x2), some (.int x3), some (.int x4)] [] μ (f_X11_marked_43 F t k43 k2 x1 x2 x3 x4 μ)
  unfold f_X11_marked_43
  refine aw_iload (n := 45) dX11_marked_43 rfl rfl ?_
  refine aw_aload_n (n := 46) dX11_marked_45 rfl rfl ?_
  refine aw_getR (n := 49) (RX11, TX11, 52) 11 6 dX11_marked_46 rfl ht (by decide) fd_RX11_33 ?_
  refine aw_sipush (n := 52) 919 dX11_marked_49 rfl (by decide) ?_
  refine aw_iaload (n := 53) 1155 dX11_marked_52 rfl (sf_11_6 ht) ?_
  refine aw_icmp_ge (n := 56) 117 dX11_marked_53 (by decide) rfl ?_ ?_
  · exact aw_weak (c_X11_marked_117 l F t ht k2 hk2 x1 x2 x3 μ) (aw_ss (aw_ss (aw_ss (aw_ss (aw_sn aw_s0)))))
  · refine aw_iload_n (n := 57) dX11_marked_56 rfl rfl ?_
    refine aw_aload_n (n := 58) dX11_marked_57 rfl rfl ?_
    refine aw_getR (n := 61) (RX11, TX11, 52) 11 6 dX11_marked_58 rfl ht (by decide) fd_RX11_33 ?_
    refine aw_sipush (n := 64) 920 dX11_marked_61 rfl (by decide) ?_
    refine aw_bipush (n := 66) 6 dX11_marked_64 rfl (by decide) ?_
    refine aw_iload (n := 68) dX11_marked_66 rfl rfl ?_
    refine aw_imul (n := 69) dX11_marked_68 rfl ?_
    refine aw_iadd (n := 70) dX11_marked_69 rfl ?_
    refine aw_iconst (n := 71) 2 dX11_marked_70 rfl (by decide) ?_
    refine aw_iadd (n := 72) dX11_marked_71 rfl ?_
    refine aw_iaload (n := 73) 1155 dX11_marked_72 rfl (sf_11_6 ht) ?_
    refine aw_iconst (n := 74) 3 dX11_marked_73 rfl (by decide) ?_
    refine aw_icmp_lt (n := 77) 108 dX11_marked_74 (by decide) rfl ?_ ?_
    · exact aw_weak (c_X11_marked_108 l F t ht k2 hk2 k43 hk43 x1 x2 x4 x3 μ) (aw_ss (aw_ss (aw_ss (aw_sn (aw_ss aw_s0)))))
    · refine aw_aload_n (n := 78) dX11_marked_77 rfl rfl ?_
      refine aw_getR (n := 81) (RX11, TX11, 52) 11 6 dX11_marked_78 rfl ht (by decide) fd_RX11_33 ?_
      refine aw_sipush (n := 84) 920 dX11_marked_81 rfl (by decide) ?_
      refine aw_bipush (n := 86) 6 dX11_marked_84 rfl (by decide) ?_
      refine aw_iload (n := 88) dX11_marked_86 rfl rfl ?_
      refine aw_imul (n := 89) dX11_marked_88 rfl ?_
      refine aw_iadd (n := 90) dX11_marked_89 rfl ?_
      refine aw_iconst (n := 91) 1 dX11_marked_90 rfl (by decide) ?_
      refine aw_iadd (n := 92) dX11_marked_91 rfl ?_
      refine aw_iaload (n := 93) 1155 dX11_marked_92 rfl (sf_11_6 ht) ?_
      refine aw_aload_n (n := 94) dX11_marked_93 rfl rfl ?_
      refine aw_getR (n := 97) (RX11, TX11, 52) 11 6 dX11_marked_94 rfl ht (by decide) fd_RX11_33 ?_
      refine aw_iload_n (n := 98) dX11_marked_97 rfl rfl ?_
      refine aw_iconst (n := 99) 1 dX11_marked_98 rfl (by decide) ?_
      refine aw_iadd (n := 100) dX11_marked_99 rfl ?_
      refine aw_iaload (n := 101) 1155 dX11_marked_100 rfl (sf_11_6 ht) ?_
      refine aw_icmp_ne (n := 104) 108 dX11_marked_101 (by decide) rfl ?_ ?_
      · exact aw_weak (c_X11_marked_108 l F t ht k2 hk2 k43 hk43 x1 x2 x4 x3 μ) (aw_ss (aw_ss (aw_ss (aw_sn (aw_ss aw_s0)))))
      · refine aw_iconst (n := 105) 1 dX11_marked_104 rfl (by decide) ?_
        refine aw_goto 109 dX11_marked_105 (by decide) ?_
        exact aw_weak (c_X11_marked_109 l F t ht k2 hk2 k43 hk43 x1 x2 x4 true x3 μ) (aw_ss (aw_ss (aw_ss (aw_sn (aw_ss aw_s0)))))
def f_X11_marked_2 (F : Nat) (t : Nat) (k2 : Int32 × aw_M → Option (aw_M)) (x1 : Int32) (μ : aw_M) : Option (aw_M) :=
  aw_g (aw_in 919 1155) ((if (μ.1 (aw_rf t 6) (919 : Int32).toNatClampNeg) ≤ x1 then
  some μ
  else
  aw_let ((920 + (6 * x1))) fun v15 =>
  aw_g (aw_in (v15 + 2) 1155) ((if 3 ≤ (μ.1 (aw_rf t 6) (v15 + 2).toNatClampNeg) then
  aw_loop (fun k s => f_X11_marked_43 F t k k2 s.1 s.2.1 s.2.2.1 s.2.2.2.1 s.2.2.2.2) F (x1, v15, (-1), 0, μ)
  else
  f_X11_marked_260 F t k2 x1 μ))))
theorem c_X11_marked_2 (l : Launch) (F : Nat) (t : Nat) (ht : (aw_sh t).1 = 16) : ∀ (N : Nat) (s : Int32 × aw_M), AW l k_X11_marked aw_gv 2 [some (.ref t), some (.int s.1), none, none, none] [] s.2 (aw_loop (fun k s => f_X11_marked_2 F t k s.1 s.2) N s) := by
  refine aw_loop_ok (f := fun k s => f_X11_marked_2 F t k s.1 s.2) (Ls := fun s => [some (.ref t), some (.int s.1), none, none, none]) (ms := fun s => s.2) ?_
  intro k2 hk2 s
  obtain ⟨x1, μ⟩ := s
  show AW l k_X11_marked aw_gv 2 [some (.ref t), some (.int x1), none, none, none] [] μ (f_X11_marked_2 F t k2 x1 μ)
  unfold f_X11_marked_2
  refine aw_iload_n (n := 3) dX11_marked_2 rfl rfl ?_
  refine aw_aload_n (n := 4) dX11_marked_3 rfl rfl ?_
  refine aw_getR (n := 7) (RX11, TX11, 52) 11 6 dX11_marked_4 rfl ht (by decide) fd_RX11_33 ?_
  refine aw_sipush (n := 10) 919 dX11_marked_7 rfl (by decide) ?_
  refine aw_iaload (n := 11) 1155 dX11_marked_10 rfl (sf_11_6 ht) ?_
  refine aw_icmp_ge (n := 14) 266 dX11_marked_11 (by decide) rfl ?_ ?_
  · exact aw_vreturn dX11_marked_266 rfl rfl
  · refine aw_sipush (n := 17) 920 dX11_marked_14 rfl (by decide) ?_
    refine aw_bipush (n := 19) 6 dX11_marked_17 rfl (by decide) ?_
    refine aw_iload_n (n := 20) dX11_marked_19 rfl rfl ?_
    refine aw_imul (n := 21) dX11_marked_20 rfl ?_
    refine aw_iadd (n := 22) dX11_marked_21 rfl ?_
    refine aw_nmI (fun v15 => ?_)
    refine aw_istore_n (n := 23) [some (.ref t), some (.int x1), some (.int v15), none, none] dX11_marked_22 rfl rfl (Nat.le_of_ble_eq_true rfl) (Nat.le_of_ble_eq_true rfl) rfl ?_
    refine aw_aload_n (n := 24) dX11_marked_23 rfl rfl ?_
    refine aw_getR (n := 27) (RX11, TX11, 52) 11 6 dX11_marked_24 rfl ht (by decide) fd_RX11_33 ?_
    refine aw_iload_n (n := 28) dX11_marked_27 rfl rfl ?_
    refine aw_iconst (n := 29) 2 dX11_marked_28 rfl (by decide) ?_
    refine aw_iadd (n := 30) dX11_marked_29 rfl ?_
    refine aw_iaload (n := 31) 1155 dX11_marked_30 rfl (sf_11_6 ht) ?_
    refine aw_iconst (n := 32) 3 dX11_marked_31 rfl (by decide) ?_
    refine aw_icmp_ge (n := 35) 38 dX11_marked_32 (by decide) rfl ?_ ?_
    · refine aw_iconst (n := 39) (-1) dX11_marked_38 rfl (by decide) ?_
      refine aw_istore_n (n := 40) [some (.ref t), some (.int x1), some (.int v15), some (.int (-1)), none] dX11_marked_39 rfl rfl (Nat.le_of_ble_eq_true rfl) (Nat.le_of_ble_eq_true rfl) rfl ?_
      refine aw_iconst (n := 41) 0 dX11_marked_40 rfl (by decide) ?_
      refine aw_istore (n := 43) [some (.ref t), some (.int x1), some (.int v15), some (.int (-1)), some (.int 0)] dX11_marked_41 rfl rfl (Nat.le_of_ble_eq_true rfl) (Nat.le_of_ble_eq_true rfl) rfl ?_
      exact aw_weak (c_X11_marked_43 l F t ht k2 hk2 F (x1, v15, (-1), 0, μ)) (aw_ss (aw_ss (aw_ss (aw_ss (aw_ss aw_s0)))))
    · refine aw_goto 260 dX11_marked_35 (by decide) ?_
      exact aw_weak (c_X11_marked_260 l F t ht k2 hk2 x1 μ) (aw_ss (aw_ss (aw_sn (aw_sn (aw_sn aw_s0)))))
def f_X11_marked (F : Nat) (t : Nat) (μ : aw_M) : Option (aw_M) :=
  aw_loop (fun k s => f_X11_marked_2 F t k s.1 s.2) F (0, μ)
theorem m_X11_marked (l : Launch) (F : Nat) (t : Nat) (ht : (aw_sh t).1 = 16) (μ : aw_M) : AM l yX11_marked cX11_marked 5 none 4 184 aw_gv [.ref t] μ (f_X11_marked F t μ) := by
  refine aw_met [some (.ref t), none, none, none, none] (by decide) (fun _ => rfl) (fun _ => Nat.le_of_ble_eq_true rfl) ?_
  show AW l k_X11_marked aw_gv 0 [some (.ref t), none, none, none, none] [] μ _
  unfold f_X11_marked
  refine aw_iconst (n := 1) 0 dX11_marked_0 rfl (by decide) ?_
  refine aw_istore_n (n := 2) [some (.ref t), some (.int 0), none, none, none] dX11_marked_1 rfl rfl (Nat.le_of_ble_eq_true rfl) (Nat.le_of_ble_eq_true rfl) rfl ?_
  exact aw_weak (c_X11_marked_2 l F t ht F (0, μ)) (aw_ss (aw_ss (aw_sn (aw_sn (aw_sn aw_s0)))))
abbrev k_X11_drains : aw_K := (RX11, cX11_drains, 2, none, 1, 120)
def f_X11_drains (F : Nat) (t : Nat) (a0 : Int32) (μ : aw_M) : Option (aw_M) :=
  aw_g (aw_in (714 + a0) 1155) (aw_g (aw_in (714 + a0) 1155) ((if (μ.1 (aw_rf t 6) (714 + a0).toNatClampNeg) ≤ 0 then
  aw_g (aw_in (714 + a0) 1155) (aw_let (aw_wI μ (aw_rf t 6) (714 + a0).toNatClampNeg ((μ.1 (aw_rf t 6) (714 + a0).toNatClampNeg) - 0)) fun μ1 =>
  some μ1)
  else
  aw_g (aw_in (714 + a0) 1155) (aw_let (aw_wI μ (aw_rf t 6) (714 + a0).toNatClampNeg ((μ.1 (aw_rf t 6) (714 + a0).toNatClampNeg) - 1)) fun μ2 =>
  some μ2))))
theorem m_X11_drains (l : Launch) (F : Nat) (t : Nat) (ht : (aw_sh t).1 = 16) (a0 : Int32) (μ : aw_M) : AM l yX11_drains cX11_drains 2 none 1 120 aw_gv [.ref t, .int a0] μ (f_X11_drains F t a0 μ) := by
  refine aw_met [some (.ref t), some (.int a0)] (by decide) (fun _ => rfl) (fun _ => Nat.le_of_ble_eq_true rfl) ?_
  show AW l k_X11_drains aw_gv 0 [some (.ref t), some (.int a0)] [] μ _
  unfold f_X11_drains
  refine aw_aload_n (n := 1) dX11_drains_0 rfl rfl ?_
  refine aw_getR (n := 4) (RX11, TX11, 52) 11 6 dX11_drains_1 rfl ht (by decide) fd_RX11_33 ?_
  refine aw_sipush (n := 7) 714 dX11_drains_4 rfl (by decide) ?_
  refine aw_iload_n (n := 8) dX11_drains_7 rfl rfl ?_
  refine aw_iadd (n := 9) dX11_drains_8 rfl ?_
  refine aw_dup2 (n := 10) dX11_drains_9 rfl (fun _ => rfl) (fun _ => rfl) ?_
  refine aw_iaload (n := 11) 1155 dX11_drains_10 rfl (sf_11_6 ht) ?_
  refine aw_aload_n (n := 12) dX11_drains_11 rfl rfl ?_
  refine aw_getR (n := 15) (RX11, TX11, 52) 11 6 dX11_drains_12 rfl ht (by decide) fd_RX11_33 ?_
  refine aw_sipush (n := 18) 714 dX11_drains_15 rfl (by decide) ?_
  refine aw_iload_n (n := 19) dX11_drains_18 rfl rfl ?_
  refine aw_iadd (n := 20) dX11_drains_19 rfl ?_
  refine aw_iaload (n := 21) 1155 dX11_drains_20 rfl (sf_11_6 ht) ?_
  refine aw_if_le (n := 24) 28 dX11_drains_21 (by decide) rfl ?_ ?_
  · refine aw_iconst (n := 29) 0 dX11_drains_28 rfl (by decide) ?_
    refine aw_isub (n := 30) dX11_drains_29 rfl ?_
    refine aw_iastore (n := 31) 1155 dX11_drains_30 rfl (sf_11_6 ht) (fun μ1 => ?_)
    exact aw_vreturn dX11_drains_31 rfl rfl
  · refine aw_iconst (n := 25) 1 dX11_drains_24 rfl (by decide) ?_
    refine aw_goto 29 dX11_drains_25 (by decide) ?_
    refine aw_isub (n := 30) dX11_drains_29 rfl ?_
    refine aw_iastore (n := 31) 1155 dX11_drains_30 rfl (sf_11_6 ht) (fun μ2 => ?_)
    exact aw_vreturn dX11_drains_31 rfl rfl
