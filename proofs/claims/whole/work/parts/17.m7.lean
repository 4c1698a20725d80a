abbrev k_X11_thrown : aw_K := (RX11, cX11_thrown, 1, (some .int), 1, 120)
def f_X11_thrown (F : Nat) (t : Nat) (μ : aw_M) : Option (Int32 × aw_M) :=
  some ((μ.1 t 0), μ)
theorem m_X11_thrown (l : Launch) (F : Nat) (t : Nat) (ht : (aw_sh t).1 = 16) (μ : aw_M) : AM l yX11_thrown cX11_thrown 1 (some .int) 1 120 aw_gi [.ref t] μ (f_X11_thrown F t μ) := by
  refine aw_met [some (.ref t)] (by decide) (fun _ => rfl) (fun _ => Nat.le_of_ble_eq_true rfl) ?_
  show AW l k_X11_thrown aw_gi 0 [some (.ref t)] [] μ _
  unfold f_X11_thrown
  refine aw_aload_n (n := 1) dX11_thrown_0 rfl rfl ?_
  refine aw_getI (n := 4) (RX11, TX11, 52) 11 0 dX11_thrown_1 rfl ht (by decide) fd_RX11_1 ?_
  exact aw_ireturn dX11_thrown_4 rfl rfl
abbrev k_X11_throwsIf : aw_K := (RX11, cX11_throwsIf, 2, (some .boolean), 1, 120)
def f_X11_throwsIf (F : Nat) (t : Nat) (a0 : Int32) (μ : aw_M) : Option (Bool × aw_M) :=
  (if a0 = 0 then
  aw_let (aw_wI μ t 0 0) fun μ1 =>
  aw_g (aw_isB a0) (some (a0 == 1, μ1))
  else
  aw_let (aw_wI μ t 0 1) fun μ2 =>
  aw_g (aw_isB a0) (some (a0 == 1, μ2)))
theorem m_X11_throwsIf (l : Launch) (F : Nat) (t : Nat) (ht : (aw_sh t).1 = 16) (a0 : Int32) (μ : aw_M) : AM l yX11_throwsIf cX11_throwsIf 2 (some .boolean) 1 120 aw_gz [.ref t, .int a0] μ (f_X11_throwsIf F t a0 μ) := by
  refine aw_met [some (.ref t), some (.int a0)] (by decide) (fun _ => rfl) (fun _ => Nat.le_of_ble_eq_true rfl) ?_
  show AW l k_X11_throwsIf aw_gz 0 [some (.ref t), some (.int a0)] [] μ _
  unfold f_X11_throwsIf
  refine aw_aload_n (n := 1) dX11_throwsIf_0 rfl rfl ?_
  refine aw_iload_n (n := 2) dX11_throwsIf_1 rfl rfl ?_
  refine aw_if_eq (n := 5) 9 dX11_throwsIf_2 (by decide) rfl ?_ ?_
  · refine aw_iconst (n := 10) 0 dX11_throwsIf_9 rfl (by decide) ?_
    refine aw_putI (n := 13) (RX11, TX11, 52) 11 0 dX11_throwsIf_10 rfl ht (by decide) fp_RX11_1 (fun μ1 => ?_)
    refine aw_iload_n (n := 14) dX11_throwsIf_13 rfl rfl ?_
    exact aw_zretG dX11_throwsIf_14 rfl rfl
  · refine aw_iconst (n := 6) 1 dX11_throwsIf_5 rfl (by decide) ?_
    refine aw_goto 10 dX11_throwsIf_6 (by decide) ?_
    refine aw_putI (n := 13) (RX11, TX11, 52) 11 0 dX11_throwsIf_10 rfl ht (by decide) fp_RX11_1 (fun μ2 => ?_)
    refine aw_iload_n (n := 14) dX11_throwsIf_13 rfl rfl ?_
    exact aw_zretG dX11_throwsIf_14 rfl rfl
abbrev k_X11_four : aw_K := (RX11, cX11_four, 3, none, 1, 120)
def f_X11_four_3 (F : Nat) (t : Nat) (k3 : Int32 × Int32 × aw_M → Option (aw_M)) (x1 : Int32) (x2 : Int32) (μ : aw_M) : Option (aw_M) :=
  (if x2 < 0 then
  some μ
  else
  aw_g (aw_in (μ.1 t 2) 940) (aw_let (aw_wI μ (aw_rf t 1) (μ.1 t 2).toNatClampNeg (vp_nar .byte (((x1 >>> (x2 &&& 31)) : Int32).toInt8.toInt32))) fun μ3 =>
  aw_let (aw_wI μ3 t 2 ((μ3.1 t 2) + 1)) fun μ4 =>
  k3 (x1, (x2 + (-8)), μ4)))
theorem c_X11_four_3 (l : Launch) (F : Nat) (t : Nat) (ht : (aw_sh t).1 = 16) : ∀ (N : Nat) (s : Int32 × Int32 × aw_M), AW l k_X11_four aw_gv 3 [some (.ref t), some (.int s.1), some (.int s.2.1)] [] s.2.2 (aw_loop (fun k s => f_X11_four_3 F t k s.1 s.2.1 s.2.2) N s) := by
  refine aw_loop_ok (f := fun k s => f_X11_four_3 F t k s.1 s.2.1 s.2.2) (Ls := fun s => [some (.ref t), some (.int s.1), some (.int s.2.1)]) (ms := fun s => s.2.2) ?_
  intro k3 hk3 s
  obtain ⟨x1, x2, μ⟩ := s
  show AW l k_X11_four aw_gv 3 [some (.ref t), some (.int x1), some (.int x2)] [] μ (f_X11_four_3 F t k3 x1 x2 μ)
  unfold f_X11_four_3
  refine aw_iload_n (n := 4) dX11_four_3 rfl rfl ?_
  refine aw_if_lt (n := 7) 36 dX11_four_4 (by decide) rfl ?_ ?_
  · exact aw_vreturn dX11_four_36 rfl rfl
  · refine aw_aload_n (n := 8) dX11_four_7 rfl rfl ?_
    refine aw_getR (n := 11) (RX11, TX11, 52) 11 1 dX11_four_8 rfl ht (by decide) fd_RX11_14 ?_
    refine aw_aload_n (n := 12) dX11_four_11 rfl rfl ?_
    refine aw_getI (n := 15) (RX11, TX11, 52) 11 2 dX11_four_12 rfl ht (by decide) fd_RX11_7 ?_
    refine aw_iload_n (n := 16) dX11_four_15 rfl rfl ?_
    refine aw_iload_n (n := 17) dX11_four_16 rfl rfl ?_
    refine aw_ishr (n := 18) dX11_four_17 rfl ?_
    refine aw_i2b (n := 19) dX11_four_18 rfl ?_
    refine aw_bastore (n := 20) 940 dX11_four_19 rfl (sf_11_1 ht) (fun μ3 => ?_)
    refine aw_aload_n (n := 21) dX11_four_20 rfl rfl ?_
    refine aw_dup (n := 22) dX11_four_21 rfl (fun _ => rfl) ?_
    refine aw_getI (n := 25) (RX11, TX11, 52) 11 2 dX11_four_22 rfl ht (by decide) fd_RX11_7 ?_
    refine aw_iconst (n := 26) 1 dX11_four_25 rfl (by decide) ?_
    refine aw_iadd (n := 27) dX11_four_26 rfl ?_
    refine aw_putI (n := 30) (RX11, TX11, 52) 11 2 dX11_four_27 rfl ht (by decide) fp_RX11_7 (fun μ4 => ?_)
    refine aw_iinc (n := 33) (x2 + (-8)) [some (.ref t), some (.int x1), some (.int (x2 + (-8)))] dX11_four_30 rfl rfl (by rfl) rfl (Nat.le_of_ble_eq_true rfl) rfl ?_
    refine aw_goto 3 dX11_four_33 (by decide) ?_
    exact aw_weak (hk3 (x1, (x2 + (-8)), μ4)) (aw_ss (aw_ss (aw_ss aw_s0)))
def f_X11_four (F : Nat) (t : Nat) (a0 : Int32) (μ : aw_M) : Option (aw_M) :=
  aw_loop (fun k s => f_X11_four_3 F t k s.1 s.2.1 s.2.2) F (a0, 24, μ)
theorem m_X11_four (l : Launch) (F : Nat) (t : Nat) (ht : (aw_sh t).1 = 16) (a0 : Int32) (μ : aw_M) : AM l yX11_four cX11_four 3 none 1 120 aw_gv [.ref t, .int a0] μ (f_X11_four F t a0 μ) := by
  refine aw_met [some (.ref t), some (.int a0), none] (by decide) (fun _ => rfl) (fun _ => Nat.le_of_ble_eq_true rfl) ?_
  show AW l k_X11_four aw_gv 0 [some (.ref t), some (.int a0), none] [] μ _
  unfold f_X11_four
  refine aw_bipush (n := 2) 24 dX11_four_0 rfl (by decide) ?_
  refine aw_istore_n (n := 3) [some (.ref t), some (.int a0), some (.int 24)] dX11_four_2 rfl rfl (Nat.le_of_ble_eq_true rfl) (Nat.le_of_ble_eq_true rfl) rfl ?_
  exact aw_weak (c_X11_four_3 l F t ht F (a0, 24, μ)) (aw_ss (aw_ss (aw_ss aw_s0)))
abbrev k_X11_feed : aw_K := (RX11, cX11_feed, 6, (some .int), 2, 142)
def f_X11_feed (F : Nat) (t : Nat) (a0 : Int32) (a1 : Int32) (a2 : Int32) (a3 : Int32) (a4 : Int32) (μ : aw_M) : Option (Int32 × aw_M) :=
  aw_let (aw_wI μ t 0 0) fun μ1 =>
  (if ((μ1.1 t 2) + 20) ≤ 940 then
  (f_X11_four F t a0 μ1).bind fun r2 =>
  (f_X11_four F t a1 r2).bind fun r3 =>
  (f_X11_four F t a2 r3).bind fun r4 =>
  (f_X11_four F t a3 r4).bind fun r5 =>
  (f_X11_four F t a4 r5).bind fun r6 =>
  some ((r6.1 t 2), r6)
  else
  some ((-1), μ1))
theorem m_X11_feed (l : Launch) (F : Nat) (t : Nat) (ht : (aw_sh t).1 = 16) (a0 : Int32) (a1 : Int32) (a2 : Int32) (a3 : Int32) (a4 : Int32) (μ : aw_M) : AM l yX11_feed cX11_feed 6 (some .int) 2 142 aw_gi [.ref t, .int a0, .int a1, .int a2, .int a3, .int a4] μ (f_X11_feed F t a0 a1 a2 a3 a4 μ) := by
  refine aw_met [some (.ref t), some (.int a0), some (.int a1), some (.int a2), some (.int a3), some (.int a4)] (by decide) (fun _ => rfl) (fun _ => Nat.le_of_ble_eq_true rfl) ?_
  show AW l k_X11_feed aw_gi 0 [some (.ref t), some (.int a0), some (.int a1), some (.int a2), some (.int a3), some (.int a4)] [] μ _
  unfold f_X11_feed
  refine aw_aload_n (n := 1) dX11_feed_0 rfl rfl ?_
  refine aw_iconst (n := 2) 0 dX11_feed_1 rfl (by decide) ?_
  refine aw_putI (n := 5) (RX11, TX11, 52) 11 0 dX11_feed_2 rfl ht (by decide) fp_RX11_1 (fun μ1 => ?_)
  refine aw_aload_n (n := 6) dX11_feed_5 rfl rfl ?_
  refine aw_getI (n := 9) (RX11, TX11, 52) 11 2 dX11_feed_6 rfl ht (by decide) fd_RX11_7 ?_
  refine aw_bipush (n := 11) 20 dX11_feed_9 rfl (by decide) ?_
  refine aw_iadd (n := 12) dX11_feed_11 rfl ?_
  refine aw_sipush (n := 15) 940 dX11_feed_12 rfl (by decide) ?_
  refine aw_icmp_le (n := 18) 20 dX11_feed_15 (by decide) rfl ?_ ?_
  · refine aw_aload_n (n := 21) dX11_feed_20 rfl rfl ?_
    refine aw_iload_n (n := 22) dX11_feed_21 rfl rfl ?_
    refine aw_callVv (n := 25) (as := [.int a0]) (st := []) (RX11, TX11, 52) 11 dX11_feed_22 rfl rfl (m_X11_four l F t ht a0 μ1) ht (by decide) rfl rfl cw_RX11_10 ⟨Nat.le_of_ble_eq_true rfl, Nat.le_of_ble_eq_true rfl⟩ (fun _ => Nat.le_of_ble_eq_true rfl) (fun r2 => ?_)
    refine aw_aload_n (n := 26) dX11_feed_25 rfl rfl ?_
    refine aw_iload_n (n := 27) dX11_feed_26 rfl rfl ?_
    refine aw_callVv (n := 30) (as := [.int a1]) (st := []) (RX11, TX11, 52) 11 dX11_feed_27 rfl rfl (m_X11_four l F t ht a1 r2) ht (by decide) rfl rfl cw_RX11_10 ⟨Nat.le_of_ble_eq_true rfl, Nat.le_of_ble_eq_true rfl⟩ (fun _ => Nat.le_of_ble_eq_true rfl) (fun r3 => ?_)
    refine aw_aload_n (n := 31) dX11_feed_30 rfl rfl ?_
    refine aw_iload_n (n := 32) dX11_feed_31 rfl rfl ?_
    refine aw_callVv (n := 35) (as := [.int a2]) (st := []) (RX11, TX11, 52) 11 dX11_feed_32 rfl rfl (m_X11_four l F t ht a2 r3) ht (by decide) rfl rfl cw_RX11_10 ⟨Nat.le_of_ble_eq_true rfl, Nat.le_of_ble_eq_true rfl⟩ (fun _ => Nat.le_of_ble_eq_true rfl) (fun r4 => ?_)
    refine aw_aload_n (n := 36) dX11_feed_35 rfl rfl ?_
    refine aw_iload (n := 38) dX11_feed_36 rfl rfl ?_
    refine aw_callVv (n := 41) (as := [.int a3]) (st := []) (RX11, TX11, 52) 11 dX11_feed_38 rfl rfl (m_X11_four l F t ht a3 r4) ht (by decide) rfl rfl cw_RX11_10 ⟨Nat.le_of_ble_eq_true rfl, Nat.le_of_ble_eq_true rfl⟩ (fun _ => Nat.le_of_ble_eq_true rfl) (fun r5 => ?_)
    refine aw_aload_n (n := 42) dX11_feed_41 rfl rfl ?_
    refine aw_iload (n := 44) dX11_feed_42 rfl rfl ?_
    refine aw_callVv (n := 47) (as := [.int a4]) (st := []) (RX11, TX11, 52) 11 dX11_feed_44 rfl rfl (m_X11_four l F t ht a4 r5) ht (by decide) rfl rfl cw_RX11_10 ⟨Nat.le_of_ble_eq_true rfl, Nat.le_of_ble_eq_true rfl⟩ (fun _ => Nat.le_of_ble_eq_true rfl) (fun r6 => ?_)
    refine aw_aload_n (n := 48) dX11_feed_47 rfl rfl ?_
    refine aw_getI (n := 51) (RX11, TX11, 52) 11 2 dX11_feed_48 rfl ht (by decide) fd_RX11_7 ?_
    exact aw_ireturn dX11_feed_51 rfl rfl
  · refine aw_iconst (n := 19) (-1) dX11_feed_18 rfl (by decide) ?_
    exact aw_ireturn dX11_feed_19 rfl rfl
abbrev k_X11_end : aw_K := (RX11, cX11_end, 2, (some .boolean), 1, 120)
def f_X11_end (F : Nat) (t : Nat) (a0 : Int32) (μ : aw_M) : Option (Bool × aw_M) :=
  aw_let (aw_wI μ t 0 0) fun μ1 =>
  (if a0 < 0 then
  some (false, μ1)
  else
  (if a0 ≤ (μ1.1 t 2) then
  aw_let (aw_wI μ1 t 2 a0) fun μ2 =>
  some (true, μ2)
  else
  some (false, μ1)))
theorem m_X11_end (l : Launch) (F : Nat) (t : Nat) (ht : (aw_sh t).1 = 16) (a0 : Int32) (μ : aw_M) : AM l yX11_end cX11_end 2 (some .boolean) 1 120 aw_gz [.ref t, .int a0] μ (f_X11_end F t a0 μ) := by
  refine aw_met [some (.ref t), some (.int a0)] (by decide) (fun _ => rfl) (fun _ => Nat.le_of_ble_eq_true rfl) ?_
  show AW l k_X11_end aw_gz 0 [some (.ref t), some (.int a0)] [] μ _
  unfold f_X11_end
  refine aw_aload_n (n := 1) dX11_end_0 rfl rfl ?_
  refine aw_iconst (n := 2) 0 dX11_end_1 rfl (by decide) ?_
  refine aw_putI (n := 5) (RX11, TX11, 52) 11 0 dX11_end_2 rfl ht (by decide) fp_RX11_1 (fun μ1 => ?_)
  refine aw_iload_n (n := 6) dX11_end_5 rfl rfl ?_
  refine aw_if_lt (n := 9) 17 dX11_end_6 (by decide) rfl ?_ ?_
  · refine aw_iconst (n := 18) 0 dX11_end_17 rfl (by decide) ?_
    exact aw_zreturn (b := false) dX11_end_18 rfl rfl
  · refine aw_iload_n (n := 10) dX11_end_9 rfl rfl ?_
    refine aw_aload_n (n := 11) dX11_end_10 rfl rfl ?_
    refine aw_getI (n := 14) (RX11, TX11, 52) 11 2 dX11_end_11 rfl ht (by decide) fd_RX11_7 ?_
    refine aw_icmp_le (n := 17) 19 dX11_end_14 (by decide) rfl ?_ ?_
    · refine aw_aload_n (n := 20) dX11_end_19 rfl rfl ?_
      refine aw_iload_n (n := 21) dX11_end_20 rfl rfl ?_
      refine aw_putI (n := 24) (RX11, TX11, 52) 11 2 dX11_end_21 rfl ht (by decide) fp_RX11_7 (fun μ2 => ?_)
      refine aw_iconst (n := 25) 1 dX11_end_24 rfl (by decide) ?_
      exact aw_zreturn (b := true) dX11_end_25 rfl rfl
    · refine aw_iconst (n := 18) 0 dX11_end_17 rfl (by decide) ?_
      exact aw_zreturn (b := false) dX11_end_18 rfl rfl
abbrev k_X11_taken : aw_K := (RX11, cX11_taken, 2, none, 1, 120)
def f_X11_taken (F : Nat) (t : Nat) (a0 : Int32) (μ : aw_M) : Option (aw_M) :=
  aw_let (aw_wI μ t 3 (μ.1 t 2)) fun μ1 =>
  aw_let (aw_wI μ1 t 2 0) fun μ2 =>
  aw_let (aw_wI μ2 t 4 0) fun μ3 =>
  aw_let (aw_wI μ3 t 5 a0) fun μ4 =>
  some μ4
theorem m_X11_taken (l : Launch) (F : Nat) (t : Nat) (ht : (aw_sh t).1 = 16) (a0 : Int32) (μ : aw_M) : AM l yX11_taken cX11_taken 2 none 1 120 aw_gv [.ref t, .int a0] μ (f_X11_taken F t a0 μ) := by
  refine aw_met [some (.ref t), some (.int a0)] (by decide) (fun _ => rfl) (fun _ => Nat.le_of_ble_eq_true rfl) ?_
  show AW l k_X11_taken aw_gv 0 [some (.ref t), some (.int a0)] [] μ _
  unfold f_X11_taken
  refine aw_aload_n (n := 1) dX11_taken_0 rfl rfl ?_
  refine aw_aload_n (n := 2) dX11_taken_1 rfl rfl ?_
  refine aw_getI (n := 5) (RX11, TX11, 52) 11 2 dX11_taken_2 rfl ht (by decide) fd_RX11_7 ?_
  refine aw_putI (n := 8) (RX11, TX11, 52) 11 3 dX11_taken_5 rfl ht (by decide) fp_RX11_18 (fun μ1 => ?_)
  refine aw_aload_n (n := 9) dX11_taken_8 rfl rfl ?_
  refine aw_iconst (n := 10) 0 dX11_taken_9 rfl (by decide) ?_
  refine aw_putI (n := 13) (RX11, TX11, 52) 11 2 dX11_taken_10 rfl ht (by decide) fp_RX11_7 (fun μ2 => ?_)
  refine aw_aload_n (n := 14) dX11_taken_13 rfl rfl ?_
  refine aw_iconst (n := 15) 0 dX11_taken_14 rfl (by decide) ?_
  refine aw_putI (n := 18) (RX11, TX11, 52) 11 4 dX11_taken_15 rfl ht (by decide) fp_RX11_21 (fun μ3 => ?_)
  refine aw_aload_n (n := 19) dX11_taken_18 rfl rfl ?_
  refine aw_iload_n (n := 20) dX11_taken_19 rfl rfl ?_
  refine aw_putI (n := 23) (RX11, TX11, 52) 11 5 dX11_taken_20 rfl ht (by decide) fp_RX11_24 (fun μ4 => ?_)
  exact aw_vreturn dX11_taken_23 rfl rfl
abbrev k_X11_isIn : aw_K := (RX11, cX11_isIn, 3, (some .boolean), 1, 120)
def f_X11_isIn (F : Nat)  (a0 : Int32) (a1 : Int32) (a2 : Int32) (μ : aw_M) : Option (Bool × aw_M) :=
  (if a0 < a1 then
  some (false, μ)
  else
  (if a2 < a0 then
  some (false, μ)
  else
  some (true, μ)))
theorem m_X11_isIn (l : Launch) (F : Nat) (a0 : Int32) (a1 : Int32) (a2 : Int32) (μ : aw_M) : AM l yX11_isIn cX11_isIn 3 (some .boolean) 1 120 aw_gz [.int a0, .int a1, .int a2] μ (f_X11_isIn F  a0 a1 a2 μ) := by
  refine aw_met [some (.int a0), some (.int a1), some (.int a2)] (by decide) (fun _ => rfl) (fun _ => Nat.le_of_ble_eq_true rfl) ?_
  show AW l k_X11_isIn aw_gz 0 [some (.int a0), some (.int a1), some (.int a2)] [] μ _
  unfold f_X11_isIn
  refine aw_iload_n (n := 1) dX11_isIn_0 rfl rfl ?_
  refine aw_iload_n (n := 2) dX11_isIn_1 rfl rfl ?_
  refine aw_icmp_lt (n := 5) 14 dX11_isIn_2 (by decide) rfl ?_ ?_
  · refine aw_iconst (n := 15) 0 dX11_isIn_14 rfl (by decide) ?_
    exact aw_zreturn (b := false) dX11_isIn_15 rfl rfl
  · refine aw_iload_n (n := 6) dX11_isIn_5 rfl rfl ?_
    refine aw_iload_n (n := 7) dX11_isIn_6 rfl rfl ?_
    refine aw_icmp_gt (n := 10) 14 dX11_isIn_7 (by decide) rfl ?_ ?_
    · refine aw_iconst (n := 15) 0 dX11_isIn_14 rfl (by decide) ?_
      exact aw_zreturn (b := false) dX11_isIn_15 rfl rfl
    · refine aw_iconst (n := 11) 1 dX11_isIn_10 rfl (by decide) ?_
      refine aw_goto 15 dX11_isIn_11 (by decide) ?_
      exact aw_zreturn (b := true) dX11_isIn_15 rfl rfl
abbrev k_X11_bitOf : aw_K := (RX11, cX11_bitOf, 2, (some .boolean), 1, 120)
def f_X11_bitOf (F : Nat)  (a0 : Int32) (a1 : Int32) (μ : aw_M) : Option (Bool × aw_M) :=
  (if ((a0 >>> (a1 &&& 31)) &&& 1) = 1 then
  some (true, μ)
  else
  some (false, μ))
theorem m_X11_bitOf (l : Launch) (F : Nat) (a0 : Int32) (a1 : Int32) (μ : aw_M) : AM l yX11_bitOf cX11_bitOf 2 (some .boolean) 1 120 aw_gz [.int a0, .int a1] μ (f_X11_bitOf F  a0 a1 μ) := by
  refine aw_met [some (.int a0), some (.int a1)] (by decide) (fun _ => rfl) (fun _ => Nat.le_of_ble_eq_true rfl) ?_
  show AW l k_X11_bitOf aw_gz 0 [some (.int a0), some (.int a1)] [] μ _
  unfold f_X11_bitOf
  refine aw_iload_n (n := 1) dX11_bitOf_0 rfl rfl ?_
  refine aw_iload_n (n := 2) dX11_bitOf_1 rfl rfl ?_
  refine aw_ishr (n := 3) dX11_bitOf_2 rfl ?_
  refine aw_iconst (n := 4) 1 dX11_bitOf_3 rfl (by decide) ?_
  refine aw_iand (n := 5) dX11_bitOf_4 rfl ?_
  refine aw_iconst (n := 6) 1 dX11_bitOf_5 rfl (by decide) ?_
  refine aw_icmp_ne (n := 9) 13 dX11_bitOf_6 (by decide) rfl ?_ ?_
  · refine aw_iconst (n := 14) 0 dX11_bitOf_13 rfl (by decide) ?_
    exact aw_zreturn (b := false) dX11_bitOf_14 rfl rfl
  · refine aw_iconst (n := 10) 1 dX11_bitOf_9 rfl (by decide) ?_
    refine aw_goto 14 dX11_bitOf_10 (by decide) ?_
    exact aw_zreturn (b := true) dX11_bitOf_14 rfl rfl
abbrev k_X11_sizeOf : aw_K := (RX11, cX11_sizeOf, 1, (some .int), 1, 120)
def f_X11_sizeOf (F : Nat)  (a0 : Int32) (μ : aw_M) : Option (Int32 × aw_M) :=
  (if 0 ≤ a0 then
  some (a0, μ)
  else
  some ((-a0), μ))
theorem m_X11_sizeOf (l : Launch) (F : Nat) (a0 : Int32) (μ : aw_M) : AM l yX11_sizeOf cX11_sizeOf 1 (some .int) 1 120 aw_gi [.int a0] μ (f_X11_sizeOf F  a0 μ) := by
  refine aw_met [some (.int a0)] (by decide) (fun _ => rfl) (fun _ => Nat.le_of_ble_eq_true rfl) ?_
  show AW l k_X11_sizeOf aw_gi 0 [some (.int a0)] [] μ _
  unfold f_X11_sizeOf
  refine aw_iload_n (n := 1) dX11_sizeOf_0 rfl rfl ?_
  refine aw_if_ge (n := 4) 9 dX11_sizeOf_1 (by decide) rfl ?_ ?_
  · refine aw_iload_n (n := 10) dX11_sizeOf_9 rfl rfl ?_
    exact aw_ireturn dX11_sizeOf_10 rfl rfl
  · refine aw_iload_n (n := 5) dX11_sizeOf_4 rfl rfl ?_
    refine aw_ineg (n := 6) dX11_sizeOf_5 rfl ?_
    refine aw_goto 10 dX11_sizeOf_6 (by decide) ?_
    exact aw_ireturn dX11_sizeOf_10 rfl rfl
abbrev k_X11_octet : aw_K := (RX11, cX11_octet, 2, (some .int), 1, 120)
def f_X11_octet (F : Nat) (t : Nat) (a0 : Int32) (μ : aw_M) : Option (Int32 × aw_M) :=
  aw_g (aw_in a0 940) (some (((μ.1 (aw_rf t 1) a0.toNatClampNeg) &&& 255), μ))
theorem m_X11_octet (l : Launch) (F : Nat) (t : Nat) (ht : (aw_sh t).1 = 16) (a0 : Int32) (μ : aw_M) : AM l yX11_octet cX11_octet 2 (some .int) 1 120 aw_gi [.ref t, .int a0] μ (f_X11_octet F t a0 μ) := by
  refine aw_met [some (.ref t), some (.int a0)] (by decide) (fun _ => rfl) (fun _ => Nat.le_of_ble_eq_true rfl) ?_
  show AW l k_X11_octet aw_gi 0 [some (.ref t), some (.int a0)] [] μ _
  unfold f_X11_octet
  refine aw_aload_n (n := 1) dX11_octet_0 rfl rfl ?_
  refine aw_getR (n := 4) (RX11, TX11, 52) 11 1 dX11_octet_1 rfl ht (by decide) fd_RX11_14 ?_
  refine aw_iload_n (n := 5) dX11_octet_4 rfl rfl ?_
  refine aw_baload (n := 6) 940 dX11_octet_5 rfl (sf_11_1 ht) ?_
  refine aw_sipush (n := 9) 255 dX11_octet_6 rfl (by decide) ?_
  refine aw_iand (n := 10) dX11_octet_9 rfl ?_
  exact aw_ireturn dX11_octet_10 rfl rfl
abbrev k_X11_peek : aw_K := (RX11, cX11_peek, 1, (some .int), 1, 120)
def f_X11_peek (F : Nat) (t : Nat) (μ : aw_M) : Option (Int32 × aw_M) :=
  (if (μ.1 t 3) ≤ (μ.1 t 4) then
  some ((-1), μ)
  else
  aw_g (aw_in (μ.1 t 4) 940) (some (((μ.1 (aw_rf t 1) (μ.1 t 4).toNatClampNeg) &&& 255), μ)))
theorem m_X11_peek (l : Launch) (F : Nat) (t : Nat) (ht : (aw_sh t).1 = 16) (μ : aw_M) : AM l yX11_peek cX11_peek 1 (some .int) 1 120 aw_gi [.ref t] μ (f_X11_peek F t μ) := by
  refine aw_met [some (.ref t)] (by decide) (fun _ => rfl) (fun _ => Nat.le_of_ble_eq_true rfl) ?_
  show AW l k_X11_peek aw_gi 0 [some (.ref t)] [] μ _
  unfold f_X11_peek
  refine aw_aload_n (n := 1) dX11_peek_0 rfl rfl ?_
  refine aw_getI (n := 4) (RX11, TX11, 52) 11 4 dX11_peek_1 rfl ht (by decide) fd_RX11_21 ?_
  refine aw_aload_n (n := 5) dX11_peek_4 rfl rfl ?_
  refine aw_getI (n := 8) (RX11, TX11, 52) 11 3 dX11_peek_5 rfl ht (by decide) fd_RX11_18 ?_
  refine aw_icmp_ge (n := 11) 27 dX11_peek_8 (by decide) rfl ?_ ?_
  · refine aw_iconst (n := 28) (-1) dX11_peek_27 rfl (by decide) ?_
    exact aw_ireturn dX11_peek_28 rfl rfl
  · refine aw_aload_n (n := 12) dX11_peek_11 rfl rfl ?_
    refine aw_getR (n := 15) (RX11, TX11, 52) 11 1 dX11_peek_12 rfl ht (by decide) fd_RX11_14 ?_
    refine aw_aload_n (n := 16) dX11_peek_15 rfl rfl ?_
    refine aw_getI (n := 19) (RX11, TX11, 52) 11 4 dX11_peek_16 rfl ht (by decide) fd_RX11_21 ?_
    refine aw_baload (n := 20) 940 dX11_peek_19 rfl (sf_11_1 ht) ?_
    refine aw_sipush (n := 23) 255 dX11_peek_20 rfl (by decide) ?_
    refine aw_iand (n := 24) dX11_peek_23 rfl ?_
    refine aw_goto 28 dX11_peek_24 (by decide) ?_
    exact aw_ireturn dX11_peek_28 rfl rfl
abbrev k_X11_isSmall : aw_K := (RX11, cX11_isSmall, 1, (some .boolean), 1, 120)
def f_X11_isSmall (F : Nat)  (a0 : Int32) (μ : aw_M) : Option (Bool × aw_M) :=
  (if a0 < 97 then
  some (false, μ)
  else
  (if 122 < a0 then
  some (false, μ)
  else
  some (true, μ)))
theorem m_X11_isSmall (l : Launch) (F : Nat) (a0 : Int32) (μ : aw_M) : AM l yX11_isSmall cX11_isSmall 1 (some .boolean) 1 120 aw_gz [.int a0] μ (f_X11_isSmall F  a0 μ) := by
  refine aw_met [some (.int a0)] (by decide) (fun _ => rfl) (fun _ => Nat.le_of_ble_eq_true rfl) ?_
  show AW l k_X11_isSmall aw_gz 0 [some (.int a0)] [] μ _
  unfold f_X11_isSmall
  refine aw_iload_n (n := 1) dX11_isSmall_0 rfl rfl ?_
  refine aw_bipush (n := 3) 97 dX11_isSmall_1 rfl (by decide) ?_
  refine aw_icmp_lt (n := 6) 16 dX11_isSmall_3 (by decide) rfl ?_ ?_
  · refine aw_iconst (n := 17) 0 dX11_isSmall_16 rfl (by decide) ?_
    exact aw_zreturn (b := false) dX11_isSmall_17 rfl rfl
  · refine aw_iload_n (n := 7) dX11_isSmall_6 rfl rfl ?_
    refine aw_bipush (n := 9) 122 dX11_isSmall_7 rfl (by decide) ?_
    refine aw_icmp_gt (n := 12) 16 dX11_isSmall_9 (by decide) rfl ?_ ?_
    · refine aw_iconst (n := 17) 0 dX11_isSmall_16 rfl (by decide) ?_
      exact aw_zreturn (b := false) dX11_isSmall_17 rfl rfl
    · refine aw_iconst (n := 13) 1 dX11_isSmall_12 rfl (by decide) ?_
      refine aw_goto 17 dX11_isSmall_13 (by decide) ?_
      exact aw_zreturn (b := true) dX11_isSmall_17 rfl rfl
abbrev k_X11_isDigit : aw_K := (RX11, cX11_isDigit, 1, (some .boolean), 1, 120)
def f_X11_isDigit (F : Nat)  (a0 : Int32) (μ : aw_M) : Option (Bool × aw_M) :=
  (if a0 < 48 then
  some (false, μ)
  else
  (if 57 < a0 then
  some (false, μ)
  else
  some (true, μ)))
theorem m_X11_isDigit (l : Launch) (F : Nat) (a0 : Int32) (μ : aw_M) : AM l yX11_isDigit cX11_isDigit 1 (some .boolean) 1 120 aw_gz [.int a0] μ (f_X11_isDigit F  a0 μ) := by
  refine aw_met [some (.int a0)] (by decide) (fun _ => rfl) (fun _ => Nat.le_of_ble_eq_true rfl) ?_
  show AW l k_X11_isDigit aw_gz 0 [some (.int a0)] [] μ _
  unfold f_X11_isDigit
  refine aw_iload_n (n := 1) dX11_isDigit_0 rfl rfl ?_
  refine aw_bipush (n := 3) 48 dX11_isDigit_1 rfl (by decide) ?_
  refine aw_icmp_lt (n := 6) 16 dX11_isDigit_3 (by decide) rfl ?_ ?_
  · refine aw_iconst (n := 17) 0 dX11_isDigit_16 rfl (by decide) ?_
    exact aw_zreturn (b := false) dX11_isDigit_17 rfl rfl
  · refine aw_iload_n (n := 7) dX11_isDigit_6 rfl rfl ?_
    refine aw_bipush (n := 9) 57 dX11_isDigit_7 rfl (by decide) ?_
    refine aw_icmp_gt (n := 12) 16 dX11_isDigit_9 (by decide) rfl ?_ ?_
    · refine aw_iconst (n := 17) 0 dX11_isDigit_16 rfl (by decide) ?_
      exact aw_zreturn (b := false) dX11_isDigit_17 rfl rfl
    · refine aw_iconst (n := 13) 1 dX11_isDigit_12 rfl (by decide) ?_
      refine aw_goto 17 dX11_isDigit_13 (by decide) ?_
      exact aw_zreturn (b := true) dX11_isDigit_17 rfl rfl
abbrev k_X11_next : aw_K := (RX11, cX11_next, 4, none, 2, 140)
def f_X11_next_18 (F : Nat) (t : Nat) (k0 : aw_M → Option (aw_M)) (μ : aw_M) : Option (aw_M) :=
  aw_let (aw_wI μ t 4 ((μ.1 t 4) + 1)) fun μ34 =>
  k0 μ34
theorem c_X11_next_18 (l : Launch) (F : Nat) (t : Nat) (ht : (aw_sh t).1 = 16) (k0 : aw_M → Option (aw_M)) (hk0 : ∀ s : aw_M, AW l k_X11_next aw_gv 0 [some (.ref t), none, none, none] [] s (k0 s)) (μ : aw_M) : AW l k_X11_next aw_gv 18 [some (.ref t), none, none, none] [] μ (f_X11_next_18 F t k0 μ) := by
  unfold f_X11_next_18
  refine aw_aload_n (n := 19) dX11_next_18 rfl rfl ?_
  refine aw_dup (n := 20) dX11_next_19 rfl (fun _ => rfl) ?_
  refine aw_getI (n := 23) (RX11, TX11, 52) 11 4 dX11_next_20 rfl ht (by decide) fd_RX11_21 ?_
  refine aw_iconst (n := 24) 1 dX11_next_23 rfl (by decide) ?_
  refine aw_iadd (n := 25) dX11_next_24 rfl ?_
  refine aw_putI (n := 28) (RX11, TX11, 52) 11 4 dX11_next_25 rfl ht (by decide) fp_RX11_21 (fun μ34 => ?_)
  refine aw_goto 0 dX11_next_28 (by decide) ?_
  exact aw_weak (hk0 μ34) (aw_ss (aw_sn (aw_sn (aw_sn aw_s0))))
def f_X11_next_275 (F : Nat) (t : Nat) (k181 : Bool × Bool × aw_M → Option (aw_M)) (x2 : Bool) (x3 : Bool) (μ : aw_M) : Option (aw_M) :=
  aw_let (aw_wI μ t 13 ((μ.1 t 13) + 1)) fun μ45 =>
  aw_let (aw_wI μ45 t 4 ((μ45.1 t 4) + 1)) fun μ46 =>
  k181 (x2, x3, μ46)
theorem c_X11_next_275 (l : Launch) (F : Nat) (t : Nat) (ht : (aw_sh t).1 = 16) (k181 : Bool × Bool × aw_M → Option (aw_M)) (hk181 : ∀ s : Bool × Bool × aw_M, AW l k_X11_next aw_gv 181 [some (.ref t), none, some (.int (aw_b s.1)), some (.int (aw_b s.2.1))] [] s.2.2 (k181 s)) (x2 : Bool) (x3 : Bool) (μ : aw_M) : AW l k_X11_next aw_gv 275 [some (.ref t), none, some (.int (aw_b x2)), some (.int (aw_b x3))] [] μ (f_X11_next_275 F t k181 x2 x3 μ) := by
  unfold f_X11_next_275
  refine aw_aload_n (n := 276) dX11_next_275 rfl rfl ?_
  refine aw_dup (n := 277) dX11_next_276 rfl (fun _ => rfl) ?_
  refine aw_getI (n := 280) (RX11, TX11, 52) 11 13 dX11_next_277 rfl ht (by decide) fd_RX11_159 ?_
  refine aw_iconst (n := 281) 1 dX11_next_280 rfl (by decide) ?_
  refine aw_iadd (n := 282) dX11_next_281 rfl ?_
  refine aw_putI (n := 285) (RX11, TX11, 52) 11 13 dX11_next_282 rfl ht (by decide) fp_RX11_159 (fun μ45 => ?_)
  refine aw_aload_n (n := 286) dX11_next_285 rfl rfl ?_
  refine aw_dup (n := 287) dX11_next_286 rfl (fun _ => rfl) ?_
  refine aw_getI (n := 290) (RX11, TX11, 52) 11 4 dX11_next_287 rfl ht (by decide) fd_RX11_21 ?_
  refine aw_iconst (n := 291) 1 dX11_next_290 rfl (by decide) ?_
  refine aw_iadd (n := 292) dX11_next_291 rfl ?_
  refine aw_putI (n := 295) (RX11, TX11, 52) 11 4 dX11_next_292 rfl ht (by decide) fp_RX11_21 (fun μ46 => ?_)
  refine aw_goto 181 dX11_next_295 (by decide) ?_
  exact aw_weak (hk181 (x2, x3, μ46)) (aw_ss (aw_sn (aw_ss (aw_ss aw_s0))))
def f_X11_next_248 (F : Nat) (t : Nat) (k181 : Bool × Bool × aw_M → Option (aw_M)) (x2 : Bool) (x3 : Bool) (μ : aw_M) : Option (aw_M) :=
  (if 3 ≤ (μ.1 t 13) then
  f_X11_next_275 F t k181 x2 x3 μ
  else
  (f_X11_peek F t μ).bind fun r47 =>
  aw_let (aw_wI r47.2 t 14 (((10 * (μ.1 t 14)) + r47.1) - 48)) fun μ48 =>
  f_X11_next_275 F t k181 x2 x3 μ48)
theorem c_X11_next_248 (l : Launch) (F : Nat) (t : Nat) (ht : (aw_sh t).1 = 16) (k181 : Bool × Bool × aw_M → Option (aw_M)) (hk181 : ∀ s : Bool × Bool × aw_M, AW l k_X11_next aw_gv 181 [some (.ref t), none, some (.int (aw_b s.1)), some (.int (aw_b s.2.1))] [] s.2.2 (k181 s)) (x2 : Bool) (x3 : Bool) (μ : aw_M) : AW l k_X11_next aw_gv 248 [some (.ref t), none, some (.int (aw_b x2)), some (.int (aw_b x3))] [] μ (f_X11_next_248 F t k181 x2 x3 μ) := by
  unfold f_X11_next_248
  refine aw_aload_n (n := 249) dX11_next_248 rfl rfl ?_
  refine aw_getI (n := 252) (RX11, TX11, 52) 11 13 dX11_next_249 rfl ht (by decide) fd_RX11_159 ?_
  refine aw_iconst (n := 253) 3 dX11_next_252 rfl (by decide) ?_
  refine aw_icmp_ge (n := 256) 275 dX11_next_253 (by decide) rfl ?_ ?_
  · exact aw_weak (c_X11_next_275 l F t ht k181 hk181 x2 x3 μ) (aw_ss (aw_sn (aw_ss (aw_ss aw_s0))))
  · refine aw_aload_n (n := 257) dX11_next_256 rfl rfl ?_
    refine aw_bipush (n := 259) 10 dX11_next_257 rfl (by decide) ?_
    refine aw_aload_n (n := 260) dX11_next_259 rfl rfl ?_
    refine aw_getI (n := 263) (RX11, TX11, 52) 11 14 dX11_next_260 rfl ht (by decide) fd_RX11_172 ?_
    refine aw_imul (n := 264) dX11_next_263 rfl ?_
    refine aw_aload_n (n := 265) dX11_next_264 rfl rfl ?_
    refine aw_callVi (n := 268) (as := []) (st := [.int (10 * (μ.1 t 14)), .ref t]) (RX11, TX11, 52) 11 dX11_next_265 rfl rfl (m_X11_peek l F t ht μ) ht (by decide) rfl rfl cw_RX11_152 ⟨Nat.le_of_ble_eq_true rfl, Nat.le_of_ble_eq_true rfl⟩ (fun _ => Nat.le_of_ble_eq_true rfl) (fun r47 => ?_)
    refine aw_iadd (n := 269) dX11_next_268 rfl ?_
    refine aw_bipush (n := 271) 48 dX11_next_269 rfl (by decide) ?_
    refine aw_isub (n := 272) dX11_next_271 rfl ?_
    refine aw_putI (n := 275) (RX11, TX11, 52) 11 14 dX11_next_272 rfl ht (by decide) fp_RX11_172 (fun μ48 => ?_)
    exact aw_weak (c_X11_next_275 l F t ht k181 hk181 x2 x3 μ48) (aw_ss (aw_sn (aw_ss (aw_ss aw_s0))))
def f_X11_next_221 (F : Nat) (t : Nat) (k181 : Bool × Bool × aw_M → Option (aw_M)) (x2 : Bool) (z0 : Bool) (μ : aw_M) : Option (aw_M) :=
  (if 7 ≤ (μ.1 t 13) then
  f_X11_next_248 F t k181 x2 z0 μ
  else
  (f_X11_peek F t μ).bind fun r49 =>
  aw_let (aw_wL r49.2 t 17 ((((μ.2 t 17) <<< ((8 : Int32).toInt64 &&& 63)) ||| (r49.1 : Int32).toInt64))) fun μ50 =>
  f_X11_next_248 F t k181 x2 z0 μ50)
theorem c_X11_next_221 (l : Launch) (F : Nat) (t : Nat) (ht : (aw_sh t).1 = 16) (k181 : Bool × Bool × aw_M → Option (aw_M)) (hk181 : ∀ s : Bool × Bool × aw_M, AW l k_X11_next aw_gv 181 [some (.ref t), none, some (.int (aw_b s.1)), some (.int (aw_b s.2.1))] [] s.2.2 (k181 s)) (x2 : Bool) (z0 : Bool) (μ : aw_M) : AW l k_X11_next aw_gv 221 [some (.ref t), none, some (.int (aw_b x2)), none] [.int (aw_b z0)] μ (f_X11_next_221 F t k181 x2 z0 μ) := by
  unfold f_X11_next_221
  refine aw_istore_n (n := 222) [some (.ref t), none, some (.int (aw_b x2)), some (.int (aw_b z0))] dX11_next_221 rfl rfl (Nat.le_of_ble_eq_true rfl) (Nat.le_of_ble_eq_true rfl) rfl ?_
  refine aw_aload_n (n := 223) dX11_next_222 rfl rfl ?_
  refine aw_getI (n := 226) (RX11, TX11, 52) 11 13 dX11_next_223 rfl ht (by decide) fd_RX11_159 ?_
  refine aw_bipush (n := 228) 7 dX11_next_226 rfl (by decide) ?_
  refine aw_icmp_ge (n := 231) 248 dX11_next_228 (by decide) rfl ?_ ?_
  · exact aw_weak (c_X11_next_248 l F t ht k181 hk181 x2 z0 μ) (aw_ss (aw_sn (aw_ss (aw_ss aw_s0))))
  · refine aw_aload_n (n := 232) dX11_next_231 rfl rfl ?_
    refine aw_aload_n (n := 233) dX11_next_232 rfl rfl ?_
    refine aw_getL (n := 236) (RX11, TX11, 52) 11 17 dX11_next_233 rfl ht (by decide) fd_RX11_175 ?_
    refine aw_bipush (n := 238) 8 dX11_next_236 rfl (by decide) ?_
    refine aw_lshl (n := 239) dX11_next_238 rfl ?_
    refine aw_aload_n (n := 240) dX11_next_239 rfl rfl ?_
    refine aw_callVi (n := 243) (as := []) (st := [.long ((μ.2 t 17) <<< ((8 : Int32).toInt64 &&& 63)), .ref t]) (RX11, TX11, 52) 11 dX11_next_240 rfl rfl (m_X11_peek l F t ht μ) ht (by decide) rfl rfl cw_RX11_152 ⟨Nat.le_of_ble_eq_true rfl, Nat.le_of_ble_eq_true rfl⟩ (fun _ => Nat.le_of_ble_eq_true rfl) (fun r49 => ?_)
    refine aw_i2l (n := 244) dX11_next_243 rfl ?_
    refine aw_lor (n := 245) dX11_next_244 rfl ?_
    refine aw_putL (n := 248) (RX11, TX11, 52) 11 17 dX11_next_245 rfl ht (by decide) fp_RX11_175 (fun μ50 => ?_)
    exact aw_weak (c_X11_next_248 l F t ht k181 hk181 x2 z0 μ50) (aw_ss (aw_sn (aw_ss (aw_ss aw_s0))))
def f_X11_next_220 (F : Nat) (t : Nat) (k181 : Bool × Bool × aw_M → Option (aw_M)) (x2 : Bool) (μ : aw_M) : Option (aw_M) :=
  f_X11_next_221 F t k181 x2 false μ
theorem c_X11_next_220 (l : Launch) (F : Nat) (t : Nat) (ht : (aw_sh t).1 = 16) (k181 : Bool × Bool × aw_M → Option (aw_M)) (hk181 : ∀ s : Bool × Bool × aw_M, AW l k_X11_next aw_gv 181 [some (.ref t), none, some (.int (aw_b s.1)), some (.int (aw_b s.2.1))] [] s.2.2 (k181 s)) (x2 : Bool) (μ : aw_M) : AW l k_X11_next aw_gv 220 [some (.ref t), none, some (.int (aw_b x2)), none] [] μ (f_X11_next_220 F t k181 x2 μ) := by
  unfold f_X11_next_220
  refine aw_iconst (n := 221) 0 dX11_next_220 rfl (by decide) ?_
  exact aw_weak (c_X11_next_221 l F t ht k181 hk181 x2 false μ) (aw_ss (aw_sn (aw_ss (aw_sn aw_s0))))
def f_X11_next_201 (F : Nat) (t : Nat) (k181 : Bool × Bool × aw_M → Option (aw_M)) (x2 : Bool) (x3 : Bool) (μ : aw_M) : Option (aw_M) :=
  (if x3 = true then
  (f_X11_peek F t μ).bind fun r51 =>
  (f_X11_isSmall F r51.1 r51.2).bind fun r52 =>
  (if (aw_b r52.1) = (aw_b x2) then
  f_X11_next_221 F t k181 x2 true r52.2
  else
  f_X11_next_220 F t k181 x2 r52.2)
  else
  f_X11_next_220 F t k181 x2 μ)
theorem c_X11_next_201 (l : Launch) (F : Nat) (t : Nat) (ht : (aw_sh t).1 = 16) (k181 : Bool × Bool × aw_M → Option (aw_M)) (hk181 : ∀ s : Bool × Bool × aw_M, AW l k_X11_next aw_gv 181 [some (.ref t), none, some (.int (aw_b s.1)), some (.int (aw_b s.2.1))] [] s.2.2 (k181 s)) (x2 : Bool) (x3 : Bool) (μ : aw_M) : AW l k_X11_next aw_gv 201 [some (.ref t), none, some (.int (aw_b x2)), some (.int (aw_b x3))] [] μ (f_X11_next_201 F t k181 x2 x3 μ) := by
  unfold f_X11_next_201
  refine aw_iload_n (n := 202) dX11_next_201 rfl rfl ?_
  refine aw_ifb_eq (n := 205) 220 dX11_next_202 (by decide) rfl ?_ ?_
  · exact aw_weak (c_X11_next_220 l F t ht k181 hk181 x2 μ) (aw_ss (aw_sn (aw_ss (aw_sn aw_s0))))
  · refine aw_aload_n (n := 206) dX11_next_205 rfl rfl ?_
    refine aw_callVi (n := 209) (as := []) (st := []) (RX11, TX11, 52) 11 dX11_next_206 rfl rfl (m_X11_peek l F t ht μ) ht (by decide) rfl rfl cw_RX11_152 ⟨Nat.le_of_ble_eq_true rfl, Nat.le_of_ble_eq_true rfl⟩ (fun _ => Nat.le_of_ble_eq_true rfl) (fun r51 => ?_)
    refine aw_callSz (n := 212) (as := [.int r51.1]) (st := []) dX11_next_209 rfl rfl (m_X11_isSmall l F r51.1 r51.2) cw_RX11_165 ⟨Nat.le_of_ble_eq_true rfl, Nat.le_of_ble_eq_true rfl⟩ (fun _ => Nat.le_of_ble_eq_true rfl) (fun r52 => ?_)
    refine aw_iload_n (n := 213) dX11_next_212 rfl rfl ?_
    refine aw_icmp_ne (n := 216) 220 dX11_next_213 (by decide) rfl ?_ ?_
    · exact aw_weak (c_X11_next_220 l F t ht k181 hk181 x2 r52.2) (aw_ss (aw_sn (aw_ss (aw_sn aw_s0))))
    · refine aw_iconst (n := 217) 1 dX11_next_216 rfl (by decide) ?_
      refine aw_goto 221 dX11_next_217 (by decide) ?_
      exact aw_weak (c_X11_next_221 l F t ht k181 hk181 x2 true r52.2) (aw_ss (aw_sn (aw_ss (aw_sn aw_s0))))
def f_X11_next_320 (F : Nat) (t : Nat) (μ : aw_M) : Option (aw_M) :=
  aw_let (aw_wI μ t 11 4) fun μ55 =>
  some μ55
theorem c_X11_next_320 (l : Launch) (F : Nat) (t : Nat) (ht : (aw_sh t).1 = 16) (μ : aw_M) : AW l k_X11_next aw_gv 320 [none, none, none, none] [.ref t] μ (f_X11_next_320 F t μ) := by
  unfold f_X11_next_320
  refine aw_iconst (n := 321) 4 dX11_next_320 rfl (by decide) ?_
  refine aw_goto 333 dX11_next_321 (by decide) ?_
  refine aw_putI (n := 336) (RX11, TX11, 52) 11 11 dX11_next_333 rfl ht (by decide) fp_RX11_162 (fun μ55 => ?_)
  exact aw_vreturn dX11_next_336 rfl rfl
def f_X11_next_317 (F : Nat) (t : Nat) (x2 : Bool) (z0 : Int32) (z1 : Int32) (μ : aw_M) : Option (aw_M) :=
  (if z1 ≤ z0 then
  (if x2 = true then
  aw_let (aw_wI μ t 11 1) fun μ57 =>
  some μ57
  else
  aw_let (aw_wI μ t 11 2) fun μ56 =>
  some μ56)
  else
  f_X11_next_320 F t μ)
theorem c_X11_next_317 (l : Launch) (F : Nat) (t : Nat) (ht : (aw_sh t).1 = 16) (x2 : Bool) (z0 : Int32) (z1 : Int32) (μ : aw_M) : AW l k_X11_next aw_gv 317 [none, none, some (.int (aw_b x2)), none] [.int z0, .int z1, .ref t] μ (f_X11_next_317 F t x2 z0 z1 μ) := by
  unfold f_X11_next_317
  refine aw_icmp_le (n := 320) 324 dX11_next_317 (by decide) rfl ?_ ?_
  · refine aw_iload_n (n := 325) dX11_next_324 rfl rfl ?_
    refine aw_ifb_eq (n := 328) 332 dX11_next_325 (by decide) rfl ?_ ?_
    · refine aw_iconst (n := 333) 2 dX11_next_332 rfl (by decide) ?_
      refine aw_putI (n := 336) (RX11, TX11, 52) 11 11 dX11_next_333 rfl ht (by decide) fp_RX11_162 (fun μ56 => ?_)
      exact aw_vreturn dX11_next_336 rfl rfl
    · refine aw_iconst (n := 329) 1 dX11_next_328 rfl (by decide) ?_
      refine aw_goto 333 dX11_next_329 (by decide) ?_
      refine aw_putI (n := 336) (RX11, TX11, 52) 11 11 dX11_next_333 rfl ht (by decide) fp_RX11_162 (fun μ57 => ?_)
      exact aw_vreturn dX11_next_336 rfl rfl
  · exact aw_weak (c_X11_next_320 l F t ht μ) (aw_sn (aw_sn (aw_sn (aw_sn aw_s0))))
def f_X11_next_298 (F : Nat) (t : Nat) (x2 : Bool) (x3 : Bool) (μ : aw_M) : Option (aw_M) :=
  (if x3 = true then
  (if x2 = true then
  f_X11_next_317 F t x2 7 (μ.1 t 13) μ
  else
  f_X11_next_317 F t x2 3 (μ.1 t 13) μ)
  else
  f_X11_next_320 F t μ)
theorem c_X11_next_298 (l : Launch) (F : Nat) (t : Nat) (ht : (aw_sh t).1 = 16) (x2 : Bool) (x3 : Bool) (μ : aw_M) : AW l k_X11_next aw_gv 298 [some (.ref t), none, some (.int (aw_b x2)), some (.int (aw_b x3))] [] μ (f_X11_next_298 F t x2 x3 μ) := by
  unfold f_X11_next_298
  refine aw_aload_n (n := 299) dX11_next_298 rfl rfl ?_
  refine aw_iload_n (n := 300) dX11_next_299 rfl rfl ?_
  refine aw_ifb_eq (n := 303) 320 dX11_next_300 (by decide) rfl ?_ ?_
  · exact aw_weak (c_X11_next_320 l F t ht μ) (aw_sn (aw_sn (aw_sn (aw_sn aw_s0))))
  · refine aw_aload_n (n := 304) dX11_next_303 rfl rfl ?_
    refine aw_getI (n := 307) (RX11, TX11, 52) 11 13 dX11_next_304 rfl ht (by decide) fd_RX11_159 ?_
    refine aw_iload_n (n := 308) dX11_next_307 rfl rfl ?_
    refine aw_ifb_eq (n := 311) 316 dX11_next_308 (by decide) rfl ?_ ?_
    · refine aw_iconst (n := 317) 3 dX11_next_316 rfl (by decide) ?_
      exact aw_weak (c_X11_next_317 l F t ht x2 3 (μ.1 t 13) μ) (aw_sn (aw_sn (aw_ss (aw_sn aw_s0))))
    · refine aw_bipush (n := 313) 7 dX11_next_311 rfl (by decide) ?_
      refine aw_goto 317 dX11_next_313 (by decide) ?_
      exact aw_weak (c_X11_next_317 l F t ht x2 7 (μ.1 t 13) μ) (aw_sn (aw_sn (aw_ss (aw_sn aw_s0))))
def f_X11_next_181 (F : Nat) (t : Nat) (k181 : Bool × Bool × aw_M → Option (aw_M)) (x2 : Bool) (x3 : Bool) (μ : aw_M) : Option (aw_M) :=
  (f_X11_peek F t μ).bind fun r43 =>
  (f_X11_isSmall F r43.1 r43.2).bind fun r44 =>
  (if r44.1 = true then
  f_X11_next_201 F t k181 x2 x3 r44.2
  else
  (f_X11_peek F t r44.2).bind fun r53 =>
  (f_X11_isDigit F r53.1 r53.2).bind fun r54 =>
  (if r54.1 = true then
  f_X11_next_201 F t k181 x2 x3 r54.2
  else
  f_X11_next_298 F t x2 x3 r54.2))
theorem c_X11_next_181 (l : Launch) (F : Nat) (t : Nat) (ht : (aw_sh t).1 = 16) : ∀ (N : Nat) (s : Bool × Bool × aw_M), AW l k_X11_next aw_gv 181 [some (.ref t), none, some (.int (aw_b s.1)), some (.int (aw_b s.2.1))] [] s.2.2 (aw_loop (fun k s => f_X11_next_181 F t k s.1 s.2.1 s.2.2) N s) := by
  refine aw_loop_ok (f := fun k s => f_X11_next_181 F t k s.1 s.2.1 s.2.2) (Ls := fun s => [some (.ref t), none, some (.int (aw_b s.1)), some (.int (aw_b s.2.1))]) (ms := fun s => s.2.2) ?_
  intro k181 hk181 s
  obtain ⟨x2, x3, μ⟩ := s
  show AW l k_X11_next aw_gv 181 [some (.ref t), none, some (.int (aw_b x2)), some (.int (aw_b x3))] [] μ (f_X11_next_181 F t k181 x2 x3 μ)
  unfold f_X11_next_181
  refine aw_aload_n (n := 182) dX11_next_181 rfl rfl ?_
  refine aw_callVi (n := 185) (as := []) (st := []) (RX11, TX11, 52) 11 dX11_next_182 rfl rfl (m_X11_peek l F t ht μ) ht (by decide) rfl rfl cw_RX11_152 ⟨Nat.le_of_ble_eq_true rfl, Nat.le_of_ble_eq_true rfl⟩ (fun _ => Nat.le_of_ble_eq_true rfl) (fun r43 => ?_)
  refine aw_callSz (n := 188) (as := [.int r43.1]) (st := []) dX11_next_185 rfl rfl (m_X11_isSmall l F r43.1 r43.2) cw_RX11_165 ⟨Nat.le_of_ble_eq_true rfl, Nat.le_of_ble_eq_true rfl⟩ (fun _ => Nat.le_of_ble_eq_true rfl) (fun r44 => ?_)
  refine aw_ifb_ne (n := 191) 201 dX11_next_188 (by decide) rfl ?_ ?_
  · exact aw_weak (c_X11_next_201 l F t ht k181 hk181 x2 x3 r44.2) (aw_ss (aw_sn (aw_ss (aw_ss aw_s0))))
  · refine aw_aload_n (n := 192) dX11_next_191 rfl rfl ?_
    refine aw_callVi (n := 195) (as := []) (st := []) (RX11, TX11, 52) 11 dX11_next_192 rfl rfl (m_X11_peek l F t ht r44.2) ht (by decide) rfl rfl cw_RX11_152 ⟨Nat.le_of_ble_eq_true rfl, Nat.le_of_ble_eq_true rfl⟩ (fun _ => Nat.le_of_ble_eq_true rfl) (fun r53 => ?_)
    refine aw_callSz (n := 198) (as := [.int r53.1]) (st := []) dX11_next_195 rfl rfl (m_X11_isDigit l F r53.1 r53.2) cw_RX11_169 ⟨Nat.le_of_ble_eq_true rfl, Nat.le_of_ble_eq_true rfl⟩ (fun _ => Nat.le_of_ble_eq_true rfl) (fun r54 => ?_)
    refine aw_ifb_eq (n := 201) 298 dX11_next_198 (by decide) rfl ?_ ?_
    · exact aw_weak (c_X11_next_298 l F t ht x2 x3 r54.2) (aw_ss (aw_sn (aw_ss (aw_ss aw_s0))))
    · exact aw_weak (c_X11_next_201 l F t ht k181 hk181 x2 x3 r54.2) (aw_ss (aw_sn (aw_ss (aw_ss aw_s0))))
def f_X11_next_164 (F : Nat) (t : Nat) (x1 : Int32) (μ : aw_M) : Option (aw_M) :=
  (f_X11_isSmall F x1 μ).bind fun r40 =>
  aw_let (aw_wL r40.2 t 17 0) fun μ41 =>
  aw_let (aw_wI μ41 t 14 0) fun μ42 =>
  aw_loop (fun k s => f_X11_next_181 F t k s.1 s.2.1 s.2.2) F (r40.1, true, μ42)
theorem c_X11_next_164 (l : Launch) (F : Nat) (t : Nat) (ht : (aw_sh t).1 = 16) (x1 : Int32) (μ : aw_M) : AW l k_X11_next aw_gv 164 [some (.ref t), some (.int x1), none, none] [] μ (f_X11_next_164 F t x1 μ) := by
  unfold f_X11_next_164
  refine aw_iload_n (n := 165) dX11_next_164 rfl rfl ?_
  refine aw_callSz (n := 168) (as := [.int x1]) (st := []) dX11_next_165 rfl rfl (m_X11_isSmall l F x1 μ) cw_RX11_165 ⟨Nat.le_of_ble_eq_true rfl, Nat.le_of_ble_eq_true rfl⟩ (fun _ => Nat.le_of_ble_eq_true rfl) (fun r40 => ?_)
  refine aw_istore_n (n := 169) [some (.ref t), some (.int x1), some (.int (aw_b r40.1)), none] dX11_next_168 rfl rfl (Nat.le_of_ble_eq_true rfl) (Nat.le_of_ble_eq_true rfl) rfl ?_
  refine aw_iconst (n := 170) 1 dX11_next_169 rfl (by decide) ?_
  refine aw_istore_n (n := 171) [some (.ref t), some (.int x1), some (.int (aw_b r40.1)), some (.int 1)] dX11_next_170 rfl rfl (Nat.le_of_ble_eq_true rfl) (Nat.le_of_ble_eq_true rfl) rfl ?_
  refine aw_aload_n (n := 172) dX11_next_171 rfl rfl ?_
  refine aw_lconst (n := 173) 0 dX11_next_172 rfl rfl ?_
  refine aw_putL (n := 176) (RX11, TX11, 52) 11 17 dX11_next_173 rfl ht (by decide) fp_RX11_175 (fun μ41 => ?_)
  refine aw_aload_n (n := 177) dX11_next_176 rfl rfl ?_
  refine aw_iconst (n := 178) 0 dX11_next_177 rfl (by decide) ?_
  refine aw_putI (n := 181) (RX11, TX11, 52) 11 14 dX11_next_178 rfl ht (by decide) fp_RX11_172 (fun μ42 => ?_)
  exact aw_weak (c_X11_next_181 l F t ht F (r40.1, true, μ42)) (aw_ss (aw_sn (aw_ss (aw_ss aw_s0))))
def f_X11_next_145 (F : Nat) (t : Nat) (x1 : Int32) (z0 : Int32) (μ : aw_M) : Option (aw_M) :=
  aw_let (aw_wI μ t 11 z0) fun μ59 =>
  aw_let (aw_wI μ59 t 14 x1) fun μ60 =>
  aw_let (aw_wI μ60 t 4 ((μ60.1 t 4) + 1)) fun μ61 =>
  some μ61
theorem c_X11_next_145 (l : Launch) (F : Nat) (t : Nat) (ht : (aw_sh t).1 = 16) (x1 : Int32) (z0 : Int32) (μ : aw_M) : AW l k_X11_next aw_gv 145 [some (.ref t), some (.int x1), none, none] [.int z0, .ref t] μ (f_X11_next_145 F t x1 z0 μ) := by
  unfold f_X11_next_145
  refine aw_putI (n := 148) (RX11, TX11, 52) 11 11 dX11_next_145 rfl ht (by decide) fp_RX11_162 (fun μ59 => ?_)
  refine aw_aload_n (n := 149) dX11_next_148 rfl rfl ?_
  refine aw_iload_n (n := 150) dX11_next_149 rfl rfl ?_
  refine aw_putI (n := 153) (RX11, TX11, 52) 11 14 dX11_next_150 rfl ht (by decide) fp_RX11_172 (fun μ60 => ?_)
  refine aw_aload_n (n := 154) dX11_next_153 rfl rfl ?_
  refine aw_dup (n := 155) dX11_next_154 rfl (fun _ => rfl) ?_
  refine aw_getI (n := 158) (RX11, TX11, 52) 11 4 dX11_next_155 rfl ht (by decide) fd_RX11_21 ?_
  refine aw_iconst (n := 159) 1 dX11_next_158 rfl (by decide) ?_
  refine aw_iadd (n := 160) dX11_next_159 rfl ?_
  refine aw_putI (n := 163) (RX11, TX11, 52) 11 4 dX11_next_160 rfl ht (by decide) fp_RX11_21 (fun μ61 => ?_)
  exact aw_vreturn dX11_next_163 rfl rfl
def f_X11_next_140 (F : Nat) (t : Nat) (x1 : Int32) (μ : aw_M) : Option (aw_M) :=
  f_X11_next_145 F t x1 3 μ
theorem c_X11_next_140 (l : Launch) (F : Nat) (t : Nat) (ht : (aw_sh t).1 = 16) (x1 : Int32) (μ : aw_M) : AW l k_X11_next aw_gv 140 [some (.ref t), some (.int x1), none, none] [.ref t] μ (f_X11_next_140 F t x1 μ) := by
  unfold f_X11_next_140
  refine aw_iconst (n := 141) 3 dX11_next_140 rfl (by decide) ?_
  refine aw_goto 145 dX11_next_141 (by decide) ?_
  exact aw_weak (c_X11_next_145 l F t ht x1 3 μ) (aw_ss (aw_ss (aw_sn (aw_sn aw_s0))))
def f_X11_next_144 (F : Nat) (t : Nat) (x1 : Int32) (μ : aw_M) : Option (aw_M) :=
  f_X11_next_145 F t x1 4 μ
theorem c_X11_next_144 (l : Launch) (F : Nat) (t : Nat) (ht : (aw_sh t).1 = 16) (x1 : Int32) (μ : aw_M) : AW l k_X11_next aw_gv 144 [some (.ref t), some (.int x1), none, none] [.ref t] μ (f_X11_next_144 F t x1 μ) := by
  unfold f_X11_next_144
  refine aw_iconst (n := 145) 4 dX11_next_144 rfl (by decide) ?_
  exact aw_weak (c_X11_next_145 l F t ht x1 4 μ) (aw_ss (aw_ss (aw_sn (aw_sn aw_s0))))
def f_X11_next_80 (F : Nat) (t : Nat) (μ : aw_M) : Option (aw_M) :=
  (f_X11_peek F t μ).bind fun r38 =>
  (if 0 ≤ r38.1 then
  (f_X11_isSmall F r38.1 r38.2).bind fun r39 =>
  (if r39.1 = true then
  f_X11_next_164 F t r38.1 r39.2
  else
  (f_X11_isDigit F r38.1 r39.2).bind fun r58 =>
  (if r58.1 = true then
  f_X11_next_164 F t r38.1 r58.2
  else
  (if r38.1 = 59 then
  f_X11_next_140 F t r38.1 r58.2
  else
  (if r38.1 = 40 then
  f_X11_next_140 F t r38.1 r58.2
  else
  (if r38.1 = 41 then
  f_X11_next_140 F t r38.1 r58.2
  else
  (if r38.1 < 60 then
  f_X11_next_144 F t r38.1 r58.2
  else
  (if 62 < r38.1 then
  f_X11_next_144 F t r38.1 r58.2
  else
  f_X11_next_140 F t r38.1 r58.2)))))))
  else
  aw_let (aw_wI r38.2 t 11 0) fun μ62 =>
  some μ62)
theorem c_X11_next_80 (l : Launch) (F : Nat) (t : Nat) (ht : (aw_sh t).1 = 16) (μ : aw_M) : AW l k_X11_next aw_gv 80 [some (.ref t), none, none, none] [] μ (f_X11_next_80 F t μ) := by
  unfold f_X11_next_80
  refine aw_aload_n (n := 81) dX11_next_80 rfl rfl ?_
  refine aw_callVi (n := 84) (as := []) (st := []) (RX11, TX11, 52) 11 dX11_next_81 rfl rfl (m_X11_peek l F t ht μ) ht (by decide) rfl rfl cw_RX11_152 ⟨Nat.le_of_ble_eq_true rfl, Nat.le_of_ble_eq_true rfl⟩ (fun _ => Nat.le_of_ble_eq_true rfl) (fun r38 => ?_)
  refine aw_istore_n (n := 85) [some (.ref t), some (.int r38.1), none, none] dX11_next_84 rfl rfl (Nat.le_of_ble_eq_true rfl) (Nat.le_of_ble_eq_true rfl) rfl ?_
  refine aw_iload_n (n := 86) dX11_next_85 rfl rfl ?_
  refine aw_if_ge (n := 89) 95 dX11_next_86 (by decide) rfl ?_ ?_
  · refine aw_iload_n (n := 96) dX11_next_95 rfl rfl ?_
    refine aw_callSz (n := 99) (as := [.int r38.1]) (st := []) dX11_next_96 rfl rfl (m_X11_isSmall l F r38.1 r38.2) cw_RX11_165 ⟨Nat.le_of_ble_eq_true rfl, Nat.le_of_ble_eq_true rfl⟩ (fun _ => Nat.le_of_ble_eq_true rfl) (fun r39 => ?_)
    refine aw_ifb_ne (n := 102) 164 dX11_next_99 (by decide) rfl ?_ ?_
    · exact aw_weak (c_X11_next_164 l F t ht r38.1 r39.2) (aw_ss (aw_ss (aw_sn (aw_sn aw_s0))))
    · refine aw_iload_n (n := 103) dX11_next_102 rfl rfl ?_
      refine aw_callSz (n := 106) (as := [.int r38.1]) (st := []) dX11_next_103 rfl rfl (m_X11_isDigit l F r38.1 r39.2) cw_RX11_169 ⟨Nat.le_of_ble_eq_true rfl, Nat.le_of_ble_eq_true rfl⟩ (fun _ => Nat.le_of_ble_eq_true rfl) (fun r58 => ?_)
      refine aw_ifb_ne (n := 109) 164 dX11_next_106 (by decide) rfl ?_ ?_
      · exact aw_weak (c_X11_next_164 l F t ht r38.1 r58.2) (aw_ss (aw_ss (aw_sn (aw_sn aw_s0))))
      · refine aw_aload_n (n := 110) dX11_next_109 rfl rfl ?_
        refine aw_iload_n (n := 111) dX11_next_110 rfl rfl ?_
        refine aw_bipush (n := 113) 59 dX11_next_111 rfl (by decide) ?_
        refine aw_icmp_eq (n := 116) 140 dX11_next_113 (by decide) rfl ?_ ?_
        · exact aw_weak (c_X11_next_140 l F t ht r38.1 r58.2) (aw_ss (aw_ss (aw_sn (aw_sn aw_s0))))
        · refine aw_iload_n (n := 117) dX11_next_116 rfl rfl ?_
          refine aw_bipush (n := 119) 40 dX11_next_117 rfl (by decide) ?_
          refine aw_icmp_eq (n := 122) 140 dX11_next_119 (by decide) rfl ?_ ?_
          · exact aw_weak (c_X11_next_140 l F t ht r38.1 r58.2) (aw_ss (aw_ss (aw_sn (aw_sn aw_s0))))
          · refine aw_iload_n (n := 123) dX11_next_122 rfl rfl ?_
            refine aw_bipush (n := 125) 41 dX11_next_123 rfl (by decide) ?_
            refine aw_icmp_eq (n := 128) 140 dX11_next_125 (by decide) rfl ?_ ?_
            · exact aw_weak (c_X11_next_140 l F t ht r38.1 r58.2) (aw_ss (aw_ss (aw_sn (aw_sn aw_s0))))
            · refine aw_iload_n (n := 129) dX11_next_128 rfl rfl ?_
              refine aw_bipush (n := 131) 60 dX11_next_129 rfl (by decide) ?_
              refine aw_icmp_lt (n := 134) 144 dX11_next_131 (by decide) rfl ?_ ?_
              · exact aw_weak (c_X11_next_144 l F t ht r38.1 r58.2) (aw_ss (aw_ss (aw_sn (aw_sn aw_s0))))
              · refine aw_iload_n (n := 135) dX11_next_134 rfl rfl ?_
                refine aw_bipush (n := 137) 62 dX11_next_135 rfl (by decide) ?_
                refine aw_icmp_gt (n := 140) 144 dX11_next_137 (by decide) rfl ?_ ?_
                · exact aw_weak (c_X11_next_144 l F t ht r38.1 r58.2) (aw_ss (aw_ss (aw_sn (aw_sn aw_s0))))
                · exact aw_weak (c_X11_next_140 l F t ht r38.1 r58.2) (aw_ss (aw_ss (aw_sn (aw_sn aw_s0))))
  · refine aw_aload_n (n := 90) dX11_next_89 rfl rfl ?_
    refine aw_iconst (n := 91) 0 dX11_next_90 rfl (by decide) ?_
    refine aw_putI (n := 94) (RX11, TX11, 52) 11 11 dX11_next_91 rfl ht (by decide) fp_RX11_162 (fun μ62 => ?_)
    exact aw_vreturn dX11_next_94 rfl rfl
def f_X11_next_31 (F : Nat) (t : Nat) (μ : aw_M) : Option (aw_M) :=
  aw_let (aw_wI μ t 12 (μ.1 t 4)) fun μ36 =>
  aw_let (aw_wI μ36 t 13 0) fun μ37 =>
  (if (μ37.1 t 3) ≤ (μ37.1 t 5) then
  f_X11_next_80 F t μ37
  else
  (if (μ37.1 t 4) < (μ37.1 t 5) then
  f_X11_next_80 F t μ37
  else
  aw_let (aw_wI μ37 t 12 (μ37.1 t 5)) fun μ63 =>
  aw_let (aw_wI μ63 t 11 4) fun μ64 =>
  some μ64))
theorem c_X11_next_31 (l : Launch) (F : Nat) (t : Nat) (ht : (aw_sh t).1 = 16) (μ : aw_M) : AW l k_X11_next aw_gv 31 [some (.ref t), none, none, none] [] μ (f_X11_next_31 F t μ) := by
  unfold f_X11_next_31
  refine aw_aload_n (n := 32) dX11_next_31 rfl rfl ?_
  refine aw_aload_n (n := 33) dX11_next_32 rfl rfl ?_
  refine aw_getI (n := 36) (RX11, TX11, 52) 11 4 dX11_next_33 rfl ht (by decide) fd_RX11_21 ?_
  refine aw_putI (n := 39) (RX11, TX11, 52) 11 12 dX11_next_36 rfl ht (by decide) fp_RX11_156 (fun μ36 => ?_)
  refine aw_aload_n (n := 40) dX11_next_39 rfl rfl ?_
  refine aw_iconst (n := 41) 0 dX11_next_40 rfl (by decide) ?_
  refine aw_putI (n := 44) (RX11, TX11, 52) 11 13 dX11_next_41 rfl ht (by decide) fp_RX11_159 (fun μ37 => ?_)
  refine aw_aload_n (n := 45) dX11_next_44 rfl rfl ?_
  refine aw_getI (n := 48) (RX11, TX11, 52) 11 3 dX11_next_45 rfl ht (by decide) fd_RX11_18 ?_
  refine aw_aload_n (n := 49) dX11_next_48 rfl rfl ?_
  refine aw_getI (n := 52) (RX11, TX11, 52) 11 5 dX11_next_49 rfl ht (by decide) fd_RX11_24 ?_
  refine aw_icmp_le (n := 55) 80 dX11_next_52 (by decide) rfl ?_ ?_
  · exact aw_weak (c_X11_next_80 l F t ht μ37) (aw_ss (aw_sn (aw_sn (aw_sn aw_s0))))
  · refine aw_aload_n (n := 56) dX11_next_55 rfl rfl ?_
    refine aw_getI (n := 59) (RX11, TX11, 52) 11 4 dX11_next_56 rfl ht (by decide) fd_RX11_21 ?_
    refine aw_aload_n (n := 60) dX11_next_59 rfl rfl ?_
    refine aw_getI (n := 63) (RX11, TX11, 52) 11 5 dX11_next_60 rfl ht (by decide) fd_RX11_24 ?_
    refine aw_icmp_lt (n := 66) 80 dX11_next_63 (by decide) rfl ?_ ?_
    · exact aw_weak (c_X11_next_80 l F t ht μ37) (aw_ss (aw_sn (aw_sn (aw_sn aw_s0))))
    · refine aw_aload_n (n := 67) dX11_next_66 rfl rfl ?_
      refine aw_aload_n (n := 68) dX11_next_67 rfl rfl ?_
      refine aw_getI (n := 71) (RX11, TX11, 52) 11 5 dX11_next_68 rfl ht (by decide) fd_RX11_24 ?_
      refine aw_putI (n := 74) (RX11, TX11, 52) 11 12 dX11_next_71 rfl ht (by decide) fp_RX11_156 (fun μ63 => ?_)
      refine aw_aload_n (n := 75) dX11_next_74 rfl rfl ?_
      refine aw_iconst (n := 76) 4 dX11_next_75 rfl (by decide) ?_
      refine aw_putI (n := 79) (RX11, TX11, 52) 11 11 dX11_next_76 rfl ht (by decide) fp_RX11_162 (fun μ64 => ?_)
      exact aw_vreturn dX11_next_79 rfl rfl
def f_X11_next_0 (F : Nat) (t : Nat) (k0 : aw_M → Option (aw_M)) (μ : aw_M) : Option (aw_M) :=
  (f_X11_peek F t μ).bind fun r33 =>
  (if r33.1 = 32 then
  f_X11_next_18 F t k0 r33.2
  else
  (f_X11_peek F t r33.2).bind fun r35 =>
  (if r35.1 = 10 then
  f_X11_next_18 F t k0 r35.2
  else
  f_X11_next_31 F t r35.2))
theorem c_X11_next_0 (l : Launch) (F : Nat) (t : Nat) (ht : (aw_sh t).1 = 16) : ∀ (N : Nat) (s : aw_M), AW l k_X11_next aw_gv 0 [some (.ref t), none, none, none] [] s (aw_loop (fun k s => f_X11_next_0 F t k s) N s) := by
  refine aw_loop_ok (f := fun k s => f_X11_next_0 F t k s) (Ls := fun s => [some (.ref t), none, none, none]) (ms := fun s => s) ?_
  intro k0 hk0 s
  revert s
  intro μ
  show AW l k_X11_next aw_gv 0 [some (.ref t), none, none, none] [] μ (f_X11_next_0 F t k0 μ)
  unfold f_X11_next_0
  refine aw_aload_n (n := 1) dX11_next_0 rfl rfl ?_
  refine aw_callVi (n := 4) (as := []) (st := []) (RX11, TX11, 52) 11 dX11_next_1 rfl rfl (m_X11_peek l F t ht μ) ht (by decide) rfl rfl cw_RX11_152 ⟨Nat.le_of_ble_eq_true rfl, Nat.le_of_ble_eq_true rfl⟩ (fun _ => Nat.le_of_ble_eq_true rfl) (fun r33 => ?_)
  refine aw_bipush (n := 6) 32 dX11_next_4 rfl (by decide) ?_
  refine aw_icmp_eq (n := 9) 18 dX11_next_6 (by decide) rfl ?_ ?_
  · exact aw_weak (c_X11_next_18 l F t ht k0 hk0 r33.2) (aw_ss (aw_sn (aw_sn (aw_sn aw_s0))))
  · refine aw_aload_n (n := 10) dX11_next_9 rfl rfl ?_
    refine aw_callVi (n := 13) (as := []) (st := []) (RX11, TX11, 52) 11 dX11_next_10 rfl rfl (m_X11_peek l F t ht r33.2) ht (by decide) rfl rfl cw_RX11_152 ⟨Nat.le_of_ble_eq_true rfl, Nat.le_of_ble_eq_true rfl⟩ (fun _ => Nat.le_of_ble_eq_true rfl) (fun r35 => ?_)
    refine aw_bipush (n := 15) 10 dX11_next_13 rfl (by decide) ?_
    refine aw_icmp_ne (n := 18) 31 dX11_next_15 (by decide) rfl ?_ ?_
    · exact aw_weak (c_X11_next_31 l F t ht r35.2) (aw_ss (aw_sn (aw_sn (aw_sn aw_s0))))
    · exact aw_weak (c_X11_next_18 l F t ht k0 hk0 r35.2) (aw_ss (aw_sn (aw_sn (aw_sn aw_s0))))
def f_X11_next (F : Nat) (t : Nat) (μ : aw_M) : Option (aw_M) :=
  aw_loop (fun k s => f_X11_next_0 F t k s) F μ
theorem m_X11_next (l : Launch) (F : Nat) (t : Nat) (ht : (aw_sh t).1 = 16) (μ : aw_M) : AM l yX11_next cX11_next 4 none 2 140 aw_gv [.ref t] μ (f_X11_next F t μ) := by
  refine aw_met [some (.ref t), none, none, none] (by decide) (fun _ => rfl) (fun _ => Nat.le_of_ble_eq_true rfl) ?_
  show AW l k_X11_next aw_gv 0 [some (.ref t), none, none, none] [] μ _
  unfold f_X11_next
  exact aw_weak (c_X11_next_0 l F t ht F μ) (aw_ss (aw_sn (aw_sn (aw_sn aw_s0))))
abbrev k_X11_bad : aw_K := (RX11, cX11_bad, 2, (some .boolean), 1, 120)
def f_X11_bad (F : Nat) (t : Nat) (a0 : Int32) (μ : aw_M) : Option (Bool × aw_M) :=
  aw_let (aw_wI μ t 15 a0) fun μ1 =>
  aw_let (aw_wI μ1 t 16 (μ1.1 t 12)) fun μ2 =>
  some (false, μ2)
theorem m_X11_bad (l : Launch) (F : Nat) (t : Nat) (ht : (aw_sh t).1 = 16) (a0 : Int32) (μ : aw_M) : AM l yX11_bad cX11_bad 2 (some .boolean) 1 120 aw_gz [.ref t, .int a0] μ (f_X11_bad F t a0 μ) := by
  refine aw_met [some (.ref t), some (.int a0)] (by decide) (fun _ => rfl) (fun _ => Nat.le_of_ble_eq_true rfl) ?_
  show AW l k_X11_bad aw_gz 0 [some (.ref t), some (.int a0)] [] μ _
  unfold f_X11_bad
  refine aw_aload_n (n := 1) dX11_bad_0 rfl rfl ?_
  refine aw_iload_n (n := 2) dX11_bad_1 rfl rfl ?_
  refine aw_putI (n := 5) (RX11, TX11, 52) 11 15 dX11_bad_2 rfl ht (by decide) fp_RX11_179 (fun μ1 => ?_)
  refine aw_aload_n (n := 6) dX11_bad_5 rfl rfl ?_
  refine aw_aload_n (n := 7) dX11_bad_6 rfl rfl ?_
  refine aw_getI (n := 10) (RX11, TX11, 52) 11 12 dX11_bad_7 rfl ht (by decide) fd_RX11_156 ?_
  refine aw_putI (n := 13) (RX11, TX11, 52) 11 16 dX11_bad_10 rfl ht (by decide) fp_RX11_182 (fun μ2 => ?_)
  refine aw_iconst (n := 14) 0 dX11_bad_13 rfl (by decide) ?_
  exact aw_zreturn (b := false) dX11_bad_14 rfl rfl
abbrev k_X11_isWord : aw_K := (RX11, cX11_isWord, 3, (some .boolean), 1, 120)
def f_X11_isWord (F : Nat) (t : Nat) (a0 : Int64) (μ : aw_M) : Option (Bool × aw_M) :=
  (if (μ.1 t 11) = 1 then
  (if (lg_cmp (μ.2 t 17) a0) = 0 then
  some (true, μ)
  else
  some (false, μ))
  else
  some (false, μ))
theorem m_X11_isWord (l : Launch) (F : Nat) (t : Nat) (ht : (aw_sh t).1 = 16) (a0 : Int64) (μ : aw_M) : AM l yX11_isWord cX11_isWord 3 (some .boolean) 1 120 aw_gz [.ref t, .long a0] μ (f_X11_isWord F t a0 μ) := by
  refine aw_met [some (.ref t), some (.long a0), none] (by decide) (fun _ => rfl) (fun _ => Nat.le_of_ble_eq_true rfl) ?_
  show AW l k_X11_isWord aw_gz 0 [some (.ref t), some (.long a0), none] [] μ _
  unfold f_X11_isWord
  refine aw_aload_n (n := 1) dX11_isWord_0 rfl rfl ?_
  refine aw_getI (n := 4) (RX11, TX11, 52) 11 11 dX11_isWord_1 rfl ht (by decide) fd_RX11_162 ?_
  refine aw_iconst (n := 5) 1 dX11_isWord_4 rfl (by decide) ?_
  refine aw_icmp_ne (n := 8) 21 dX11_isWord_5 (by decide) rfl ?_ ?_
  · refine aw_iconst (n := 22) 0 dX11_isWord_21 rfl (by decide) ?_
    exact aw_zreturn (b := false) dX11_isWord_22 rfl rfl
  · refine aw_aload_n (n := 9) dX11_isWord_8 rfl rfl ?_
    refine aw_getL (n := 12) (RX11, TX11, 52) 11 17 dX11_isWord_9 rfl ht (by decide) fd_RX11_175 ?_
    refine aw_lload_n (n := 13) dX11_isWord_12 rfl rfl ?_
    refine aw_lcmp (n := 14) dX11_isWord_13 rfl ?_
    refine aw_if_ne (n := 17) 21 dX11_isWord_14 (by decide) rfl ?_ ?_
    · refine aw_iconst (n := 22) 0 dX11_isWord_21 rfl (by decide) ?_
      exact aw_zreturn (b := false) dX11_isWord_22 rfl rfl
    · refine aw_iconst (n := 18) 1 dX11_isWord_17 rfl (by decide) ?_
      refine aw_goto 22 dX11_isWord_18 (by decide) ?_
      exact aw_zreturn (b := true) dX11_isWord_22 rfl rfl
abbrev k_X11_isSign : aw_K := (RX11, cX11_isSign, 2, (some .boolean), 1, 120)
def f_X11_isSign (F : Nat) (t : Nat) (a0 : Int32) (μ : aw_M) : Option (Bool × aw_M) :=
  (if (μ.1 t 11) = 3 then
  (if (μ.1 t 14) = a0 then
  some (true, μ)
  else
  some (false, μ))
  else
  some (false, μ))
theorem m_X11_isSign (l : Launch) (F : Nat) (t : Nat) (ht : (aw_sh t).1 = 16) (a0 : Int32) (μ : aw_M) : AM l yX11_isSign cX11_isSign 2 (some .boolean) 1 120 aw_gz [.ref t, .int a0] μ (f_X11_isSign F t a0 μ) := by
  refine aw_met [some (.ref t), some (.int a0)] (by decide) (fun _ => rfl) (fun _ => Nat.le_of_ble_eq_true rfl) ?_
  show AW l k_X11_isSign aw_gz 0 [some (.ref t), some (.int a0)] [] μ _
  unfold f_X11_isSign
  refine aw_aload_n (n := 1) dX11_isSign_0 rfl rfl ?_
  refine aw_getI (n := 4) (RX11, TX11, 52) 11 11 dX11_isSign_1 rfl ht (by decide) fd_RX11_162 ?_
  refine aw_iconst (n := 5) 3 dX11_isSign_4 rfl (by decide) ?_
  refine aw_icmp_ne (n := 8) 20 dX11_isSign_5 (by decide) rfl ?_ ?_
  · refine aw_iconst (n := 21) 0 dX11_isSign_20 rfl (by decide) ?_
    exact aw_zreturn (b := false) dX11_isSign_21 rfl rfl
  · refine aw_aload_n (n := 9) dX11_isSign_8 rfl rfl ?_
    refine aw_getI (n := 12) (RX11, TX11, 52) 11 14 dX11_isSign_9 rfl ht (by decide) fd_RX11_172 ?_
    refine aw_iload_n (n := 13) dX11_isSign_12 rfl rfl ?_
    refine aw_icmp_ne (n := 16) 20 dX11_isSign_13 (by decide) rfl ?_ ?_
    · refine aw_iconst (n := 21) 0 dX11_isSign_20 rfl (by decide) ?_
      exact aw_zreturn (b := false) dX11_isSign_21 rfl rfl
    · refine aw_iconst (n := 17) 1 dX11_isSign_16 rfl (by decide) ?_
      refine aw_goto 21 dX11_isSign_17 (by decide) ?_
      exact aw_zreturn (b := true) dX11_isSign_21 rfl rfl
abbrev k_X11_sign : aw_K := (RX11, cX11_sign, 2, (some .boolean), 3, 163)
def f_X11_sign (F : Nat) (t : Nat) (a0 : Int32) (μ : aw_M) : Option (Bool × aw_M) :=
  (f_X11_isSign F t a0 μ).bind fun r1 =>
  (if r1.1 = true then
  (f_X11_next F t r1.2).bind fun r2 =>
  some (true, r2)
  else
  (f_X11_bad F t 1 r1.2).bind fun r3 =>
  some (r3.1, r3.2))
theorem m_X11_sign (l : Launch) (F : Nat) (t : Nat) (ht : (aw_sh t).1 = 16) (a0 : Int32) (μ : aw_M) : AM l yX11_sign cX11_sign 2 (some .boolean) 3 163 aw_gz [.ref t, .int a0] μ (f_X11_sign F t a0 μ) := by
  refine aw_met [some (.ref t), some (.int a0)] (by decide) (fun _ => rfl) (fun _ => Nat.le_of_ble_eq_true rfl) ?_
  show AW l k_X11_sign aw_gz 0 [some (.ref t), some (.int a0)] [] μ _
  unfold f_X11_sign
  refine aw_aload_n (n := 1) dX11_sign_0 rfl rfl ?_
  refine aw_iload_n (n := 2) dX11_sign_1 rfl rfl ?_
  refine aw_callVz (n := 5) (as := [.int a0]) (st := []) (RX11, TX11, 52) 11 dX11_sign_2 rfl rfl (m_X11_isSign l F t ht a0 μ) ht (by decide) rfl rfl cw_RX11_185 ⟨Nat.le_of_ble_eq_true rfl, Nat.le_of_ble_eq_true rfl⟩ (fun _ => Nat.le_of_ble_eq_true rfl) (fun r1 => ?_)
  refine aw_ifb_ne (n := 8) 14 dX11_sign_5 (by decide) rfl ?_ ?_
  · refine aw_aload_n (n := 15) dX11_sign_14 rfl rfl ?_
    refine aw_callVv (n := 18) (as := []) (st := []) (RX11, TX11, 52) 11 dX11_sign_15 rfl rfl (m_X11_next l F t ht r1.2) ht (by decide) rfl rfl cw_RX11_191 ⟨Nat.le_of_ble_eq_true rfl, Nat.le_of_ble_eq_true rfl⟩ (fun _ => Nat.le_of_ble_eq_true rfl) (fun r2 => ?_)
    refine aw_iconst (n := 19) 1 dX11_sign_18 rfl (by decide) ?_
    exact aw_zreturn (b := true) dX11_sign_19 rfl rfl
  · refine aw_aload_n (n := 9) dX11_sign_8 rfl rfl ?_
    refine aw_iconst (n := 10) 1 dX11_sign_9 rfl (by decide) ?_
    refine aw_callVz (n := 13) (as := [.int 1]) (st := []) (RX11, TX11, 52) 11 dX11_sign_10 rfl rfl (m_X11_bad l F t ht 1 r1.2) ht (by decide) rfl rfl cw_RX11_188 ⟨Nat.le_of_ble_eq_true rfl, Nat.le_of_ble_eq_true rfl⟩ (fun _ => Nat.le_of_ble_eq_true rfl) (fun r3 => ?_)
    exact aw_zreturn (b := r3.1) dX11_sign_13 rfl rfl
abbrev k_X11_isName : aw_K := (RX11, cX11_isName, 3, (some .boolean), 1, 120)
def f_X11_isName_45 (F : Nat) (t : Nat) (k16 : Bool × Int32 × aw_M → Option (Bool × aw_M)) (x2 : Int32) (z0 : Bool) (μ : aw_M) : Option (Bool × aw_M) :=
  k16 (z0, (x2 + 1), μ)
theorem c_X11_isName_45 (l : Launch) (F : Nat) (t : Nat) (ht : (aw_sh t).1 = 16) (k16 : Bool × Int32 × aw_M → Option (Bool × aw_M)) (hk16 : ∀ s : Bool × Int32 × aw_M, AW l k_X11_isName aw_gz 16 [some (.ref t), some (.int (aw_b s.1)), some (.int s.2.1)] [] s.2.2 (k16 s)) (x2 : Int32) (z0 : Bool) (μ : aw_M) : AW l k_X11_isName aw_gz 45 [some (.ref t), none, some (.int x2)] [.int (aw_b z0)] μ (f_X11_isName_45 F t k16 x2 z0 μ) := by
  unfold f_X11_isName_45
  refine aw_istore_n (n := 46) [some (.ref t), some (.int (aw_b z0)), some (.int x2)] dX11_isName_45 rfl rfl (Nat.le_of_ble_eq_true rfl) (Nat.le_of_ble_eq_true rfl) rfl ?_
  refine aw_iinc (n := 49) (x2 + 1) [some (.ref t), some (.int (aw_b z0)), some (.int (x2 + 1))] dX11_isName_46 rfl rfl (by rfl) rfl (Nat.le_of_ble_eq_true rfl) rfl ?_
  refine aw_goto 16 dX11_isName_49 (by decide) ?_
  exact aw_weak (hk16 (z0, (x2 + 1), μ)) (aw_ss (aw_ss (aw_ss aw_s0)))
def f_X11_isName_44 (F : Nat) (t : Nat) (k16 : Bool × Int32 × aw_M → Option (Bool × aw_M)) (x2 : Int32) (μ : aw_M) : Option (Bool × aw_M) :=
  f_X11_isName_45 F t k16 x2 false μ
theorem c_X11_isName_44 (l : Launch) (F : Nat) (t : Nat) (ht : (aw_sh t).1 = 16) (k16 : Bool × Int32 × aw_M → Option (Bool × aw_M)) (hk16 : ∀ s : Bool × Int32 × aw_M, AW l k_X11_isName aw_gz 16 [some (.ref t), some (.int (aw_b s.1)), some (.int s.2.1)] [] s.2.2 (k16 s)) (x2 : Int32) (μ : aw_M) : AW l k_X11_isName aw_gz 44 [some (.ref t), none, some (.int x2)] [] μ (f_X11_isName_44 F t k16 x2 μ) := by
  unfold f_X11_isName_44
  refine aw_iconst (n := 45) 0 dX11_isName_44 rfl (by decide) ?_
  exact aw_weak (c_X11_isName_45 l F t ht k16 hk16 x2 false μ) (aw_ss (aw_sn (aw_ss aw_s0)))
def f_X11_isName_16 (F : Nat) (t : Nat) (k16 : Bool × Int32 × aw_M → Option (Bool × aw_M)) (x1 : Bool) (x2 : Int32) (μ : aw_M) : Option (Bool × aw_M) :=
  (if 20 ≤ x2 then
  some (x1, μ)
  else
  (if x1 = true then
  aw_g (aw_in x2 20) ((if (lg_cmp (μ.2 t 17) (μ.2 (aw_rf t 10) x2.toNatClampNeg)) = 0 then
  f_X11_isName_44 F t k16 x2 μ
  else
  f_X11_isName_45 F t k16 x2 true μ))
  else
  f_X11_isName_44 F t k16 x2 μ))
theorem c_X11_isName_16 (l : Launch) (F : Nat) (t : Nat) (ht : (aw_sh t).1 = 16) : ∀ (N : Nat) (s : Bool × Int32 × aw_M), AW l k_X11_isName aw_gz 16 [some (.ref t), some (.int (aw_b s.1)), some (.int s.2.1)] [] s.2.2 (aw_loop (fun k s => f_X11_isName_16 F t k s.1 s.2.1 s.2.2) N s) := by
  refine aw_loop_ok (f := fun k s => f_X11_isName_16 F t k s.1 s.2.1 s.2.2) (Ls := fun s => [some (.ref t), some (.int (aw_b s.1)), some (.int s.2.1)]) (ms := fun s => s.2.2) ?_
  intro k16 hk16 s
  obtain ⟨x1, x2, μ⟩ := s
  show AW l k_X11_isName aw_gz 16 [some (.ref t), some (.int (aw_b x1)), some (.int x2)] [] μ (f_X11_isName_16 F t k16 x1 x2 μ)
  unfold f_X11_isName_16
  refine aw_iload_n (n := 17) dX11_isName_16 rfl rfl ?_
  refine aw_bipush (n := 19) 20 dX11_isName_17 rfl (by decide) ?_
  refine aw_icmp_ge (n := 22) 52 dX11_isName_19 (by decide) rfl ?_ ?_
  · refine aw_iload_n (n := 53) dX11_isName_52 rfl rfl ?_
    exact aw_zreturn (b := x1) dX11_isName_53 rfl rfl
  · refine aw_iload_n (n := 23) dX11_isName_22 rfl rfl ?_
    refine aw_ifb_eq (n := 26) 44 dX11_isName_23 (by decide) rfl ?_ ?_
    · exact aw_weak (c_X11_isName_44 l F t ht k16 hk16 x2 μ) (aw_ss (aw_sn (aw_ss aw_s0)))
    · refine aw_aload_n (n := 27) dX11_isName_26 rfl rfl ?_
      refine aw_getL (n := 30) (RX11, TX11, 52) 11 17 dX11_isName_27 rfl ht (by decide) fd_RX11_175 ?_
      refine aw_aload_n (n := 31) dX11_isName_30 rfl rfl ?_
      refine aw_getR (n := 34) (RX11, TX11, 52) 11 10 dX11_isName_31 rfl ht (by decide) fd_RX11_47 ?_
      refine aw_iload_n (n := 35) dX11_isName_34 rfl rfl ?_
      refine aw_laload (n := 36) 20 dX11_isName_35 rfl (sf_11_10 ht) ?_
      refine aw_lcmp (n := 37) dX11_isName_36 rfl ?_
      refine aw_if_eq (n := 40) 44 dX11_isName_37 (by decide) rfl ?_ ?_
      · exact aw_weak (c_X11_isName_44 l F t ht k16 hk16 x2 μ) (aw_ss (aw_sn (aw_ss aw_s0)))
      · refine aw_iconst (n := 41) 1 dX11_isName_40 rfl (by decide) ?_
        refine aw_goto 45 dX11_isName_41 (by decide) ?_
        exact aw_weak (c_X11_isName_45 l F t ht k16 hk16 x2 true μ) (aw_ss (aw_sn (aw_ss aw_s0)))
def f_X11_isName_13 (F : Nat) (t : Nat) (z0 : Bool) (μ : aw_M) : Option (Bool × aw_M) :=
  aw_loop (fun k s => f_X11_isName_16 F t k s.1 s.2.1 s.2.2) F (z0, 0, μ)
theorem c_X11_isName_13 (l : Launch) (F : Nat) (t : Nat) (ht : (aw_sh t).1 = 16) (z0 : Bool) (μ : aw_M) : AW l k_X11_isName aw_gz 13 [some (.ref t), none, none] [.int (aw_b z0)] μ (f_X11_isName_13 F t z0 μ) := by
  unfold f_X11_isName_13
  refine aw_istore_n (n := 14) [some (.ref t), some (.int (aw_b z0)), none] dX11_isName_13 rfl rfl (Nat.le_of_ble_eq_true rfl) (Nat.le_of_ble_eq_true rfl) rfl ?_
  refine aw_iconst (n := 15) 0 dX11_isName_14 rfl (by decide) ?_
  refine aw_istore_n (n := 16) [some (.ref t), some (.int (aw_b z0)), some (.int 0)] dX11_isName_15 rfl rfl (Nat.le_of_ble_eq_true rfl) (Nat.le_of_ble_eq_true rfl) rfl ?_
  exact aw_weak (c_X11_isName_16 l F t ht F (z0, 0, μ)) (aw_ss (aw_ss (aw_ss aw_s0)))
def f_X11_isName (F : Nat) (t : Nat) (μ : aw_M) : Option (Bool × aw_M) :=
  (if (μ.1 t 11) = 1 then
  f_X11_isName_13 F t true μ
  else
  f_X11_isName_13 F t false μ)
theorem m_X11_isName (l : Launch) (F : Nat) (t : Nat) (ht : (aw_sh t).1 = 16) (μ : aw_M) : AM l yX11_isName cX11_isName 3 (some .boolean) 1 120 aw_gz [.ref t] μ (f_X11_isName F t μ) := by
  refine aw_met [some (.ref t), none, none] (by decide) (fun _ => rfl) (fun _ => Nat.le_of_ble_eq_true rfl) ?_
  show AW l k_X11_isName aw_gz 0 [some (.ref t), none, none] [] μ _
  unfold f_X11_isName
  refine aw_aload_n (n := 1) dX11_isName_0 rfl rfl ?_
  refine aw_getI (n := 4) (RX11, TX11, 52) 11 11 dX11_isName_1 rfl ht (by decide) fd_RX11_162 ?_
  refine aw_iconst (n := 5) 1 dX11_isName_4 rfl (by decide) ?_
  refine aw_icmp_ne (n := 8) 12 dX11_isName_5 (by decide) rfl ?_ ?_
  · refine aw_iconst (n := 13) 0 dX11_isName_12 rfl (by decide) ?_
    exact aw_weak (c_X11_isName_13 l F t ht false μ) (aw_ss (aw_sn (aw_sn aw_s0)))
  · refine aw_iconst (n := 9) 1 dX11_isName_8 rfl (by decide) ?_
    refine aw_goto 13 dX11_isName_9 (by decide) ?_
    exact aw_weak (c_X11_isName_13 l F t ht true μ) (aw_ss (aw_sn (aw_sn aw_s0)))
abbrev k_X11_takes : aw_K := (RX11, cX11_takes, 3, (some .boolean), 3, 163)
def f_X11_takes (F : Nat) (t : Nat) (a0 : Int32) (a1 : Int32) (μ : aw_M) : Option (Bool × aw_M) :=
  (if (μ.1 t 11) = 2 then
  (f_X11_isIn F (μ.1 t 14) a0 a1 μ).bind fun r1 =>
  (if r1.1 = true then
  aw_let (aw_wI r1.2 t 18 (r1.2.1 t 14)) fun μ2 =>
  (f_X11_next F t μ2).bind fun r3 =>
  some (true, r3)
  else
  (f_X11_bad F t 2 r1.2).bind fun r4 =>
  some (r4.1, r4.2))
  else
  (f_X11_bad F t 1 μ).bind fun r5 =>
  some (r5.1, r5.2))
theorem m_X11_takes (l : Launch) (F : Nat) (t : Nat) (ht : (aw_sh t).1 = 16) (a0 : Int32) (a1 : Int32) (μ : aw_M) : AM l yX11_takes cX11_takes 3 (some .boolean) 3 163 aw_gz [.ref t, .int a0, .int a1] μ (f_X11_takes F t a0 a1 μ) := by
  refine aw_met [some (.ref t), some (.int a0), some (.int a1)] (by decide) (fun _ => rfl) (fun _ => Nat.le_of_ble_eq_true rfl) ?_
  show AW l k_X11_takes aw_gz 0 [some (.ref t), some (.int a0), some (.int a1)] [] μ _
  unfold f_X11_takes
  refine aw_aload_n (n := 1) dX11_takes_0 rfl rfl ?_
  refine aw_getI (n := 4) (RX11, TX11, 52) 11 11 dX11_takes_1 rfl ht (by decide) fd_RX11_162 ?_
  refine aw_iconst (n := 5) 2 dX11_takes_4 rfl (by decide) ?_
  refine aw_icmp_eq (n := 8) 14 dX11_takes_5 (by decide) rfl ?_ ?_
  · refine aw_aload_n (n := 15) dX11_takes_14 rfl rfl ?_
    refine aw_getI (n := 18) (RX11, TX11, 52) 11 14 dX11_takes_15 rfl ht (by decide) fd_RX11_172 ?_
    refine aw_iload_n (n := 19) dX11_takes_18 rfl rfl ?_
    refine aw_iload_n (n := 20) dX11_takes_19 rfl rfl ?_
    refine aw_callSz (n := 23) (as := [.int (μ.1 t 14), .int a0, .int a1]) (st := []) dX11_takes_20 rfl rfl (m_X11_isIn l F (μ.1 t 14) a0 a1 μ) cw_RX11_194 ⟨Nat.le_of_ble_eq_true rfl, Nat.le_of_ble_eq_true rfl⟩ (fun _ => Nat.le_of_ble_eq_true rfl) (fun r1 => ?_)
    refine aw_ifb_ne (n := 26) 32 dX11_takes_23 (by decide) rfl ?_ ?_
    · refine aw_aload_n (n := 33) dX11_takes_32 rfl rfl ?_
      refine aw_aload_n (n := 34) dX11_takes_33 rfl rfl ?_
      refine aw_getI (n := 37) (RX11, TX11, 52) 11 14 dX11_takes_34 rfl ht (by decide) fd_RX11_172 ?_
      refine aw_putI (n := 40) (RX11, TX11, 52) 11 18 dX11_takes_37 rfl ht (by decide) fp_RX11_198 (fun μ2 => ?_)
      refine aw_aload_n (n := 41) dX11_takes_40 rfl rfl ?_
      refine aw_callVv (n := 44) (as := []) (st := []) (RX11, TX11, 52) 11 dX11_takes_41 rfl rfl (m_X11_next l F t ht μ2) ht (by decide) rfl rfl cw_RX11_191 ⟨Nat.le_of_ble_eq_true rfl, Nat.le_of_ble_eq_true rfl⟩ (fun _ => Nat.le_of_ble_eq_true rfl) (fun r3 => ?_)
      refine aw_iconst (n := 45) 1 dX11_takes_44 rfl (by decide) ?_
      exact aw_zreturn (b := true) dX11_takes_45 rfl rfl
    · refine aw_aload_n (n := 27) dX11_takes_26 rfl rfl ?_
      refine aw_iconst (n := 28) 2 dX11_takes_27 rfl (by decide) ?_
      refine aw_callVz (n := 31) (as := [.int 2]) (st := []) (RX11, TX11, 52) 11 dX11_takes_28 rfl rfl (m_X11_bad l F t ht 2 r1.2) ht (by decide) rfl rfl cw_RX11_188 ⟨Nat.le_of_ble_eq_true rfl, Nat.le_of_ble_eq_true rfl⟩ (fun _ => Nat.le_of_ble_eq_true rfl) (fun r4 => ?_)
      exact aw_zreturn (b := r4.1) dX11_takes_31 rfl rfl
  · refine aw_aload_n (n := 9) dX11_takes_8 rfl rfl ?_
    refine aw_iconst (n := 10) 1 dX11_takes_9 rfl (by decide) ?_
    refine aw_callVz (n := 13) (as := [.int 1]) (st := []) (RX11, TX11, 52) 11 dX11_takes_10 rfl rfl (m_X11_bad l F t ht 1 μ) ht (by decide) rfl rfl cw_RX11_188 ⟨Nat.le_of_ble_eq_true rfl, Nat.le_of_ble_eq_true rfl⟩ (fun _ => Nat.le_of_ble_eq_true rfl) (fun r5 => ?_)
    exact aw_zreturn (b := r5.1) dX11_takes_13 rfl rfl
abbrev k_X11_find : aw_K := (RX11, cX11_find, 4, (some .int), 1, 120)
def f_X11_find_2 (F : Nat) (t : Nat) (k2 : Int32 × Int32 × Int32 × aw_M → Option (Int32 × aw_M)) (x1 : Int32) (x2 : Int32) (x3 : Int32) (μ : aw_M) : Option (Int32 × aw_M) :=
  (if x2 ≤ x3 then
  some ((-1), μ)
  else
  aw_g (aw_in (x1 + x3) 18) ((if (lg_cmp (μ.2 (aw_rf t 9) (x1 + x3).toNatClampNeg) (μ.2 t 17)) = 0 then
  some (x3, μ)
  else
  k2 (x1, x2, (x3 + 1), μ))))
theorem c_X11_find_2 (l : Launch) (F : Nat) (t : Nat) (ht : (aw_sh t).1 = 16) : ∀ (N : Nat) (s : Int32 × Int32 × Int32 × aw_M), AW l k_X11_find aw_gi 2 [some (.ref t), some (.int s.1), some (.int s.2.1), some (.int s.2.2.1)] [] s.2.2.2 (aw_loop (fun k s => f_X11_find_2 F t k s.1 s.2.1 s.2.2.1 s.2.2.2) N s) := by
  refine aw_loop_ok (f := fun k s => f_X11_find_2 F t k s.1 s.2.1 s.2.2.1 s.2.2.2) (Ls := fun s => [some (.ref t), some (.int s.1), some (.int s.2.1), some (.int s.2.2.1)]) (ms := fun s => s.2.2.2) ?_
  intro k2 hk2 s
  obtain ⟨x1, x2, x3, μ⟩ := s
  show AW l k_X11_find aw_gi 2 [some (.ref t), some (.int x1), some (.int x2), some (.int x3)] [] μ (f_X11_find_2 F t k2 x1 x2 x3 μ)
  unfold f_X11_find_2
  refine aw_iload_n (n := 3) dX11_find_2 rfl rfl ?_
  refine aw_iload_n (n := 4) dX11_find_3 rfl rfl ?_
  refine aw_icmp_ge (n := 7) 31 dX11_find_4 (by decide) rfl ?_ ?_
  · refine aw_iconst (n := 32) (-1) dX11_find_31 rfl (by decide) ?_
    exact aw_ireturn dX11_find_32 rfl rfl
  · refine aw_aload_n (n := 8) dX11_find_7 rfl rfl ?_
    refine aw_getR (n := 11) (RX11, TX11, 52) 11 9 dX11_find_8 rfl ht (by decide) fd_RX11_43 ?_
    refine aw_iload_n (n := 12) dX11_find_11 rfl rfl ?_
    refine aw_iload_n (n := 13) dX11_find_12 rfl rfl ?_
    refine aw_iadd (n := 14) dX11_find_13 rfl ?_
    refine aw_laload (n := 15) 18 dX11_find_14 rfl (sf_11_9 ht) ?_
    refine aw_aload_n (n := 16) dX11_find_15 rfl rfl ?_
    refine aw_getL (n := 19) (RX11, TX11, 52) 11 17 dX11_find_16 rfl ht (by decide) fd_RX11_175 ?_
    refine aw_lcmp (n := 20) dX11_find_19 rfl ?_
    refine aw_if_ne (n := 23) 25 dX11_find_20 (by decide) rfl ?_ ?_
    · refine aw_iinc (n := 28) (x3 + 1) [some (.ref t), some (.int x1), some (.int x2), some (.int (x3 + 1))] dX11_find_25 rfl rfl (by rfl) rfl (Nat.le_of_ble_eq_true rfl) rfl ?_
      refine aw_goto 2 dX11_find_28 (by decide) ?_
      exact aw_weak (hk2 (x1, x2, (x3 + 1), μ)) (aw_ss (aw_ss (aw_ss (aw_ss aw_s0))))
    · refine aw_iload_n (n := 24) dX11_find_23 rfl rfl ?_
      exact aw_ireturn dX11_find_24 rfl rfl
def f_X11_find (F : Nat) (t : Nat) (a0 : Int32) (a1 : Int32) (μ : aw_M) : Option (Int32 × aw_M) :=
  aw_loop (fun k s => f_X11_find_2 F t k s.1 s.2.1 s.2.2.1 s.2.2.2) F (a0, a1, 0, μ)
theorem m_X11_find (l : Launch) (F : Nat) (t : Nat) (ht : (aw_sh t).1 = 16) (a0 : Int32) (a1 : Int32) (μ : aw_M) : AM l yX11_find cX11_find 4 (some .int) 1 120 aw_gi [.ref t, .int a0, .int a1] μ (f_X11_find F t a0 a1 μ) := by
  refine aw_met [some (.ref t), some (.int a0), some (.int a1), none] (by decide) (fun _ => rfl) (fun _ => Nat.le_of_ble_eq_true rfl) ?_
  show AW l k_X11_find aw_gi 0 [some (.ref t), some (.int a0), some (.int a1), none] [] μ _
  unfold f_X11_find
  refine aw_iconst (n := 1) 0 dX11_find_0 rfl (by decide) ?_
  refine aw_istore_n (n := 2) [some (.ref t), some (.int a0), some (.int a1), some (.int 0)] dX11_find_1 rfl rfl (Nat.le_of_ble_eq_true rfl) (Nat.le_of_ble_eq_true rfl) rfl ?_
  exact aw_weak (c_X11_find_2 l F t ht F (a0, a1, 0, μ)) (aw_ss (aw_ss (aw_ss (aw_ss aw_s0))))
abbrev k_X11_looksAtCell : aw_K := (RX11, cX11_looksAtCell, 2, (some .boolean), 4, 185)
def f_X11_looksAtCell (F : Nat) (t : Nat) (μ : aw_M) : Option (Bool × aw_M) :=
  aw_g (aw_in 0 427) ((f_X11_takes F t 0 ((μ.1 (aw_rf t 7) (0 : Int32).toNatClampNeg) - 1) μ).bind fun r1 =>
  (if r1.1 = true then
  aw_let ((r1.2.1 t 18)) fun v2 =>
  (if (r1.2.1 t 11) = 2 then
  aw_g (aw_in 1 427) ((if (r1.2.1 t 14) < (r1.2.1 (aw_rf t 7) (1 : Int32).toNatClampNeg) then
  aw_let (aw_wI r1.2 t 18 ((10 * (r1.2.1 t 14)) + v2)) fun μ3 =>
  some (true, μ3)
  else
  (f_X11_bad F t 2 r1.2).bind fun r4 =>
  some (r4.1, r4.2)))
  else
  (f_X11_bad F t 1 r1.2).bind fun r5 =>
  some (r5.1, r5.2))
  else
  some (false, r1.2)))
theorem m_X11_looksAtCell (l : Launch) (F : Nat) (t : Nat) (ht : (aw_sh t).1 = 16) (μ : aw_M) : AM l yX11_looksAtCell cX11_looksAtCell 2 (some .boolean) 4 185 aw_gz [.ref t] μ (f_X11_looksAtCell F t μ) := by
  refine aw_met [some (.ref t), none] (by decide) (fun _ => rfl) (fun _ => Nat.le_of_ble_eq_true rfl) ?_
  show AW l k_X11_looksAtCell aw_gz 0 [some (.ref t), none] [] μ _
  unfold f_X11_looksAtCell
  refine aw_aload_n (n := 1) dX11_looksAtCell_0 rfl rfl ?_
  refine aw_iconst (n := 2) 0 dX11_looksAtCell_1 rfl (by decide) ?_
  refine aw_aload_n (n := 3) dX11_looksAtCell_2 rfl rfl ?_
  refine aw_getR (n := 6) (RX11, TX11, 52) 11 7 dX11_looksAtCell_3 rfl ht (by decide) fd_RX11_37 ?_
  refine aw_iconst (n := 7) 0 dX11_looksAtCell_6 rfl (by decide) ?_
  refine aw_iaload (n := 8) 427 dX11_looksAtCell_7 rfl (sf_11_7 ht) ?_
  refine aw_iconst (n := 9) 1 dX11_looksAtCell_8 rfl (by decide) ?_
  refine aw_isub (n := 10) dX11_looksAtCell_9 rfl ?_
  refine aw_callVz (n := 13) (as := [.int 0, .int ((μ.1 (aw_rf t 7) (0 : Int32).toNatClampNeg) - 1)]) (st := []) (RX11, TX11, 52) 11 dX11_looksAtCell_10 rfl rfl (m_X11_takes l F t ht 0 ((μ.1 (aw_rf t 7) (0 : Int32).toNatClampNeg) - 1) μ) ht (by decide) rfl rfl cw_RX11_209 ⟨Nat.le_of_ble_eq_true rfl, Nat.le_of_ble_eq_true rfl⟩ (fun _ => Nat.le_of_ble_eq_true rfl) (fun r1 => ?_)
  refine aw_ifb_ne (n := 16) 18 dX11_looksAtCell_13 (by decide) rfl ?_ ?_
  · refine aw_aload_n (n := 19) dX11_looksAtCell_18 rfl rfl ?_
    refine aw_getI (n := 22) (RX11, TX11, 52) 11 18 dX11_looksAtCell_19 rfl ht (by decide) fd_RX11_198 ?_
    refine aw_nmI (fun v2 => ?_)
    refine aw_istore_n (n := 23) [some (.ref t), some (.int v2)] dX11_looksAtCell_22 rfl rfl (Nat.le_of_ble_eq_true rfl) (Nat.le_of_ble_eq_true rfl) rfl ?_
    refine aw_aload_n (n := 24) dX11_looksAtCell_23 rfl rfl ?_
    refine aw_getI (n := 27) (RX11, TX11, 52) 11 11 dX11_looksAtCell_24 rfl ht (by decide) fd_RX11_162 ?_
    refine aw_iconst (n := 28) 2 dX11_looksAtCell_27 rfl (by decide) ?_
    refine aw_icmp_eq (n := 31) 37 dX11_looksAtCell_28 (by decide) rfl ?_ ?_
    · refine aw_aload_n (n := 38) dX11_looksAtCell_37 rfl rfl ?_
      refine aw_getI (n := 41) (RX11, TX11, 52) 11 14 dX11_looksAtCell_38 rfl ht (by decide) fd_RX11_172 ?_
      refine aw_aload_n (n := 42) dX11_looksAtCell_41 rfl rfl ?_
      refine aw_getR (n := 45) (RX11, TX11, 52) 11 7 dX11_looksAtCell_42 rfl ht (by decide) fd_RX11_37 ?_
      refine aw_iconst (n := 46) 1 dX11_looksAtCell_45 rfl (by decide) ?_
      refine aw_iaload (n := 47) 427 dX11_looksAtCell_46 rfl (sf_11_7 ht) ?_
      refine aw_icmp_lt (n := 50) 56 dX11_looksAtCell_47 (by decide) rfl ?_ ?_
      · refine aw_aload_n (n := 57) dX11_looksAtCell_56 rfl rfl ?_
        refine aw_bipush (n := 59) 10 dX11_looksAtCell_57 rfl (by decide) ?_
        refine aw_aload_n (n := 60) dX11_looksAtCell_59 rfl rfl ?_
        refine aw_getI (n := 63) (RX11, TX11, 52) 11 14 dX11_looksAtCell_60 rfl ht (by decide) fd_RX11_172 ?_
        refine aw_imul (n := 64) dX11_looksAtCell_63 rfl ?_
        refine aw_iload_n (n := 65) dX11_looksAtCell_64 rfl rfl ?_
        refine aw_iadd (n := 66) dX11_looksAtCell_65 rfl ?_
        refine aw_putI (n := 69) (RX11, TX11, 52) 11 18 dX11_looksAtCell_66 rfl ht (by decide) fp_RX11_198 (fun μ3 => ?_)
        refine aw_iconst (n := 70) 1 dX11_looksAtCell_69 rfl (by decide) ?_
        exact aw_zreturn (b := true) dX11_looksAtCell_70 rfl rfl
      · refine aw_aload_n (n := 51) dX11_looksAtCell_50 rfl rfl ?_
        refine aw_iconst (n := 52) 2 dX11_looksAtCell_51 rfl (by decide) ?_
        refine aw_callVz (n := 55) (as := [.int 2]) (st := []) (RX11, TX11, 52) 11 dX11_looksAtCell_52 rfl rfl (m_X11_bad l F t ht 2 r1.2) ht (by decide) rfl rfl cw_RX11_188 ⟨Nat.le_of_ble_eq_true rfl, Nat.le_of_ble_eq_true rfl⟩ (fun _ => Nat.le_of_ble_eq_true rfl) (fun r4 => ?_)
        exact aw_zreturn (b := r4.1) dX11_looksAtCell_55 rfl rfl
    · refine aw_aload_n (n := 32) dX11_looksAtCell_31 rfl rfl ?_
      refine aw_iconst (n := 33) 1 dX11_looksAtCell_32 rfl (by decide) ?_
      refine aw_callVz (n := 36) (as := [.int 1]) (st := []) (RX11, TX11, 52) 11 dX11_looksAtCell_33 rfl rfl (m_X11_bad l F t ht 1 r1.2) ht (by decide) rfl rfl cw_RX11_188 ⟨Nat.le_of_ble_eq_true rfl, Nat.le_of_ble_eq_true rfl⟩ (fun _ => Nat.le_of_ble_eq_true rfl) (fun r5 => ?_)
      exact aw_zreturn (b := r5.1) dX11_looksAtCell_36 rfl rfl
  · refine aw_iconst (n := 17) 0 dX11_looksAtCell_16 rfl (by decide) ?_
    exact aw_zreturn (b := false) dX11_looksAtCell_17 rfl rfl
abbrev k_X11_readCart : aw_K := (RX11, cX11_readCart, 2, (some .boolean), 5, 206)
def f_X11_readCart (F : Nat) (t : Nat) (μ : aw_M) : Option (Bool × aw_M) :=
  aw_g (aw_in 3 427) (aw_let ((μ.1 (aw_rf t 7) (3 : Int32).toNatClampNeg)) fun v1 =>
  (if v1 = 20 then
  (f_X11_bad F t 4 μ).bind fun r13 =>
  some (r13.1, r13.2)
  else
  (f_X11_next F t μ).bind fun r2 =>
  (f_X11_takes F t 0 239 r2).bind fun r3 =>
  (if r3.1 = true then
  aw_g (aw_in (47 + v1) 427) (aw_let (aw_wI r3.2 (aw_rf t 7) (47 + v1).toNatClampNeg (r3.2.1 t 18)) fun μ4 =>
  (f_X11_looksAtCell F t μ4).bind fun r5 =>
  (if r5.1 = true then
  aw_g (aw_in (67 + v1) 427) (aw_let (aw_wI r5.2 (aw_rf t 7) (67 + v1).toNatClampNeg (r5.2.1 t 18)) fun μ6 =>
  (f_X11_next F t μ6).bind fun r7 =>
  (f_X11_takes F t 0 400 r7).bind fun r8 =>
  (if r8.1 = true then
  aw_g (aw_in (87 + v1) 427) (aw_let (aw_wI r8.2 (aw_rf t 7) (87 + v1).toNatClampNeg (r8.2.1 t 18)) fun μ9 =>
  (f_X11_takes F t 0 9 μ9).bind fun r10 =>
  (if r10.1 = true then
  aw_g (aw_in (107 + v1) 427) (aw_let (aw_wI r10.2 (aw_rf t 7) (107 + v1).toNatClampNeg (r10.2.1 t 18)) fun μ11 =>
  aw_g (aw_in 3 427) (aw_g (aw_in 3 427) (aw_let (aw_wI μ11 (aw_rf t 7) (3 : Int32).toNatClampNeg ((μ11.1 (aw_rf t 7) (3 : Int32).toNatClampNeg) + 1)) fun μ12 =>
  some (true, μ12))))
  else
  some (false, r10.2)))
  else
  some (false, r8.2)))
  else
  some (false, r5.2)))
  else
  some (false, r3.2))))
theorem m_X11_readCart (l : Launch) (F : Nat) (t : Nat) (ht : (aw_sh t).1 = 16) (μ : aw_M) : AM l yX11_readCart cX11_readCart 2 (some .boolean) 5 206 aw_gz [.ref t] μ (f_X11_readCart F t μ) := by
  refine aw_met [some (.ref t), none] (by decide) (fun _ => rfl) (fun _ => Nat.le_of_ble_eq_true rfl) ?_
  show AW l k_X11_readCart aw_gz 0 [some (.ref t), none] [] μ _
  unfold f_X11_readCart
  refine aw_aload_n (n := 1) dX11_readCart_0 rfl rfl ?_
  refine aw_getR (n := 4) (RX11, TX11, 52) 11 7 dX11_readCart_1 rfl ht (by decide) fd_RX11_37 ?_
  refine aw_iconst (n := 5) 3 dX11_readCart_4 rfl (by decide) ?_
  refine aw_iaload (n := 6) 427 dX11_readCart_5 rfl (sf_11_7 ht) ?_
  refine aw_nmI (fun v1 => ?_)
  refine aw_istore_n (n := 7) [some (.ref t), some (.int v1)] dX11_readCart_6 rfl rfl (Nat.le_of_ble_eq_true rfl) (Nat.le_of_ble_eq_true rfl) rfl ?_
  refine aw_iload_n (n := 8) dX11_readCart_7 rfl rfl ?_
  refine aw_bipush (n := 10) 20 dX11_readCart_8 rfl (by decide) ?_
  refine aw_icmp_ne (n := 13) 19 dX11_readCart_10 (by decide) rfl ?_ ?_
  · refine aw_aload_n (n := 20) dX11_readCart_19 rfl rfl ?_
    refine aw_callVv (n := 23) (as := []) (st := []) (RX11, TX11, 52) 11 dX11_readCart_20 rfl rfl (m_X11_next l F t ht μ) ht (by decide) rfl rfl cw_RX11_191 ⟨Nat.le_of_ble_eq_true rfl, Nat.le_of_ble_eq_true rfl⟩ (fun _ => Nat.le_of_ble_eq_true rfl) (fun r2 => ?_)
    refine aw_aload_n (n := 24) dX11_readCart_23 rfl rfl ?_
    refine aw_iconst (n := 25) 0 dX11_readCart_24 rfl (by decide) ?_
    refine aw_sipush (n := 28) 239 dX11_readCart_25 rfl (by decide) ?_
    refine aw_callVz (n := 31) (as := [.int 0, .int 239]) (st := []) (RX11, TX11, 52) 11 dX11_readCart_28 rfl rfl (m_X11_takes l F t ht 0 239 r2) ht (by decide) rfl rfl cw_RX11_209 ⟨Nat.le_of_ble_eq_true rfl, Nat.le_of_ble_eq_true rfl⟩ (fun _ => Nat.le_of_ble_eq_true rfl) (fun r3 => ?_)
    refine aw_ifb_ne (n := 34) 36 dX11_readCart_31 (by decide) rfl ?_ ?_
    · refine aw_aload_n (n := 37) dX11_readCart_36 rfl rfl ?_
      refine aw_getR (n := 40) (RX11, TX11, 52) 11 7 dX11_readCart_37 rfl ht (by decide) fd_RX11_37 ?_
      refine aw_bipush (n := 42) 47 dX11_readCart_40 rfl (by decide) ?_
      refine aw_iload_n (n := 43) dX11_readCart_42 rfl rfl ?_
      refine aw_iadd (n := 44) dX11_readCart_43 rfl ?_
      refine aw_aload_n (n := 45) dX11_readCart_44 rfl rfl ?_
      refine aw_getI (n := 48) (RX11, TX11, 52) 11 18 dX11_readCart_45 rfl ht (by decide) fd_RX11_198 ?_
      refine aw_iastore (n := 49) 427 dX11_readCart_48 rfl (sf_11_7 ht) (fun μ4 => ?_)
      refine aw_aload_n (n := 50) dX11_readCart_49 rfl rfl ?_
      refine aw_callVz (n := 53) (as := []) (st := []) (RX11, TX11, 52) 11 dX11_readCart_50 rfl rfl (m_X11_looksAtCell l F t ht μ4) ht (by decide) rfl rfl cw_RX11_230 ⟨Nat.le_of_ble_eq_true rfl, Nat.le_of_ble_eq_true rfl⟩ (fun _ => Nat.le_of_ble_eq_true rfl) (fun r5 => ?_)
      refine aw_ifb_ne (n := 56) 58 dX11_readCart_53 (by decide) rfl ?_ ?_
      · refine aw_aload_n (n := 59) dX11_readCart_58 rfl rfl ?_
        refine aw_getR (n := 62) (RX11, TX11, 52) 11 7 dX11_readCart_59 rfl ht (by decide) fd_RX11_37 ?_
        refine aw_bipush (n := 64) 67 dX11_readCart_62 rfl (by decide) ?_
        refine aw_iload_n (n := 65) dX11_readCart_64 rfl rfl ?_
        refine aw_iadd (n := 66) dX11_readCart_65 rfl ?_
        refine aw_aload_n (n := 67) dX11_readCart_66 rfl rfl ?_
        refine aw_getI (n := 70) (RX11, TX11, 52) 11 18 dX11_readCart_67 rfl ht (by decide) fd_RX11_198 ?_
        refine aw_iastore (n := 71) 427 dX11_readCart_70 rfl (sf_11_7 ht) (fun μ6 => ?_)
        refine aw_aload_n (n := 72) dX11_readCart_71 rfl rfl ?_
        refine aw_callVv (n := 75) (as := []) (st := []) (RX11, TX11, 52) 11 dX11_readCart_72 rfl rfl (m_X11_next l F t ht μ6) ht (by decide) rfl rfl cw_RX11_191 ⟨Nat.le_of_ble_eq_true rfl, Nat.le_of_ble_eq_true rfl⟩ (fun _ => Nat.le_of_ble_eq_true rfl) (fun r7 => ?_)
        refine aw_aload_n (n := 76) dX11_readCart_75 rfl rfl ?_
        refine aw_iconst (n := 77) 0 dX11_readCart_76 rfl (by decide) ?_
        refine aw_sipush (n := 80) 400 dX11_readCart_77 rfl (by decide) ?_
        refine aw_callVz (n := 83) (as := [.int 0, .int 400]) (st := []) (RX11, TX11, 52) 11 dX11_readCart_80 rfl rfl (m_X11_takes l F t ht 0 400 r7) ht (by decide) rfl rfl cw_RX11_209 ⟨Nat.le_of_ble_eq_true rfl, Nat.le_of_ble_eq_true rfl⟩ (fun _ => Nat.le_of_ble_eq_true rfl) (fun r8 => ?_)
        refine aw_ifb_ne (n := 86) 88 dX11_readCart_83 (by decide) rfl ?_ ?_
        · refine aw_aload_n (n := 89) dX11_readCart_88 rfl rfl ?_
          refine aw_getR (n := 92) (RX11, TX11, 52) 11 7 dX11_readCart_89 rfl ht (by decide) fd_RX11_37 ?_
          refine aw_bipush (n := 94) 87 dX11_readCart_92 rfl (by decide) ?_
          refine aw_iload_n (n := 95) dX11_readCart_94 rfl rfl ?_
          refine aw_iadd (n := 96) dX11_readCart_95 rfl ?_
          refine aw_aload_n (n := 97) dX11_readCart_96 rfl rfl ?_
          refine aw_getI (n := 100) (RX11, TX11, 52) 11 18 dX11_readCart_97 rfl ht (by decide) fd_RX11_198 ?_
          refine aw_iastore (n := 101) 427 dX11_readCart_100 rfl (sf_11_7 ht) (fun μ9 => ?_)
          refine aw_aload_n (n := 102) dX11_readCart_101 rfl rfl ?_
          refine aw_iconst (n := 103) 0 dX11_readCart_102 rfl (by decide) ?_
          refine aw_bipush (n := 105) 9 dX11_readCart_103 rfl (by decide) ?_
          refine aw_callVz (n := 108) (as := [.int 0, .int 9]) (st := []) (RX11, TX11, 52) 11 dX11_readCart_105 rfl rfl (m_X11_takes l F t ht 0 9 μ9) ht (by decide) rfl rfl cw_RX11_209 ⟨Nat.le_of_ble_eq_true rfl, Nat.le_of_ble_eq_true rfl⟩ (fun _ => Nat.le_of_ble_eq_true rfl) (fun r10 => ?_)
          refine aw_ifb_ne (n := 111) 113 dX11_readCart_108 (by decide) rfl ?_ ?_
          · refine aw_aload_n (n := 114) dX11_readCart_113 rfl rfl ?_
            refine aw_getR (n := 117) (RX11, TX11, 52) 11 7 dX11_readCart_114 rfl ht (by decide) fd_RX11_37 ?_
            refine aw_bipush (n := 119) 107 dX11_readCart_117 rfl (by decide) ?_
            refine aw_iload_n (n := 120) dX11_readCart_119 rfl rfl ?_
            refine aw_iadd (n := 121) dX11_readCart_120 rfl ?_
            refine aw_aload_n (n := 122) dX11_readCart_121 rfl rfl ?_
            refine aw_getI (n := 125) (RX11, TX11, 52) 11 18 dX11_readCart_122 rfl ht (by decide) fd_RX11_198 ?_
            refine aw_iastore (n := 126) 427 dX11_readCart_125 rfl (sf_11_7 ht) (fun μ11 => ?_)
            refine aw_aload_n (n := 127) dX11_readCart_126 rfl rfl ?_
            refine aw_getR (n := 130) (RX11, TX11, 52) 11 7 dX11_readCart_127 rfl ht (by decide) fd_RX11_37 ?_
            refine aw_iconst (n := 131) 3 dX11_readCart_130 rfl (by decide) ?_
            refine aw_dup2 (n := 132) dX11_readCart_131 rfl (fun _ => rfl) (fun _ => rfl) ?_
            refine aw_iaload (n := 133) 427 dX11_readCart_132 rfl (sf_11_7 ht) ?_
            refine aw_iconst (n := 134) 1 dX11_readCart_133 rfl (by decide) ?_
            refine aw_iadd (n := 135) dX11_readCart_134 rfl ?_
            refine aw_iastore (n := 136) 427 dX11_readCart_135 rfl (sf_11_7 ht) (fun μ12 => ?_)
            refine aw_iconst (n := 137) 1 dX11_readCart_136 rfl (by decide) ?_
            exact aw_zreturn (b := true) dX11_readCart_137 rfl rfl
          · refine aw_iconst (n := 112) 0 dX11_readCart_111 rfl (by decide) ?_
            exact aw_zreturn (b := false) dX11_readCart_112 rfl rfl
        · refine aw_iconst (n := 87) 0 dX11_readCart_86 rfl (by decide) ?_
          exact aw_zreturn (b := false) dX11_readCart_87 rfl rfl
      · refine aw_iconst (n := 57) 0 dX11_readCart_56 rfl (by decide) ?_
        exact aw_zreturn (b := false) dX11_readCart_57 rfl rfl
    · refine aw_iconst (n := 35) 0 dX11_readCart_34 rfl (by decide) ?_
      exact aw_zreturn (b := false) dX11_readCart_35 rfl rfl
  · refine aw_aload_n (n := 14) dX11_readCart_13 rfl rfl ?_
    refine aw_iconst (n := 15) 4 dX11_readCart_14 rfl (by decide) ?_
    refine aw_callVz (n := 18) (as := [.int 4]) (st := []) (RX11, TX11, 52) 11 dX11_readCart_15 rfl rfl (m_X11_bad l F t ht 4 μ) ht (by decide) rfl rfl cw_RX11_188 ⟨Nat.le_of_ble_eq_true rfl, Nat.le_of_ble_eq_true rfl⟩ (fun _ => Nat.le_of_ble_eq_true rfl) (fun r13 => ?_)
    exact aw_zreturn (b := r13.1) dX11_readCart_18 rfl rfl
abbrev k_X11_readOn : aw_K := (RX11, cX11_readOn, 3, (some .boolean), 5, 206)
def f_X11_readOn (F : Nat) (t : Nat) (a0 : Int32) (a1 : Int32) (μ : aw_M) : Option (Bool × aw_M) :=
  aw_g (aw_in a1 427) ((if (μ.1 (aw_rf t 7) a1.toNatClampNeg) = 12 then
  (f_X11_bad F t 4 μ).bind fun r7 =>
  some (r7.1, r7.2)
  else
  (f_X11_next F t μ).bind fun r1 =>
  (f_X11_looksAtCell F t r1).bind fun r2 =>
  (if r2.1 = true then
  aw_g (aw_in (a0 + (r2.2.1 t 18)) 427) ((if (r2.2.1 (aw_rf t 7) (a0 + (r2.2.1 t 18)).toNatClampNeg) = 1 then
  (f_X11_bad F t 3 r2.2).bind fun r6 =>
  some (r6.1, r6.2)
  else
  aw_g (aw_in (a0 + (r2.2.1 t 18)) 427) (aw_let (aw_wI r2.2 (aw_rf t 7) (a0 + (r2.2.1 t 18)).toNatClampNeg 1) fun μ3 =>
  aw_g (aw_in a1 427) (aw_g (aw_in a1 427) (aw_let (aw_wI μ3 (aw_rf t 7) a1.toNatClampNeg ((μ3.1 (aw_rf t 7) a1.toNatClampNeg) + 1)) fun μ4 =>
  (f_X11_next F t μ4).bind fun r5 =>
  some (true, r5))))))
  else
  some (false, r2.2))))
theorem m_X11_readOn (l : Launch) (F : Nat) (t : Nat) (ht : (aw_sh t).1 = 16) (a0 : Int32) (a1 : Int32) (μ : aw_M) : AM l yX11_readOn cX11_readOn 3 (some .boolean) 5 206 aw_gz [.ref t, .int a0, .int a1] μ (f_X11_readOn F t a0 a1 μ) := by
  refine aw_met [some (.ref t), some (.int a0), some (.int a1)] (by decide) (fun _ => rfl) (fun _ => Nat.le_of_ble_eq_true rfl) ?_
  show AW l k_X11_readOn aw_gz 0 [some (.ref t), some (.int a0), some (.int a1)] [] μ _
  unfold f_X11_readOn
  refine aw_aload_n (n := 1) dX11_readOn_0 rfl rfl ?_
  refine aw_getR (n := 4) (RX11, TX11, 52) 11 7 dX11_readOn_1 rfl ht (by decide) fd_RX11_37 ?_
  refine aw_iload_n (n := 5) dX11_readOn_4 rfl rfl ?_
  refine aw_iaload (n := 6) 427 dX11_readOn_5 rfl (sf_11_7 ht) ?_
  refine aw_bipush (n := 8) 12 dX11_readOn_6 rfl (by decide) ?_
  refine aw_icmp_ne (n := 11) 17 dX11_readOn_8 (by decide) rfl ?_ ?_
  · refine aw_aload_n (n := 18) dX11_readOn_17 rfl rfl ?_
    refine aw_callVv (n := 21) (as := []) (st := []) (RX11, TX11, 52) 11 dX11_readOn_18 rfl rfl (m_X11_next l F t ht μ) ht (by decide) rfl rfl cw_RX11_191 ⟨Nat.le_of_ble_eq_true rfl, Nat.le_of_ble_eq_true rfl⟩ (fun _ => Nat.le_of_ble_eq_true rfl) (fun r1 => ?_)
    refine aw_aload_n (n := 22) dX11_readOn_21 rfl rfl ?_
    refine aw_callVz (n := 25) (as := []) (st := []) (RX11, TX11, 52) 11 dX11_readOn_22 rfl rfl (m_X11_looksAtCell l F t ht r1) ht (by decide) rfl rfl cw_RX11_230 ⟨Nat.le_of_ble_eq_true rfl, Nat.le_of_ble_eq_true rfl⟩ (fun _ => Nat.le_of_ble_eq_true rfl) (fun r2 => ?_)
    refine aw_ifb_ne (n := 28) 30 dX11_readOn_25 (by decide) rfl ?_ ?_
    · refine aw_aload_n (n := 31) dX11_readOn_30 rfl rfl ?_
      refine aw_getR (n := 34) (RX11, TX11, 52) 11 7 dX11_readOn_31 rfl ht (by decide) fd_RX11_37 ?_
      refine aw_iload_n (n := 35) dX11_readOn_34 rfl rfl ?_
      refine aw_aload_n (n := 36) dX11_readOn_35 rfl rfl ?_
      refine aw_getI (n := 39) (RX11, TX11, 52) 11 18 dX11_readOn_36 rfl ht (by decide) fd_RX11_198 ?_
      refine aw_iadd (n := 40) dX11_readOn_39 rfl ?_
      refine aw_iaload (n := 41) 427 dX11_readOn_40 rfl (sf_11_7 ht) ?_
      refine aw_iconst (n := 42) 1 dX11_readOn_41 rfl (by decide) ?_
      refine aw_icmp_ne (n := 45) 51 dX11_readOn_42 (by decide) rfl ?_ ?_
      · refine aw_aload_n (n := 52) dX11_readOn_51 rfl rfl ?_
        refine aw_getR (n := 55) (RX11, TX11, 52) 11 7 dX11_readOn_52 rfl ht (by decide) fd_RX11_37 ?_
        refine aw_iload_n (n := 56) dX11_readOn_55 rfl rfl ?_
        refine aw_aload_n (n := 57) dX11_readOn_56 rfl rfl ?_
        refine aw_getI (n := 60) (RX11, TX11, 52) 11 18 dX11_readOn_57 rfl ht (by decide) fd_RX11_198 ?_
        refine aw_iadd (n := 61) dX11_readOn_60 rfl ?_
        refine aw_iconst (n := 62) 1 dX11_readOn_61 rfl (by decide) ?_
        refine aw_iastore (n := 63) 427 dX11_readOn_62 rfl (sf_11_7 ht) (fun μ3 => ?_)
        refine aw_aload_n (n := 64) dX11_readOn_63 rfl rfl ?_
        refine aw_getR (n := 67) (RX11, TX11, 52) 11 7 dX11_readOn_64 rfl ht (by decide) fd_RX11_37 ?_
        refine aw_iload_n (n := 68) dX11_readOn_67 rfl rfl ?_
        refine aw_dup2 (n := 69) dX11_readOn_68 rfl (fun _ => rfl) (fun _ => rfl) ?_
        refine aw_iaload (n := 70) 427 dX11_readOn_69 rfl (sf_11_7 ht) ?_
        refine aw_iconst (n := 71) 1 dX11_readOn_70 rfl (by decide) ?_
        refine aw_iadd (n := 72) dX11_readOn_71 rfl ?_
        refine aw_iastore (n := 73) 427 dX11_readOn_72 rfl (sf_11_7 ht) (fun μ4 => ?_)
        refine aw_aload_n (n := 74) dX11_readOn_73 rfl rfl ?_
        refine aw_callVv (n := 77) (as := []) (st := []) (RX11, TX11, 52) 11 dX11_readOn_74 rfl rfl (m_X11_next l F t ht μ4) ht (by decide) rfl rfl cw_RX11_191 ⟨Nat.le_of_ble_eq_true rfl, Nat.le_of_ble_eq_true rfl⟩ (fun _ => Nat.le_of_ble_eq_true rfl) (fun r5 => ?_)
        refine aw_iconst (n := 78) 1 dX11_readOn_77 rfl (by decide) ?_
        exact aw_zreturn (b := true) dX11_readOn_78 rfl rfl
      · refine aw_aload_n (n := 46) dX11_readOn_45 rfl rfl ?_
        refine aw_iconst (n := 47) 3 dX11_readOn_46 rfl (by decide) ?_
        refine aw_callVz (n := 50) (as := [.int 3]) (st := []) (RX11, TX11, 52) 11 dX11_readOn_47 rfl rfl (m_X11_bad l F t ht 3 r2.2) ht (by decide) rfl rfl cw_RX11_188 ⟨Nat.le_of_ble_eq_true rfl, Nat.le_of_ble_eq_true rfl⟩ (fun _ => Nat.le_of_ble_eq_true rfl) (fun r6 => ?_)
        exact aw_zreturn (b := r6.1) dX11_readOn_50 rfl rfl
    · refine aw_iconst (n := 29) 0 dX11_readOn_28 rfl (by decide) ?_
      exact aw_zreturn (b := false) dX11_readOn_29 rfl rfl
  · refine aw_aload_n (n := 12) dX11_readOn_11 rfl rfl ?_
    refine aw_iconst (n := 13) 4 dX11_readOn_12 rfl (by decide) ?_
    refine aw_callVz (n := 16) (as := [.int 4]) (st := []) (RX11, TX11, 52) 11 dX11_readOn_13 rfl rfl (m_X11_bad l F t ht 4 μ) ht (by decide) rfl rfl cw_RX11_188 ⟨Nat.le_of_ble_eq_true rfl, Nat.le_of_ble_eq_true rfl⟩ (fun _ => Nat.le_of_ble_eq_true rfl) (fun r7 => ?_)
    exact aw_zreturn (b := r7.1) dX11_readOn_16 rfl rfl
abbrev k_X11_readQuarter : aw_K := (RX11, cX11_readQuarter, 3, (some .boolean), 5, 206)
def f_X11_readQuarter_113 (F : Nat) (t : Nat) (x1 : Int32) (μ : aw_M) : Option (Bool × aw_M) :=
  aw_g (aw_in (11 + x1) 427) (aw_let (aw_wI μ (aw_rf t 7) (11 + x1).toNatClampNeg (μ.1 t 18)) fun μ26 =>
  (f_X11_next F t μ26).bind fun r27 =>
  (f_X11_takes F t 0 400 r27).bind fun r28 =>
  (if r28.1 = true then
  aw_g (aw_in (20 + x1) 427) (aw_let (aw_wI r28.2 (aw_rf t 7) (20 + x1).toNatClampNeg (r28.2.1 t 18)) fun μ29 =>
  (f_X11_takes F t 1 9 μ29).bind fun r30 =>
  (if r30.1 = true then
  aw_g (aw_in (29 + x1) 427) (aw_let (aw_wI r30.2 (aw_rf t 7) (29 + x1).toNatClampNeg (r30.2.1 t 18)) fun μ31 =>
  aw_g (aw_in 2 427) (aw_g (aw_in 2 427) (aw_let (aw_wI μ31 (aw_rf t 7) (2 : Int32).toNatClampNeg ((μ31.1 (aw_rf t 7) (2 : Int32).toNatClampNeg) + 1)) fun μ32 =>
  some (true, μ32))))
  else
  some (false, r30.2)))
  else
  some (false, r28.2)))
theorem c_X11_readQuarter_113 (l : Launch) (F : Nat) (t : Nat) (ht : (aw_sh t).1 = 16) (x1 : Int32) (μ : aw_M) : AW l k_X11_readQuarter aw_gz 113 [some (.ref t), some (.int x1), none] [] μ (f_X11_readQuarter_113 F t x1 μ) := by
  unfold f_X11_readQuarter_113
  refine aw_aload_n (n := 114) dX11_readQuarter_113 rfl rfl ?_
  refine aw_getR (n := 117) (RX11, TX11, 52) 11 7 dX11_readQuarter_114 rfl ht (by decide) fd_RX11_37 ?_
  refine aw_bipush (n := 119) 11 dX11_readQuarter_117 rfl (by decide) ?_
  refine aw_iload_n (n := 120) dX11_readQuarter_119 rfl rfl ?_
  refine aw_iadd (n := 121) dX11_readQuarter_120 rfl ?_
  refine aw_aload_n (n := 122) dX11_readQuarter_121 rfl rfl ?_
  refine aw_getI (n := 125) (RX11, TX11, 52) 11 18 dX11_readQuarter_122 rfl ht (by decide) fd_RX11_198 ?_
  refine aw_iastore (n := 126) 427 dX11_readQuarter_125 rfl (sf_11_7 ht) (fun μ26 => ?_)
  refine aw_aload_n (n := 127) dX11_readQuarter_126 rfl rfl ?_
  refine aw_callVv (n := 130) (as := []) (st := []) (RX11, TX11, 52) 11 dX11_readQuarter_127 rfl rfl (m_X11_next l F t ht μ26) ht (by decide) rfl rfl cw_RX11_191 ⟨Nat.le_of_ble_eq_true rfl, Nat.le_of_ble_eq_true rfl⟩ (fun _ => Nat.le_of_ble_eq_true rfl) (fun r27 => ?_)
  refine aw_aload_n (n := 131) dX11_readQuarter_130 rfl rfl ?_
  refine aw_iconst (n := 132) 0 dX11_readQuarter_131 rfl (by decide) ?_
  refine aw_sipush (n := 135) 400 dX11_readQuarter_132 rfl (by decide) ?_
  refine aw_callVz (n := 138) (as := [.int 0, .int 400]) (st := []) (RX11, TX11, 52) 11 dX11_readQuarter_135 rfl rfl (m_X11_takes l F t ht 0 400 r27) ht (by decide) rfl rfl cw_RX11_209 ⟨Nat.le_of_ble_eq_true rfl, Nat.le_of_ble_eq_true rfl⟩ (fun _ => Nat.le_of_ble_eq_true rfl) (fun r28 => ?_)
  refine aw_ifb_ne (n := 141) 143 dX11_readQuarter_138 (by decide) rfl ?_ ?_
  · refine aw_aload_n (n := 144) dX11_readQuarter_143 rfl rfl ?_
    refine aw_getR (n := 147) (RX11, TX11, 52) 11 7 dX11_readQuarter_144 rfl ht (by decide) fd_RX11_37 ?_
    refine aw_bipush (n := 149) 20 dX11_readQuarter_147 rfl (by decide) ?_
    refine aw_iload_n (n := 150) dX11_readQuarter_149 rfl rfl ?_
    refine aw_iadd (n := 151) dX11_readQuarter_150 rfl ?_
    refine aw_aload_n (n := 152) dX11_readQuarter_151 rfl rfl ?_
    refine aw_getI (n := 155) (RX11, TX11, 52) 11 18 dX11_readQuarter_152 rfl ht (by decide) fd_RX11_198 ?_
    refine aw_iastore (n := 156) 427 dX11_readQuarter_155 rfl (sf_11_7 ht) (fun μ29 => ?_)
    refine aw_aload_n (n := 157) dX11_readQuarter_156 rfl rfl ?_
    refine aw_iconst (n := 158) 1 dX11_readQuarter_157 rfl (by decide) ?_
    refine aw_bipush (n := 160) 9 dX11_readQuarter_158 rfl (by decide) ?_
    refine aw_callVz (n := 163) (as := [.int 1, .int 9]) (st := []) (RX11, TX11, 52) 11 dX11_readQuarter_160 rfl rfl (m_X11_takes l F t ht 1 9 μ29) ht (by decide) rfl rfl cw_RX11_209 ⟨Nat.le_of_ble_eq_true rfl, Nat.le_of_ble_eq_true rfl⟩ (fun _ => Nat.le_of_ble_eq_true rfl) (fun r30 => ?_)
    refine aw_ifb_ne (n := 166) 168 dX11_readQuarter_163 (by decide) rfl ?_ ?_
    · refine aw_aload_n (n := 169) dX11_readQuarter_168 rfl rfl ?_
      refine aw_getR (n := 172) (RX11, TX11, 52) 11 7 dX11_readQuarter_169 rfl ht (by decide) fd_RX11_37 ?_
      refine aw_bipush (n := 174) 29 dX11_readQuarter_172 rfl (by decide) ?_
      refine aw_iload_n (n := 175) dX11_readQuarter_174 rfl rfl ?_
      refine aw_iadd (n := 176) dX11_readQuarter_175 rfl ?_
      refine aw_aload_n (n := 177) dX11_readQuarter_176 rfl rfl ?_
      refine aw_getI (n := 180) (RX11, TX11, 52) 11 18 dX11_readQuarter_177 rfl ht (by decide) fd_RX11_198 ?_
      refine aw_iastore (n := 181) 427 dX11_readQuarter_180 rfl (sf_11_7 ht) (fun μ31 => ?_)
      refine aw_aload_n (n := 182) dX11_readQuarter_181 rfl rfl ?_
      refine aw_getR (n := 185) (RX11, TX11, 52) 11 7 dX11_readQuarter_182 rfl ht (by decide) fd_RX11_37 ?_
      refine aw_iconst (n := 186) 2 dX11_readQuarter_185 rfl (by decide) ?_
      refine aw_dup2 (n := 187) dX11_readQuarter_186 rfl (fun _ => rfl) (fun _ => rfl) ?_
      refine aw_iaload (n := 188) 427 dX11_readQuarter_187 rfl (sf_11_7 ht) ?_
      refine aw_iconst (n := 189) 1 dX11_readQuarter_188 rfl (by decide) ?_
      refine aw_iadd (n := 190) dX11_readQuarter_189 rfl ?_
      refine aw_iastore (n := 191) 427 dX11_readQuarter_190 rfl (sf_11_7 ht) (fun μ32 => ?_)
      refine aw_iconst (n := 192) 1 dX11_readQuarter_191 rfl (by decide) ?_
      exact aw_zreturn (b := true) dX11_readQuarter_192 rfl rfl
    · refine aw_iconst (n := 167) 0 dX11_readQuarter_166 rfl (by decide) ?_
      exact aw_zreturn (b := false) dX11_readQuarter_167 rfl rfl
  · refine aw_iconst (n := 142) 0 dX11_readQuarter_141 rfl (by decide) ?_
    exact aw_zreturn (b := false) dX11_readQuarter_142 rfl rfl
def f_X11_readQuarter_101 (F : Nat) (t : Nat) (μ : aw_M) : Option (Bool × aw_M) :=
  (f_X11_bad F t 3 μ).bind fun r33 =>
  some (r33.1, r33.2)
theorem c_X11_readQuarter_101 (l : Launch) (F : Nat) (t : Nat) (ht : (aw_sh t).1 = 16) (μ : aw_M) : AW l k_X11_readQuarter aw_gz 101 [some (.ref t), none, none] [] μ (f_X11_readQuarter_101 F t μ) := by
  unfold f_X11_readQuarter_101
  refine aw_aload_n (n := 102) dX11_readQuarter_101 rfl rfl ?_
  refine aw_iconst (n := 103) 3 dX11_readQuarter_102 rfl (by decide) ?_
  refine aw_callVz (n := 106) (as := [.int 3]) (st := []) (RX11, TX11, 52) 11 dX11_readQuarter_103 rfl rfl (m_X11_bad l F t ht 3 μ) ht (by decide) rfl rfl cw_RX11_188 ⟨Nat.le_of_ble_eq_true rfl, Nat.le_of_ble_eq_true rfl⟩ (fun _ => Nat.le_of_ble_eq_true rfl) (fun r33 => ?_)
  exact aw_zreturn (b := r33.1) dX11_readQuarter_106 rfl rfl
def f_X11_readQuarter_80 (F : Nat) (t : Nat) (k80 : Int32 × Int32 × aw_M → Option (Bool × aw_M)) (x1 : Int32) (x2 : Int32) (μ : aw_M) : Option (Bool × aw_M) :=
  (if x1 ≤ x2 then
  f_X11_readQuarter_113 F t x1 μ
  else
  aw_g (aw_in (11 + x2) 427) ((if (μ.1 (aw_rf t 7) (11 + x2).toNatClampNeg) = (μ.1 t 18) then
  f_X11_readQuarter_101 F t μ
  else
  k80 (x1, (x2 + 1), μ))))
theorem c_X11_readQuarter_80 (l : Launch) (F : Nat) (t : Nat) (ht : (aw_sh t).1 = 16) : ∀ (N : Nat) (s : Int32 × Int32 × aw_M), AW l k_X11_readQuarter aw_gz 80 [some (.ref t), some (.int s.1), some (.int s.2.1)] [] s.2.2 (aw_loop (fun k s => f_X11_readQuarter_80 F t k s.1 s.2.1 s.2.2) N s) := by
  refine aw_loop_ok (f := fun k s => f_X11_readQuarter_80 F t k s.1 s.2.1 s.2.2) (Ls := fun s => [some (.ref t), some (.int s.1), some (.int s.2.1)]) (ms := fun s => s.2.2) ?_
  intro k80 hk80 s
  obtain ⟨x1, x2, μ⟩ := s
  show AW l k_X11_readQuarter aw_gz 80 [some (.ref t), some (.int x1), some (.int x2)] [] μ (f_X11_readQuarter_80 F t k80 x1 x2 μ)
  unfold f_X11_readQuarter_80
  refine aw_iload_n (n := 81) dX11_readQuarter_80 rfl rfl ?_
  refine aw_iload_n (n := 82) dX11_readQuarter_81 rfl rfl ?_
  refine aw_icmp_ge (n := 85) 113 dX11_readQuarter_82 (by decide) rfl ?_ ?_
  · exact aw_weak (c_X11_readQuarter_113 l F t ht x1 μ) (aw_ss (aw_ss (aw_sn aw_s0)))
  · refine aw_aload_n (n := 86) dX11_readQuarter_85 rfl rfl ?_
    refine aw_getR (n := 89) (RX11, TX11, 52) 11 7 dX11_readQuarter_86 rfl ht (by decide) fd_RX11_37 ?_
    refine aw_bipush (n := 91) 11 dX11_readQuarter_89 rfl (by decide) ?_
    refine aw_iload_n (n := 92) dX11_readQuarter_91 rfl rfl ?_
    refine aw_iadd (n := 93) dX11_readQuarter_92 rfl ?_
    refine aw_iaload (n := 94) 427 dX11_readQuarter_93 rfl (sf_11_7 ht) ?_
    refine aw_aload_n (n := 95) dX11_readQuarter_94 rfl rfl ?_
    refine aw_getI (n := 98) (RX11, TX11, 52) 11 18 dX11_readQuarter_95 rfl ht (by decide) fd_RX11_198 ?_
    refine aw_icmp_ne (n := 101) 107 dX11_readQuarter_98 (by decide) rfl ?_ ?_
    · refine aw_iinc (n := 110) (x2 + 1) [some (.ref t), some (.int x1), some (.int (x2 + 1))] dX11_readQuarter_107 rfl rfl (by rfl) rfl (Nat.le_of_ble_eq_true rfl) rfl ?_
      refine aw_goto 80 dX11_readQuarter_110 (by decide) ?_
      exact aw_weak (hk80 (x1, (x2 + 1), μ)) (aw_ss (aw_ss (aw_ss aw_s0)))
    · exact aw_weak (c_X11_readQuarter_101 l F t ht μ) (aw_ss (aw_sn (aw_sn aw_s0)))
def f_X11_readQuarter (F : Nat) (t : Nat) (μ : aw_M) : Option (Bool × aw_M) :=
  aw_g (aw_in 2 427) (aw_let ((μ.1 (aw_rf t 7) (2 : Int32).toNatClampNeg)) fun v19 =>
  (if v19 = 9 then
  (f_X11_bad F t 4 μ).bind fun r36 =>
  some (r36.1, r36.2)
  else
  (f_X11_next F t μ).bind fun r20 =>
  (f_X11_isName F t r20).bind fun r21 =>
  (if r21.1 = true then
  (f_X11_find F t 9 v19 r21.2).bind fun r22 =>
  (if r22.1 < 0 then
  aw_g (aw_in (9 + v19) 18) (aw_let (aw_wL r22.2 (aw_rf t 9) (9 + v19).toNatClampNeg ((r22.2.2 t 17))) fun μ23 =>
  (f_X11_next F t μ23).bind fun r24 =>
  (f_X11_looksAtCell F t r24).bind fun r25 =>
  (if r25.1 = true then
  aw_loop (fun k s => f_X11_readQuarter_80 F t k s.1 s.2.1 s.2.2) F (v19, 0, r25.2)
  else
  some (false, r25.2)))
  else
  (f_X11_bad F t 3 r22.2).bind fun r34 =>
  some (r34.1, r34.2))
  else
  (f_X11_bad F t 1 r21.2).bind fun r35 =>
  some (r35.1, r35.2))))
theorem m_X11_readQuarter (l : Launch) (F : Nat) (t : Nat) (ht : (aw_sh t).1 = 16) (μ : aw_M) : AM l yX11_readQuarter cX11_readQuarter 3 (some .boolean) 5 206 aw_gz [.ref t] μ (f_X11_readQuarter F t μ) := by
  refine aw_met [some (.ref t), none, none] (by decide) (fun _ => rfl) (fun _ => Nat.le_of_ble_eq_true rfl) ?_
  show AW l k_X11_readQuarter aw_gz 0 [some (.ref t), none, none] [] μ _
  unfold f_X11_readQuarter
  refine aw_aload_n (n := 1) dX11_readQuarter_0 rfl rfl ?_
  refine aw_getR (n := 4) (RX11, TX11, 52) 11 7 dX11_readQuarter_1 rfl ht (by decide) fd_RX11_37 ?_
  refine aw_iconst (n := 5) 2 dX11_readQuarter_4 rfl (by decide) ?_
  refine aw_iaload (n := 6) 427 dX11_readQuarter_5 rfl (sf_11_7 ht) ?_
  refine aw_nmI (fun v19 => ?_)
  refine aw_istore_n (n := 7) [some (.ref t), some (.int v19), none] dX11_readQuarter_6 rfl rfl (Nat.le_of_ble_eq_true rfl) (Nat.le_of_ble_eq_true rfl) rfl ?_
  refine aw_iload_n (n := 8) dX11_readQuarter_7 rfl rfl ?_
  refine aw_bipush (n := 10) 9 dX11_readQuarter_8 rfl (by decide) ?_
  refine aw_icmp_ne (n := 13) 19 dX11_readQuarter_10 (by decide) rfl ?_ ?_
  · refine aw_aload_n (n := 20) dX11_readQuarter_19 rfl rfl ?_
    refine aw_callVv (n := 23) (as := []) (st := []) (RX11, TX11, 52) 11 dX11_readQuarter_20 rfl rfl (m_X11_next l F t ht μ) ht (by decide) rfl rfl cw_RX11_191 ⟨Nat.le_of_ble_eq_true rfl, Nat.le_of_ble_eq_true rfl⟩ (fun _ => Nat.le_of_ble_eq_true rfl) (fun r20 => ?_)
    refine aw_aload_n (n := 24) dX11_readQuarter_23 rfl rfl ?_
    refine aw_callVz (n := 27) (as := []) (st := []) (RX11, TX11, 52) 11 dX11_readQuarter_24 rfl rfl (m_X11_isName l F t ht r20) ht (by decide) rfl rfl cw_RX11_223 ⟨Nat.le_of_ble_eq_true rfl, Nat.le_of_ble_eq_true rfl⟩ (fun _ => Nat.le_of_ble_eq_true rfl) (fun r21 => ?_)
    refine aw_ifb_ne (n := 30) 36 dX11_readQuarter_27 (by decide) rfl ?_ ?_
    · refine aw_aload_n (n := 37) dX11_readQuarter_36 rfl rfl ?_
      refine aw_bipush (n := 39) 9 dX11_readQuarter_37 rfl (by decide) ?_
      refine aw_iload_n (n := 40) dX11_readQuarter_39 rfl rfl ?_
      refine aw_callVi (n := 43) (as := [.int 9, .int v19]) (st := []) (RX11, TX11, 52) 11 dX11_readQuarter_40 rfl rfl (m_X11_find l F t ht 9 v19 r21.2) ht (by decide) rfl rfl cw_RX11_226 ⟨Nat.le_of_ble_eq_true rfl, Nat.le_of_ble_eq_true rfl⟩ (fun _ => Nat.le_of_ble_eq_true rfl) (fun r22 => ?_)
      refine aw_if_lt (n := 46) 52 dX11_readQuarter_43 (by decide) rfl ?_ ?_
      · refine aw_aload_n (n := 53) dX11_readQuarter_52 rfl rfl ?_
        refine aw_getR (n := 56) (RX11, TX11, 52) 11 9 dX11_readQuarter_53 rfl ht (by decide) fd_RX11_43 ?_
        refine aw_bipush (n := 58) 9 dX11_readQuarter_56 rfl (by decide) ?_
        refine aw_iload_n (n := 59) dX11_readQuarter_58 rfl rfl ?_
        refine aw_iadd (n := 60) dX11_readQuarter_59 rfl ?_
        refine aw_aload_n (n := 61) dX11_readQuarter_60 rfl rfl ?_
        refine aw_getL (n := 64) (RX11, TX11, 52) 11 17 dX11_readQuarter_61 rfl ht (by decide) fd_RX11_175 ?_
        refine aw_lastore (n := 65) 18 dX11_readQuarter_64 rfl (sf_11_9 ht) (fun μ23 => ?_)
        refine aw_aload_n (n := 66) dX11_readQuarter_65 rfl rfl ?_
        refine aw_callVv (n := 69) (as := []) (st := []) (RX11, TX11, 52) 11 dX11_readQuarter_66 rfl rfl (m_X11_next l F t ht μ23) ht (by decide) rfl rfl cw_RX11_191 ⟨Nat.le_of_ble_eq_true rfl, Nat.le_of_ble_eq_true rfl⟩ (fun _ => Nat.le_of_ble_eq_true rfl) (fun r24 => ?_)
        refine aw_aload_n (n := 70) dX11_readQuarter_69 rfl rfl ?_
        refine aw_callVz (n := 73) (as := []) (st := []) (RX11, TX11, 52) 11 dX11_readQuarter_70 rfl rfl (m_X11_looksAtCell l F t ht r24) ht (by decide) rfl rfl cw_RX11_230 ⟨Nat.le_of_ble_eq_true rfl, Nat.le_of_ble_eq_true rfl⟩ (fun _ => Nat.le_of_ble_eq_true rfl) (fun r25 => ?_)
        refine aw_ifb_ne (n := 76) 78 dX11_readQuarter_73 (by decide) rfl ?_ ?_
        · refine aw_iconst (n := 79) 0 dX11_readQuarter_78 rfl (by decide) ?_
          refine aw_istore_n (n := 80) [some (.ref t), some (.int v19), some (.int 0)] dX11_readQuarter_79 rfl rfl (Nat.le_of_ble_eq_true rfl) (Nat.le_of_ble_eq_true rfl) rfl ?_
          exact aw_weak (c_X11_readQuarter_80 l F t ht F (v19, 0, r25.2)) (aw_ss (aw_ss (aw_ss aw_s0)))
        · refine aw_iconst (n := 77) 0 dX11_readQuarter_76 rfl (by decide) ?_
          exact aw_zreturn (b := false) dX11_readQuarter_77 rfl rfl
      · refine aw_aload_n (n := 47) dX11_readQuarter_46 rfl rfl ?_
        refine aw_iconst (n := 48) 3 dX11_readQuarter_47 rfl (by decide) ?_
        refine aw_callVz (n := 51) (as := [.int 3]) (st := []) (RX11, TX11, 52) 11 dX11_readQuarter_48 rfl rfl (m_X11_bad l F t ht 3 r22.2) ht (by decide) rfl rfl cw_RX11_188 ⟨Nat.le_of_ble_eq_true rfl, Nat.le_of_ble_eq_true rfl⟩ (fun _ => Nat.le_of_ble_eq_true rfl) (fun r34 => ?_)
        exact aw_zreturn (b := r34.1) dX11_readQuarter_51 rfl rfl
    · refine aw_aload_n (n := 31) dX11_readQuarter_30 rfl rfl ?_
      refine aw_iconst (n := 32) 1 dX11_readQuarter_31 rfl (by decide) ?_
      refine aw_callVz (n := 35) (as := [.int 1]) (st := []) (RX11, TX11, 52) 11 dX11_readQuarter_32 rfl rfl (m_X11_bad l F t ht 1 r21.2) ht (by decide) rfl rfl cw_RX11_188 ⟨Nat.le_of_ble_eq_true rfl, Nat.le_of_ble_eq_true rfl⟩ (fun _ => Nat.le_of_ble_eq_true rfl) (fun r35 => ?_)
      exact aw_zreturn (b := r35.1) dX11_readQuarter_35 rfl rfl
  · refine aw_aload_n (n := 14) dX11_readQuarter_13 rfl rfl ?_
    refine aw_iconst (n := 15) 4 dX11_readQuarter_14 rfl (by decide) ?_
    refine aw_callVz (n := 18) (as := [.int 4]) (st := []) (RX11, TX11, 52) 11 dX11_readQuarter_15 rfl rfl (m_X11_bad l F t ht 4 μ) ht (by decide) rfl rfl cw_RX11_188 ⟨Nat.le_of_ble_eq_true rfl, Nat.le_of_ble_eq_true rfl⟩ (fun _ => Nat.le_of_ble_eq_true rfl) (fun r36 => ?_)
    exact aw_zreturn (b := r36.1) dX11_readQuarter_18 rfl rfl
abbrev k_X11_line : aw_K := (RX11, cX11_line, 2, (some .boolean), 6, 228)
def f_X11_line_294 (F : Nat) (t : Nat) (k294 : Int32 × aw_M → Option (Bool × aw_M)) (x1 : Int32) (μ : aw_M) : Option (Bool × aw_M) :=
  (if 4 ≤ x1 then
  some (true, μ)
  else
  (f_X11_takes F t 0 9 μ).bind fun r44 =>
  (if r44.1 = true then
  aw_g (aw_in (7 + x1) 427) (aw_let (aw_wI r44.2 (aw_rf t 7) (7 + x1).toNatClampNeg (r44.2.1 t 18)) fun μ45 =>
  k294 ((x1 + 1), μ45))
  else
  some (false, r44.2)))
theorem c_X11_line_294 (l : Launch) (F : Nat) (t : Nat) (ht : (aw_sh t).1 = 16) : ∀ (N : Nat) (s : Int32 × aw_M), AW l k_X11_line aw_gz 294 [some (.ref t), some (.int s.1)] [] s.2 (aw_loop (fun k s => f_X11_line_294 F t k s.1 s.2) N s) := by
  refine aw_loop_ok (f := fun k s => f_X11_line_294 F t k s.1 s.2) (Ls := fun s => [some (.ref t), some (.int s.1)]) (ms := fun s => s.2) ?_
  intro k294 hk294 s
  obtain ⟨x1, μ⟩ := s
  show AW l k_X11_line aw_gz 294 [some (.ref t), some (.int x1)] [] μ (f_X11_line_294 F t k294 x1 μ)
  unfold f_X11_line_294
  refine aw_iload_n (n := 295) dX11_line_294 rfl rfl ?_
  refine aw_iconst (n := 296) 4 dX11_line_295 rfl (by decide) ?_
  refine aw_icmp_ge (n := 299) 330 dX11_line_296 (by decide) rfl ?_ ?_
  · refine aw_iconst (n := 331) 1 dX11_line_330 rfl (by decide) ?_
    exact aw_zreturn (b := true) dX11_line_331 rfl rfl
  · refine aw_aload_n (n := 300) dX11_line_299 rfl rfl ?_
    refine aw_iconst (n := 301) 0 dX11_line_300 rfl (by decide) ?_
    refine aw_bipush (n := 303) 9 dX11_line_301 rfl (by decide) ?_
    refine aw_callVz (n := 306) (as := [.int 0, .int 9]) (st := []) (RX11, TX11, 52) 11 dX11_line_303 rfl rfl (m_X11_takes l F t ht 0 9 μ) ht (by decide) rfl rfl cw_RX11_209 ⟨Nat.le_of_ble_eq_true rfl, Nat.le_of_ble_eq_true rfl⟩ (fun _ => Nat.le_of_ble_eq_true rfl) (fun r44 => ?_)
    refine aw_ifb_ne (n := 309) 311 dX11_line_306 (by decide) rfl ?_ ?_
    · refine aw_aload_n (n := 312) dX11_line_311 rfl rfl ?_
      refine aw_getR (n := 315) (RX11, TX11, 52) 11 7 dX11_line_312 rfl ht (by decide) fd_RX11_37 ?_
      refine aw_bipush (n := 317) 7 dX11_line_315 rfl (by decide) ?_
      refine aw_iload_n (n := 318) dX11_line_317 rfl rfl ?_
      refine aw_iadd (n := 319) dX11_line_318 rfl ?_
      refine aw_aload_n (n := 320) dX11_line_319 rfl rfl ?_
      refine aw_getI (n := 323) (RX11, TX11, 52) 11 18 dX11_line_320 rfl ht (by decide) fd_RX11_198 ?_
      refine aw_iastore (n := 324) 427 dX11_line_323 rfl (sf_11_7 ht) (fun μ45 => ?_)
      refine aw_iinc (n := 327) (x1 + 1) [some (.ref t), some (.int (x1 + 1))] dX11_line_324 rfl rfl (by rfl) rfl (Nat.le_of_ble_eq_true rfl) rfl ?_
      refine aw_goto 294 dX11_line_327 (by decide) ?_
      exact aw_weak (hk294 ((x1 + 1), μ45)) (aw_ss (aw_ss aw_s0))
    · refine aw_iconst (n := 310) 0 dX11_line_309 rfl (by decide) ?_
      exact aw_zreturn (b := false) dX11_line_310 rfl rfl
def f_X11_line_214 (F : Nat) (t : Nat) (μ : aw_M) : Option (Bool × aw_M) :=
  (f_X11_bad F t 3 μ).bind fun r51 =>
  some (r51.1, r51.2)
theorem c_X11_line_214 (l : Launch) (F : Nat) (t : Nat) (ht : (aw_sh t).1 = 16) (μ : aw_M) : AW l k_X11_line aw_gz 214 [some (.ref t), none] [] μ (f_X11_line_214 F t μ) := by
  unfold f_X11_line_214
  refine aw_aload_n (n := 215) dX11_line_214 rfl rfl ?_
  refine aw_iconst (n := 216) 3 dX11_line_215 rfl (by decide) ?_
  refine aw_callVz (n := 219) (as := [.int 3]) (st := []) (RX11, TX11, 52) 11 dX11_line_216 rfl rfl (m_X11_bad l F t ht 3 μ) ht (by decide) rfl rfl cw_RX11_188 ⟨Nat.le_of_ble_eq_true rfl, Nat.le_of_ble_eq_true rfl⟩ (fun _ => Nat.le_of_ble_eq_true rfl) (fun r51 => ?_)
  exact aw_zreturn (b := r51.1) dX11_line_219 rfl rfl
def f_X11_line_34 (F : Nat) (t : Nat) (k34 : Int32 × aw_M → Option (Bool × aw_M)) (x1 : Int32) (μ : aw_M) : Option (Bool × aw_M) :=
  (if 2 ≤ x1 then
  some (true, μ)
  else
  (f_X11_takes F t 2 10 μ).bind fun r64 =>
  (if r64.1 = true then
  aw_g (aw_in (0 + x1) 427) (aw_let (aw_wI r64.2 (aw_rf t 7) (0 + x1).toNatClampNeg (r64.2.1 t 18)) fun μ65 =>
  k34 ((x1 + 1), μ65))
  else
  some (false, r64.2)))
theorem c_X11_line_34 (l : Launch) (F : Nat) (t : Nat) (ht : (aw_sh t).1 = 16) : ∀ (N : Nat) (s : Int32 × aw_M), AW l k_X11_line aw_gz 34 [some (.ref t), some (.int s.1)] [] s.2 (aw_loop (fun k s => f_X11_line_34 F t k s.1 s.2) N s) := by
  refine aw_loop_ok (f := fun k s => f_X11_line_34 F t k s.1 s.2) (Ls := fun s => [some (.ref t), some (.int s.1)]) (ms := fun s => s.2) ?_
  intro k34 hk34 s
  obtain ⟨x1, μ⟩ := s
  show AW l k_X11_line aw_gz 34 [some (.ref t), some (.int x1)] [] μ (f_X11_line_34 F t k34 x1 μ)
  unfold f_X11_line_34
  refine aw_iload_n (n := 35) dX11_line_34 rfl rfl ?_
  refine aw_iconst (n := 36) 2 dX11_line_35 rfl (by decide) ?_
  refine aw_icmp_ge (n := 39) 69 dX11_line_36 (by decide) rfl ?_ ?_
  · refine aw_iconst (n := 70) 1 dX11_line_69 rfl (by decide) ?_
    exact aw_zreturn (b := true) dX11_line_70 rfl rfl
  · refine aw_aload_n (n := 40) dX11_line_39 rfl rfl ?_
    refine aw_iconst (n := 41) 2 dX11_line_40 rfl (by decide) ?_
    refine aw_bipush (n := 43) 10 dX11_line_41 rfl (by decide) ?_
    refine aw_callVz (n := 46) (as := [.int 2, .int 10]) (st := []) (RX11, TX11, 52) 11 dX11_line_43 rfl rfl (m_X11_takes l F t ht 2 10 μ) ht (by decide) rfl rfl cw_RX11_209 ⟨Nat.le_of_ble_eq_true rfl, Nat.le_of_ble_eq_true rfl⟩ (fun _ => Nat.le_of_ble_eq_true rfl) (fun r64 => ?_)
    refine aw_ifb_ne (n := 49) 51 dX11_line_46 (by decide) rfl ?_ ?_
    · refine aw_aload_n (n := 52) dX11_line_51 rfl rfl ?_
      refine aw_getR (n := 55) (RX11, TX11, 52) 11 7 dX11_line_52 rfl ht (by decide) fd_RX11_37 ?_
      refine aw_iconst (n := 56) 0 dX11_line_55 rfl (by decide) ?_
      refine aw_iload_n (n := 57) dX11_line_56 rfl rfl ?_
      refine aw_iadd (n := 58) dX11_line_57 rfl ?_
      refine aw_aload_n (n := 59) dX11_line_58 rfl rfl ?_
      refine aw_getI (n := 62) (RX11, TX11, 52) 11 18 dX11_line_59 rfl ht (by decide) fd_RX11_198 ?_
      refine aw_iastore (n := 63) 427 dX11_line_62 rfl (sf_11_7 ht) (fun μ65 => ?_)
      refine aw_iinc (n := 66) (x1 + 1) [some (.ref t), some (.int (x1 + 1))] dX11_line_63 rfl rfl (by rfl) rfl (Nat.le_of_ble_eq_true rfl) rfl ?_
      refine aw_goto 34 dX11_line_66 (by decide) ?_
      exact aw_weak (hk34 ((x1 + 1), μ65)) (aw_ss (aw_ss aw_s0))
    · refine aw_iconst (n := 50) 0 dX11_line_49 rfl (by decide) ?_
      exact aw_zreturn (b := false) dX11_line_50 rfl rfl
def f_X11_line (F : Nat) (t : Nat) (μ : aw_M) : Option (Bool × aw_M) :=
  (f_X11_isWord F t 126931137819237 μ).bind fun r34 =>
  (if r34.1 = true then
  (if (r34.2.1 t 20) = 0 then
  aw_let (aw_wI r34.2 t 20 1) fun μ62 =>
  (f_X11_next F t μ62).bind fun r63 =>
  aw_loop (fun k s => f_X11_line_34 F t k s.1 s.2) F (0, r63)
  else
  (f_X11_bad F t 3 r34.2).bind fun r66 =>
  some (r66.1, r66.2))
  else
  (f_X11_isWord F t 31935733760812402 r34.2).bind fun r35 =>
  (if r35.1 = true then
  (f_X11_readQuarter F t r35.2).bind fun r61 =>
  some (r61.1, r61.2)
  else
  (f_X11_isWord F t 1667330676 r35.2).bind fun r36 =>
  (if r36.1 = true then
  (f_X11_readCart F t r36.2).bind fun r60 =>
  some (r60.1, r60.2)
  else
  (f_X11_isWord F t 6513008 r36.2).bind fun r37 =>
  (if r37.1 = true then
  (f_X11_readOn F t 127 4 r37.2).bind fun r59 =>
  some (r59.1, r59.2)
  else
  (f_X11_isWord F t 431415716206 r37.2).bind fun r38 =>
  (if r38.1 = true then
  (f_X11_readOn F t 227 5 r38.2).bind fun r58 =>
  some (r58.1, r58.2)
  else
  (f_X11_isWord F t 457236047717 r38.2).bind fun r39 =>
  (if r39.1 = true then
  (f_X11_readOn F t 327 6 r39.2).bind fun r57 =>
  some (r57.1, r57.2)
  else
  (f_X11_isWord F t 1936748404 r39.2).bind fun r40 =>
  (if r40.1 = true then
  (f_X11_next F t r40.2).bind fun r48 =>
  (f_X11_isName F t r48).bind fun r49 =>
  (if r49.1 = true then
  aw_g (aw_in 2 427) ((f_X11_find F t 9 (r49.2.1 (aw_rf t 7) (2 : Int32).toNatClampNeg) r49.2).bind fun r50 =>
  (if r50.1 < 0 then
  f_X11_line_214 F t r50.2
  else
  aw_g (aw_in (38 + r50.1) 427) ((if (r50.2.1 (aw_rf t 7) (38 + r50.1).toNatClampNeg) ≤ 0 then
  (f_X11_next F t r50.2).bind fun r52 =>
  (f_X11_looksAtCell F t r52).bind fun r53 =>
  (if r53.1 = true then
  aw_g (aw_in (38 + r50.1) 427) (aw_let (aw_wI r53.2 (aw_rf t 7) (38 + r50.1).toNatClampNeg ((r53.2.1 t 18) + 1)) fun μ54 =>
  (f_X11_next F t μ54).bind fun r55 =>
  some (true, r55))
  else
  some (false, r53.2))
  else
  f_X11_line_214 F t r50.2))))
  else
  (f_X11_bad F t 1 r49.2).bind fun r56 =>
  some (r56.1, r56.2))
  else
  (f_X11_isWord F t 7102839 r40.2).bind fun r41 =>
  (if r41.1 = true then
  (if (r41.2.1 t 21) = 0 then
  aw_let (aw_wI r41.2 t 21 1) fun μ42 =>
  (f_X11_next F t μ42).bind fun r43 =>
  aw_loop (fun k s => f_X11_line_294 F t k s.1 s.2) F (0, r43)
  else
  (f_X11_bad F t 3 r41.2).bind fun r46 =>
  some (r46.1, r46.2))
  else
  (f_X11_bad F t 1 r41.2).bind fun r47 =>
  some (r47.1, r47.2)))))))))
theorem m_X11_line (l : Launch) (F : Nat) (t : Nat) (ht : (aw_sh t).1 = 16) (μ : aw_M) : AM l yX11_line cX11_line 2 (some .boolean) 6 228 aw_gz [.ref t] μ (f_X11_line F t μ) := by
  refine aw_met [some (.ref t), none] (by decide) (fun _ => rfl) (fun _ => Nat.le_of_ble_eq_true rfl) ?_
  show AW l k_X11_line aw_gz 0 [some (.ref t), none] [] μ _
  unfold f_X11_line
  refine aw_aload_n (n := 1) dX11_line_0 rfl rfl ?_
  refine aw_ldc2 (n := 4) dX11_line_1 rfl tb_1462 ?_
  refine aw_callVz (n := 7) (as := [.long 126931137819237]) (st := []) (RX11, TX11, 52) 11 dX11_line_4 rfl rfl (m_X11_isWord l F t ht 126931137819237 μ) ht (by decide) rfl rfl cw_RX11_201 ⟨Nat.le_of_ble_eq_true rfl, Nat.le_of_ble_eq_true rfl⟩ (fun _ => Nat.le_of_ble_eq_true rfl) (fun r34 => ?_)
  refine aw_ifb_eq (n := 10) 71 dX11_line_7 (by decide) rfl ?_ ?_
  · refine aw_aload_n (n := 72) dX11_line_71 rfl rfl ?_
    refine aw_ldc2 (n := 75) dX11_line_72 rfl tb_1463 ?_
    refine aw_callVz (n := 78) (as := [.long 31935733760812402]) (st := []) (RX11, TX11, 52) 11 dX11_line_75 rfl rfl (m_X11_isWord l F t ht 31935733760812402 r34.2) ht (by decide) rfl rfl cw_RX11_201 ⟨Nat.le_of_ble_eq_true rfl, Nat.le_of_ble_eq_true rfl⟩ (fun _ => Nat.le_of_ble_eq_true rfl) (fun r35 => ?_)
    refine aw_ifb_eq (n := 81) 86 dX11_line_78 (by decide) rfl ?_ ?_
    · refine aw_aload_n (n := 87) dX11_line_86 rfl rfl ?_
      refine aw_ldc2 (n := 90) dX11_line_87 rfl tb_1464 ?_
      refine aw_callVz (n := 93) (as := [.long 1667330676]) (st := []) (RX11, TX11, 52) 11 dX11_line_90 rfl rfl (m_X11_isWord l F t ht 1667330676 r35.2) ht (by decide) rfl rfl cw_RX11_201 ⟨Nat.le_of_ble_eq_true rfl, Nat.le_of_ble_eq_true rfl⟩ (fun _ => Nat.le_of_ble_eq_true rfl) (fun r36 => ?_)
      refine aw_ifb_eq (n := 96) 101 dX11_line_93 (by decide) rfl ?_ ?_
      · refine aw_aload_n (n := 102) dX11_line_101 rfl rfl ?_
        refine aw_ldc2 (n := 105) dX11_line_102 rfl tb_1465 ?_
        refine aw_callVz (n := 108) (as := [.long 6513008]) (st := []) (RX11, TX11, 52) 11 dX11_line_105 rfl rfl (m_X11_isWord l F t ht 6513008 r36.2) ht (by decide) rfl rfl cw_RX11_201 ⟨Nat.le_of_ble_eq_true rfl, Nat.le_of_ble_eq_true rfl⟩ (fun _ => Nat.le_of_ble_eq_true rfl) (fun r37 => ?_)
        refine aw_ifb_eq (n := 111) 119 dX11_line_108 (by decide) rfl ?_ ?_
        · refine aw_aload_n (n := 120) dX11_line_119 rfl rfl ?_
          refine aw_ldc2 (n := 123) dX11_line_120 rfl tb_1466 ?_
          refine aw_callVz (n := 126) (as := [.long 431415716206]) (st := []) (RX11, TX11, 52) 11 dX11_line_123 rfl rfl (m_X11_isWord l F t ht 431415716206 r37.2) ht (by decide) rfl rfl cw_RX11_201 ⟨Nat.le_of_ble_eq_true rfl, Nat.le_of_ble_eq_true rfl⟩ (fun _ => Nat.le_of_ble_eq_true rfl) (fun r38 => ?_)
          refine aw_ifb_eq (n := 129) 138 dX11_line_126 (by decide) rfl ?_ ?_
          · refine aw_aload_n (n := 139) dX11_line_138 rfl rfl ?_
            refine aw_ldc2 (n := 142) dX11_line_139 rfl tb_1467 ?_
            refine aw_callVz (n := 145) (as := [.long 457236047717]) (st := []) (RX11, TX11, 52) 11 dX11_line_142 rfl rfl (m_X11_isWord l F t ht 457236047717 r38.2) ht (by decide) rfl rfl cw_RX11_201 ⟨Nat.le_of_ble_eq_true rfl, Nat.le_of_ble_eq_true rfl⟩ (fun _ => Nat.le_of_ble_eq_true rfl) (fun r39 => ?_)
            refine aw_ifb_eq (n := 148) 158 dX11_line_145 (by decide) rfl ?_ ?_
            · refine aw_aload_n (n := 159) dX11_line_158 rfl rfl ?_
              refine aw_ldc2 (n := 162) dX11_line_159 rfl tb_1468 ?_
              refine aw_callVz (n := 165) (as := [.long 1936748404]) (st := []) (RX11, TX11, 52) 11 dX11_line_162 rfl rfl (m_X11_isWord l F t ht 1936748404 r39.2) ht (by decide) rfl rfl cw_RX11_201 ⟨Nat.le_of_ble_eq_true rfl, Nat.le_of_ble_eq_true rfl⟩ (fun _ => Nat.le_of_ble_eq_true rfl) (fun r40 => ?_)
              refine aw_ifb_eq (n := 168) 254 dX11_line_165 (by decide) rfl ?_ ?_
              · refine aw_aload_n (n := 255) dX11_line_254 rfl rfl ?_
                refine aw_ldc2 (n := 258) dX11_line_255 rfl tb_1469 ?_
                refine aw_callVz (n := 261) (as := [.long 7102839]) (st := []) (RX11, TX11, 52) 11 dX11_line_258 rfl rfl (m_X11_isWord l F t ht 7102839 r40.2) ht (by decide) rfl rfl cw_RX11_201 ⟨Nat.le_of_ble_eq_true rfl, Nat.le_of_ble_eq_true rfl⟩ (fun _ => Nat.le_of_ble_eq_true rfl) (fun r41 => ?_)
                refine aw_ifb_ne (n := 264) 270 dX11_line_261 (by decide) rfl ?_ ?_
                · refine aw_aload_n (n := 271) dX11_line_270 rfl rfl ?_
                  refine aw_getI (n := 274) (RX11, TX11, 52) 11 21 dX11_line_271 rfl ht (by decide) fd_RX11_233 ?_
                  refine aw_if_eq (n := 277) 283 dX11_line_274 (by decide) rfl ?_ ?_
                  · refine aw_aload_n (n := 284) dX11_line_283 rfl rfl ?_
                    refine aw_iconst (n := 285) 1 dX11_line_284 rfl (by decide) ?_
                    refine aw_putZ (n := 288) (RX11, TX11, 52) 11 21 dX11_line_285 rfl ht (by decide) fp_RX11_233 (Or.inr rfl) (fun μ42 => ?_)
                    refine aw_aload_n (n := 289) dX11_line_288 rfl rfl ?_
                    refine aw_callVv (n := 292) (as := []) (st := []) (RX11, TX11, 52) 11 dX11_line_289 rfl rfl (m_X11_next l F t ht μ42) ht (by decide) rfl rfl cw_RX11_191 ⟨Nat.le_of_ble_eq_true rfl, Nat.le_of_ble_eq_true rfl⟩ (fun _ => Nat.le_of_ble_eq_true rfl) (fun r43 => ?_)
                    refine aw_iconst (n := 293) 0 dX11_line_292 rfl (by decide) ?_
                    refine aw_istore_n (n := 294) [some (.ref t), some (.int 0)] dX11_line_293 rfl rfl (Nat.le_of_ble_eq_true rfl) (Nat.le_of_ble_eq_true rfl) rfl ?_
                    exact aw_weak (c_X11_line_294 l F t ht F (0, r43)) (aw_ss (aw_ss aw_s0))
                  · refine aw_aload_n (n := 278) dX11_line_277 rfl rfl ?_
                    refine aw_iconst (n := 279) 3 dX11_line_278 rfl (by decide) ?_
                    refine aw_callVz (n := 282) (as := [.int 3]) (st := []) (RX11, TX11, 52) 11 dX11_line_279 rfl rfl (m_X11_bad l F t ht 3 r41.2) ht (by decide) rfl rfl cw_RX11_188 ⟨Nat.le_of_ble_eq_true rfl, Nat.le_of_ble_eq_true rfl⟩ (fun _ => Nat.le_of_ble_eq_true rfl) (fun r46 => ?_)
                    exact aw_zreturn (b := r46.1) dX11_line_282 rfl rfl
                · refine aw_aload_n (n := 265) dX11_line_264 rfl rfl ?_
                  refine aw_iconst (n := 266) 1 dX11_line_265 rfl (by decide) ?_
                  refine aw_callVz (n := 269) (as := [.int 1]) (st := []) (RX11, TX11, 52) 11 dX11_line_266 rfl rfl (m_X11_bad l F t ht 1 r41.2) ht (by decide) rfl rfl cw_RX11_188 ⟨Nat.le_of_ble_eq_true rfl, Nat.le_of_ble_eq_true rfl⟩ (fun _ => Nat.le_of_ble_eq_true rfl) (fun r47 => ?_)
                  exact aw_zreturn (b := r47.1) dX11_line_269 rfl rfl
              · refine aw_aload_n (n := 169) dX11_line_168 rfl rfl ?_
                refine aw_callVv (n := 172) (as := []) (st := []) (RX11, TX11, 52) 11 dX11_line_169 rfl rfl (m_X11_next l F t ht r40.2) ht (by decide) rfl rfl cw_RX11_191 ⟨Nat.le_of_ble_eq_true rfl, Nat.le_of_ble_eq_true rfl⟩ (fun _ => Nat.le_of_ble_eq_true rfl) (fun r48 => ?_)
                refine aw_aload_n (n := 173) dX11_line_172 rfl rfl ?_
                refine aw_callVz (n := 176) (as := []) (st := []) (RX11, TX11, 52) 11 dX11_line_173 rfl rfl (m_X11_isName l F t ht r48) ht (by decide) rfl rfl cw_RX11_223 ⟨Nat.le_of_ble_eq_true rfl, Nat.le_of_ble_eq_true rfl⟩ (fun _ => Nat.le_of_ble_eq_true rfl) (fun r49 => ?_)
                refine aw_ifb_ne (n := 179) 185 dX11_line_176 (by decide) rfl ?_ ?_
                · refine aw_aload_n (n := 186) dX11_line_185 rfl rfl ?_
                  refine aw_bipush (n := 188) 9 dX11_line_186 rfl (by decide) ?_
                  refine aw_aload_n (n := 189) dX11_line_188 rfl rfl ?_
                  refine aw_getR (n := 192) (RX11, TX11, 52) 11 7 dX11_line_189 rfl ht (by decide) fd_RX11_37 ?_
                  refine aw_iconst (n := 193) 2 dX11_line_192 rfl (by decide) ?_
                  refine aw_iaload (n := 194) 427 dX11_line_193 rfl (sf_11_7 ht) ?_
                  refine aw_callVi (n := 197) (as := [.int 9, .int (r49.2.1 (aw_rf t 7) (2 : Int32).toNatClampNeg)]) (st := []) (RX11, TX11, 52) 11 dX11_line_194 rfl rfl (m_X11_find l F t ht 9 (r49.2.1 (aw_rf t 7) (2 : Int32).toNatClampNeg) r49.2) ht (by decide) rfl rfl cw_RX11_226 ⟨Nat.le_of_ble_eq_true rfl, Nat.le_of_ble_eq_true rfl⟩ (fun _ => Nat.le_of_ble_eq_true rfl) (fun r50 => ?_)
                  refine aw_istore_n (n := 198) [some (.ref t), some (.int r50.1)] dX11_line_197 rfl rfl (Nat.le_of_ble_eq_true rfl) (Nat.le_of_ble_eq_true rfl) rfl ?_
                  refine aw_iload_n (n := 199) dX11_line_198 rfl rfl ?_
                  refine aw_if_lt (n := 202) 214 dX11_line_199 (by decide) rfl ?_ ?_
                  · exact aw_weak (c_X11_line_214 l F t ht r50.2) (aw_ss (aw_sn aw_s0))
                  · refine aw_aload_n (n := 203) dX11_line_202 rfl rfl ?_
                    refine aw_getR (n := 206) (RX11, TX11, 52) 11 7 dX11_line_203 rfl ht (by decide) fd_RX11_37 ?_
                    refine aw_bipush (n := 208) 38 dX11_line_206 rfl (by decide) ?_
                    refine aw_iload_n (n := 209) dX11_line_208 rfl rfl ?_
                    refine aw_iadd (n := 210) dX11_line_209 rfl ?_
                    refine aw_iaload (n := 211) 427 dX11_line_210 rfl (sf_11_7 ht) ?_
                    refine aw_if_le (n := 214) 220 dX11_line_211 (by decide) rfl ?_ ?_
                    · refine aw_aload_n (n := 221) dX11_line_220 rfl rfl ?_
                      refine aw_callVv (n := 224) (as := []) (st := []) (RX11, TX11, 52) 11 dX11_line_221 rfl rfl (m_X11_next l F t ht r50.2) ht (by decide) rfl rfl cw_RX11_191 ⟨Nat.le_of_ble_eq_true rfl, Nat.le_of_ble_eq_true rfl⟩ (fun _ => Nat.le_of_ble_eq_true rfl) (fun r52 => ?_)
                      refine aw_aload_n (n := 225) dX11_line_224 rfl rfl ?_
                      refine aw_callVz (n := 228) (as := []) (st := []) (RX11, TX11, 52) 11 dX11_line_225 rfl rfl (m_X11_looksAtCell l F t ht r52) ht (by decide) rfl rfl cw_RX11_230 ⟨Nat.le_of_ble_eq_true rfl, Nat.le_of_ble_eq_true rfl⟩ (fun _ => Nat.le_of_ble_eq_true rfl) (fun r53 => ?_)
                      refine aw_ifb_ne (n := 231) 233 dX11_line_228 (by decide) rfl ?_ ?_
                      · refine aw_aload_n (n := 234) dX11_line_233 rfl rfl ?_
                        refine aw_getR (n := 237) (RX11, TX11, 52) 11 7 dX11_line_234 rfl ht (by decide) fd_RX11_37 ?_
                        refine aw_bipush (n := 239) 38 dX11_line_237 rfl (by decide) ?_
                        refine aw_iload_n (n := 240) dX11_line_239 rfl rfl ?_
                        refine aw_iadd (n := 241) dX11_line_240 rfl ?_
                        refine aw_aload_n (n := 242) dX11_line_241 rfl rfl ?_
                        refine aw_getI (n := 245) (RX11, TX11, 52) 11 18 dX11_line_242 rfl ht (by decide) fd_RX11_198 ?_
                        refine aw_iconst (n := 246) 1 dX11_line_245 rfl (by decide) ?_
                        refine aw_iadd (n := 247) dX11_line_246 rfl ?_
                        refine aw_iastore (n := 248) 427 dX11_line_247 rfl (sf_11_7 ht) (fun μ54 => ?_)
                        refine aw_aload_n (n := 249) dX11_line_248 rfl rfl ?_
                        refine aw_callVv (n := 252) (as := []) (st := []) (RX11, TX11, 52) 11 dX11_line_249 rfl rfl (m_X11_next l F t ht μ54) ht (by decide) rfl rfl cw_RX11_191 ⟨Nat.le_of_ble_eq_true rfl, Nat.le_of_ble_eq_true rfl⟩ (fun _ => Nat.le_of_ble_eq_true rfl) (fun r55 => ?_)
                        refine aw_iconst (n := 253) 1 dX11_line_252 rfl (by decide) ?_
                        exact aw_zreturn (b := true) dX11_line_253 rfl rfl
                      · refine aw_iconst (n := 232) 0 dX11_line_231 rfl (by decide) ?_
                        exact aw_zreturn (b := false) dX11_line_232 rfl rfl
                    · exact aw_weak (c_X11_line_214 l F t ht r50.2) (aw_ss (aw_sn aw_s0))
                · refine aw_aload_n (n := 180) dX11_line_179 rfl rfl ?_
                  refine aw_iconst (n := 181) 1 dX11_line_180 rfl (by decide) ?_
                  refine aw_callVz (n := 184) (as := [.int 1]) (st := []) (RX11, TX11, 52) 11 dX11_line_181 rfl rfl (m_X11_bad l F t ht 1 r49.2) ht (by decide) rfl rfl cw_RX11_188 ⟨Nat.le_of_ble_eq_true rfl, Nat.le_of_ble_eq_true rfl⟩ (fun _ => Nat.le_of_ble_eq_true rfl) (fun r56 => ?_)
                  exact aw_zreturn (b := r56.1) dX11_line_184 rfl rfl
            · refine aw_aload_n (n := 149) dX11_line_148 rfl rfl ?_
              refine aw_sipush (n := 152) 327 dX11_line_149 rfl (by decide) ?_
              refine aw_bipush (n := 154) 6 dX11_line_152 rfl (by decide) ?_
              refine aw_callVz (n := 157) (as := [.int 327, .int 6]) (st := []) (RX11, TX11, 52) 11 dX11_line_154 rfl rfl (m_X11_readOn l F t ht 327 6 r39.2) ht (by decide) rfl rfl cw_RX11_220 ⟨Nat.le_of_ble_eq_true rfl, Nat.le_of_ble_eq_true rfl⟩ (fun _ => Nat.le_of_ble_eq_true rfl) (fun r57 => ?_)
              exact aw_zreturn (b := r57.1) dX11_line_157 rfl rfl
          · refine aw_aload_n (n := 130) dX11_line_129 rfl rfl ?_
            refine aw_sipush (n := 133) 227 dX11_line_130 rfl (by decide) ?_
            refine aw_iconst (n := 134) 5 dX11_line_133 rfl (by decide) ?_
            refine aw_callVz (n := 137) (as := [.int 227, .int 5]) (st := []) (RX11, TX11, 52) 11 dX11_line_134 rfl rfl (m_X11_readOn l F t ht 227 5 r38.2) ht (by decide) rfl rfl cw_RX11_220 ⟨Nat.le_of_ble_eq_true rfl, Nat.le_of_ble_eq_true rfl⟩ (fun _ => Nat.le_of_ble_eq_true rfl) (fun r58 => ?_)
            exact aw_zreturn (b := r58.1) dX11_line_137 rfl rfl
        · refine aw_aload_n (n := 112) dX11_line_111 rfl rfl ?_
          refine aw_bipush (n := 114) 127 dX11_line_112 rfl (by decide) ?_
          refine aw_iconst (n := 115) 4 dX11_line_114 rfl (by decide) ?_
          refine aw_callVz (n := 118) (as := [.int 127, .int 4]) (st := []) (RX11, TX11, 52) 11 dX11_line_115 rfl rfl (m_X11_readOn l F t ht 127 4 r37.2) ht (by decide) rfl rfl cw_RX11_220 ⟨Nat.le_of_ble_eq_true rfl, Nat.le_of_ble_eq_true rfl⟩ (fun _ => Nat.le_of_ble_eq_true rfl) (fun r59 => ?_)
          exact aw_zreturn (b := r59.1) dX11_line_118 rfl rfl
      · refine aw_aload_n (n := 97) dX11_line_96 rfl rfl ?_
        refine aw_callVz (n := 100) (as := []) (st := []) (RX11, TX11, 52) 11 dX11_line_97 rfl rfl (m_X11_readCart l F t ht r36.2) ht (by decide) rfl rfl cw_RX11_217 ⟨Nat.le_of_ble_eq_true rfl, Nat.le_of_ble_eq_true rfl⟩ (fun _ => Nat.le_of_ble_eq_true rfl) (fun r60 => ?_)
        exact aw_zreturn (b := r60.1) dX11_line_100 rfl rfl
    · refine aw_aload_n (n := 82) dX11_line_81 rfl rfl ?_
      refine aw_callVz (n := 85) (as := []) (st := []) (RX11, TX11, 52) 11 dX11_line_82 rfl rfl (m_X11_readQuarter l F t ht r35.2) ht (by decide) rfl rfl cw_RX11_213 ⟨Nat.le_of_ble_eq_true rfl, Nat.le_of_ble_eq_true rfl⟩ (fun _ => Nat.le_of_ble_eq_true rfl) (fun r61 => ?_)
      exact aw_zreturn (b := r61.1) dX11_line_85 rfl rfl
  · refine aw_aload_n (n := 11) dX11_line_10 rfl rfl ?_
    refine aw_getI (n := 14) (RX11, TX11, 52) 11 20 dX11_line_11 rfl ht (by decide) fd_RX11_205 ?_
    refine aw_if_eq (n := 17) 23 dX11_line_14 (by decide) rfl ?_ ?_
    · refine aw_aload_n (n := 24) dX11_line_23 rfl rfl ?_
      refine aw_iconst (n := 25) 1 dX11_line_24 rfl (by decide) ?_
      refine aw_putZ (n := 28) (RX11, TX11, 52) 11 20 dX11_line_25 rfl ht (by decide) fp_RX11_205 (Or.inr rfl) (fun μ62 => ?_)
      refine aw_aload_n (n := 29) dX11_line_28 rfl rfl ?_
      refine aw_callVv (n := 32) (as := []) (st := []) (RX11, TX11, 52) 11 dX11_line_29 rfl rfl (m_X11_next l F t ht μ62) ht (by decide) rfl rfl cw_RX11_191 ⟨Nat.le_of_ble_eq_true rfl, Nat.le_of_ble_eq_true rfl⟩ (fun _ => Nat.le_of_ble_eq_true rfl) (fun r63 => ?_)
      refine aw_iconst (n := 33) 0 dX11_line_32 rfl (by decide) ?_
      refine aw_istore_n (n := 34) [some (.ref t), some (.int 0)] dX11_line_33 rfl rfl (Nat.le_of_ble_eq_true rfl) (Nat.le_of_ble_eq_true rfl) rfl ?_
      exact aw_weak (c_X11_line_34 l F t ht F (0, r63)) (aw_ss (aw_ss aw_s0))
    · refine aw_aload_n (n := 18) dX11_line_17 rfl rfl ?_
      refine aw_iconst (n := 19) 3 dX11_line_18 rfl (by decide) ?_
      refine aw_callVz (n := 22) (as := [.int 3]) (st := []) (RX11, TX11, 52) 11 dX11_line_19 rfl rfl (m_X11_bad l F t ht 3 r34.2) ht (by decide) rfl rfl cw_RX11_188 ⟨Nat.le_of_ble_eq_true rfl, Nat.le_of_ble_eq_true rfl⟩ (fun _ => Nat.le_of_ble_eq_true rfl) (fun r66 => ?_)
      exact aw_zreturn (b := r66.1) dX11_line_22 rfl rfl
abbrev k_X11_newDay : aw_K := (RX11, cX11_newDay, 2, none, 1, 120)
def f_X11_newDay_35 (F : Nat) (t : Nat) (k35 : Int32 × aw_M → Option (aw_M)) (x1 : Int32) (μ : aw_M) : Option (aw_M) :=
  (if 180 ≤ x1 then
  some μ
  else
  aw_g (aw_in (494 + x1) 1155) (aw_let (aw_wI μ (aw_rf t 6) (494 + x1).toNatClampNeg 0) fun μ3 =>
  k35 ((x1 + 1), μ3)))
theorem c_X11_newDay_35 (l : Launch) (F : Nat) (t : Nat) (ht : (aw_sh t).1 = 16) : ∀ (N : Nat) (s : Int32 × aw_M), AW l k_X11_newDay aw_gv 35 [some (.ref t), some (.int s.1)] [] s.2 (aw_loop (fun k s => f_X11_newDay_35 F t k s.1 s.2) N s) := by
  refine aw_loop_ok (f := fun k s => f_X11_newDay_35 F t k s.1 s.2) (Ls := fun s => [some (.ref t), some (.int s.1)]) (ms := fun s => s.2) ?_
  intro k35 hk35 s
  obtain ⟨x1, μ⟩ := s
  show AW l k_X11_newDay aw_gv 35 [some (.ref t), some (.int x1)] [] μ (f_X11_newDay_35 F t k35 x1 μ)
  unfold f_X11_newDay_35
  refine aw_iload_n (n := 36) dX11_newDay_35 rfl rfl ?_
  refine aw_sipush (n := 39) 180 dX11_newDay_36 rfl (by decide) ?_
  refine aw_icmp_ge (n := 42) 59 dX11_newDay_39 (by decide) rfl ?_ ?_
  · exact aw_vreturn dX11_newDay_59 rfl rfl
  · refine aw_aload_n (n := 43) dX11_newDay_42 rfl rfl ?_
    refine aw_getR (n := 46) (RX11, TX11, 52) 11 6 dX11_newDay_43 rfl ht (by decide) fd_RX11_33 ?_
    refine aw_sipush (n := 49) 494 dX11_newDay_46 rfl (by decide) ?_
    refine aw_iload_n (n := 50) dX11_newDay_49 rfl rfl ?_
    refine aw_iadd (n := 51) dX11_newDay_50 rfl ?_
    refine aw_iconst (n := 52) 0 dX11_newDay_51 rfl (by decide) ?_
    refine aw_iastore (n := 53) 1155 dX11_newDay_52 rfl (sf_11_6 ht) (fun μ3 => ?_)
    refine aw_iinc (n := 56) (x1 + 1) [some (.ref t), some (.int (x1 + 1))] dX11_newDay_53 rfl rfl (by rfl) rfl (Nat.le_of_ble_eq_true rfl) rfl ?_
    refine aw_goto 35 dX11_newDay_56 (by decide) ?_
    exact aw_weak (hk35 ((x1 + 1), μ3)) (aw_ss (aw_ss aw_s0))
def f_X11_newDay_33 (F : Nat) (t : Nat) (μ : aw_M) : Option (aw_M) :=
  aw_loop (fun k s => f_X11_newDay_35 F t k s.1 s.2) F (0, μ)
theorem c_X11_newDay_33 (l : Launch) (F : Nat) (t : Nat) (ht : (aw_sh t).1 = 16) (μ : aw_M) : AW l k_X11_newDay aw_gv 33 [some (.ref t), none] [] μ (f_X11_newDay_33 F t μ) := by
  unfold f_X11_newDay_33
  refine aw_iconst (n := 34) 0 dX11_newDay_33 rfl (by decide) ?_
  refine aw_istore_n (n := 35) [some (.ref t), some (.int 0)] dX11_newDay_34 rfl rfl (Nat.le_of_ble_eq_true rfl) (Nat.le_of_ble_eq_true rfl) rfl ?_
  exact aw_weak (c_X11_newDay_35 l F t ht F (0, μ)) (aw_ss (aw_ss aw_s0))
def f_X11_newDay_2 (F : Nat) (t : Nat) (k2 : Int32 × aw_M → Option (aw_M)) (x1 : Int32) (μ : aw_M) : Option (aw_M) :=
  (if 20 ≤ x1 then
  f_X11_newDay_33 F t μ
  else
  aw_g (aw_in (87 + x1) 1155) (aw_g (aw_in (674 + x1) 1155) (aw_let (aw_wI μ (aw_rf t 6) (674 + x1).toNatClampNeg (μ.1 (aw_rf t 6) (87 + x1).toNatClampNeg)) fun μ4 =>
  k2 ((x1 + 1), μ4))))
theorem c_X11_newDay_2 (l : Launch) (F : Nat) (t : Nat) (ht : (aw_sh t).1 = 16) : ∀ (N : Nat) (s : Int32 × aw_M), AW l k_X11_newDay aw_gv 2 [some (.ref t), some (.int s.1)] [] s.2 (aw_loop (fun k s => f_X11_newDay_2 F t k s.1 s.2) N s) := by
  refine aw_loop_ok (f := fun k s => f_X11_newDay_2 F t k s.1 s.2) (Ls := fun s => [some (.ref t), some (.int s.1)]) (ms := fun s => s.2) ?_
  intro k2 hk2 s
  obtain ⟨x1, μ⟩ := s
  show AW l k_X11_newDay aw_gv 2 [some (.ref t), some (.int x1)] [] μ (f_X11_newDay_2 F t k2 x1 μ)
  unfold f_X11_newDay_2
  refine aw_iload_n (n := 3) dX11_newDay_2 rfl rfl ?_
  refine aw_bipush (n := 5) 20 dX11_newDay_3 rfl (by decide) ?_
  refine aw_icmp_ge (n := 8) 33 dX11_newDay_5 (by decide) rfl ?_ ?_
  · exact aw_weak (c_X11_newDay_33 l F t ht μ) (aw_ss (aw_sn aw_s0))
  · refine aw_aload_n (n := 9) dX11_newDay_8 rfl rfl ?_
    refine aw_getR (n := 12) (RX11, TX11, 52) 11 6 dX11_newDay_9 rfl ht (by decide) fd_RX11_33 ?_
    refine aw_sipush (n := 15) 674 dX11_newDay_12 rfl (by decide) ?_
    refine aw_iload_n (n := 16) dX11_newDay_15 rfl rfl ?_
    refine aw_iadd (n := 17) dX11_newDay_16 rfl ?_
    refine aw_aload_n (n := 18) dX11_newDay_17 rfl rfl ?_
    refine aw_getR (n := 21) (RX11, TX11, 52) 11 6 dX11_newDay_18 rfl ht (by decide) fd_RX11_33 ?_
    refine aw_bipush (n := 23) 87 dX11_newDay_21 rfl (by decide) ?_
    refine aw_iload_n (n := 24) dX11_newDay_23 rfl rfl ?_
    refine aw_iadd (n := 25) dX11_newDay_24 rfl ?_
    refine aw_iaload (n := 26) 1155 dX11_newDay_25 rfl (sf_11_6 ht) ?_
    refine aw_iastore (n := 27) 1155 dX11_newDay_26 rfl (sf_11_6 ht) (fun μ4 => ?_)
    refine aw_iinc (n := 30) (x1 + 1) [some (.ref t), some (.int (x1 + 1))] dX11_newDay_27 rfl rfl (by rfl) rfl (Nat.le_of_ble_eq_true rfl) rfl ?_
    refine aw_goto 2 dX11_newDay_30 (by decide) ?_
    exact aw_weak (hk2 ((x1 + 1), μ4)) (aw_ss (aw_ss aw_s0))
def f_X11_newDay (F : Nat) (t : Nat) (μ : aw_M) : Option (aw_M) :=
  aw_loop (fun k s => f_X11_newDay_2 F t k s.1 s.2) F (0, μ)
theorem m_X11_newDay (l : Launch) (F : Nat) (t : Nat) (ht : (aw_sh t).1 = 16) (μ : aw_M) : AM l yX11_newDay cX11_newDay 2 none 1 120 aw_gv [.ref t] μ (f_X11_newDay F t μ) := by
  refine aw_met [some (.ref t), none] (by decide) (fun _ => rfl) (fun _ => Nat.le_of_ble_eq_true rfl) ?_
  show AW l k_X11_newDay aw_gv 0 [some (.ref t), none] [] μ _
  unfold f_X11_newDay
  refine aw_iconst (n := 1) 0 dX11_newDay_0 rfl (by decide) ?_
  refine aw_istore_n (n := 2) [some (.ref t), some (.int 0)] dX11_newDay_1 rfl rfl (Nat.le_of_ble_eq_true rfl) (Nat.le_of_ble_eq_true rfl) rfl ?_
  exact aw_weak (c_X11_newDay_2 l F t ht F (0, μ)) (aw_ss (aw_ss aw_s0))
abbrev k_X11_begins : aw_K := (RX11, cX11_begins, 3, none, 2, 142)
def f_X11_begins_83 (F : Nat) (t : Nat) (μ : aw_M) : Option (aw_M) :=
  (f_X11_newDay F t μ).bind fun r7 =>
  some r7
theorem c_X11_begins_83 (l : Launch) (F : Nat) (t : Nat) (ht : (aw_sh t).1 = 16) (μ : aw_M) : AW l k_X11_begins aw_gv 83 [some (.ref t), none, none] [] μ (f_X11_begins_83 F t μ) := by
  unfold f_X11_begins_83
  refine aw_aload_n (n := 84) dX11_begins_83 rfl rfl ?_
  refine aw_callVv (n := 87) (as := []) (st := []) (RX11, TX11, 52) 11 dX11_begins_84 rfl rfl (m_X11_newDay l F t ht μ) ht (by decide) rfl rfl cw_RX11_275 ⟨Nat.le_of_ble_eq_true rfl, Nat.le_of_ble_eq_true rfl⟩ (fun _ => Nat.le_of_ble_eq_true rfl) (fun r7 => ?_)
  exact aw_vreturn dX11_begins_87 rfl rfl
def f_X11_begins_48 (F : Nat) (t : Nat) (k48 : Int32 × aw_M → Option (aw_M)) (x2 : Int32) (μ : aw_M) : Option (aw_M) :=
  aw_g (aw_in 2 1155) ((if (μ.1 (aw_rf t 6) (2 : Int32).toNatClampNeg) ≤ x2 then
  f_X11_begins_83 F t μ
  else
  aw_g (aw_in (20 + x2) 1155) (aw_g (aw_in (458 + x2) 1155) (aw_let (aw_wI μ (aw_rf t 6) (458 + x2).toNatClampNeg (μ.1 (aw_rf t 6) (20 + x2).toNatClampNeg)) fun μ8 =>
  k48 ((x2 + 1), μ8)))))
theorem c_X11_begins_48 (l : Launch) (F : Nat) (t : Nat) (ht : (aw_sh t).1 = 16) : ∀ (N : Nat) (s : Int32 × aw_M), AW l k_X11_begins aw_gv 48 [some (.ref t), none, some (.int s.1)] [] s.2 (aw_loop (fun k s => f_X11_begins_48 F t k s.1 s.2) N s) := by
  refine aw_loop_ok (f := fun k s => f_X11_begins_48 F t k s.1 s.2) (Ls := fun s => [some (.ref t), none, some (.int s.1)]) (ms := fun s => s.2) ?_
  intro k48 hk48 s
  obtain ⟨x2, μ⟩ := s
  show AW l k_X11_begins aw_gv 48 [some (.ref t), none, some (.int x2)] [] μ (f_X11_begins_48 F t k48 x2 μ)
  unfold f_X11_begins_48
  refine aw_iload_n (n := 49) dX11_begins_48 rfl rfl ?_
  refine aw_aload_n (n := 50) dX11_begins_49 rfl rfl ?_
  refine aw_getR (n := 53) (RX11, TX11, 52) 11 6 dX11_begins_50 rfl ht (by decide) fd_RX11_33 ?_
  refine aw_iconst (n := 54) 2 dX11_begins_53 rfl (by decide) ?_
  refine aw_iaload (n := 55) 1155 dX11_begins_54 rfl (sf_11_6 ht) ?_
  refine aw_icmp_ge (n := 58) 83 dX11_begins_55 (by decide) rfl ?_ ?_
  · exact aw_weak (c_X11_begins_83 l F t ht μ) (aw_ss (aw_sn (aw_sn aw_s0)))
  · refine aw_aload_n (n := 59) dX11_begins_58 rfl rfl ?_
    refine aw_getR (n := 62) (RX11, TX11, 52) 11 6 dX11_begins_59 rfl ht (by decide) fd_RX11_33 ?_
    refine aw_sipush (n := 65) 458 dX11_begins_62 rfl (by decide) ?_
    refine aw_iload_n (n := 66) dX11_begins_65 rfl rfl ?_
    refine aw_iadd (n := 67) dX11_begins_66 rfl ?_
    refine aw_aload_n (n := 68) dX11_begins_67 rfl rfl ?_
    refine aw_getR (n := 71) (RX11, TX11, 52) 11 6 dX11_begins_68 rfl ht (by decide) fd_RX11_33 ?_
    refine aw_bipush (n := 73) 20 dX11_begins_71 rfl (by decide) ?_
    refine aw_iload_n (n := 74) dX11_begins_73 rfl rfl ?_
    refine aw_iadd (n := 75) dX11_begins_74 rfl ?_
    refine aw_iaload (n := 76) 1155 dX11_begins_75 rfl (sf_11_6 ht) ?_
    refine aw_iastore (n := 77) 1155 dX11_begins_76 rfl (sf_11_6 ht) (fun μ8 => ?_)
    refine aw_iinc (n := 80) (x2 + 1) [some (.ref t), none, some (.int (x2 + 1))] dX11_begins_77 rfl rfl (by rfl) rfl (Nat.le_of_ble_eq_true rfl) rfl ?_
    refine aw_goto 48 dX11_begins_80 (by decide) ?_
    exact aw_weak (hk48 ((x2 + 1), μ8)) (aw_ss (aw_sn (aw_ss aw_s0)))
def f_X11_begins_37 (F : Nat) (t : Nat) (x1 : Int32) (μ : aw_M) : Option (aw_M) :=
  aw_g (aw_in 457 1155) (aw_let (aw_wI μ (aw_rf t 6) (457 : Int32).toNatClampNeg x1) fun μ6 =>
  aw_loop (fun k s => f_X11_begins_48 F t k s.1 s.2) F (0, μ6))
theorem c_X11_begins_37 (l : Launch) (F : Nat) (t : Nat) (ht : (aw_sh t).1 = 16) (x1 : Int32) (μ : aw_M) : AW l k_X11_begins aw_gv 37 [some (.ref t), some (.int x1), none] [] μ (f_X11_begins_37 F t x1 μ) := by
  unfold f_X11_begins_37
  refine aw_aload_n (n := 38) dX11_begins_37 rfl rfl ?_
  refine aw_getR (n := 41) (RX11, TX11, 52) 11 6 dX11_begins_38 rfl ht (by decide) fd_RX11_33 ?_
  refine aw_sipush (n := 44) 457 dX11_begins_41 rfl (by decide) ?_
  refine aw_iload_n (n := 45) dX11_begins_44 rfl rfl ?_
  refine aw_iastore (n := 46) 1155 dX11_begins_45 rfl (sf_11_6 ht) (fun μ6 => ?_)
  refine aw_iconst (n := 47) 0 dX11_begins_46 rfl (by decide) ?_
  refine aw_istore_n (n := 48) [some (.ref t), some (.int x1), some (.int 0)] dX11_begins_47 rfl rfl (Nat.le_of_ble_eq_true rfl) (Nat.le_of_ble_eq_true rfl) rfl ?_
  exact aw_weak (c_X11_begins_48 l F t ht F (0, μ6)) (aw_ss (aw_sn (aw_ss aw_s0)))
def f_X11_begins_31 (F : Nat) (t : Nat) (k4 : Int32 × Int32 × aw_M → Option (aw_M)) (x1 : Int32) (x2 : Int32) (μ : aw_M) : Option (aw_M) :=
  k4 (x1, (x2 + 1), μ)
theorem c_X11_begins_31 (l : Launch) (F : Nat) (t : Nat) (ht : (aw_sh t).1 = 16) (k4 : Int32 × Int32 × aw_M → Option (aw_M)) (hk4 : ∀ s : Int32 × Int32 × aw_M, AW l k_X11_begins aw_gv 4 [some (.ref t), some (.int s.1), some (.int s.2.1)] [] s.2.2 (k4 s)) (x1 : Int32) (x2 : Int32) (μ : aw_M) : AW l k_X11_begins aw_gv 31 [some (.ref t), some (.int x1), some (.int x2)] [] μ (f_X11_begins_31 F t k4 x1 x2 μ) := by
  unfold f_X11_begins_31
  refine aw_iinc (n := 34) (x2 + 1) [some (.ref t), some (.int x1), some (.int (x2 + 1))] dX11_begins_31 rfl rfl (by rfl) rfl (Nat.le_of_ble_eq_true rfl) rfl ?_
  refine aw_goto 4 dX11_begins_34 (by decide) ?_
  exact aw_weak (hk4 (x1, (x2 + 1), μ)) (aw_ss (aw_ss (aw_ss aw_s0)))
def f_X11_begins_4 (F : Nat) (t : Nat) (k4 : Int32 × Int32 × aw_M → Option (aw_M)) (x1 : Int32) (x2 : Int32) (μ : aw_M) : Option (aw_M) :=
  (if 974 ≤ x2 then
  f_X11_begins_37 F t x1 μ
  else
  (f_X11_isIn F x2 814 913 μ).bind fun r9 =>
  (if r9.1 = true then
  f_X11_begins_31 F t k4 x1 x2 r9.2
  else
  aw_g (aw_in x2 1155) (aw_let (aw_wI r9.2 (aw_rf t 6) x2.toNatClampNeg 0) fun μ10 =>
  f_X11_begins_31 F t k4 x1 x2 μ10)))
theorem c_X11_begins_4 (l : Launch) (F : Nat) (t : Nat) (ht : (aw_sh t).1 = 16) : ∀ (N : Nat) (s : Int32 × Int32 × aw_M), AW l k_X11_begins aw_gv 4 [some (.ref t), some (.int s.1), some (.int s.2.1)] [] s.2.2 (aw_loop (fun k s => f_X11_begins_4 F t k s.1 s.2.1 s.2.2) N s) := by
  refine aw_loop_ok (f := fun k s => f_X11_begins_4 F t k s.1 s.2.1 s.2.2) (Ls := fun s => [some (.ref t), some (.int s.1), some (.int s.2.1)]) (ms := fun s => s.2.2) ?_
  intro k4 hk4 s
  obtain ⟨x1, x2, μ⟩ := s
  show AW l k_X11_begins aw_gv 4 [some (.ref t), some (.int x1), some (.int x2)] [] μ (f_X11_begins_4 F t k4 x1 x2 μ)
  unfold f_X11_begins_4
  refine aw_iload_n (n := 5) dX11_begins_4 rfl rfl ?_
  refine aw_sipush (n := 8) 974 dX11_begins_5 rfl (by decide) ?_
  refine aw_icmp_ge (n := 11) 37 dX11_begins_8 (by decide) rfl ?_ ?_
  · exact aw_weak (c_X11_begins_37 l F t ht x1 μ) (aw_ss (aw_ss (aw_sn aw_s0)))
  · refine aw_iload_n (n := 12) dX11_begins_11 rfl rfl ?_
    refine aw_sipush (n := 15) 814 dX11_begins_12 rfl (by decide) ?_
    refine aw_sipush (n := 18) 913 dX11_begins_15 rfl (by decide) ?_
    refine aw_callSz (n := 21) (as := [.int x2, .int 814, .int 913]) (st := []) dX11_begins_18 rfl rfl (m_X11_isIn l F x2 814 913 μ) cw_RX11_194 ⟨Nat.le_of_ble_eq_true rfl, Nat.le_of_ble_eq_true rfl⟩ (fun _ => Nat.le_of_ble_eq_true rfl) (fun r9 => ?_)
    refine aw_ifb_ne (n := 24) 31 dX11_begins_21 (by decide) rfl ?_ ?_
    · exact aw_weak (c_X11_begins_31 l F t ht k4 hk4 x1 x2 r9.2) (aw_ss (aw_ss (aw_ss aw_s0)))
    · refine aw_aload_n (n := 25) dX11_begins_24 rfl rfl ?_
      refine aw_getR (n := 28) (RX11, TX11, 52) 11 6 dX11_begins_25 rfl ht (by decide) fd_RX11_33 ?_
      refine aw_iload_n (n := 29) dX11_begins_28 rfl rfl ?_
      refine aw_iconst (n := 30) 0 dX11_begins_29 rfl (by decide) ?_
      refine aw_iastore (n := 31) 1155 dX11_begins_30 rfl (sf_11_6 ht) (fun μ10 => ?_)
      exact aw_weak (c_X11_begins_31 l F t ht k4 hk4 x1 x2 μ10) (aw_ss (aw_ss (aw_ss aw_s0)))
def f_X11_begins (F : Nat) (t : Nat) (a0 : Int32) (μ : aw_M) : Option (aw_M) :=
  aw_loop (fun k s => f_X11_begins_4 F t k s.1 s.2.1 s.2.2) F (a0, 455, μ)
theorem m_X11_begins (l : Launch) (F : Nat) (t : Nat) (ht : (aw_sh t).1 = 16) (a0 : Int32) (μ : aw_M) : AM l yX11_begins cX11_begins 3 none 2 142 aw_gv [.ref t, .int a0] μ (f_X11_begins F t a0 μ) := by
  refine aw_met [some (.ref t), some (.int a0), none] (by decide) (fun _ => rfl) (fun _ => Nat.le_of_ble_eq_true rfl) ?_
  show AW l k_X11_begins aw_gv 0 [some (.ref t), some (.int a0), none] [] μ _
  unfold f_X11_begins
  refine aw_sipush (n := 3) 455 dX11_begins_0 rfl (by decide) ?_
  refine aw_istore_n (n := 4) [some (.ref t), some (.int a0), some (.int 455)] dX11_begins_3 rfl rfl (Nat.le_of_ble_eq_true rfl) (Nat.le_of_ble_eq_true rfl) rfl ?_
  exact aw_weak (c_X11_begins_4 l F t ht F (a0, 455, μ)) (aw_ss (aw_ss (aw_ss aw_s0)))
abbrev k_X11_town : aw_K := (RX11, cX11_town, 2, (some .int), 7, 249)
def f_X11_town_191 (F : Nat) (t : Nat) (μ : aw_M) : Option (Int32 × aw_M) :=
  (f_X11_begins F t 0 μ).bind fun r38 =>
  some ((r38.1 t 19), r38)
theorem c_X11_town_191 (l : Launch) (F : Nat) (t : Nat) (ht : (aw_sh t).1 = 16) (μ : aw_M) : AW l k_X11_town aw_gi 191 [some (.ref t), none] [] μ (f_X11_town_191 F t μ) := by
  unfold f_X11_town_191
  refine aw_aload_n (n := 192) dX11_town_191 rfl rfl ?_
  refine aw_iconst (n := 193) 0 dX11_town_192 rfl (by decide) ?_
  refine aw_callVv (n := 196) (as := [.int 0]) (st := []) (RX11, TX11, 52) 11 dX11_town_193 rfl rfl (m_X11_begins l F t ht 0 μ) ht (by decide) rfl rfl cw_RX11_248 ⟨Nat.le_of_ble_eq_true rfl, Nat.le_of_ble_eq_true rfl⟩ (fun _ => Nat.le_of_ble_eq_true rfl) (fun r38 => ?_)
  refine aw_aload_n (n := 197) dX11_town_196 rfl rfl ?_
  refine aw_getI (n := 200) (RX11, TX11, 52) 11 19 dX11_town_197 rfl ht (by decide) fd_RX11_239 ?_
  exact aw_ireturn dX11_town_200 rfl rfl
def f_X11_town_164 (F : Nat) (t : Nat) (k164 : Int32 × aw_M → Option (Int32 × aw_M)) (x1 : Int32) (μ : aw_M) : Option (Int32 × aw_M) :=
  (if 9 ≤ x1 then
  f_X11_town_191 F t μ
  else
  aw_g (aw_in (9 + x1) 18) (aw_g (aw_in x1 18) (aw_let (aw_wL μ (aw_rf t 9) x1.toNatClampNeg ((μ.2 (aw_rf t 9) (9 + x1).toNatClampNeg))) fun μ39 =>
  k164 ((x1 + 1), μ39))))
theorem c_X11_town_164 (l : Launch) (F : Nat) (t : Nat) (ht : (aw_sh t).1 = 16) : ∀ (N : Nat) (s : Int32 × aw_M), AW l k_X11_town aw_gi 164 [some (.ref t), some (.int s.1)] [] s.2 (aw_loop (fun k s => f_X11_town_164 F t k s.1 s.2) N s) := by
  refine aw_loop_ok (f := fun k s => f_X11_town_164 F t k s.1 s.2) (Ls := fun s => [some (.ref t), some (.int s.1)]) (ms := fun s => s.2) ?_
  intro k164 hk164 s
  obtain ⟨x1, μ⟩ := s
  show AW l k_X11_town aw_gi 164 [some (.ref t), some (.int x1)] [] μ (f_X11_town_164 F t k164 x1 μ)
  unfold f_X11_town_164
  refine aw_iload_n (n := 165) dX11_town_164 rfl rfl ?_
  refine aw_bipush (n := 167) 9 dX11_town_165 rfl (by decide) ?_
  refine aw_icmp_ge (n := 170) 191 dX11_town_167 (by decide) rfl ?_ ?_
  · exact aw_weak (c_X11_town_191 l F t ht μ) (aw_ss (aw_sn aw_s0))
  · refine aw_aload_n (n := 171) dX11_town_170 rfl rfl ?_
    refine aw_getR (n := 174) (RX11, TX11, 52) 11 9 dX11_town_171 rfl ht (by decide) fd_RX11_43 ?_
    refine aw_iload_n (n := 175) dX11_town_174 rfl rfl ?_
    refine aw_aload_n (n := 176) dX11_town_175 rfl rfl ?_
    refine aw_getR (n := 179) (RX11, TX11, 52) 11 9 dX11_town_176 rfl ht (by decide) fd_RX11_43 ?_
    refine aw_bipush (n := 181) 9 dX11_town_179 rfl (by decide) ?_
    refine aw_iload_n (n := 182) dX11_town_181 rfl rfl ?_
    refine aw_iadd (n := 183) dX11_town_182 rfl ?_
    refine aw_laload (n := 184) 18 dX11_town_183 rfl (sf_11_9 ht) ?_
    refine aw_lastore (n := 185) 18 dX11_town_184 rfl (sf_11_9 ht) (fun μ39 => ?_)
    refine aw_iinc (n := 188) (x1 + 1) [some (.ref t), some (.int (x1 + 1))] dX11_town_185 rfl rfl (by rfl) rfl (Nat.le_of_ble_eq_true rfl) rfl ?_
    refine aw_goto 164 dX11_town_188 (by decide) ?_
    exact aw_weak (hk164 ((x1 + 1), μ39)) (aw_ss (aw_ss aw_s0))
def f_X11_town_162 (F : Nat) (t : Nat) (μ : aw_M) : Option (Int32 × aw_M) :=
  aw_loop (fun k s => f_X11_town_164 F t k s.1 s.2) F (0, μ)
theorem c_X11_town_162 (l : Launch) (F : Nat) (t : Nat) (ht : (aw_sh t).1 = 16) (μ : aw_M) : AW l k_X11_town aw_gi 162 [some (.ref t), none] [] μ (f_X11_town_162 F t μ) := by
  unfold f_X11_town_162
  refine aw_iconst (n := 163) 0 dX11_town_162 rfl (by decide) ?_
  refine aw_istore_n (n := 164) [some (.ref t), some (.int 0)] dX11_town_163 rfl rfl (Nat.le_of_ble_eq_true rfl) (Nat.le_of_ble_eq_true rfl) rfl ?_
  exact aw_weak (c_X11_town_164 l F t ht F (0, μ)) (aw_ss (aw_ss aw_s0))
def f_X11_town_155 (F : Nat) (t : Nat) (k126 : Int32 × aw_M → Option (Int32 × aw_M)) (x1 : Int32) (z0 : Int32) (z1 : Int32) (μ : aw_M) : Option (Int32 × aw_M) :=
  aw_g (aw_in z1 1155) (aw_let (aw_wI μ (aw_rf t 6) z1.toNatClampNeg z0) fun μ40 =>
  k126 ((x1 + 1), μ40))
theorem c_X11_town_155 (l : Launch) (F : Nat) (t : Nat) (ht : (aw_sh t).1 = 16) (k126 : Int32 × aw_M → Option (Int32 × aw_M)) (hk126 : ∀ s : Int32 × aw_M, AW l k_X11_town aw_gi 126 [some (.ref t), some (.int s.1)] [] s.2 (k126 s)) (x1 : Int32) (z0 : Int32) (z1 : Int32) (μ : aw_M) : AW l k_X11_town aw_gi 155 [some (.ref t), some (.int x1)] [.int z0, .int z1, .ref (aw_rf t 6)] μ (f_X11_town_155 F t k126 x1 z0 z1 μ) := by
  unfold f_X11_town_155
  refine aw_iastore (n := 156) 1155 dX11_town_155 rfl (sf_11_6 ht) (fun μ40 => ?_)
  refine aw_iinc (n := 159) (x1 + 1) [some (.ref t), some (.int (x1 + 1))] dX11_town_156 rfl rfl (by rfl) rfl (Nat.le_of_ble_eq_true rfl) rfl ?_
  refine aw_goto 126 dX11_town_159 (by decide) ?_
  exact aw_weak (hk126 ((x1 + 1), μ40)) (aw_ss (aw_ss aw_s0))
def f_X11_town_126 (F : Nat) (t : Nat) (k126 : Int32 × aw_M → Option (Int32 × aw_M)) (x1 : Int32) (μ : aw_M) : Option (Int32 × aw_M) :=
  (if 1155 ≤ x1 then
  f_X11_town_162 F t μ
  else
  (if 427 ≤ x1 then
  f_X11_town_155 F t k126 x1 0 x1 μ
  else
  aw_g (aw_in x1 427) (f_X11_town_155 F t k126 x1 (μ.1 (aw_rf t 7) x1.toNatClampNeg) x1 μ)))
theorem c_X11_town_126 (l : Launch) (F : Nat) (t : Nat) (ht : (aw_sh t).1 = 16) : ∀ (N : Nat) (s : Int32 × aw_M), AW l k_X11_town aw_gi 126 [some (.ref t), some (.int s.1)] [] s.2 (aw_loop (fun k s => f_X11_town_126 F t k s.1 s.2) N s) := by
  refine aw_loop_ok (f := fun k s => f_X11_town_126 F t k s.1 s.2) (Ls := fun s => [some (.ref t), some (.int s.1)]) (ms := fun s => s.2) ?_
  intro k126 hk126 s
  obtain ⟨x1, μ⟩ := s
  show AW l k_X11_town aw_gi 126 [some (.ref t), some (.int x1)] [] μ (f_X11_town_126 F t k126 x1 μ)
  unfold f_X11_town_126
  refine aw_iload_n (n := 127) dX11_town_126 rfl rfl ?_
  refine aw_sipush (n := 130) 1155 dX11_town_127 rfl (by decide) ?_
  refine aw_icmp_ge (n := 133) 162 dX11_town_130 (by decide) rfl ?_ ?_
  · exact aw_weak (c_X11_town_162 l F t ht μ) (aw_ss (aw_sn aw_s0))
  · refine aw_aload_n (n := 134) dX11_town_133 rfl rfl ?_
    refine aw_getR (n := 137) (RX11, TX11, 52) 11 6 dX11_town_134 rfl ht (by decide) fd_RX11_33 ?_
    refine aw_iload_n (n := 138) dX11_town_137 rfl rfl ?_
    refine aw_iload_n (n := 139) dX11_town_138 rfl rfl ?_
    refine aw_sipush (n := 142) 427 dX11_town_139 rfl (by decide) ?_
    refine aw_icmp_ge (n := 145) 154 dX11_town_142 (by decide) rfl ?_ ?_
    · refine aw_iconst (n := 155) 0 dX11_town_154 rfl (by decide) ?_
      exact aw_weak (c_X11_town_155 l F t ht k126 hk126 x1 0 x1 μ) (aw_ss (aw_ss aw_s0))
    · refine aw_aload_n (n := 146) dX11_town_145 rfl rfl ?_
      refine aw_getR (n := 149) (RX11, TX11, 52) 11 7 dX11_town_146 rfl ht (by decide) fd_RX11_37 ?_
      refine aw_iload_n (n := 150) dX11_town_149 rfl rfl ?_
      refine aw_iaload (n := 151) 427 dX11_town_150 rfl (sf_11_7 ht) ?_
      refine aw_goto 155 dX11_town_151 (by decide) ?_
      exact aw_weak (c_X11_town_155 l F t ht k126 hk126 x1 (μ.1 (aw_rf t 7) x1.toNatClampNeg) x1 μ) (aw_ss (aw_ss aw_s0))
def f_X11_town_124 (F : Nat) (t : Nat) (μ : aw_M) : Option (Int32 × aw_M) :=
  aw_loop (fun k s => f_X11_town_126 F t k s.1 s.2) F (0, μ)
theorem c_X11_town_124 (l : Launch) (F : Nat) (t : Nat) (ht : (aw_sh t).1 = 16) (μ : aw_M) : AW l k_X11_town aw_gi 124 [some (.ref t), none] [] μ (f_X11_town_124 F t μ) := by
  unfold f_X11_town_124
  refine aw_iconst (n := 125) 0 dX11_town_124 rfl (by decide) ?_
  refine aw_istore_n (n := 126) [some (.ref t), some (.int 0)] dX11_town_125 rfl rfl (Nat.le_of_ble_eq_true rfl) (Nat.le_of_ble_eq_true rfl) rfl ?_
  exact aw_weak (c_X11_town_126 l F t ht F (0, μ)) (aw_ss (aw_ss aw_s0))
def f_X11_town_81 (F : Nat) (t : Nat) (k81 : aw_M → Option (Int32 × aw_M)) (μ : aw_M) : Option (Int32 × aw_M) :=
  (if (μ.1 t 11) = 0 then
  f_X11_town_124 F t μ
  else
  (f_X11_line F t μ).bind fun r41 =>
  (if r41.1 = true then
  (f_X11_sign F t 59 r41.2).bind fun r42 =>
  (if r42.1 = true then
  aw_let (aw_wI r42.2 t 19 ((r42.2.1 t 19) + 1)) fun μ43 =>
  k81 μ43
  else
  some (((-1) - (r42.2.1 t 16)), r42.2))
  else
  some (((-1) - (r41.2.1 t 16)), r41.2)))
theorem c_X11_town_81 (l : Launch) (F : Nat) (t : Nat) (ht : (aw_sh t).1 = 16) : ∀ (N : Nat) (s : aw_M), AW l k_X11_town aw_gi 81 [some (.ref t), none] [] s (aw_loop (fun k s => f_X11_town_81 F t k s) N s) := by
  refine aw_loop_ok (f := fun k s => f_X11_town_81 F t k s) (Ls := fun s => [some (.ref t), none]) (ms := fun s => s) ?_
  intro k81 hk81 s
  revert s
  intro μ
  show AW l k_X11_town aw_gi 81 [some (.ref t), none] [] μ (f_X11_town_81 F t k81 μ)
  unfold f_X11_town_81
  refine aw_aload_n (n := 82) dX11_town_81 rfl rfl ?_
  refine aw_getI (n := 85) (RX11, TX11, 52) 11 11 dX11_town_82 rfl ht (by decide) fd_RX11_162 ?_
  refine aw_if_eq (n := 88) 124 dX11_town_85 (by decide) rfl ?_ ?_
  · exact aw_weak (c_X11_town_124 l F t ht μ) (aw_ss (aw_sn aw_s0))
  · refine aw_aload_n (n := 89) dX11_town_88 rfl rfl ?_
    refine aw_callVz (n := 92) (as := []) (st := []) (RX11, TX11, 52) 11 dX11_town_89 rfl rfl (m_X11_line l F t ht μ) ht (by decide) rfl rfl cw_RX11_242 ⟨Nat.le_of_ble_eq_true rfl, Nat.le_of_ble_eq_true rfl⟩ (fun _ => Nat.le_of_ble_eq_true rfl) (fun r41 => ?_)
    refine aw_ifb_eq (n := 95) 104 dX11_town_92 (by decide) rfl ?_ ?_
    · refine aw_iconst (n := 105) (-1) dX11_town_104 rfl (by decide) ?_
      refine aw_aload_n (n := 106) dX11_town_105 rfl rfl ?_
      refine aw_getI (n := 109) (RX11, TX11, 52) 11 16 dX11_town_106 rfl ht (by decide) fd_RX11_182 ?_
      refine aw_isub (n := 110) dX11_town_109 rfl ?_
      exact aw_ireturn dX11_town_110 rfl rfl
    · refine aw_aload_n (n := 96) dX11_town_95 rfl rfl ?_
      refine aw_bipush (n := 98) 59 dX11_town_96 rfl (by decide) ?_
      refine aw_callVz (n := 101) (as := [.int 59]) (st := []) (RX11, TX11, 52) 11 dX11_town_98 rfl rfl (m_X11_sign l F t ht 59 r41.2) ht (by decide) rfl rfl cw_RX11_245 ⟨Nat.le_of_ble_eq_true rfl, Nat.le_of_ble_eq_true rfl⟩ (fun _ => Nat.le_of_ble_eq_true rfl) (fun r42 => ?_)
      refine aw_ifb_ne (n := 104) 111 dX11_town_101 (by decide) rfl ?_ ?_
      · refine aw_aload_n (n := 112) dX11_town_111 rfl rfl ?_
        refine aw_dup (n := 113) dX11_town_112 rfl (fun _ => rfl) ?_
        refine aw_getI (n := 116) (RX11, TX11, 52) 11 19 dX11_town_113 rfl ht (by decide) fd_RX11_239 ?_
        refine aw_iconst (n := 117) 1 dX11_town_116 rfl (by decide) ?_
        refine aw_iadd (n := 118) dX11_town_117 rfl ?_
        refine aw_putI (n := 121) (RX11, TX11, 52) 11 19 dX11_town_118 rfl ht (by decide) fp_RX11_239 (fun μ43 => ?_)
        refine aw_goto 81 dX11_town_121 (by decide) ?_
        exact aw_weak (hk81 μ43) (aw_ss (aw_sn aw_s0))
      · refine aw_iconst (n := 105) (-1) dX11_town_104 rfl (by decide) ?_
        refine aw_aload_n (n := 106) dX11_town_105 rfl rfl ?_
        refine aw_getI (n := 109) (RX11, TX11, 52) 11 16 dX11_town_106 rfl ht (by decide) fd_RX11_182 ?_
        refine aw_isub (n := 110) dX11_town_109 rfl ?_
        exact aw_ireturn dX11_town_110 rfl rfl
def f_X11_town_77 (F : Nat) (t : Nat) (μ : aw_M) : Option (Int32 × aw_M) :=
  (f_X11_next F t μ).bind fun r37 =>
  aw_loop (fun k s => f_X11_town_81 F t k s) F r37
theorem c_X11_town_77 (l : Launch) (F : Nat) (t : Nat) (ht : (aw_sh t).1 = 16) (μ : aw_M) : AW l k_X11_town aw_gi 77 [some (.ref t), none] [] μ (f_X11_town_77 F t μ) := by
  unfold f_X11_town_77
  refine aw_aload_n (n := 78) dX11_town_77 rfl rfl ?_
  refine aw_callVv (n := 81) (as := []) (st := []) (RX11, TX11, 52) 11 dX11_town_78 rfl rfl (m_X11_next l F t ht μ) ht (by decide) rfl rfl cw_RX11_191 ⟨Nat.le_of_ble_eq_true rfl, Nat.le_of_ble_eq_true rfl⟩ (fun _ => Nat.le_of_ble_eq_true rfl) (fun r37 => ?_)
  exact aw_weak (c_X11_town_81 l F t ht F r37) (aw_ss (aw_sn aw_s0))
def f_X11_town_56 (F : Nat) (t : Nat) (k56 : Int32 × aw_M → Option (Int32 × aw_M)) (x1 : Int32) (μ : aw_M) : Option (Int32 × aw_M) :=
  (if 3 ≤ x1 then
  f_X11_town_77 F t μ
  else
  aw_g (aw_in (7 + x1) 427) (aw_let (aw_wI μ (aw_rf t 7) (7 + x1).toNatClampNeg 1) fun μ44 =>
  k56 ((x1 + 1), μ44)))
theorem c_X11_town_56 (l : Launch) (F : Nat) (t : Nat) (ht : (aw_sh t).1 = 16) : ∀ (N : Nat) (s : Int32 × aw_M), AW l k_X11_town aw_gi 56 [some (.ref t), some (.int s.1)] [] s.2 (aw_loop (fun k s => f_X11_town_56 F t k s.1 s.2) N s) := by
  refine aw_loop_ok (f := fun k s => f_X11_town_56 F t k s.1 s.2) (Ls := fun s => [some (.ref t), some (.int s.1)]) (ms := fun s => s.2) ?_
  intro k56 hk56 s
  obtain ⟨x1, μ⟩ := s
  show AW l k_X11_town aw_gi 56 [some (.ref t), some (.int x1)] [] μ (f_X11_town_56 F t k56 x1 μ)
  unfold f_X11_town_56
  refine aw_iload_n (n := 57) dX11_town_56 rfl rfl ?_
  refine aw_iconst (n := 58) 3 dX11_town_57 rfl (by decide) ?_
  refine aw_icmp_ge (n := 61) 77 dX11_town_58 (by decide) rfl ?_ ?_
  · exact aw_weak (c_X11_town_77 l F t ht μ) (aw_ss (aw_sn aw_s0))
  · refine aw_aload_n (n := 62) dX11_town_61 rfl rfl ?_
    refine aw_getR (n := 65) (RX11, TX11, 52) 11 7 dX11_town_62 rfl ht (by decide) fd_RX11_37 ?_
    refine aw_bipush (n := 67) 7 dX11_town_65 rfl (by decide) ?_
    refine aw_iload_n (n := 68) dX11_town_67 rfl rfl ?_
    refine aw_iadd (n := 69) dX11_town_68 rfl ?_
    refine aw_iconst (n := 70) 1 dX11_town_69 rfl (by decide) ?_
    refine aw_iastore (n := 71) 427 dX11_town_70 rfl (sf_11_7 ht) (fun μ44 => ?_)
    refine aw_iinc (n := 74) (x1 + 1) [some (.ref t), some (.int (x1 + 1))] dX11_town_71 rfl rfl (by rfl) rfl (Nat.le_of_ble_eq_true rfl) rfl ?_
    refine aw_goto 56 dX11_town_74 (by decide) ?_
    exact aw_weak (hk56 ((x1 + 1), μ44)) (aw_ss (aw_ss aw_s0))
def f_X11_town_54 (F : Nat) (t : Nat) (μ : aw_M) : Option (Int32 × aw_M) :=
  aw_loop (fun k s => f_X11_town_56 F t k s.1 s.2) F (0, μ)
theorem c_X11_town_54 (l : Launch) (F : Nat) (t : Nat) (ht : (aw_sh t).1 = 16) (μ : aw_M) : AW l k_X11_town aw_gi 54 [some (.ref t), none] [] μ (f_X11_town_54 F t μ) := by
  unfold f_X11_town_54
  refine aw_iconst (n := 55) 0 dX11_town_54 rfl (by decide) ?_
  refine aw_istore_n (n := 56) [some (.ref t), some (.int 0)] dX11_town_55 rfl rfl (Nat.le_of_ble_eq_true rfl) (Nat.le_of_ble_eq_true rfl) rfl ?_
  exact aw_weak (c_X11_town_56 l F t ht F (0, μ)) (aw_ss (aw_ss aw_s0))
def f_X11_town_34 (F : Nat) (t : Nat) (k34 : Int32 × aw_M → Option (Int32 × aw_M)) (x1 : Int32) (μ : aw_M) : Option (Int32 × aw_M) :=
  (if 427 ≤ x1 then
  f_X11_town_54 F t μ
  else
  aw_g (aw_in x1 427) (aw_let (aw_wI μ (aw_rf t 7) x1.toNatClampNeg 0) fun μ45 =>
  k34 ((x1 + 1), μ45)))
theorem c_X11_town_34 (l : Launch) (F : Nat) (t : Nat) (ht : (aw_sh t).1 = 16) : ∀ (N : Nat) (s : Int32 × aw_M), AW l k_X11_town aw_gi 34 [some (.ref t), some (.int s.1)] [] s.2 (aw_loop (fun k s => f_X11_town_34 F t k s.1 s.2) N s) := by
  refine aw_loop_ok (f := fun k s => f_X11_town_34 F t k s.1 s.2) (Ls := fun s => [some (.ref t), some (.int s.1)]) (ms := fun s => s.2) ?_
  intro k34 hk34 s
  obtain ⟨x1, μ⟩ := s
  show AW l k_X11_town aw_gi 34 [some (.ref t), some (.int x1)] [] μ (f_X11_town_34 F t k34 x1 μ)
  unfold f_X11_town_34
  refine aw_iload_n (n := 35) dX11_town_34 rfl rfl ?_
  refine aw_sipush (n := 38) 427 dX11_town_35 rfl (by decide) ?_
  refine aw_icmp_ge (n := 41) 54 dX11_town_38 (by decide) rfl ?_ ?_
  · exact aw_weak (c_X11_town_54 l F t ht μ) (aw_ss (aw_sn aw_s0))
  · refine aw_aload_n (n := 42) dX11_town_41 rfl rfl ?_
    refine aw_getR (n := 45) (RX11, TX11, 52) 11 7 dX11_town_42 rfl ht (by decide) fd_RX11_37 ?_
    refine aw_iload_n (n := 46) dX11_town_45 rfl rfl ?_
    refine aw_iconst (n := 47) 0 dX11_town_46 rfl (by decide) ?_
    refine aw_iastore (n := 48) 427 dX11_town_47 rfl (sf_11_7 ht) (fun μ45 => ?_)
    refine aw_iinc (n := 51) (x1 + 1) [some (.ref t), some (.int (x1 + 1))] dX11_town_48 rfl rfl (by rfl) rfl (Nat.le_of_ble_eq_true rfl) rfl ?_
    refine aw_goto 34 dX11_town_51 (by decide) ?_
    exact aw_weak (hk34 ((x1 + 1), μ45)) (aw_ss (aw_ss aw_s0))
def f_X11_town (F : Nat) (t : Nat) (μ : aw_M) : Option (Int32 × aw_M) :=
  aw_let (aw_wI μ t 0 0) fun μ31 =>
  (f_X11_taken F t 900 μ31).bind fun r32 =>
  aw_let (aw_wI r32 t 15 0) fun μ33 =>
  aw_let (aw_wI μ33 t 19 0) fun μ34 =>
  aw_let (aw_wI μ34 t 20 0) fun μ35 =>
  aw_let (aw_wI μ35 t 21 0) fun μ36 =>
  aw_loop (fun k s => f_X11_town_34 F t k s.1 s.2) F (0, μ36)
theorem m_X11_town (l : Launch) (F : Nat) (t : Nat) (ht : (aw_sh t).1 = 16) (μ : aw_M) : AM l yX11_town cX11_town 2 (some .int) 7 249 aw_gi [.ref t] μ (f_X11_town F t μ) := by
  refine aw_met [some (.ref t), none] (by decide) (fun _ => rfl) (fun _ => Nat.le_of_ble_eq_true rfl) ?_
  show AW l k_X11_town aw_gi 0 [some (.ref t), none] [] μ _
  unfold f_X11_town
  refine aw_aload_n (n := 1) dX11_town_0 rfl rfl ?_
  refine aw_iconst (n := 2) 0 dX11_town_1 rfl (by decide) ?_
  refine aw_putI (n := 5) (RX11, TX11, 52) 11 0 dX11_town_2 rfl ht (by decide) fp_RX11_1 (fun μ31 => ?_)
  refine aw_aload_n (n := 6) dX11_town_5 rfl rfl ?_
  refine aw_sipush (n := 9) 900 dX11_town_6 rfl (by decide) ?_
  refine aw_callVv (n := 12) (as := [.int 900]) (st := []) (RX11, TX11, 52) 11 dX11_town_9 rfl rfl (m_X11_taken l F t ht 900 μ31) ht (by decide) rfl rfl cw_RX11_236 ⟨Nat.le_of_ble_eq_true rfl, Nat.le_of_ble_eq_true rfl⟩ (fun _ => Nat.le_of_ble_eq_true rfl) (fun r32 => ?_)
  refine aw_aload_n (n := 13) dX11_town_12 rfl rfl ?_
  refine aw_iconst (n := 14) 0 dX11_town_13 rfl (by decide) ?_
  refine aw_putI (n := 17) (RX11, TX11, 52) 11 15 dX11_town_14 rfl ht (by decide) fp_RX11_179 (fun μ33 => ?_)
  refine aw_aload_n (n := 18) dX11_town_17 rfl rfl ?_
  refine aw_iconst (n := 19) 0 dX11_town_18 rfl (by decide) ?_
  refine aw_putI (n := 22) (RX11, TX11, 52) 11 19 dX11_town_19 rfl ht (by decide) fp_RX11_239 (fun μ34 => ?_)
  refine aw_aload_n (n := 23) dX11_town_22 rfl rfl ?_
  refine aw_iconst (n := 24) 0 dX11_town_23 rfl (by decide) ?_
  refine aw_putZ (n := 27) (RX11, TX11, 52) 11 20 dX11_town_24 rfl ht (by decide) fp_RX11_205 (Or.inl rfl) (fun μ35 => ?_)
  refine aw_aload_n (n := 28) dX11_town_27 rfl rfl ?_
  refine aw_iconst (n := 29) 0 dX11_town_28 rfl (by decide) ?_
  refine aw_putZ (n := 32) (RX11, TX11, 52) 11 21 dX11_town_29 rfl ht (by decide) fp_RX11_233 (Or.inl rfl) (fun μ36 => ?_)
  refine aw_iconst (n := 33) 0 dX11_town_32 rfl (by decide) ?_
  refine aw_istore_n (n := 34) [some (.ref t), some (.int 0)] dX11_town_33 rfl rfl (Nat.le_of_ble_eq_true rfl) (Nat.le_of_ble_eq_true rfl) rfl ?_
  exact aw_weak (c_X11_town_34 l F t ht F (0, μ36)) (aw_ss (aw_ss aw_s0))
abbrev k_X11_fault : aw_K := (RX11, cX11_fault, 1, (some .int), 1, 120)
def f_X11_fault (F : Nat) (t : Nat) (μ : aw_M) : Option (Int32 × aw_M) :=
  aw_let (aw_wI μ t 0 0) fun μ1 =>
  some ((μ1.1 t 15), μ1)
theorem m_X11_fault (l : Launch) (F : Nat) (t : Nat) (ht : (aw_sh t).1 = 16) (μ : aw_M) : AM l yX11_fault cX11_fault 1 (some .int) 1 120 aw_gi [.ref t] μ (f_X11_fault F t μ) := by
  refine aw_met [some (.ref t)] (by decide) (fun _ => rfl) (fun _ => Nat.le_of_ble_eq_true rfl) ?_
  show AW l k_X11_fault aw_gi 0 [some (.ref t)] [] μ _
  unfold f_X11_fault
  refine aw_aload_n (n := 1) dX11_fault_0 rfl rfl ?_
  refine aw_iconst (n := 2) 0 dX11_fault_1 rfl (by decide) ?_
  refine aw_putI (n := 5) (RX11, TX11, 52) 11 0 dX11_fault_2 rfl ht (by decide) fp_RX11_1 (fun μ1 => ?_)
  refine aw_aload_n (n := 6) dX11_fault_5 rfl rfl ?_
  refine aw_getI (n := 9) (RX11, TX11, 52) 11 15 dX11_fault_6 rfl ht (by decide) fd_RX11_179 ?_
  exact aw_ireturn dX11_fault_9 rfl rfl
abbrev k_X11_planRow : aw_K := (RX11, cX11_planRow, 2, (some .boolean), 4, 185)
def f_X11_planRow_38 (F : Nat) (t : Nat) (μ : aw_M) : Option (Bool × aw_M) :=
  (f_X11_bad F t 3 μ).bind fun r15 =>
  some (r15.1, r15.2)
theorem c_X11_planRow_38 (l : Launch) (F : Nat) (t : Nat) (ht : (aw_sh t).1 = 16) (μ : aw_M) : AW l k_X11_planRow aw_gz 38 [some (.ref t), none] [] μ (f_X11_planRow_38 F t μ) := by
  unfold f_X11_planRow_38
  refine aw_aload_n (n := 39) dX11_planRow_38 rfl rfl ?_
  refine aw_iconst (n := 40) 3 dX11_planRow_39 rfl (by decide) ?_
  refine aw_callVz (n := 43) (as := [.int 3]) (st := []) (RX11, TX11, 52) 11 dX11_planRow_40 rfl rfl (m_X11_bad l F t ht 3 μ) ht (by decide) rfl rfl cw_RX11_188 ⟨Nat.le_of_ble_eq_true rfl, Nat.le_of_ble_eq_true rfl⟩ (fun _ => Nat.le_of_ble_eq_true rfl) (fun r15 => ?_)
  exact aw_zreturn (b := r15.1) dX11_planRow_43 rfl rfl
def f_X11_planRow (F : Nat) (t : Nat) (μ : aw_M) : Option (Bool × aw_M) :=
  (f_X11_isName F t μ).bind fun r13 =>
  (if r13.1 = true then
  aw_g (aw_in 2 1155) ((f_X11_find F t 0 (r13.2.1 (aw_rf t 6) (2 : Int32).toNatClampNeg) r13.2).bind fun r14 =>
  (if r14.1 < 0 then
  f_X11_planRow_38 F t r14.2
  else
  aw_g (aw_in r14.1 135) ((if (r14.2.1 (aw_rf t 8) r14.1.toNatClampNeg) ≤ 0 then
  (f_X11_next F t r14.2).bind fun r16 =>
  (f_X11_takes F t 0 18 r16).bind fun r17 =>
  (if r17.1 = true then
  aw_g (aw_in r14.1 135) (aw_let (aw_wI r17.2 (aw_rf t 8) r14.1.toNatClampNeg ((r17.2.1 t 18) + 1)) fun μ18 =>
  (f_X11_takes F t 0 99 μ18).bind fun r19 =>
  (if r19.1 = true then
  aw_g (aw_in (9 + r14.1) 135) (aw_let (aw_wI r19.2 (aw_rf t 8) (9 + r14.1).toNatClampNeg (r19.2.1 t 18)) fun μ20 =>
  (f_X11_isWord F t 439788072564 μ20).bind fun r21 =>
  (if r21.1 = true then
  aw_g (aw_in (18 + r14.1) 135) (aw_let (aw_wI r21.2 (aw_rf t 8) (18 + r14.1).toNatClampNeg 1) fun μ22 =>
  (f_X11_next F t μ22).bind fun r23 =>
  some (true, r23))
  else
  some (true, r21.2)))
  else
  some (false, r19.2)))
  else
  some (false, r17.2))
  else
  f_X11_planRow_38 F t r14.2))))
  else
  (f_X11_bad F t 1 r13.2).bind fun r24 =>
  some (r24.1, r24.2))
theorem m_X11_planRow (l : Launch) (F : Nat) (t : Nat) (ht : (aw_sh t).1 = 16) (μ : aw_M) : AM l yX11_planRow cX11_planRow 2 (some .boolean) 4 185 aw_gz [.ref t] μ (f_X11_planRow F t μ) := by
  refine aw_met [some (.ref t), none] (by decide) (fun _ => rfl) (fun _ => Nat.le_of_ble_eq_true rfl) ?_
  show AW l k_X11_planRow aw_gz 0 [some (.ref t), none] [] μ _
  unfold f_X11_planRow
  refine aw_aload_n (n := 1) dX11_planRow_0 rfl rfl ?_
  refine aw_callVz (n := 4) (as := []) (st := []) (RX11, TX11, 52) 11 dX11_planRow_1 rfl rfl (m_X11_isName l F t ht μ) ht (by decide) rfl rfl cw_RX11_223 ⟨Nat.le_of_ble_eq_true rfl, Nat.le_of_ble_eq_true rfl⟩ (fun _ => Nat.le_of_ble_eq_true rfl) (fun r13 => ?_)
  refine aw_ifb_ne (n := 7) 13 dX11_planRow_4 (by decide) rfl ?_ ?_
  · refine aw_aload_n (n := 14) dX11_planRow_13 rfl rfl ?_
    refine aw_iconst (n := 15) 0 dX11_planRow_14 rfl (by decide) ?_
    refine aw_aload_n (n := 16) dX11_planRow_15 rfl rfl ?_
    refine aw_getR (n := 19) (RX11, TX11, 52) 11 6 dX11_planRow_16 rfl ht (by decide) fd_RX11_33 ?_
    refine aw_iconst (n := 20) 2 dX11_planRow_19 rfl (by decide) ?_
    refine aw_iaload (n := 21) 1155 dX11_planRow_20 rfl (sf_11_6 ht) ?_
    refine aw_callVi (n := 24) (as := [.int 0, .int (r13.2.1 (aw_rf t 6) (2 : Int32).toNatClampNeg)]) (st := []) (RX11, TX11, 52) 11 dX11_planRow_21 rfl rfl (m_X11_find l F t ht 0 (r13.2.1 (aw_rf t 6) (2 : Int32).toNatClampNeg) r13.2) ht (by decide) rfl rfl cw_RX11_226 ⟨Nat.le_of_ble_eq_true rfl, Nat.le_of_ble_eq_true rfl⟩ (fun _ => Nat.le_of_ble_eq_true rfl) (fun r14 => ?_)
    refine aw_istore_n (n := 25) [some (.ref t), some (.int r14.1)] dX11_planRow_24 rfl rfl (Nat.le_of_ble_eq_true rfl) (Nat.le_of_ble_eq_true rfl) rfl ?_
    refine aw_iload_n (n := 26) dX11_planRow_25 rfl rfl ?_
    refine aw_if_lt (n := 29) 38 dX11_planRow_26 (by decide) rfl ?_ ?_
    · exact aw_weak (c_X11_planRow_38 l F t ht r14.2) (aw_ss (aw_sn aw_s0))
    · refine aw_aload_n (n := 30) dX11_planRow_29 rfl rfl ?_
      refine aw_getR (n := 33) (RX11, TX11, 52) 11 8 dX11_planRow_30 rfl ht (by decide) fd_RX11_40 ?_
      refine aw_iload_n (n := 34) dX11_planRow_33 rfl rfl ?_
      refine aw_iaload (n := 35) 135 dX11_planRow_34 rfl (sf_11_8 ht) ?_
      refine aw_if_le (n := 38) 44 dX11_planRow_35 (by decide) rfl ?_ ?_
      · refine aw_aload_n (n := 45) dX11_planRow_44 rfl rfl ?_
        refine aw_callVv (n := 48) (as := []) (st := []) (RX11, TX11, 52) 11 dX11_planRow_45 rfl rfl (m_X11_next l F t ht r14.2) ht (by decide) rfl rfl cw_RX11_191 ⟨Nat.le_of_ble_eq_true rfl, Nat.le_of_ble_eq_true rfl⟩ (fun _ => Nat.le_of_ble_eq_true rfl) (fun r16 => ?_)
        refine aw_aload_n (n := 49) dX11_planRow_48 rfl rfl ?_
        refine aw_iconst (n := 50) 0 dX11_planRow_49 rfl (by decide) ?_
        refine aw_bipush (n := 52) 18 dX11_planRow_50 rfl (by decide) ?_
        refine aw_callVz (n := 55) (as := [.int 0, .int 18]) (st := []) (RX11, TX11, 52) 11 dX11_planRow_52 rfl rfl (m_X11_takes l F t ht 0 18 r16) ht (by decide) rfl rfl cw_RX11_209 ⟨Nat.le_of_ble_eq_true rfl, Nat.le_of_ble_eq_true rfl⟩ (fun _ => Nat.le_of_ble_eq_true rfl) (fun r17 => ?_)
        refine aw_ifb_ne (n := 58) 60 dX11_planRow_55 (by decide) rfl ?_ ?_
        · refine aw_aload_n (n := 61) dX11_planRow_60 rfl rfl ?_
          refine aw_getR (n := 64) (RX11, TX11, 52) 11 8 dX11_planRow_61 rfl ht (by decide) fd_RX11_40 ?_
          refine aw_iload_n (n := 65) dX11_planRow_64 rfl rfl ?_
          refine aw_aload_n (n := 66) dX11_planRow_65 rfl rfl ?_
          refine aw_getI (n := 69) (RX11, TX11, 52) 11 18 dX11_planRow_66 rfl ht (by decide) fd_RX11_198 ?_
          refine aw_iconst (n := 70) 1 dX11_planRow_69 rfl (by decide) ?_
          refine aw_iadd (n := 71) dX11_planRow_70 rfl ?_
          refine aw_iastore (n := 72) 135 dX11_planRow_71 rfl (sf_11_8 ht) (fun μ18 => ?_)
          refine aw_aload_n (n := 73) dX11_planRow_72 rfl rfl ?_
          refine aw_iconst (n := 74) 0 dX11_planRow_73 rfl (by decide) ?_
          refine aw_bipush (n := 76) 99 dX11_planRow_74 rfl (by decide) ?_
          refine aw_callVz (n := 79) (as := [.int 0, .int 99]) (st := []) (RX11, TX11, 52) 11 dX11_planRow_76 rfl rfl (m_X11_takes l F t ht 0 99 μ18) ht (by decide) rfl rfl cw_RX11_209 ⟨Nat.le_of_ble_eq_true rfl, Nat.le_of_ble_eq_true rfl⟩ (fun _ => Nat.le_of_ble_eq_true rfl) (fun r19 => ?_)
          refine aw_ifb_ne (n := 82) 84 dX11_planRow_79 (by decide) rfl ?_ ?_
          · refine aw_aload_n (n := 85) dX11_planRow_84 rfl rfl ?_
            refine aw_getR (n := 88) (RX11, TX11, 52) 11 8 dX11_planRow_85 rfl ht (by decide) fd_RX11_40 ?_
            refine aw_bipush (n := 90) 9 dX11_planRow_88 rfl (by decide) ?_
            refine aw_iload_n (n := 91) dX11_planRow_90 rfl rfl ?_
            refine aw_iadd (n := 92) dX11_planRow_91 rfl ?_
            refine aw_aload_n (n := 93) dX11_planRow_92 rfl rfl ?_
            refine aw_getI (n := 96) (RX11, TX11, 52) 11 18 dX11_planRow_93 rfl ht (by decide) fd_RX11_198 ?_
            refine aw_iastore (n := 97) 135 dX11_planRow_96 rfl (sf_11_8 ht) (fun μ20 => ?_)
            refine aw_aload_n (n := 98) dX11_planRow_97 rfl rfl ?_
            refine aw_ldc2 (n := 101) dX11_planRow_98 rfl tb_1470 ?_
            refine aw_callVz (n := 104) (as := [.long 439788072564]) (st := []) (RX11, TX11, 52) 11 dX11_planRow_101 rfl rfl (m_X11_isWord l F t ht 439788072564 μ20) ht (by decide) rfl rfl cw_RX11_201 ⟨Nat.le_of_ble_eq_true rfl, Nat.le_of_ble_eq_true rfl⟩ (fun _ => Nat.le_of_ble_eq_true rfl) (fun r21 => ?_)
            refine aw_ifb_eq (n := 107) 121 dX11_planRow_104 (by decide) rfl ?_ ?_
            · refine aw_iconst (n := 122) 1 dX11_planRow_121 rfl (by decide) ?_
              exact aw_zreturn (b := true) dX11_planRow_122 rfl rfl
            · refine aw_aload_n (n := 108) dX11_planRow_107 rfl rfl ?_
              refine aw_getR (n := 111) (RX11, TX11, 52) 11 8 dX11_planRow_108 rfl ht (by decide) fd_RX11_40 ?_
              refine aw_bipush (n := 113) 18 dX11_planRow_111 rfl (by decide) ?_
              refine aw_iload_n (n := 114) dX11_planRow_113 rfl rfl ?_
              refine aw_iadd (n := 115) dX11_planRow_114 rfl ?_
              refine aw_iconst (n := 116) 1 dX11_planRow_115 rfl (by decide) ?_
              refine aw_iastore (n := 117) 135 dX11_planRow_116 rfl (sf_11_8 ht) (fun μ22 => ?_)
              refine aw_aload_n (n := 118) dX11_planRow_117 rfl rfl ?_
              refine aw_callVv (n := 121) (as := []) (st := []) (RX11, TX11, 52) 11 dX11_planRow_118 rfl rfl (m_X11_next l F t ht μ22) ht (by decide) rfl rfl cw_RX11_191 ⟨Nat.le_of_ble_eq_true rfl, Nat.le_of_ble_eq_true rfl⟩ (fun _ => Nat.le_of_ble_eq_true rfl) (fun r23 => ?_)
              refine aw_iconst (n := 122) 1 dX11_planRow_121 rfl (by decide) ?_
              exact aw_zreturn (b := true) dX11_planRow_122 rfl rfl
          · refine aw_iconst (n := 83) 0 dX11_planRow_82 rfl (by decide) ?_
            exact aw_zreturn (b := false) dX11_planRow_83 rfl rfl
        · refine aw_iconst (n := 59) 0 dX11_planRow_58 rfl (by decide) ?_
          exact aw_zreturn (b := false) dX11_planRow_59 rfl rfl
      · exact aw_weak (c_X11_planRow_38 l F t ht r14.2) (aw_ss (aw_sn aw_s0))
  · refine aw_aload_n (n := 8) dX11_planRow_7 rfl rfl ?_
    refine aw_iconst (n := 9) 1 dX11_planRow_8 rfl (by decide) ?_
    refine aw_callVz (n := 12) (as := [.int 1]) (st := []) (RX11, TX11, 52) 11 dX11_planRow_9 rfl rfl (m_X11_bad l F t ht 1 r13.2) ht (by decide) rfl rfl cw_RX11_188 ⟨Nat.le_of_ble_eq_true rfl, Nat.le_of_ble_eq_true rfl⟩ (fun _ => Nat.le_of_ble_eq_true rfl) (fun r24 => ?_)
    exact aw_zreturn (b := r24.1) dX11_planRow_12 rfl rfl
