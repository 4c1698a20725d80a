abbrev k_X10_feed : aw_K := (RX10, cX10_feed, 6, (some .int), 2, 142)
def f_X10_feed (F : Nat) (t : Nat) (a0 : Int32) (a1 : Int32) (a2 : Int32) (a3 : Int32) (a4 : Int32) (μ : aw_M) : Option (Int32 × aw_M) :=
  (f_X6_hasRoom F (aw_rf t 0) μ).bind fun r1 =>
  (if r1.1 = true then
  (f_X6_addNumber F (aw_rf t 0) a0 r1.2).bind fun r2 =>
  (f_X6_addNumber F (aw_rf t 0) a1 r2).bind fun r3 =>
  (f_X6_addNumber F (aw_rf t 0) a2 r3).bind fun r4 =>
  (f_X6_addNumber F (aw_rf t 0) a3 r4).bind fun r5 =>
  (f_X6_addNumber F (aw_rf t 0) a4 r5).bind fun r6 =>
  some ((r6.1 (aw_rf t 0) 1), r6)
  else
  some ((-1), r1.2))
theorem m_X10_feed (l : Launch) (F : Nat) (t : Nat) (ht : (aw_sh t).1 = 15) (a0 : Int32) (a1 : Int32) (a2 : Int32) (a3 : Int32) (a4 : Int32) (μ : aw_M) : AM l yX10_feed cX10_feed 6 (some .int) 2 142 aw_gi [.ref t, .int a0, .int a1, .int a2, .int a3, .int a4] μ (f_X10_feed F t a0 a1 a2 a3 a4 μ) := by
  refine aw_met [some (.ref t), some (.int a0), some (.int a1), some (.int a2), some (.int a3), some (.int a4)] (by decide) (fun _ => rfl) (fun _ => Nat.le_of_ble_eq_true rfl) ?_
  show AW l k_X10_feed aw_gi 0 [some (.ref t), some (.int a0), some (.int a1), some (.int a2), some (.int a3), some (.int a4)] [] μ _
  unfold f_X10_feed
  refine aw_aload_n (n := 1) dX10_feed_0 rfl rfl ?_
  refine aw_getR (n := 4) (RX10, TX10, 12) 10 0 dX10_feed_1 rfl ht (by decide) fd_RX10_12 ?_
  refine aw_callVz (n := 7) (as := []) (st := []) (RX6, TX6, 13) 6 dX10_feed_4 rfl rfl (m_X6_hasRoom l F (aw_rf t 0) (sf_10_0 ht) μ) (sf_10_0 ht) (by decide) rfl rfl cw_RX10_92 ⟨Nat.le_of_ble_eq_true rfl, Nat.le_of_ble_eq_true rfl⟩ (fun _ => Nat.le_of_ble_eq_true rfl) (fun r1 => ?_)
  refine aw_ifb_ne (n := 10) 12 dX10_feed_7 (by decide) rfl ?_ ?_
  · refine aw_aload_n (n := 13) dX10_feed_12 rfl rfl ?_
    refine aw_getR (n := 16) (RX10, TX10, 12) 10 0 dX10_feed_13 rfl ht (by decide) fd_RX10_12 ?_
    refine aw_iload_n (n := 17) dX10_feed_16 rfl rfl ?_
    refine aw_callVv (n := 20) (as := [.int a0]) (st := []) (RX6, TX6, 13) 6 dX10_feed_17 rfl rfl (m_X6_addNumber l F (aw_rf t 0) (sf_10_0 ht) a0 r1.2) (sf_10_0 ht) (by decide) rfl rfl cw_RX10_96 ⟨Nat.le_of_ble_eq_true rfl, Nat.le_of_ble_eq_true rfl⟩ (fun _ => Nat.le_of_ble_eq_true rfl) (fun r2 => ?_)
    refine aw_aload_n (n := 21) dX10_feed_20 rfl rfl ?_
    refine aw_getR (n := 24) (RX10, TX10, 12) 10 0 dX10_feed_21 rfl ht (by decide) fd_RX10_12 ?_
    refine aw_iload_n (n := 25) dX10_feed_24 rfl rfl ?_
    refine aw_callVv (n := 28) (as := [.int a1]) (st := []) (RX6, TX6, 13) 6 dX10_feed_25 rfl rfl (m_X6_addNumber l F (aw_rf t 0) (sf_10_0 ht) a1 r2) (sf_10_0 ht) (by decide) rfl rfl cw_RX10_96 ⟨Nat.le_of_ble_eq_true rfl, Nat.le_of_ble_eq_true rfl⟩ (fun _ => Nat.le_of_ble_eq_true rfl) (fun r3 => ?_)
    refine aw_aload_n (n := 29) dX10_feed_28 rfl rfl ?_
    refine aw_getR (n := 32) (RX10, TX10, 12) 10 0 dX10_feed_29 rfl ht (by decide) fd_RX10_12 ?_
    refine aw_iload_n (n := 33) dX10_feed_32 rfl rfl ?_
    refine aw_callVv (n := 36) (as := [.int a2]) (st := []) (RX6, TX6, 13) 6 dX10_feed_33 rfl rfl (m_X6_addNumber l F (aw_rf t 0) (sf_10_0 ht) a2 r3) (sf_10_0 ht) (by decide) rfl rfl cw_RX10_96 ⟨Nat.le_of_ble_eq_true rfl, Nat.le_of_ble_eq_true rfl⟩ (fun _ => Nat.le_of_ble_eq_true rfl) (fun r4 => ?_)
    refine aw_aload_n (n := 37) dX10_feed_36 rfl rfl ?_
    refine aw_getR (n := 40) (RX10, TX10, 12) 10 0 dX10_feed_37 rfl ht (by decide) fd_RX10_12 ?_
    refine aw_iload (n := 42) dX10_feed_40 rfl rfl ?_
    refine aw_callVv (n := 45) (as := [.int a3]) (st := []) (RX6, TX6, 13) 6 dX10_feed_42 rfl rfl (m_X6_addNumber l F (aw_rf t 0) (sf_10_0 ht) a3 r4) (sf_10_0 ht) (by decide) rfl rfl cw_RX10_96 ⟨Nat.le_of_ble_eq_true rfl, Nat.le_of_ble_eq_true rfl⟩ (fun _ => Nat.le_of_ble_eq_true rfl) (fun r5 => ?_)
    refine aw_aload_n (n := 46) dX10_feed_45 rfl rfl ?_
    refine aw_getR (n := 49) (RX10, TX10, 12) 10 0 dX10_feed_46 rfl ht (by decide) fd_RX10_12 ?_
    refine aw_iload (n := 51) dX10_feed_49 rfl rfl ?_
    refine aw_callVv (n := 54) (as := [.int a4]) (st := []) (RX6, TX6, 13) 6 dX10_feed_51 rfl rfl (m_X6_addNumber l F (aw_rf t 0) (sf_10_0 ht) a4 r5) (sf_10_0 ht) (by decide) rfl rfl cw_RX10_96 ⟨Nat.le_of_ble_eq_true rfl, Nat.le_of_ble_eq_true rfl⟩ (fun _ => Nat.le_of_ble_eq_true rfl) (fun r6 => ?_)
    refine aw_aload_n (n := 55) dX10_feed_54 rfl rfl ?_
    refine aw_getR (n := 58) (RX10, TX10, 12) 10 0 dX10_feed_55 rfl ht (by decide) fd_RX10_12 ?_
    refine aw_getI (n := 61) (RX6, TX6, 13) 6 1 dX10_feed_58 rfl (sf_10_0 ht) (by decide) fd_RX10_100 ?_
    exact aw_ireturn dX10_feed_61 rfl rfl
  · refine aw_iconst (n := 11) (-1) dX10_feed_10 rfl (by decide) ?_
    exact aw_ireturn dX10_feed_11 rfl rfl
abbrev k_X10_end : aw_K := (RX10, cX10_end, 2, (some .boolean), 1, 120)
def f_X10_end (F : Nat) (t : Nat) (a0 : Int32) (μ : aw_M) : Option (Bool × aw_M) :=
  (if a0 < 0 then
  some (false, μ)
  else
  (if a0 ≤ (μ.1 (aw_rf t 0) 1) then
  aw_let (aw_wI μ (aw_rf t 0) 1 a0) fun μ1 =>
  some (true, μ1)
  else
  some (false, μ)))
theorem m_X10_end (l : Launch) (F : Nat) (t : Nat) (ht : (aw_sh t).1 = 15) (a0 : Int32) (μ : aw_M) : AM l yX10_end cX10_end 2 (some .boolean) 1 120 aw_gz [.ref t, .int a0] μ (f_X10_end F t a0 μ) := by
  refine aw_met [some (.ref t), some (.int a0)] (by decide) (fun _ => rfl) (fun _ => Nat.le_of_ble_eq_true rfl) ?_
  show AW l k_X10_end aw_gz 0 [some (.ref t), some (.int a0)] [] μ _
  unfold f_X10_end
  refine aw_iload_n (n := 1) dX10_end_0 rfl rfl ?_
  refine aw_if_lt (n := 4) 15 dX10_end_1 (by decide) rfl ?_ ?_
  · refine aw_iconst (n := 16) 0 dX10_end_15 rfl (by decide) ?_
    exact aw_zreturn (b := false) dX10_end_16 rfl rfl
  · refine aw_iload_n (n := 5) dX10_end_4 rfl rfl ?_
    refine aw_aload_n (n := 6) dX10_end_5 rfl rfl ?_
    refine aw_getR (n := 9) (RX10, TX10, 12) 10 0 dX10_end_6 rfl ht (by decide) fd_RX10_12 ?_
    refine aw_getI (n := 12) (RX6, TX6, 13) 6 1 dX10_end_9 rfl (sf_10_0 ht) (by decide) fd_RX10_100 ?_
    refine aw_icmp_le (n := 15) 17 dX10_end_12 (by decide) rfl ?_ ?_
    · refine aw_aload_n (n := 18) dX10_end_17 rfl rfl ?_
      refine aw_getR (n := 21) (RX10, TX10, 12) 10 0 dX10_end_18 rfl ht (by decide) fd_RX10_12 ?_
      refine aw_iload_n (n := 22) dX10_end_21 rfl rfl ?_
      refine aw_putI (n := 25) (RX6, TX6, 13) 6 1 dX10_end_22 rfl (sf_10_0 ht) (by decide) fp_RX10_100 (fun μ1 => ?_)
      refine aw_iconst (n := 26) 1 dX10_end_25 rfl (by decide) ?_
      exact aw_zreturn (b := true) dX10_end_26 rfl rfl
    · refine aw_iconst (n := 16) 0 dX10_end_15 rfl (by decide) ?_
      exact aw_zreturn (b := false) dX10_end_16 rfl rfl
abbrev k_X10_closeText : aw_K := (RX10, cX10_closeText, 3, (some .int), 1, 120)
def f_X10_closeText_16 (F : Nat) (t : Nat) (x1 : Int32) (x2 : Int32) (z0 : Int32) (μ : aw_M) : Option (Int32 × aw_M) :=
  aw_let (aw_wI μ t 11 z0) fun μ3 =>
  aw_let (aw_wI μ3 (aw_rf t 0) 1 0) fun μ4 =>
  (if x1 = 0 then
  some (((-1) - (μ4.1 (aw_rf t 0) 12)), μ4)
  else
  some (x2, μ4))
theorem c_X10_closeText_16 (l : Launch) (F : Nat) (t : Nat) (ht : (aw_sh t).1 = 15) (x1 : Int32) (x2 : Int32) (z0 : Int32) (μ : aw_M) : AW l k_X10_closeText aw_gi 16 [some (.ref t), some (.int x1), some (.int x2)] [.int z0, .ref t] μ (f_X10_closeText_16 F t x1 x2 z0 μ) := by
  unfold f_X10_closeText_16
  refine aw_putI (n := 19) (RX10, TX10, 12) 10 11 dX10_closeText_16 rfl ht (by decide) fp_RX10_139 (fun μ3 => ?_)
  refine aw_aload_n (n := 20) dX10_closeText_19 rfl rfl ?_
  refine aw_getR (n := 23) (RX10, TX10, 12) 10 0 dX10_closeText_20 rfl ht (by decide) fd_RX10_12 ?_
  refine aw_iconst (n := 24) 0 dX10_closeText_23 rfl (by decide) ?_
  refine aw_putI (n := 27) (RX6, TX6, 13) 6 1 dX10_closeText_24 rfl (sf_10_0 ht) (by decide) fp_RX10_100 (fun μ4 => ?_)
  refine aw_iload_n (n := 28) dX10_closeText_27 rfl rfl ?_
  refine aw_if_eq (n := 31) 35 dX10_closeText_28 (by decide) rfl ?_ ?_
  · refine aw_iconst (n := 36) (-1) dX10_closeText_35 rfl (by decide) ?_
    refine aw_aload_n (n := 37) dX10_closeText_36 rfl rfl ?_
    refine aw_getR (n := 40) (RX10, TX10, 12) 10 0 dX10_closeText_37 rfl ht (by decide) fd_RX10_12 ?_
    refine aw_getI (n := 43) (RX6, TX6, 13) 6 12 dX10_closeText_40 rfl (sf_10_0 ht) (by decide) fd_RX10_339 ?_
    refine aw_isub (n := 44) dX10_closeText_43 rfl ?_
    exact aw_ireturn dX10_closeText_44 rfl rfl
  · refine aw_iload_n (n := 32) dX10_closeText_31 rfl rfl ?_
    refine aw_goto 44 dX10_closeText_32 (by decide) ?_
    exact aw_ireturn dX10_closeText_44 rfl rfl
def f_X10_closeText (F : Nat) (t : Nat) (a0 : Int32) (a1 : Int32) (μ : aw_M) : Option (Int32 × aw_M) :=
  (if a0 = 0 then
  f_X10_closeText_16 F t a0 a1 (μ.1 (aw_rf t 0) 11) μ
  else
  f_X10_closeText_16 F t a0 a1 0 μ)
theorem m_X10_closeText (l : Launch) (F : Nat) (t : Nat) (ht : (aw_sh t).1 = 15) (a0 : Int32) (a1 : Int32) (μ : aw_M) : AM l yX10_closeText cX10_closeText 3 (some .int) 1 120 aw_gi [.ref t, .int a0, .int a1] μ (f_X10_closeText F t a0 a1 μ) := by
  refine aw_met [some (.ref t), some (.int a0), some (.int a1)] (by decide) (fun _ => rfl) (fun _ => Nat.le_of_ble_eq_true rfl) ?_
  show AW l k_X10_closeText aw_gi 0 [some (.ref t), some (.int a0), some (.int a1)] [] μ _
  unfold f_X10_closeText
  refine aw_aload_n (n := 1) dX10_closeText_0 rfl rfl ?_
  refine aw_iload_n (n := 2) dX10_closeText_1 rfl rfl ?_
  refine aw_if_eq (n := 5) 9 dX10_closeText_2 (by decide) rfl ?_ ?_
  · refine aw_aload_n (n := 10) dX10_closeText_9 rfl rfl ?_
    refine aw_getR (n := 13) (RX10, TX10, 12) 10 0 dX10_closeText_10 rfl ht (by decide) fd_RX10_12 ?_
    refine aw_getI (n := 16) (RX6, TX6, 13) 6 11 dX10_closeText_13 rfl (sf_10_0 ht) (by decide) fd_RX10_338 ?_
    exact aw_weak (c_X10_closeText_16 l F t ht a0 a1 (μ.1 (aw_rf t 0) 11) μ) (aw_ss (aw_ss (aw_ss aw_s0)))
  · refine aw_iconst (n := 6) 0 dX10_closeText_5 rfl (by decide) ?_
    refine aw_goto 16 dX10_closeText_6 (by decide) ?_
    exact aw_weak (c_X10_closeText_16 l F t ht a0 a1 0 μ) (aw_ss (aw_ss (aw_ss aw_s0)))
abbrev k_X10_town : aw_K := (RX10, cX10_town, 2, (some .int), 7, 252)
def f_X10_town_27 (F : Nat) (t : Nat) (x1 : Bool) (μ : aw_M) : Option (Int32 × aw_M) :=
  (f_X10_closeText F t (aw_b x1) (μ.1 (aw_rf t 4) 0) μ).bind fun r5 =>
  some (r5.1, r5.2)
theorem c_X10_town_27 (l : Launch) (F : Nat) (t : Nat) (ht : (aw_sh t).1 = 15) (x1 : Bool) (μ : aw_M) : AW l k_X10_town aw_gi 27 [some (.ref t), some (.int (aw_b x1))] [] μ (f_X10_town_27 F t x1 μ) := by
  unfold f_X10_town_27
  refine aw_aload_n (n := 28) dX10_town_27 rfl rfl ?_
  refine aw_iload_n (n := 29) dX10_town_28 rfl rfl ?_
  refine aw_aload_n (n := 30) dX10_town_29 rfl rfl ?_
  refine aw_getR (n := 33) (RX10, TX10, 12) 10 4 dX10_town_30 rfl ht (by decide) fd_RX10_34 ?_
  refine aw_getI (n := 36) (RX8, TX8, 20) 8 0 dX10_town_33 rfl (sf_10_4 ht) (by decide) fd_RX10_112 ?_
  refine aw_callVi (n := 39) (as := [.int (aw_b x1), .int (μ.1 (aw_rf t 4) 0)]) (st := []) (RX10, TX10, 12) 10 dX10_town_36 rfl rfl (m_X10_closeText l F t ht (aw_b x1) (μ.1 (aw_rf t 4) 0) μ) ht (by decide) rfl rfl cw_RX10_115 ⟨Nat.le_of_ble_eq_true rfl, Nat.le_of_ble_eq_true rfl⟩ (fun _ => Nat.le_of_ble_eq_true rfl) (fun r5 => ?_)
  exact aw_ireturn dX10_town_39 rfl rfl
def f_X10_town (F : Nat) (t : Nat) (μ : aw_M) : Option (Int32 × aw_M) :=
  (f_X8_readFrom F (aw_rf t 4) (aw_rf t 0) μ).bind fun r4 =>
  (if r4.1 = true then
  (f_X4_becomeTown F (aw_rf t 1) (aw_rf t 4) r4.2).bind fun r6 =>
  f_X10_town_27 F t r4.1 r6
  else
  f_X10_town_27 F t r4.1 r4.2)
theorem m_X10_town (l : Launch) (F : Nat) (t : Nat) (ht : (aw_sh t).1 = 15) (μ : aw_M) : AM l yX10_town cX10_town 2 (some .int) (7) (252) aw_gi [.ref t] μ (f_X10_town F t μ) := by
  refine aw_met [some (.ref t), none] (by decide) (fun _ => rfl) (fun _ => Nat.le_of_ble_eq_true rfl) ?_
  show AW l k_X10_town aw_gi 0 [some (.ref t), none] [] μ _
  unfold f_X10_town
  refine aw_aload_n (n := 1) dX10_town_0 rfl rfl ?_
  refine aw_getR (n := 4) (RX10, TX10, 12) 10 4 dX10_town_1 rfl ht (by decide) fd_RX10_34 ?_
  refine aw_aload_n (n := 5) dX10_town_4 rfl rfl ?_
  refine aw_getR (n := 8) (RX10, TX10, 12) 10 0 dX10_town_5 rfl ht (by decide) fd_RX10_12 ?_
  refine aw_callVz (n := 11) (as := [.ref (aw_rf t 0)]) (st := []) (RX8, TX8, 20) 8 dX10_town_8 rfl rfl (m_X8_readFrom l F (aw_rf t 4) (sf_10_4 ht) (aw_rf t 0) (sf_10_0 ht) μ) (sf_10_4 ht) (by decide) rfl rfl cw_RX10_104 ⟨Nat.le_of_ble_eq_true rfl, Nat.le_of_ble_eq_true rfl⟩ (fun _ => Nat.le_of_ble_eq_true rfl) (fun r4 => ?_)
  refine aw_istore_n (n := 12) [some (.ref t), some (.int (aw_b r4.1))] dX10_town_11 rfl rfl (Nat.le_of_ble_eq_true rfl) (Nat.le_of_ble_eq_true rfl) rfl ?_
  refine aw_iload_n (n := 13) dX10_town_12 rfl rfl ?_
  refine aw_ifb_eq (n := 16) 27 dX10_town_13 (by decide) rfl ?_ ?_
  · exact aw_weak (c_X10_town_27 l F t ht r4.1 r4.2) (aw_ss (aw_ss aw_s0))
  · refine aw_aload_n (n := 17) dX10_town_16 rfl rfl ?_
    refine aw_getR (n := 20) (RX10, TX10, 12) 10 1 dX10_town_17 rfl ht (by decide) fd_RX10_19 ?_
    refine aw_aload_n (n := 21) dX10_town_20 rfl rfl ?_
    refine aw_getR (n := 24) (RX10, TX10, 12) 10 4 dX10_town_21 rfl ht (by decide) fd_RX10_34 ?_
    refine aw_callVv (n := 27) (as := [.ref (aw_rf t 4)]) (st := []) (RX4, TX4, 5) 4 dX10_town_24 rfl rfl (m_X4_becomeTown l F (aw_rf t 1) (sf_10_1 ht) (aw_rf t 4) (sf_10_4 ht) r4.2) (sf_10_1 ht) (by decide) rfl rfl cw_RX10_108 ⟨Nat.le_of_ble_eq_true rfl, Nat.le_of_ble_eq_true rfl⟩ (fun _ => Nat.le_of_ble_eq_true rfl) (fun r6 => ?_)
    exact aw_weak (c_X10_town_27 l F t ht r4.1 r6) (aw_ss (aw_ss aw_s0))
abbrev k_X10_plans : aw_K := (RX10, cX10_plans, 2, (some .int), 6, 233)
def f_X10_plans_37 (F : Nat) (t : Nat) (x1 : Bool) (μ : aw_M) : Option (Int32 × aw_M) :=
  (f_X10_closeText F t (aw_b x1) (μ.1 (aw_rf t 5) 0) μ).bind fun r5 =>
  some (r5.1, r5.2)
theorem c_X10_plans_37 (l : Launch) (F : Nat) (t : Nat) (ht : (aw_sh t).1 = 15) (x1 : Bool) (μ : aw_M) : AW l k_X10_plans aw_gi 37 [some (.ref t), some (.int (aw_b x1))] [] μ (f_X10_plans_37 F t x1 μ) := by
  unfold f_X10_plans_37
  refine aw_aload_n (n := 38) dX10_plans_37 rfl rfl ?_
  refine aw_iload_n (n := 39) dX10_plans_38 rfl rfl ?_
  refine aw_aload_n (n := 40) dX10_plans_39 rfl rfl ?_
  refine aw_getR (n := 43) (RX10, TX10, 12) 10 5 dX10_plans_40 rfl ht (by decide) fd_RX10_41 ?_
  refine aw_getI (n := 46) (RX2, TX2, 4) 2 0 dX10_plans_43 rfl (sf_10_5 ht) (by decide) fd_RX10_126 ?_
  refine aw_callVi (n := 49) (as := [.int (aw_b x1), .int (μ.1 (aw_rf t 5) 0)]) (st := []) (RX10, TX10, 12) 10 dX10_plans_46 rfl rfl (m_X10_closeText l F t ht (aw_b x1) (μ.1 (aw_rf t 5) 0) μ) ht (by decide) rfl rfl cw_RX10_115 ⟨Nat.le_of_ble_eq_true rfl, Nat.le_of_ble_eq_true rfl⟩ (fun _ => Nat.le_of_ble_eq_true rfl) (fun r5 => ?_)
  exact aw_ireturn dX10_plans_49 rfl rfl
def f_X10_plans (F : Nat) (t : Nat) (μ : aw_M) : Option (Int32 × aw_M) :=
  (f_X2_readFrom F (aw_rf t 5) (aw_rf t 0) (aw_rf (aw_rf t 1) 0) μ).bind fun r4 =>
  (if r4.1 = true then
  (f_X2_takeFrom F (aw_rf (aw_rf t 1) 1) (aw_rf t 5) r4.2).bind fun r6 =>
  f_X10_plans_37 F t r4.1 r6
  else
  f_X10_plans_37 F t r4.1 r4.2)
theorem m_X10_plans (l : Launch) (F : Nat) (t : Nat) (ht : (aw_sh t).1 = 15) (μ : aw_M) : AM l yX10_plans cX10_plans 2 (some .int) (6) (233) aw_gi [.ref t] μ (f_X10_plans F t μ) := by
  refine aw_met [some (.ref t), none] (by decide) (fun _ => rfl) (fun _ => Nat.le_of_ble_eq_true rfl) ?_
  show AW l k_X10_plans aw_gi 0 [some (.ref t), none] [] μ _
  unfold f_X10_plans
  refine aw_aload_n (n := 1) dX10_plans_0 rfl rfl ?_
  refine aw_getR (n := 4) (RX10, TX10, 12) 10 5 dX10_plans_1 rfl ht (by decide) fd_RX10_41 ?_
  refine aw_aload_n (n := 5) dX10_plans_4 rfl rfl ?_
  refine aw_getR (n := 8) (RX10, TX10, 12) 10 0 dX10_plans_5 rfl ht (by decide) fd_RX10_12 ?_
  refine aw_aload_n (n := 9) dX10_plans_8 rfl rfl ?_
  refine aw_getR (n := 12) (RX10, TX10, 12) 10 1 dX10_plans_9 rfl ht (by decide) fd_RX10_19 ?_
  refine aw_getR (n := 15) (RX4, TX4, 5) 4 0 dX10_plans_12 rfl (sf_10_1 ht) (by decide) fd_RX10_54 ?_
  refine aw_callVz (n := 18) (as := [.ref (aw_rf t 0), .ref (aw_rf (aw_rf t 1) 0)]) (st := []) (RX2, TX2, 4) 2 dX10_plans_15 rfl rfl (m_X2_readFrom l F (aw_rf t 5) (sf_10_5 ht) (aw_rf t 0) (sf_10_0 ht) (aw_rf (aw_rf t 1) 0) (sf_4_0 (sf_10_1 ht)) μ) (sf_10_5 ht) (by decide) rfl rfl cw_RX10_119 ⟨Nat.le_of_ble_eq_true rfl, Nat.le_of_ble_eq_true rfl⟩ (fun _ => Nat.le_of_ble_eq_true rfl) (fun r4 => ?_)
  refine aw_istore_n (n := 19) [some (.ref t), some (.int (aw_b r4.1))] dX10_plans_18 rfl rfl (Nat.le_of_ble_eq_true rfl) (Nat.le_of_ble_eq_true rfl) rfl ?_
  refine aw_iload_n (n := 20) dX10_plans_19 rfl rfl ?_
  refine aw_ifb_eq (n := 23) 37 dX10_plans_20 (by decide) rfl ?_ ?_
  · exact aw_weak (c_X10_plans_37 l F t ht r4.1 r4.2) (aw_ss (aw_ss aw_s0))
  · refine aw_aload_n (n := 24) dX10_plans_23 rfl rfl ?_
    refine aw_getR (n := 27) (RX10, TX10, 12) 10 1 dX10_plans_24 rfl ht (by decide) fd_RX10_19 ?_
    refine aw_getR (n := 30) (RX4, TX4, 5) 4 1 dX10_plans_27 rfl (sf_10_1 ht) (by decide) fd_RX10_57 ?_
    refine aw_aload_n (n := 31) dX10_plans_30 rfl rfl ?_
    refine aw_getR (n := 34) (RX10, TX10, 12) 10 5 dX10_plans_31 rfl ht (by decide) fd_RX10_41 ?_
    refine aw_callVv (n := 37) (as := [.ref (aw_rf t 5)]) (st := []) (RX2, TX2, 4) 2 dX10_plans_34 rfl rfl (m_X2_takeFrom l F (aw_rf (aw_rf t 1) 1) (sf_4_1 (sf_10_1 ht)) (aw_rf t 5) (sf_10_5 ht) r4.2) (sf_4_1 (sf_10_1 ht)) (by decide) rfl rfl cw_RX10_122 ⟨Nat.le_of_ble_eq_true rfl, Nat.le_of_ble_eq_true rfl⟩ (fun _ => Nat.le_of_ble_eq_true rfl) (fun r6 => ?_)
    exact aw_weak (c_X10_plans_37 l F t ht r4.1 r6) (aw_ss (aw_ss aw_s0))
abbrev k_X10_fault : aw_K := (RX10, cX10_fault, 1, (some .int), 1, 120)
def f_X10_fault (F : Nat) (t : Nat) (μ : aw_M) : Option (Int32 × aw_M) :=
  some ((μ.1 t 11), μ)
theorem m_X10_fault (l : Launch) (F : Nat) (t : Nat) (ht : (aw_sh t).1 = 15) (μ : aw_M) : AM l yX10_fault cX10_fault 1 (some .int) 1 120 aw_gi [.ref t] μ (f_X10_fault F t μ) := by
  refine aw_met [some (.ref t)] (by decide) (fun _ => rfl) (fun _ => Nat.le_of_ble_eq_true rfl) ?_
  show AW l k_X10_fault aw_gi 0 [some (.ref t)] [] μ _
  unfold f_X10_fault
  refine aw_aload_n (n := 1) dX10_fault_0 rfl rfl ?_
  refine aw_getI (n := 4) (RX10, TX10, 12) 10 11 dX10_fault_1 rfl ht (by decide) fd_RX10_139 ?_
  exact aw_ireturn dX10_fault_4 rfl rfl
abbrev k_X10_isQuarter : aw_K := (RX10, cX10_isQuarter, 2, (some .boolean), 1, 120)
def f_X10_isQuarter (F : Nat) (t : Nat) (a0 : Int32) (μ : aw_M) : Option (Bool × aw_M) :=
  (if a0 < 0 then
  some (false, μ)
  else
  (if (μ.1 (aw_rf (aw_rf t 1) 0) 3) ≤ a0 then
  some (false, μ)
  else
  some (true, μ)))
theorem m_X10_isQuarter (l : Launch) (F : Nat) (t : Nat) (ht : (aw_sh t).1 = 15) (a0 : Int32) (μ : aw_M) : AM l yX10_isQuarter cX10_isQuarter 2 (some .boolean) 1 120 aw_gz [.ref t, .int a0] μ (f_X10_isQuarter F t a0 μ) := by
  refine aw_met [some (.ref t), some (.int a0)] (by decide) (fun _ => rfl) (fun _ => Nat.le_of_ble_eq_true rfl) ?_
  show AW l k_X10_isQuarter aw_gz 0 [some (.ref t), some (.int a0)] [] μ _
  unfold f_X10_isQuarter
  refine aw_iload_n (n := 1) dX10_isQuarter_0 rfl rfl ?_
  refine aw_if_lt (n := 4) 22 dX10_isQuarter_1 (by decide) rfl ?_ ?_
  · refine aw_iconst (n := 23) 0 dX10_isQuarter_22 rfl (by decide) ?_
    exact aw_zreturn (b := false) dX10_isQuarter_23 rfl rfl
  · refine aw_iload_n (n := 5) dX10_isQuarter_4 rfl rfl ?_
    refine aw_aload_n (n := 6) dX10_isQuarter_5 rfl rfl ?_
    refine aw_getR (n := 9) (RX10, TX10, 12) 10 1 dX10_isQuarter_6 rfl ht (by decide) fd_RX10_19 ?_
    refine aw_getR (n := 12) (RX4, TX4, 5) 4 0 dX10_isQuarter_9 rfl (sf_10_1 ht) (by decide) fd_RX10_54 ?_
    refine aw_getI (n := 15) (RX8, TX8, 20) 8 3 dX10_isQuarter_12 rfl (sf_4_0 (sf_10_1 ht)) (by decide) fd_RX10_316 ?_
    refine aw_icmp_ge (n := 18) 22 dX10_isQuarter_15 (by decide) rfl ?_ ?_
    · refine aw_iconst (n := 23) 0 dX10_isQuarter_22 rfl (by decide) ?_
      exact aw_zreturn (b := false) dX10_isQuarter_23 rfl rfl
    · refine aw_iconst (n := 19) 1 dX10_isQuarter_18 rfl (by decide) ?_
      refine aw_goto 23 dX10_isQuarter_19 (by decide) ?_
      exact aw_zreturn (b := true) dX10_isQuarter_23 rfl rfl
abbrev k_X10_quarterNow : aw_K := (RX10, cX10_quarterNow, 3, (some .int), 1, 120)
def f_X10_quarterNow (F : Nat) (t : Nat) (a0 : Int32) (a1 : Int32) (μ : aw_M) : Option (Int32 × aw_M) :=
  (aw_sel ((a1 : Int32).toInt - 0) [(aw_g (aw_in a0 9) (some ((μ.1 (aw_rf (aw_rf (aw_rf t 1) 0) 6) a0.toNatClampNeg), μ))), (aw_g (aw_in a0 9) (some ((μ.1 (aw_rf (aw_rf (aw_rf t 1) 0) 8) a0.toNatClampNeg), μ))), (aw_g (aw_in a0 9) (some ((μ.1 (aw_rf (aw_rf (aw_rf t 1) 4) 9) a0.toNatClampNeg), μ))), (aw_g (aw_in a0 9) (some ((μ.1 (aw_rf (aw_rf (aw_rf t 1) 4) 10) a0.toNatClampNeg), μ))), (aw_g (aw_in a0 9) (some ((μ.1 (aw_rf (aw_rf (aw_rf t 1) 4) 11) a0.toNatClampNeg), μ)))] (aw_g (aw_in a0 9) (some ((μ.1 (aw_rf (aw_rf (aw_rf t 1) 4) 12) a0.toNatClampNeg), μ))))
theorem m_X10_quarterNow (l : Launch) (F : Nat) (t : Nat) (ht : (aw_sh t).1 = 15) (a0 : Int32) (a1 : Int32) (μ : aw_M) : AM l yX10_quarterNow cX10_quarterNow 3 (some .int) 1 120 aw_gi [.ref t, .int a0, .int a1] μ (f_X10_quarterNow F t a0 a1 μ) := by
  refine aw_met [some (.ref t), some (.int a0), some (.int a1)] (by decide) (fun _ => rfl) (fun _ => Nat.le_of_ble_eq_true rfl) ?_
  show AW l k_X10_quarterNow aw_gi 0 [some (.ref t), some (.int a0), some (.int a1)] [] μ _
  unfold f_X10_quarterNow
  refine aw_iload_n (n := 1) dX10_quarterNow_0 rfl rfl ?_
  refine aw_tsw [36, 49, 62, 75, 88] 101 dX10_quarterNow_1 (by decide) (by decide) (by decide) ⟨?_, ?_, ?_, ?_, ?_, trivial⟩ ?_
  · refine aw_aload_n (n := 37) dX10_quarterNow_36 rfl rfl ?_
    refine aw_getR (n := 40) (RX10, TX10, 12) 10 1 dX10_quarterNow_37 rfl ht (by decide) fd_RX10_19 ?_
    refine aw_getR (n := 43) (RX4, TX4, 5) 4 0 dX10_quarterNow_40 rfl (sf_10_1 ht) (by decide) fd_RX10_54 ?_
    refine aw_getR (n := 46) (RX8, TX8, 20) 8 6 dX10_quarterNow_43 rfl (sf_4_0 (sf_10_1 ht)) (by decide) fd_RX10_342 ?_
    refine aw_iload_n (n := 47) dX10_quarterNow_46 rfl rfl ?_
    refine aw_iaload (n := 48) 9 dX10_quarterNow_47 rfl (sf_8_6 (sf_4_0 (sf_10_1 ht))) ?_
    exact aw_ireturn dX10_quarterNow_48 rfl rfl
  · refine aw_aload_n (n := 50) dX10_quarterNow_49 rfl rfl ?_
    refine aw_getR (n := 53) (RX10, TX10, 12) 10 1 dX10_quarterNow_50 rfl ht (by decide) fd_RX10_19 ?_
    refine aw_getR (n := 56) (RX4, TX4, 5) 4 0 dX10_quarterNow_53 rfl (sf_10_1 ht) (by decide) fd_RX10_54 ?_
    refine aw_getR (n := 59) (RX8, TX8, 20) 8 8 dX10_quarterNow_56 rfl (sf_4_0 (sf_10_1 ht)) (by decide) fd_RX10_345 ?_
    refine aw_iload_n (n := 60) dX10_quarterNow_59 rfl rfl ?_
    refine aw_iaload (n := 61) 9 dX10_quarterNow_60 rfl (sf_8_8 (sf_4_0 (sf_10_1 ht))) ?_
    exact aw_ireturn dX10_quarterNow_61 rfl rfl
  · refine aw_aload_n (n := 63) dX10_quarterNow_62 rfl rfl ?_
    refine aw_getR (n := 66) (RX10, TX10, 12) 10 1 dX10_quarterNow_63 rfl ht (by decide) fd_RX10_19 ?_
    refine aw_getR (n := 69) (RX4, TX4, 5) 4 4 dX10_quarterNow_66 rfl (sf_10_1 ht) (by decide) fd_RX10_166 ?_
    refine aw_getR (n := 72) (RX0, TX0, 20) 0 9 dX10_quarterNow_69 rfl (sf_4_4 (sf_10_1 ht)) (by decide) fd_RX10_348 ?_
    refine aw_iload_n (n := 73) dX10_quarterNow_72 rfl rfl ?_
    refine aw_iaload (n := 74) 9 dX10_quarterNow_73 rfl (sf_0_9 (sf_4_4 (sf_10_1 ht))) ?_
    exact aw_ireturn dX10_quarterNow_74 rfl rfl
  · refine aw_aload_n (n := 76) dX10_quarterNow_75 rfl rfl ?_
    refine aw_getR (n := 79) (RX10, TX10, 12) 10 1 dX10_quarterNow_76 rfl ht (by decide) fd_RX10_19 ?_
    refine aw_getR (n := 82) (RX4, TX4, 5) 4 4 dX10_quarterNow_79 rfl (sf_10_1 ht) (by decide) fd_RX10_166 ?_
    refine aw_getR (n := 85) (RX0, TX0, 20) 0 10 dX10_quarterNow_82 rfl (sf_4_4 (sf_10_1 ht)) (by decide) fd_RX10_310 ?_
    refine aw_iload_n (n := 86) dX10_quarterNow_85 rfl rfl ?_
    refine aw_iaload (n := 87) 9 dX10_quarterNow_86 rfl (sf_0_10 (sf_4_4 (sf_10_1 ht))) ?_
    exact aw_ireturn dX10_quarterNow_87 rfl rfl
  · refine aw_aload_n (n := 89) dX10_quarterNow_88 rfl rfl ?_
    refine aw_getR (n := 92) (RX10, TX10, 12) 10 1 dX10_quarterNow_89 rfl ht (by decide) fd_RX10_19 ?_
    refine aw_getR (n := 95) (RX4, TX4, 5) 4 4 dX10_quarterNow_92 rfl (sf_10_1 ht) (by decide) fd_RX10_166 ?_
    refine aw_getR (n := 98) (RX0, TX0, 20) 0 11 dX10_quarterNow_95 rfl (sf_4_4 (sf_10_1 ht)) (by decide) fd_RX10_351 ?_
    refine aw_iload_n (n := 99) dX10_quarterNow_98 rfl rfl ?_
    refine aw_iaload (n := 100) 9 dX10_quarterNow_99 rfl (sf_0_11 (sf_4_4 (sf_10_1 ht))) ?_
    exact aw_ireturn dX10_quarterNow_100 rfl rfl
  · refine aw_aload_n (n := 102) dX10_quarterNow_101 rfl rfl ?_
    refine aw_getR (n := 105) (RX10, TX10, 12) 10 1 dX10_quarterNow_102 rfl ht (by decide) fd_RX10_19 ?_
    refine aw_getR (n := 108) (RX4, TX4, 5) 4 4 dX10_quarterNow_105 rfl (sf_10_1 ht) (by decide) fd_RX10_166 ?_
    refine aw_getR (n := 111) (RX0, TX0, 20) 0 12 dX10_quarterNow_108 rfl (sf_4_4 (sf_10_1 ht)) (by decide) fd_RX10_354 ?_
    refine aw_iload_n (n := 112) dX10_quarterNow_111 rfl rfl ?_
    refine aw_iaload (n := 113) 9 dX10_quarterNow_112 rfl (sf_0_12 (sf_4_4 (sf_10_1 ht))) ?_
    exact aw_ireturn dX10_quarterNow_113 rfl rfl
abbrev k_X10_quarterTold : aw_K := (RX10, cX10_quarterTold, 3, (some .int), 1, 120)
def f_X10_quarterTold (F : Nat) (t : Nat) (a0 : Int32) (a1 : Int32) (μ : aw_M) : Option (Int32 × aw_M) :=
  (aw_sel ((a1 : Int32).toInt - 6) [(aw_g (aw_in a0 9) (some ((μ.1 (aw_rf (aw_rf (aw_rf t 1) 1) 1) a0.toNatClampNeg), μ))), (aw_g (aw_in a0 9) (some ((μ.1 (aw_rf (aw_rf (aw_rf t 1) 1) 2) a0.toNatClampNeg), μ))), (aw_g (aw_in a0 9) (some ((μ.1 (aw_rf (aw_rf (aw_rf t 1) 1) 3) a0.toNatClampNeg), μ)))] (aw_g (aw_in a0 9) (some ((μ.1 (aw_rf (aw_rf (aw_rf t 1) 0) 9) a0.toNatClampNeg), μ))))
theorem m_X10_quarterTold (l : Launch) (F : Nat) (t : Nat) (ht : (aw_sh t).1 = 15) (a0 : Int32) (a1 : Int32) (μ : aw_M) : AM l yX10_quarterTold cX10_quarterTold 3 (some .int) 1 120 aw_gi [.ref t, .int a0, .int a1] μ (f_X10_quarterTold F t a0 a1 μ) := by
  refine aw_met [some (.ref t), some (.int a0), some (.int a1)] (by decide) (fun _ => rfl) (fun _ => Nat.le_of_ble_eq_true rfl) ?_
  show AW l k_X10_quarterTold aw_gi 0 [some (.ref t), some (.int a0), some (.int a1)] [] μ _
  unfold f_X10_quarterTold
  refine aw_iload_n (n := 1) dX10_quarterTold_0 rfl rfl ?_
  refine aw_tsw [28, 41, 54] 67 dX10_quarterTold_1 (by decide) (by decide) (by decide) ⟨?_, ?_, ?_, trivial⟩ ?_
  · refine aw_aload_n (n := 29) dX10_quarterTold_28 rfl rfl ?_
    refine aw_getR (n := 32) (RX10, TX10, 12) 10 1 dX10_quarterTold_29 rfl ht (by decide) fd_RX10_19 ?_
    refine aw_getR (n := 35) (RX4, TX4, 5) 4 1 dX10_quarterTold_32 rfl (sf_10_1 ht) (by decide) fd_RX10_57 ?_
    refine aw_getR (n := 38) (RX2, TX2, 4) 2 1 dX10_quarterTold_35 rfl (sf_4_1 (sf_10_1 ht)) (by decide) fd_RX10_357 ?_
    refine aw_iload_n (n := 39) dX10_quarterTold_38 rfl rfl ?_
    refine aw_iaload (n := 40) 9 dX10_quarterTold_39 rfl (sf_2_1 (sf_4_1 (sf_10_1 ht))) ?_
    exact aw_ireturn dX10_quarterTold_40 rfl rfl
  · refine aw_aload_n (n := 42) dX10_quarterTold_41 rfl rfl ?_
    refine aw_getR (n := 45) (RX10, TX10, 12) 10 1 dX10_quarterTold_42 rfl ht (by decide) fd_RX10_19 ?_
    refine aw_getR (n := 48) (RX4, TX4, 5) 4 1 dX10_quarterTold_45 rfl (sf_10_1 ht) (by decide) fd_RX10_57 ?_
    refine aw_getR (n := 51) (RX2, TX2, 4) 2 2 dX10_quarterTold_48 rfl (sf_4_1 (sf_10_1 ht)) (by decide) fd_RX10_360 ?_
    refine aw_iload_n (n := 52) dX10_quarterTold_51 rfl rfl ?_
    refine aw_iaload (n := 53) 9 dX10_quarterTold_52 rfl (sf_2_2 (sf_4_1 (sf_10_1 ht))) ?_
    exact aw_ireturn dX10_quarterTold_53 rfl rfl
  · refine aw_aload_n (n := 55) dX10_quarterTold_54 rfl rfl ?_
    refine aw_getR (n := 58) (RX10, TX10, 12) 10 1 dX10_quarterTold_55 rfl ht (by decide) fd_RX10_19 ?_
    refine aw_getR (n := 61) (RX4, TX4, 5) 4 1 dX10_quarterTold_58 rfl (sf_10_1 ht) (by decide) fd_RX10_57 ?_
    refine aw_getR (n := 64) (RX2, TX2, 4) 2 3 dX10_quarterTold_61 rfl (sf_4_1 (sf_10_1 ht)) (by decide) fd_RX10_363 ?_
    refine aw_iload_n (n := 65) dX10_quarterTold_64 rfl rfl ?_
    refine aw_iaload (n := 66) 9 dX10_quarterTold_65 rfl (sf_2_3 (sf_4_1 (sf_10_1 ht))) ?_
    exact aw_ireturn dX10_quarterTold_66 rfl rfl
  · refine aw_aload_n (n := 68) dX10_quarterTold_67 rfl rfl ?_
    refine aw_getR (n := 71) (RX10, TX10, 12) 10 1 dX10_quarterTold_68 rfl ht (by decide) fd_RX10_19 ?_
    refine aw_getR (n := 74) (RX4, TX4, 5) 4 0 dX10_quarterTold_71 rfl (sf_10_1 ht) (by decide) fd_RX10_54 ?_
    refine aw_getR (n := 77) (RX8, TX8, 20) 8 9 dX10_quarterTold_74 rfl (sf_4_0 (sf_10_1 ht)) (by decide) fd_RX10_366 ?_
    refine aw_iload_n (n := 78) dX10_quarterTold_77 rfl rfl ?_
    refine aw_iaload (n := 79) 9 dX10_quarterTold_78 rfl (sf_8_9 (sf_4_0 (sf_10_1 ht))) ?_
    exact aw_ireturn dX10_quarterTold_79 rfl rfl
abbrev k_X10_isCart : aw_K := (RX10, cX10_isCart, 2, (some .boolean), 1, 120)
def f_X10_isCart (F : Nat) (t : Nat) (a0 : Int32) (μ : aw_M) : Option (Bool × aw_M) :=
  (if a0 < 0 then
  some (false, μ)
  else
  (if (μ.1 (aw_rf (aw_rf t 1) 0) 4) ≤ a0 then
  some (false, μ)
  else
  some (true, μ)))
theorem m_X10_isCart (l : Launch) (F : Nat) (t : Nat) (ht : (aw_sh t).1 = 15) (a0 : Int32) (μ : aw_M) : AM l yX10_isCart cX10_isCart 2 (some .boolean) 1 120 aw_gz [.ref t, .int a0] μ (f_X10_isCart F t a0 μ) := by
  refine aw_met [some (.ref t), some (.int a0)] (by decide) (fun _ => rfl) (fun _ => Nat.le_of_ble_eq_true rfl) ?_
  show AW l k_X10_isCart aw_gz 0 [some (.ref t), some (.int a0)] [] μ _
  unfold f_X10_isCart
  refine aw_iload_n (n := 1) dX10_isCart_0 rfl rfl ?_
  refine aw_if_lt (n := 4) 22 dX10_isCart_1 (by decide) rfl ?_ ?_
  · refine aw_iconst (n := 23) 0 dX10_isCart_22 rfl (by decide) ?_
    exact aw_zreturn (b := false) dX10_isCart_23 rfl rfl
  · refine aw_iload_n (n := 5) dX10_isCart_4 rfl rfl ?_
    refine aw_aload_n (n := 6) dX10_isCart_5 rfl rfl ?_
    refine aw_getR (n := 9) (RX10, TX10, 12) 10 1 dX10_isCart_6 rfl ht (by decide) fd_RX10_19 ?_
    refine aw_getR (n := 12) (RX4, TX4, 5) 4 0 dX10_isCart_9 rfl (sf_10_1 ht) (by decide) fd_RX10_54 ?_
    refine aw_getI (n := 15) (RX8, TX8, 20) 8 4 dX10_isCart_12 rfl (sf_4_0 (sf_10_1 ht)) (by decide) fd_RX10_332 ?_
    refine aw_icmp_ge (n := 18) 22 dX10_isCart_15 (by decide) rfl ?_ ?_
    · refine aw_iconst (n := 23) 0 dX10_isCart_22 rfl (by decide) ?_
      exact aw_zreturn (b := false) dX10_isCart_23 rfl rfl
    · refine aw_iconst (n := 19) 1 dX10_isCart_18 rfl (by decide) ?_
      refine aw_goto 23 dX10_isCart_19 (by decide) ?_
      exact aw_zreturn (b := true) dX10_isCart_23 rfl rfl
abbrev k_X10_begin : aw_K := (RX10, cX10_begin, 2, none, 4, 184)
def f_X10_begin (F : Nat) (t : Nat) (a0 : Int32) (μ : aw_M) : Option (aw_M) :=
  (f_X0_restart F (aw_rf (aw_rf t 1) 4) a0 μ).bind fun r1 =>
  some r1
theorem m_X10_begin (l : Launch) (F : Nat) (t : Nat) (ht : (aw_sh t).1 = 15) (a0 : Int32) (μ : aw_M) : AM l yX10_begin cX10_begin 2 none 4 184 aw_gv [.ref t, .int a0] μ (f_X10_begin F t a0 μ) := by
  refine aw_met [some (.ref t), some (.int a0)] (by decide) (fun _ => rfl) (fun _ => Nat.le_of_ble_eq_true rfl) ?_
  show AW l k_X10_begin aw_gv 0 [some (.ref t), some (.int a0)] [] μ _
  unfold f_X10_begin
  refine aw_aload_n (n := 1) dX10_begin_0 rfl rfl ?_
  refine aw_getR (n := 4) (RX10, TX10, 12) 10 1 dX10_begin_1 rfl ht (by decide) fd_RX10_19 ?_
  refine aw_getR (n := 7) (RX4, TX4, 5) 4 4 dX10_begin_4 rfl (sf_10_1 ht) (by decide) fd_RX10_166 ?_
  refine aw_iload_n (n := 8) dX10_begin_7 rfl rfl ?_
  refine aw_callVv (n := 11) (as := [.int a0]) (st := []) (RX0, TX0, 20) 0 dX10_begin_8 rfl rfl (m_X0_restart l F (aw_rf (aw_rf t 1) 4) (sf_4_4 (sf_10_1 ht)) a0 μ) (sf_4_4 (sf_10_1 ht)) (by decide) rfl rfl cw_RX10_201 ⟨Nat.le_of_ble_eq_true rfl, Nat.le_of_ble_eq_true rfl⟩ (fun _ => Nat.le_of_ble_eq_true rfl) (fun r1 => ?_)
  exact aw_vreturn dX10_begin_11 rfl rfl
abbrev k_X10_on : aw_K := (RX10, cX10_on, 2, (some .int), 6, 238)
def f_X10_on_12 (F : Nat) (t : Nat) (μ : aw_M) : Option (Int32 × aw_M) :=
  some ((-1), μ)
theorem c_X10_on_12 (l : Launch) (F : Nat) (t : Nat) (ht : (aw_sh t).1 = 15) (μ : aw_M) : AW l k_X10_on aw_gi 12 [none, none] [] μ (f_X10_on_12 F t μ) := by
  unfold f_X10_on_12
  refine aw_iconst (n := 13) (-1) dX10_on_12 rfl (by decide) ?_
  refine aw_goto 27 dX10_on_13 (by decide) ?_
  exact aw_ireturn dX10_on_27 rfl rfl
def f_X10_on (F : Nat) (t : Nat) (a0 : Int32) (μ : aw_M) : Option (Int32 × aw_M) :=
  (if a0 < 1 then
  f_X10_on_12 F t μ
  else
  (if a0 ≤ 720 then
  (f_X0_pass F (aw_rf (aw_rf t 1) 4) a0 μ).bind fun r2 =>
  some (r2.1, r2.2)
  else
  f_X10_on_12 F t μ))
theorem m_X10_on (l : Launch) (F : Nat) (t : Nat) (ht : (aw_sh t).1 = 15) (a0 : Int32) (μ : aw_M) : AM l yX10_on cX10_on 2 (some .int) 6 238 aw_gi [.ref t, .int a0] μ (f_X10_on F t a0 μ) := by
  refine aw_met [some (.ref t), some (.int a0)] (by decide) (fun _ => rfl) (fun _ => Nat.le_of_ble_eq_true rfl) ?_
  show AW l k_X10_on aw_gi 0 [some (.ref t), some (.int a0)] [] μ _
  unfold f_X10_on
  refine aw_iload_n (n := 1) dX10_on_0 rfl rfl ?_
  refine aw_iconst (n := 2) 1 dX10_on_1 rfl (by decide) ?_
  refine aw_icmp_lt (n := 5) 12 dX10_on_2 (by decide) rfl ?_ ?_
  · exact aw_weak (c_X10_on_12 l F t ht μ) (aw_sn (aw_sn aw_s0))
  · refine aw_iload_n (n := 6) dX10_on_5 rfl rfl ?_
    refine aw_sipush (n := 9) 720 dX10_on_6 rfl (by decide) ?_
    refine aw_icmp_le (n := 12) 16 dX10_on_9 (by decide) rfl ?_ ?_
    · refine aw_aload_n (n := 17) dX10_on_16 rfl rfl ?_
      refine aw_getR (n := 20) (RX10, TX10, 12) 10 1 dX10_on_17 rfl ht (by decide) fd_RX10_19 ?_
      refine aw_getR (n := 23) (RX4, TX4, 5) 4 4 dX10_on_20 rfl (sf_10_1 ht) (by decide) fd_RX10_166 ?_
      refine aw_iload_n (n := 24) dX10_on_23 rfl rfl ?_
      refine aw_callVi (n := 27) (as := [.int a0]) (st := []) (RX0, TX0, 20) 0 dX10_on_24 rfl rfl (m_X0_pass l F (aw_rf (aw_rf t 1) 4) (sf_4_4 (sf_10_1 ht)) a0 μ) (sf_4_4 (sf_10_1 ht)) (by decide) rfl rfl cw_RX10_204 ⟨Nat.le_of_ble_eq_true rfl, Nat.le_of_ble_eq_true rfl⟩ (fun _ => Nat.le_of_ble_eq_true rfl) (fun r2 => ?_)
      exact aw_ireturn dX10_on_27 rfl rfl
    · exact aw_weak (c_X10_on_12 l F t ht μ) (aw_sn (aw_sn aw_s0))
abbrev k_X10_now : aw_K := (RX10, cX10_now, 3, (some .int), 2, 142)
def f_X10_now (F : Nat) (t : Nat) (a0 : Int32) (μ : aw_M) : Option (Int32 × aw_M) :=
  (aw_sel ((a0 : Int32).toInt - 0) [(some ((μ.1 (aw_rf (aw_rf t 1) 4) 3), μ)), (some ((μ.1 (aw_rf (aw_rf t 1) 4) 4), μ)), (some ((μ.1 (aw_rf (aw_rf t 1) 4) 6), μ)), (some ((μ.1 (aw_rf (aw_rf t 1) 4) 7), μ)), (aw_g (aw_in 1 5) (some ((μ.1 (aw_rf (aw_rf (aw_rf t 1) 4) 8) (1 : Int32).toNatClampNeg), μ))), (aw_g (aw_in 0 5) (some ((μ.1 (aw_rf (aw_rf (aw_rf t 1) 4) 8) (0 : Int32).toNatClampNeg), μ))), (aw_g (aw_in 2 5) (some ((μ.1 (aw_rf (aw_rf (aw_rf t 1) 4) 8) (2 : Int32).toNatClampNeg), μ))), ((f_X0_allPulp F (aw_rf (aw_rf t 1) 4) μ).bind fun r1 =>
  some (r1.1, r1.2))] (some ((-1), μ)))
theorem m_X10_now (l : Launch) (F : Nat) (t : Nat) (ht : (aw_sh t).1 = 15) (a0 : Int32) (μ : aw_M) : AM l yX10_now cX10_now 3 (some .int) 2 142 aw_gi [.ref t, .int a0] μ (f_X10_now F t a0 μ) := by
  refine aw_met [some (.ref t), some (.int a0), none] (by decide) (fun _ => rfl) (fun _ => Nat.le_of_ble_eq_true rfl) ?_
  show AW l k_X10_now aw_gi 0 [some (.ref t), some (.int a0), none] [] μ _
  unfold f_X10_now
  refine aw_aload_n (n := 1) dX10_now_0 rfl rfl ?_
  refine aw_getR (n := 4) (RX10, TX10, 12) 10 1 dX10_now_1 rfl ht (by decide) fd_RX10_19 ?_
  refine aw_getR (n := 7) (RX4, TX4, 5) 4 4 dX10_now_4 rfl (sf_10_1 ht) (by decide) fd_RX10_166 ?_
  refine aw_astore_n (n := 8) [some (.ref t), some (.int a0), some (.ref (aw_rf (aw_rf t 1) 4))] dX10_now_7 rfl rfl (Nat.le_of_ble_eq_true rfl) (Nat.le_of_ble_eq_true rfl) rfl ?_
  refine aw_iload_n (n := 9) dX10_now_8 rfl rfl ?_
  refine aw_tsw [56, 61, 66, 71, 76, 83, 90, 97] 102 dX10_now_9 (by decide) (by decide) (by decide) ⟨?_, ?_, ?_, ?_, ?_, ?_, ?_, ?_, trivial⟩ ?_
  · refine aw_aload_n (n := 57) dX10_now_56 rfl rfl ?_
    refine aw_getI (n := 60) (RX0, TX0, 20) 0 3 dX10_now_57 rfl (sf_4_4 (sf_10_1 ht)) (by decide) fd_RX10_208 ?_
    exact aw_ireturn dX10_now_60 rfl rfl
  · refine aw_aload_n (n := 62) dX10_now_61 rfl rfl ?_
    refine aw_getI (n := 65) (RX0, TX0, 20) 0 4 dX10_now_62 rfl (sf_4_4 (sf_10_1 ht)) (by decide) fd_RX10_178 ?_
    exact aw_ireturn dX10_now_65 rfl rfl
  · refine aw_aload_n (n := 67) dX10_now_66 rfl rfl ?_
    refine aw_getI (n := 70) (RX0, TX0, 20) 0 6 dX10_now_67 rfl (sf_4_4 (sf_10_1 ht)) (by decide) fd_RX10_211 ?_
    exact aw_ireturn dX10_now_70 rfl rfl
  · refine aw_aload_n (n := 72) dX10_now_71 rfl rfl ?_
    refine aw_getI (n := 75) (RX0, TX0, 20) 0 7 dX10_now_72 rfl (sf_4_4 (sf_10_1 ht)) (by decide) fd_RX10_214 ?_
    exact aw_ireturn dX10_now_75 rfl rfl
  · refine aw_aload_n (n := 77) dX10_now_76 rfl rfl ?_
    refine aw_getR (n := 80) (RX0, TX0, 20) 0 8 dX10_now_77 rfl (sf_4_4 (sf_10_1 ht)) (by decide) fd_RX10_217 ?_
    refine aw_iconst (n := 81) 1 dX10_now_80 rfl (by decide) ?_
    refine aw_iaload (n := 82) 5 dX10_now_81 rfl (sf_0_8 (sf_4_4 (sf_10_1 ht))) ?_
    exact aw_ireturn dX10_now_82 rfl rfl
  · refine aw_aload_n (n := 84) dX10_now_83 rfl rfl ?_
    refine aw_getR (n := 87) (RX0, TX0, 20) 0 8 dX10_now_84 rfl (sf_4_4 (sf_10_1 ht)) (by decide) fd_RX10_217 ?_
    refine aw_iconst (n := 88) 0 dX10_now_87 rfl (by decide) ?_
    refine aw_iaload (n := 89) 5 dX10_now_88 rfl (sf_0_8 (sf_4_4 (sf_10_1 ht))) ?_
    exact aw_ireturn dX10_now_89 rfl rfl
  · refine aw_aload_n (n := 91) dX10_now_90 rfl rfl ?_
    refine aw_getR (n := 94) (RX0, TX0, 20) 0 8 dX10_now_91 rfl (sf_4_4 (sf_10_1 ht)) (by decide) fd_RX10_217 ?_
    refine aw_iconst (n := 95) 2 dX10_now_94 rfl (by decide) ?_
    refine aw_iaload (n := 96) 5 dX10_now_95 rfl (sf_0_8 (sf_4_4 (sf_10_1 ht))) ?_
    exact aw_ireturn dX10_now_96 rfl rfl
  · refine aw_aload_n (n := 98) dX10_now_97 rfl rfl ?_
    refine aw_callVi (n := 101) (as := []) (st := []) (RX0, TX0, 20) 0 dX10_now_98 rfl rfl (m_X0_allPulp l F (aw_rf (aw_rf t 1) 4) (sf_4_4 (sf_10_1 ht)) μ) (sf_4_4 (sf_10_1 ht)) (by decide) rfl rfl cw_RX10_220 ⟨Nat.le_of_ble_eq_true rfl, Nat.le_of_ble_eq_true rfl⟩ (fun _ => Nat.le_of_ble_eq_true rfl) (fun r1 => ?_)
    exact aw_ireturn dX10_now_101 rfl rfl
  · refine aw_iconst (n := 103) (-1) dX10_now_102 rfl (by decide) ?_
    exact aw_ireturn dX10_now_103 rfl rfl
abbrev k_X10_thrown : aw_K := (RX10, cX10_thrown, 3, (some .int), 1, 120)
def f_X10_thrown (F : Nat) (t : Nat) (a0 : Int32) (a1 : Int32) (μ : aw_M) : Option (Int32 × aw_M) :=
  (if a0 < 0 then
  some ((-1), μ)
  else
  (if (μ.1 (aw_rf (aw_rf t 1) 4) 18) ≤ a0 then
  some ((-1), μ)
  else
  (if a1 < 0 then
  some ((-1), μ)
  else
  (if a1 < 6 then
  aw_g (aw_in ((a0 * 6) + a1) 54) (some ((μ.1 (aw_rf (aw_rf (aw_rf t 1) 4) 19) ((a0 * 6) + a1).toNatClampNeg), μ))
  else
  some ((-1), μ)))))
theorem m_X10_thrown (l : Launch) (F : Nat) (t : Nat) (ht : (aw_sh t).1 = 15) (a0 : Int32) (a1 : Int32) (μ : aw_M) : AM l yX10_thrown cX10_thrown 3 (some .int) 1 120 aw_gi [.ref t, .int a0, .int a1] μ (f_X10_thrown F t a0 a1 μ) := by
  refine aw_met [some (.ref t), some (.int a0), some (.int a1)] (by decide) (fun _ => rfl) (fun _ => Nat.le_of_ble_eq_true rfl) ?_
  show AW l k_X10_thrown aw_gi 0 [some (.ref t), some (.int a0), some (.int a1)] [] μ _
  unfold f_X10_thrown
  refine aw_iload_n (n := 1) dX10_thrown_0 rfl rfl ?_
  refine aw_if_lt (n := 4) 28 dX10_thrown_1 (by decide) rfl ?_ ?_
  · refine aw_iconst (n := 29) (-1) dX10_thrown_28 rfl (by decide) ?_
    exact aw_ireturn dX10_thrown_29 rfl rfl
  · refine aw_iload_n (n := 5) dX10_thrown_4 rfl rfl ?_
    refine aw_aload_n (n := 6) dX10_thrown_5 rfl rfl ?_
    refine aw_getR (n := 9) (RX10, TX10, 12) 10 1 dX10_thrown_6 rfl ht (by decide) fd_RX10_19 ?_
    refine aw_getR (n := 12) (RX4, TX4, 5) 4 4 dX10_thrown_9 rfl (sf_10_1 ht) (by decide) fd_RX10_166 ?_
    refine aw_getI (n := 15) (RX0, TX0, 20) 0 18 dX10_thrown_12 rfl (sf_4_4 (sf_10_1 ht)) (by decide) fd_RX10_224 ?_
    refine aw_icmp_ge (n := 18) 28 dX10_thrown_15 (by decide) rfl ?_ ?_
    · refine aw_iconst (n := 29) (-1) dX10_thrown_28 rfl (by decide) ?_
      exact aw_ireturn dX10_thrown_29 rfl rfl
    · refine aw_iload_n (n := 19) dX10_thrown_18 rfl rfl ?_
      refine aw_if_lt (n := 22) 28 dX10_thrown_19 (by decide) rfl ?_ ?_
      · refine aw_iconst (n := 29) (-1) dX10_thrown_28 rfl (by decide) ?_
        exact aw_ireturn dX10_thrown_29 rfl rfl
      · refine aw_iload_n (n := 23) dX10_thrown_22 rfl rfl ?_
        refine aw_bipush (n := 25) 6 dX10_thrown_23 rfl (by decide) ?_
        refine aw_icmp_lt (n := 28) 30 dX10_thrown_25 (by decide) rfl ?_ ?_
        · refine aw_aload_n (n := 31) dX10_thrown_30 rfl rfl ?_
          refine aw_getR (n := 34) (RX10, TX10, 12) 10 1 dX10_thrown_31 rfl ht (by decide) fd_RX10_19 ?_
          refine aw_getR (n := 37) (RX4, TX4, 5) 4 4 dX10_thrown_34 rfl (sf_10_1 ht) (by decide) fd_RX10_166 ?_
          refine aw_getR (n := 40) (RX0, TX0, 20) 0 19 dX10_thrown_37 rfl (sf_4_4 (sf_10_1 ht)) (by decide) fd_RX10_227 ?_
          refine aw_iload_n (n := 41) dX10_thrown_40 rfl rfl ?_
          refine aw_bipush (n := 43) 6 dX10_thrown_41 rfl (by decide) ?_
          refine aw_imul (n := 44) dX10_thrown_43 rfl ?_
          refine aw_iload_n (n := 45) dX10_thrown_44 rfl rfl ?_
          refine aw_iadd (n := 46) dX10_thrown_45 rfl ?_
          refine aw_iaload (n := 47) 54 dX10_thrown_46 rfl (sf_0_19 (sf_4_4 (sf_10_1 ht))) ?_
          exact aw_ireturn dX10_thrown_47 rfl rfl
        · refine aw_iconst (n := 29) (-1) dX10_thrown_28 rfl (by decide) ?_
          exact aw_ireturn dX10_thrown_29 rfl rfl
abbrev k_X10_sand : aw_K := (RX10, cX10_sand, 2, (some .boolean), 2, 141)
def f_X10_sand (F : Nat) (t : Nat) (a0 : Int32) (μ : aw_M) : Option (Bool × aw_M) :=
  (f_X8_hasCell F (aw_rf (aw_rf t 1) 0) a0 μ).bind fun r1 =>
  (if r1.1 = true then
  aw_g (aw_in a0 100) ((if (r1.2.1 (aw_rf (aw_rf (aw_rf t 1) 4) 17) a0.toNatClampNeg) = 0 then
  aw_g (aw_in a0 100) (aw_let (aw_wI r1.2 (aw_rf (aw_rf (aw_rf t 1) 4) 17) a0.toNatClampNeg 1) fun μ2 =>
  some (true, μ2))
  else
  some (false, r1.2)))
  else
  some (false, r1.2))
theorem m_X10_sand (l : Launch) (F : Nat) (t : Nat) (ht : (aw_sh t).1 = 15) (a0 : Int32) (μ : aw_M) : AM l yX10_sand cX10_sand 2 (some .boolean) 2 141 aw_gz [.ref t, .int a0] μ (f_X10_sand F t a0 μ) := by
  refine aw_met [some (.ref t), some (.int a0)] (by decide) (fun _ => rfl) (fun _ => Nat.le_of_ble_eq_true rfl) ?_
  show AW l k_X10_sand aw_gz 0 [some (.ref t), some (.int a0)] [] μ _
  unfold f_X10_sand
  refine aw_aload_n (n := 1) dX10_sand_0 rfl rfl ?_
  refine aw_getR (n := 4) (RX10, TX10, 12) 10 1 dX10_sand_1 rfl ht (by decide) fd_RX10_19 ?_
  refine aw_getR (n := 7) (RX4, TX4, 5) 4 0 dX10_sand_4 rfl (sf_10_1 ht) (by decide) fd_RX10_54 ?_
  refine aw_iload_n (n := 8) dX10_sand_7 rfl rfl ?_
  refine aw_callVz (n := 11) (as := [.int a0]) (st := []) (RX8, TX8, 20) 8 dX10_sand_8 rfl rfl (m_X8_hasCell l F (aw_rf (aw_rf t 1) 0) (sf_4_0 (sf_10_1 ht)) a0 μ) (sf_4_0 (sf_10_1 ht)) (by decide) rfl rfl cw_RX10_186 ⟨Nat.le_of_ble_eq_true rfl, Nat.le_of_ble_eq_true rfl⟩ (fun _ => Nat.le_of_ble_eq_true rfl) (fun r1 => ?_)
  refine aw_ifb_eq (n := 14) 29 dX10_sand_11 (by decide) rfl ?_ ?_
  · refine aw_iconst (n := 30) 0 dX10_sand_29 rfl (by decide) ?_
    exact aw_zreturn (b := false) dX10_sand_30 rfl rfl
  · refine aw_aload_n (n := 15) dX10_sand_14 rfl rfl ?_
    refine aw_getR (n := 18) (RX10, TX10, 12) 10 1 dX10_sand_15 rfl ht (by decide) fd_RX10_19 ?_
    refine aw_getR (n := 21) (RX4, TX4, 5) 4 4 dX10_sand_18 rfl (sf_10_1 ht) (by decide) fd_RX10_166 ?_
    refine aw_getR (n := 24) (RX0, TX0, 20) 0 17 dX10_sand_21 rfl (sf_4_4 (sf_10_1 ht)) (by decide) fd_RX10_198 ?_
    refine aw_iload_n (n := 25) dX10_sand_24 rfl rfl ?_
    refine aw_iaload (n := 26) 100 dX10_sand_25 rfl (sf_0_17 (sf_4_4 (sf_10_1 ht))) ?_
    refine aw_if_eq (n := 29) 31 dX10_sand_26 (by decide) rfl ?_ ?_
    · refine aw_aload_n (n := 32) dX10_sand_31 rfl rfl ?_
      refine aw_getR (n := 35) (RX10, TX10, 12) 10 1 dX10_sand_32 rfl ht (by decide) fd_RX10_19 ?_
      refine aw_getR (n := 38) (RX4, TX4, 5) 4 4 dX10_sand_35 rfl (sf_10_1 ht) (by decide) fd_RX10_166 ?_
      refine aw_getR (n := 41) (RX0, TX0, 20) 0 17 dX10_sand_38 rfl (sf_4_4 (sf_10_1 ht)) (by decide) fd_RX10_198 ?_
      refine aw_iload_n (n := 42) dX10_sand_41 rfl rfl ?_
      refine aw_iconst (n := 43) 1 dX10_sand_42 rfl (by decide) ?_
      refine aw_iastore (n := 44) 100 dX10_sand_43 rfl (sf_0_17 (sf_4_4 (sf_10_1 ht))) (fun μ2 => ?_)
      refine aw_iconst (n := 45) 1 dX10_sand_44 rfl (by decide) ?_
      exact aw_zreturn (b := true) dX10_sand_45 rfl rfl
    · refine aw_iconst (n := 30) 0 dX10_sand_29 rfl (by decide) ?_
      exact aw_zreturn (b := false) dX10_sand_30 rfl rfl
abbrev k_X10_aims : aw_K := (RX10, cX10_aims, 3, (some .int), 4, 195)
def f_X10_aims (F : Nat) (t : Nat) (a0 : Int32) (a1 : Int32) (μ : aw_M) : Option (Int32 × aw_M) :=
  (f_X10_isQuarter F t a0 μ).bind fun r1 =>
  (if r1.1 = true then
  (f_X0_aimedAt F (aw_rf (aw_rf t 1) 4) a0 a1 r1.2).bind fun r2 =>
  some (r2.1, r2.2)
  else
  some ((-1), r1.2))
theorem m_X10_aims (l : Launch) (F : Nat) (t : Nat) (ht : (aw_sh t).1 = 15) (a0 : Int32) (a1 : Int32) (μ : aw_M) : AM l yX10_aims cX10_aims 3 (some .int) 4 195 aw_gi [.ref t, .int a0, .int a1] μ (f_X10_aims F t a0 a1 μ) := by
  refine aw_met [some (.ref t), some (.int a0), some (.int a1)] (by decide) (fun _ => rfl) (fun _ => Nat.le_of_ble_eq_true rfl) ?_
  show AW l k_X10_aims aw_gi 0 [some (.ref t), some (.int a0), some (.int a1)] [] μ _
  unfold f_X10_aims
  refine aw_aload_n (n := 1) dX10_aims_0 rfl rfl ?_
  refine aw_iload_n (n := 2) dX10_aims_1 rfl rfl ?_
  refine aw_callVz (n := 5) (as := [.int a0]) (st := []) (RX10, TX10, 12) 10 dX10_aims_2 rfl rfl (m_X10_isQuarter l F t ht a0 μ) ht (by decide) rfl rfl cw_RX10_142 ⟨Nat.le_of_ble_eq_true rfl, Nat.le_of_ble_eq_true rfl⟩ (fun _ => Nat.le_of_ble_eq_true rfl) (fun r1 => ?_)
  refine aw_ifb_eq (n := 8) 23 dX10_aims_5 (by decide) rfl ?_ ?_
  · refine aw_iconst (n := 24) (-1) dX10_aims_23 rfl (by decide) ?_
    exact aw_ireturn dX10_aims_24 rfl rfl
  · refine aw_aload_n (n := 9) dX10_aims_8 rfl rfl ?_
    refine aw_getR (n := 12) (RX10, TX10, 12) 10 1 dX10_aims_9 rfl ht (by decide) fd_RX10_19 ?_
    refine aw_getR (n := 15) (RX4, TX4, 5) 4 4 dX10_aims_12 rfl (sf_10_1 ht) (by decide) fd_RX10_166 ?_
    refine aw_iload_n (n := 16) dX10_aims_15 rfl rfl ?_
    refine aw_iload_n (n := 17) dX10_aims_16 rfl rfl ?_
    refine aw_callVi (n := 20) (as := [.int a0, .int a1]) (st := []) (RX0, TX0, 20) 0 dX10_aims_17 rfl rfl (m_X0_aimedAt l F (aw_rf (aw_rf t 1) 4) (sf_4_4 (sf_10_1 ht)) a0 a1 r1.2) (sf_4_4 (sf_10_1 ht)) (by decide) rfl rfl cw_RX10_229 ⟨Nat.le_of_ble_eq_true rfl, Nat.le_of_ble_eq_true rfl⟩ (fun _ => Nat.le_of_ble_eq_true rfl) (fun r2 => ?_)
    refine aw_goto 24 dX10_aims_20 (by decide) ?_
    exact aw_ireturn dX10_aims_24 rfl rfl
abbrev k_X10_sure : aw_K := (RX10, cX10_sure, 2, (some .int), 6, 245)
def f_X10_sure (F : Nat) (t : Nat) (a0 : Int32) (μ : aw_M) : Option (Int32 × aw_M) :=
  (f_X10_isQuarter F t a0 μ).bind fun r1 =>
  (if r1.1 = true then
  (f_X5_marksAsTold F (aw_rf t 8) a0 r1.2).bind fun r2 =>
  some (r2.1, r2.2)
  else
  some ((-10001), r1.2))
theorem m_X10_sure (l : Launch) (F : Nat) (t : Nat) (ht : (aw_sh t).1 = 15) (a0 : Int32) (μ : aw_M) : AM l yX10_sure cX10_sure 2 (some .int) 6 245 aw_gi [.ref t, .int a0] μ (f_X10_sure F t a0 μ) := by
  refine aw_met [some (.ref t), some (.int a0)] (by decide) (fun _ => rfl) (fun _ => Nat.le_of_ble_eq_true rfl) ?_
  show AW l k_X10_sure aw_gi 0 [some (.ref t), some (.int a0)] [] μ _
  unfold f_X10_sure
  refine aw_aload_n (n := 1) dX10_sure_0 rfl rfl ?_
  refine aw_iload_n (n := 2) dX10_sure_1 rfl rfl ?_
  refine aw_callVz (n := 5) (as := [.int a0]) (st := []) (RX10, TX10, 12) 10 dX10_sure_2 rfl rfl (m_X10_isQuarter l F t ht a0 μ) ht (by decide) rfl rfl cw_RX10_142 ⟨Nat.le_of_ble_eq_true rfl, Nat.le_of_ble_eq_true rfl⟩ (fun _ => Nat.le_of_ble_eq_true rfl) (fun r1 => ?_)
  refine aw_ifb_eq (n := 8) 19 dX10_sure_5 (by decide) rfl ?_ ?_
  · refine aw_sipush (n := 22) (-10001) dX10_sure_19 rfl (by decide) ?_
    exact aw_ireturn dX10_sure_22 rfl rfl
  · refine aw_aload_n (n := 9) dX10_sure_8 rfl rfl ?_
    refine aw_getR (n := 12) (RX10, TX10, 12) 10 8 dX10_sure_9 rfl ht (by decide) fd_RX10_74 ?_
    refine aw_iload_n (n := 13) dX10_sure_12 rfl rfl ?_
    refine aw_callVi (n := 16) (as := [.int a0]) (st := []) (RX5, TX5, 12) 5 dX10_sure_13 rfl rfl (m_X5_marksAsTold l F (aw_rf t 8) (sf_10_8 ht) a0 r1.2) (sf_10_8 ht) (by decide) rfl rfl cw_RX10_232 ⟨Nat.le_of_ble_eq_true rfl, Nat.le_of_ble_eq_true rfl⟩ (fun _ => Nat.le_of_ble_eq_true rfl) (fun r2 => ?_)
    refine aw_goto 22 dX10_sure_16 (by decide) ?_
    exact aw_ireturn dX10_sure_22 rfl rfl
abbrev k_X10_grid : aw_K := (RX10, cX10_grid, 4, (some .int), 6, 247)
def f_X10_grid (F : Nat) (t : Nat) (a0 : Int32) (a1 : Int32) (a2 : Int32) (μ : aw_M) : Option (Int32 × aw_M) :=
  (f_X10_isQuarter F t a0 μ).bind fun r1 =>
  (if r1.1 = true then
  (f_X10_isPlan F a1 a2 r1.2).bind fun r2 =>
  (if r2.1 = true then
  (f_X5_marksWith F (aw_rf t 8) a0 a1 a2 r2.2).bind fun r3 =>
  some (r3.1, r3.2)
  else
  some ((-10001), r2.2))
  else
  some ((-10001), r1.2))
theorem m_X10_grid (l : Launch) (F : Nat) (t : Nat) (ht : (aw_sh t).1 = 15) (a0 : Int32) (a1 : Int32) (a2 : Int32) (μ : aw_M) : AM l yX10_grid cX10_grid 4 (some .int) 6 247 aw_gi [.ref t, .int a0, .int a1, .int a2] μ (f_X10_grid F t a0 a1 a2 μ) := by
  refine aw_met [some (.ref t), some (.int a0), some (.int a1), some (.int a2)] (by decide) (fun _ => rfl) (fun _ => Nat.le_of_ble_eq_true rfl) ?_
  show AW l k_X10_grid aw_gi 0 [some (.ref t), some (.int a0), some (.int a1), some (.int a2)] [] μ _
  unfold f_X10_grid
  refine aw_aload_n (n := 1) dX10_grid_0 rfl rfl ?_
  refine aw_iload_n (n := 2) dX10_grid_1 rfl rfl ?_
  refine aw_callVz (n := 5) (as := [.int a0]) (st := []) (RX10, TX10, 12) 10 dX10_grid_2 rfl rfl (m_X10_isQuarter l F t ht a0 μ) ht (by decide) rfl rfl cw_RX10_142 ⟨Nat.le_of_ble_eq_true rfl, Nat.le_of_ble_eq_true rfl⟩ (fun _ => Nat.le_of_ble_eq_true rfl) (fun r1 => ?_)
  refine aw_ifb_eq (n := 8) 16 dX10_grid_5 (by decide) rfl ?_ ?_
  · refine aw_sipush (n := 19) (-10001) dX10_grid_16 rfl (by decide) ?_
    exact aw_ireturn dX10_grid_19 rfl rfl
  · refine aw_iload_n (n := 9) dX10_grid_8 rfl rfl ?_
    refine aw_iload_n (n := 10) dX10_grid_9 rfl rfl ?_
    refine aw_callSz (n := 13) (as := [.int a1, .int a2]) (st := []) dX10_grid_10 rfl rfl (m_X10_isPlan l F a1 a2 r1.2) cw_RX10_235 ⟨Nat.le_of_ble_eq_true rfl, Nat.le_of_ble_eq_true rfl⟩ (fun _ => Nat.le_of_ble_eq_true rfl) (fun r2 => ?_)
    refine aw_ifb_ne (n := 16) 20 dX10_grid_13 (by decide) rfl ?_ ?_
    · refine aw_aload_n (n := 21) dX10_grid_20 rfl rfl ?_
      refine aw_getR (n := 24) (RX10, TX10, 12) 10 8 dX10_grid_21 rfl ht (by decide) fd_RX10_74 ?_
      refine aw_iload_n (n := 25) dX10_grid_24 rfl rfl ?_
      refine aw_iload_n (n := 26) dX10_grid_25 rfl rfl ?_
      refine aw_iload_n (n := 27) dX10_grid_26 rfl rfl ?_
      refine aw_callVi (n := 30) (as := [.int a0, .int a1, .int a2]) (st := []) (RX5, TX5, 12) 5 dX10_grid_27 rfl rfl (m_X5_marksWith l F (aw_rf t 8) (sf_10_8 ht) a0 a1 a2 r2.2) (sf_10_8 ht) (by decide) rfl rfl cw_RX10_238 ⟨Nat.le_of_ble_eq_true rfl, Nat.le_of_ble_eq_true rfl⟩ (fun _ => Nat.le_of_ble_eq_true rfl) (fun r3 => ?_)
      exact aw_ireturn dX10_grid_30 rfl rfl
    · refine aw_sipush (n := 19) (-10001) dX10_grid_16 rfl (by decide) ?_
      exact aw_ireturn dX10_grid_19 rfl rfl
abbrev k_X10_best : aw_K := (RX10, cX10_best, 2, (some .int), 6, 250)
def f_X10_best (F : Nat) (t : Nat) (a0 : Int32) (μ : aw_M) : Option (Int32 × aw_M) :=
  (f_X10_isQuarter F t a0 μ).bind fun r1 =>
  (if r1.1 = true then
  (f_X5_bestPlan F (aw_rf t 8) a0 r1.2).bind fun r2 =>
  some (r2.1, r2.2)
  else
  some ((-1), r1.2))
theorem m_X10_best (l : Launch) (F : Nat) (t : Nat) (ht : (aw_sh t).1 = 15) (a0 : Int32) (μ : aw_M) : AM l yX10_best cX10_best 2 (some .int) 6 250 aw_gi [.ref t, .int a0] μ (f_X10_best F t a0 μ) := by
  refine aw_met [some (.ref t), some (.int a0)] (by decide) (fun _ => rfl) (fun _ => Nat.le_of_ble_eq_true rfl) ?_
  show AW l k_X10_best aw_gi 0 [some (.ref t), some (.int a0)] [] μ _
  unfold f_X10_best
  refine aw_aload_n (n := 1) dX10_best_0 rfl rfl ?_
  refine aw_iload_n (n := 2) dX10_best_1 rfl rfl ?_
  refine aw_callVz (n := 5) (as := [.int a0]) (st := []) (RX10, TX10, 12) 10 dX10_best_2 rfl rfl (m_X10_isQuarter l F t ht a0 μ) ht (by decide) rfl rfl cw_RX10_142 ⟨Nat.le_of_ble_eq_true rfl, Nat.le_of_ble_eq_true rfl⟩ (fun _ => Nat.le_of_ble_eq_true rfl) (fun r1 => ?_)
  refine aw_ifb_eq (n := 8) 19 dX10_best_5 (by decide) rfl ?_ ?_
  · refine aw_iconst (n := 20) (-1) dX10_best_19 rfl (by decide) ?_
    exact aw_ireturn dX10_best_20 rfl rfl
  · refine aw_aload_n (n := 9) dX10_best_8 rfl rfl ?_
    refine aw_getR (n := 12) (RX10, TX10, 12) 10 8 dX10_best_9 rfl ht (by decide) fd_RX10_74 ?_
    refine aw_iload_n (n := 13) dX10_best_12 rfl rfl ?_
    refine aw_callVi (n := 16) (as := [.int a0]) (st := []) (RX5, TX5, 12) 5 dX10_best_13 rfl rfl (m_X5_bestPlan l F (aw_rf t 8) (sf_10_8 ht) a0 r1.2) (sf_10_8 ht) (by decide) rfl rfl cw_RX10_242 ⟨Nat.le_of_ble_eq_true rfl, Nat.le_of_ble_eq_true rfl⟩ (fun _ => Nat.le_of_ble_eq_true rfl) (fun r2 => ?_)
    refine aw_goto 20 dX10_best_16 (by decide) ?_
    exact aw_ireturn dX10_best_20 rfl rfl
abbrev k_X10_days : aw_K := (RX10, cX10_days, 3, (some .int), 3, 172)
def f_X10_days (F : Nat) (t : Nat) (a0 : Int32) (μ : aw_M) : Option (Int32 × aw_M) :=
  (f_X7_spreadBoxes F (aw_rf t 9) (aw_rf t 0) a0 μ).bind fun r1 =>
  aw_let (aw_wI r1.2 (aw_rf t 0) 1 0) fun μ2 =>
  some (r1.1, μ2)
theorem m_X10_days (l : Launch) (F : Nat) (t : Nat) (ht : (aw_sh t).1 = 15) (a0 : Int32) (μ : aw_M) : AM l yX10_days cX10_days 3 (some .int) 3 172 aw_gi [.ref t, .int a0] μ (f_X10_days F t a0 μ) := by
  refine aw_met [some (.ref t), some (.int a0), none] (by decide) (fun _ => rfl) (fun _ => Nat.le_of_ble_eq_true rfl) ?_
  show AW l k_X10_days aw_gi 0 [some (.ref t), some (.int a0), none] [] μ _
  unfold f_X10_days
  refine aw_aload_n (n := 1) dX10_days_0 rfl rfl ?_
  refine aw_getR (n := 4) (RX10, TX10, 12) 10 9 dX10_days_1 rfl ht (by decide) fd_RX10_81 ?_
  refine aw_aload_n (n := 5) dX10_days_4 rfl rfl ?_
  refine aw_getR (n := 8) (RX10, TX10, 12) 10 0 dX10_days_5 rfl ht (by decide) fd_RX10_12 ?_
  refine aw_iload_n (n := 9) dX10_days_8 rfl rfl ?_
  refine aw_callVi (n := 12) (as := [.ref (aw_rf t 0), .int a0]) (st := []) (RX7, TX7, 4) 7 dX10_days_9 rfl rfl (m_X7_spreadBoxes l F (aw_rf t 9) (sf_10_9 ht) (aw_rf t 0) (sf_10_0 ht) a0 μ) (sf_10_9 ht) (by decide) rfl rfl cw_RX10_245 ⟨Nat.le_of_ble_eq_true rfl, Nat.le_of_ble_eq_true rfl⟩ (fun _ => Nat.le_of_ble_eq_true rfl) (fun r1 => ?_)
  refine aw_istore_n (n := 13) [some (.ref t), some (.int a0), some (.int r1.1)] dX10_days_12 rfl rfl (Nat.le_of_ble_eq_true rfl) (Nat.le_of_ble_eq_true rfl) rfl ?_
  refine aw_aload_n (n := 14) dX10_days_13 rfl rfl ?_
  refine aw_getR (n := 17) (RX10, TX10, 12) 10 0 dX10_days_14 rfl ht (by decide) fd_RX10_12 ?_
  refine aw_iconst (n := 18) 0 dX10_days_17 rfl (by decide) ?_
  refine aw_putI (n := 21) (RX6, TX6, 13) 6 1 dX10_days_18 rfl (sf_10_0 ht) (by decide) fp_RX10_100 (fun μ2 => ?_)
  refine aw_iload_n (n := 22) dX10_days_21 rfl rfl ?_
  exact aw_ireturn dX10_days_22 rfl rfl
abbrev k_X10_rows : aw_K := (RX10, cX10_rows, 2, (some .int), 1, 120)
def f_X10_rows_9 (F : Nat) (t : Nat) (μ : aw_M) : Option (Int32 × aw_M) :=
  some ((-1), μ)
theorem c_X10_rows_9 (l : Launch) (F : Nat) (t : Nat) (ht : (aw_sh t).1 = 15) (μ : aw_M) : AW l k_X10_rows aw_gi 9 [none, none] [] μ (f_X10_rows_9 F t μ) := by
  unfold f_X10_rows_9
  refine aw_iconst (n := 10) (-1) dX10_rows_9 rfl (by decide) ?_
  refine aw_goto 22 dX10_rows_10 (by decide) ?_
  exact aw_ireturn dX10_rows_22 rfl rfl
def f_X10_rows (F : Nat) (t : Nat) (a0 : Int32) (μ : aw_M) : Option (Int32 × aw_M) :=
  (if a0 < 0 then
  f_X10_rows_9 F t μ
  else
  (if a0 < 3 then
  aw_g (aw_in a0 3) (some ((μ.1 (aw_rf (aw_rf t 9) 0) a0.toNatClampNeg), μ))
  else
  f_X10_rows_9 F t μ))
theorem m_X10_rows (l : Launch) (F : Nat) (t : Nat) (ht : (aw_sh t).1 = 15) (a0 : Int32) (μ : aw_M) : AM l yX10_rows cX10_rows 2 (some .int) 1 120 aw_gi [.ref t, .int a0] μ (f_X10_rows F t a0 μ) := by
  refine aw_met [some (.ref t), some (.int a0)] (by decide) (fun _ => rfl) (fun _ => Nat.le_of_ble_eq_true rfl) ?_
  show AW l k_X10_rows aw_gi 0 [some (.ref t), some (.int a0)] [] μ _
  unfold f_X10_rows
  refine aw_iload_n (n := 1) dX10_rows_0 rfl rfl ?_
  refine aw_if_lt (n := 4) 9 dX10_rows_1 (by decide) rfl ?_ ?_
  · exact aw_weak (c_X10_rows_9 l F t ht μ) (aw_sn (aw_sn aw_s0))
  · refine aw_iload_n (n := 5) dX10_rows_4 rfl rfl ?_
    refine aw_iconst (n := 6) 3 dX10_rows_5 rfl (by decide) ?_
    refine aw_icmp_lt (n := 9) 13 dX10_rows_6 (by decide) rfl ?_ ?_
    · refine aw_aload_n (n := 14) dX10_rows_13 rfl rfl ?_
      refine aw_getR (n := 17) (RX10, TX10, 12) 10 9 dX10_rows_14 rfl ht (by decide) fd_RX10_81 ?_
      refine aw_getR (n := 20) (RX7, TX7, 4) 7 0 dX10_rows_17 rfl (sf_10_9 ht) (by decide) fd_RX10_249 ?_
      refine aw_iload_n (n := 21) dX10_rows_20 rfl rfl ?_
      refine aw_iaload (n := 22) 3 dX10_rows_21 rfl (sf_7_0 (sf_10_9 ht)) ?_
      exact aw_ireturn dX10_rows_22 rfl rfl
    · exact aw_weak (c_X10_rows_9 l F t ht μ) (aw_sn (aw_sn aw_s0))
abbrev k_X10_stand : aw_K := (RX10, cX10_stand, 3, (some .int), 6, 247)
def f_X10_stand (F : Nat) (t : Nat) (a0 : Int32) (a1 : Int32) (μ : aw_M) : Option (Int32 × aw_M) :=
  (f_X10_isQuarter F t a0 μ).bind fun r1 =>
  (if r1.1 = true then
  (f_X5_haveSpots F (aw_rf t 8) a1 r1.2).bind fun r2 =>
  (if r2.1 = true then
  (f_X5_marksStanding F (aw_rf t 8) a0 a1 r2.2).bind fun r3 =>
  some (r3.1, r3.2)
  else
  some ((-10001), r2.2))
  else
  some ((-10001), r1.2))
theorem m_X10_stand (l : Launch) (F : Nat) (t : Nat) (ht : (aw_sh t).1 = 15) (a0 : Int32) (a1 : Int32) (μ : aw_M) : AM l yX10_stand cX10_stand 3 (some .int) 6 247 aw_gi [.ref t, .int a0, .int a1] μ (f_X10_stand F t a0 a1 μ) := by
  refine aw_met [some (.ref t), some (.int a0), some (.int a1)] (by decide) (fun _ => rfl) (fun _ => Nat.le_of_ble_eq_true rfl) ?_
  show AW l k_X10_stand aw_gi 0 [some (.ref t), some (.int a0), some (.int a1)] [] μ _
  unfold f_X10_stand
  refine aw_aload_n (n := 1) dX10_stand_0 rfl rfl ?_
  refine aw_iload_n (n := 2) dX10_stand_1 rfl rfl ?_
  refine aw_callVz (n := 5) (as := [.int a0]) (st := []) (RX10, TX10, 12) 10 dX10_stand_2 rfl rfl (m_X10_isQuarter l F t ht a0 μ) ht (by decide) rfl rfl cw_RX10_142 ⟨Nat.le_of_ble_eq_true rfl, Nat.le_of_ble_eq_true rfl⟩ (fun _ => Nat.le_of_ble_eq_true rfl) (fun r1 => ?_)
  refine aw_ifb_eq (n := 8) 31 dX10_stand_5 (by decide) rfl ?_ ?_
  · refine aw_sipush (n := 34) (-10001) dX10_stand_31 rfl (by decide) ?_
    exact aw_ireturn dX10_stand_34 rfl rfl
  · refine aw_aload_n (n := 9) dX10_stand_8 rfl rfl ?_
    refine aw_getR (n := 12) (RX10, TX10, 12) 10 8 dX10_stand_9 rfl ht (by decide) fd_RX10_74 ?_
    refine aw_iload_n (n := 13) dX10_stand_12 rfl rfl ?_
    refine aw_callVz (n := 16) (as := [.int a1]) (st := []) (RX5, TX5, 12) 5 dX10_stand_13 rfl rfl (m_X5_haveSpots l F (aw_rf t 8) (sf_10_8 ht) a1 r1.2) (sf_10_8 ht) (by decide) rfl rfl cw_RX10_252 ⟨Nat.le_of_ble_eq_true rfl, Nat.le_of_ble_eq_true rfl⟩ (fun _ => Nat.le_of_ble_eq_true rfl) (fun r2 => ?_)
    refine aw_ifb_eq (n := 19) 31 dX10_stand_16 (by decide) rfl ?_ ?_
    · refine aw_sipush (n := 34) (-10001) dX10_stand_31 rfl (by decide) ?_
      exact aw_ireturn dX10_stand_34 rfl rfl
    · refine aw_aload_n (n := 20) dX10_stand_19 rfl rfl ?_
      refine aw_getR (n := 23) (RX10, TX10, 12) 10 8 dX10_stand_20 rfl ht (by decide) fd_RX10_74 ?_
      refine aw_iload_n (n := 24) dX10_stand_23 rfl rfl ?_
      refine aw_iload_n (n := 25) dX10_stand_24 rfl rfl ?_
      refine aw_callVi (n := 28) (as := [.int a0, .int a1]) (st := []) (RX5, TX5, 12) 5 dX10_stand_25 rfl rfl (m_X5_marksStanding l F (aw_rf t 8) (sf_10_8 ht) a0 a1 r2.2) (sf_10_8 ht) (by decide) rfl rfl cw_RX10_255 ⟨Nat.le_of_ble_eq_true rfl, Nat.le_of_ble_eq_true rfl⟩ (fun _ => Nat.le_of_ble_eq_true rfl) (fun r3 => ?_)
      refine aw_goto 34 dX10_stand_28 (by decide) ?_
      exact aw_ireturn dX10_stand_34 rfl rfl
abbrev k_X10_rests : aw_K := (RX10, cX10_rests, 2, (some .int), 7, 271)
def f_X10_rests (F : Nat) (t : Nat) (a0 : Int32) (μ : aw_M) : Option (Int32 × aw_M) :=
  (f_X5_restingSpots F (aw_rf t 8) a0 μ).bind fun r1 =>
  some (r1.1, r1.2)
theorem m_X10_rests (l : Launch) (F : Nat) (t : Nat) (ht : (aw_sh t).1 = 15) (a0 : Int32) (μ : aw_M) : AM l yX10_rests cX10_rests 2 (some .int) 7 271 aw_gi [.ref t, .int a0] μ (f_X10_rests F t a0 μ) := by
  refine aw_met [some (.ref t), some (.int a0)] (by decide) (fun _ => rfl) (fun _ => Nat.le_of_ble_eq_true rfl) ?_
  show AW l k_X10_rests aw_gi 0 [some (.ref t), some (.int a0)] [] μ _
  unfold f_X10_rests
  refine aw_aload_n (n := 1) dX10_rests_0 rfl rfl ?_
  refine aw_getR (n := 4) (RX10, TX10, 12) 10 8 dX10_rests_1 rfl ht (by decide) fd_RX10_74 ?_
  refine aw_iload_n (n := 5) dX10_rests_4 rfl rfl ?_
  refine aw_callVi (n := 8) (as := [.int a0]) (st := []) (RX5, TX5, 12) 5 dX10_rests_5 rfl rfl (m_X5_restingSpots l F (aw_rf t 8) (sf_10_8 ht) a0 μ) (sf_10_8 ht) (by decide) rfl rfl cw_RX10_258 ⟨Nat.le_of_ble_eq_true rfl, Nat.le_of_ble_eq_true rfl⟩ (fun _ => Nat.le_of_ble_eq_true rfl) (fun r1 => ?_)
  exact aw_ireturn dX10_rests_8 rfl rfl
abbrev k_X10_join : aw_K := (RX10, cX10_join, 3, (some .int), 6, 247)
def f_X10_join (F : Nat) (t : Nat) (a0 : Int32) (a1 : Int32) (μ : aw_M) : Option (Int32 × aw_M) :=
  (f_X10_isQuarter F t a0 μ).bind fun r1 =>
  (if r1.1 = true then
  (f_X10_isQuarter F t a1 r1.2).bind fun r2 =>
  (if r2.1 = true then
  (if a0 = a1 then
  some ((-10001), r2.2)
  else
  (f_X2_hasPlan F (aw_rf (aw_rf t 1) 1) a1 r2.2).bind fun r3 =>
  (if r3.1 = true then
  (f_X5_gainByJoining F (aw_rf t 8) a0 a1 r3.2).bind fun r4 =>
  some (r4.1, r4.2)
  else
  some ((-10001), r3.2)))
  else
  some ((-10001), r2.2))
  else
  some ((-10001), r1.2))
theorem m_X10_join (l : Launch) (F : Nat) (t : Nat) (ht : (aw_sh t).1 = 15) (a0 : Int32) (a1 : Int32) (μ : aw_M) : AM l yX10_join cX10_join 3 (some .int) 6 247 aw_gi [.ref t, .int a0, .int a1] μ (f_X10_join F t a0 a1 μ) := by
  refine aw_met [some (.ref t), some (.int a0), some (.int a1)] (by decide) (fun _ => rfl) (fun _ => Nat.le_of_ble_eq_true rfl) ?_
  show AW l k_X10_join aw_gi 0 [some (.ref t), some (.int a0), some (.int a1)] [] μ _
  unfold f_X10_join
  refine aw_aload_n (n := 1) dX10_join_0 rfl rfl ?_
  refine aw_iload_n (n := 2) dX10_join_1 rfl rfl ?_
  refine aw_callVz (n := 5) (as := [.int a0]) (st := []) (RX10, TX10, 12) 10 dX10_join_2 rfl rfl (m_X10_isQuarter l F t ht a0 μ) ht (by decide) rfl rfl cw_RX10_142 ⟨Nat.le_of_ble_eq_true rfl, Nat.le_of_ble_eq_true rfl⟩ (fun _ => Nat.le_of_ble_eq_true rfl) (fun r1 => ?_)
  refine aw_ifb_eq (n := 8) 35 dX10_join_5 (by decide) rfl ?_ ?_
  · refine aw_sipush (n := 38) (-10001) dX10_join_35 rfl (by decide) ?_
    exact aw_ireturn dX10_join_38 rfl rfl
  · refine aw_aload_n (n := 9) dX10_join_8 rfl rfl ?_
    refine aw_iload_n (n := 10) dX10_join_9 rfl rfl ?_
    refine aw_callVz (n := 13) (as := [.int a1]) (st := []) (RX10, TX10, 12) 10 dX10_join_10 rfl rfl (m_X10_isQuarter l F t ht a1 r1.2) ht (by decide) rfl rfl cw_RX10_142 ⟨Nat.le_of_ble_eq_true rfl, Nat.le_of_ble_eq_true rfl⟩ (fun _ => Nat.le_of_ble_eq_true rfl) (fun r2 => ?_)
    refine aw_ifb_eq (n := 16) 35 dX10_join_13 (by decide) rfl ?_ ?_
    · refine aw_sipush (n := 38) (-10001) dX10_join_35 rfl (by decide) ?_
      exact aw_ireturn dX10_join_38 rfl rfl
    · refine aw_iload_n (n := 17) dX10_join_16 rfl rfl ?_
      refine aw_iload_n (n := 18) dX10_join_17 rfl rfl ?_
      refine aw_icmp_eq (n := 21) 35 dX10_join_18 (by decide) rfl ?_ ?_
      · refine aw_sipush (n := 38) (-10001) dX10_join_35 rfl (by decide) ?_
        exact aw_ireturn dX10_join_38 rfl rfl
      · refine aw_aload_n (n := 22) dX10_join_21 rfl rfl ?_
        refine aw_getR (n := 25) (RX10, TX10, 12) 10 1 dX10_join_22 rfl ht (by decide) fd_RX10_19 ?_
        refine aw_getR (n := 28) (RX4, TX4, 5) 4 1 dX10_join_25 rfl (sf_10_1 ht) (by decide) fd_RX10_57 ?_
        refine aw_iload_n (n := 29) dX10_join_28 rfl rfl ?_
        refine aw_callVz (n := 32) (as := [.int a1]) (st := []) (RX2, TX2, 4) 2 dX10_join_29 rfl rfl (m_X2_hasPlan l F (aw_rf (aw_rf t 1) 1) (sf_4_1 (sf_10_1 ht)) a1 r2.2) (sf_4_1 (sf_10_1 ht)) (by decide) rfl rfl cw_RX10_261 ⟨Nat.le_of_ble_eq_true rfl, Nat.le_of_ble_eq_true rfl⟩ (fun _ => Nat.le_of_ble_eq_true rfl) (fun r3 => ?_)
        refine aw_ifb_ne (n := 35) 39 dX10_join_32 (by decide) rfl ?_ ?_
        · refine aw_aload_n (n := 40) dX10_join_39 rfl rfl ?_
          refine aw_getR (n := 43) (RX10, TX10, 12) 10 8 dX10_join_40 rfl ht (by decide) fd_RX10_74 ?_
          refine aw_iload_n (n := 44) dX10_join_43 rfl rfl ?_
          refine aw_iload_n (n := 45) dX10_join_44 rfl rfl ?_
          refine aw_callVi (n := 48) (as := [.int a0, .int a1]) (st := []) (RX5, TX5, 12) 5 dX10_join_45 rfl rfl (m_X5_gainByJoining l F (aw_rf t 8) (sf_10_8 ht) a0 a1 r3.2) (sf_10_8 ht) (by decide) rfl rfl cw_RX10_264 ⟨Nat.le_of_ble_eq_true rfl, Nat.le_of_ble_eq_true rfl⟩ (fun _ => Nat.le_of_ble_eq_true rfl) (fun r4 => ?_)
          exact aw_ireturn dX10_join_48 rfl rfl
        · refine aw_sipush (n := 38) (-10001) dX10_join_35 rfl (by decide) ?_
          exact aw_ireturn dX10_join_38 rfl rfl
abbrev k_X10_look : aw_K := (RX10, cX10_look, 2, (some .int), 3, 170)
def f_X10_look (F : Nat) (t : Nat) (μ : aw_M) : Option (Int32 × aw_M) :=
  (f_X7_findLaws F (aw_rf t 9) (aw_rf t 0) μ).bind fun r1 =>
  aw_let (aw_wI r1.2 (aw_rf t 0) 1 0) fun μ2 =>
  some (r1.1, μ2)
theorem m_X10_look (l : Launch) (F : Nat) (t : Nat) (ht : (aw_sh t).1 = 15) (μ : aw_M) : AM l yX10_look cX10_look 2 (some .int) 3 170 aw_gi [.ref t] μ (f_X10_look F t μ) := by
  refine aw_met [some (.ref t), none] (by decide) (fun _ => rfl) (fun _ => Nat.le_of_ble_eq_true rfl) ?_
  show AW l k_X10_look aw_gi 0 [some (.ref t), none] [] μ _
  unfold f_X10_look
  refine aw_aload_n (n := 1) dX10_look_0 rfl rfl ?_
  refine aw_getR (n := 4) (RX10, TX10, 12) 10 9 dX10_look_1 rfl ht (by decide) fd_RX10_81 ?_
  refine aw_aload_n (n := 5) dX10_look_4 rfl rfl ?_
  refine aw_getR (n := 8) (RX10, TX10, 12) 10 0 dX10_look_5 rfl ht (by decide) fd_RX10_12 ?_
  refine aw_callVi (n := 11) (as := [.ref (aw_rf t 0)]) (st := []) (RX7, TX7, 4) 7 dX10_look_8 rfl rfl (m_X7_findLaws l F (aw_rf t 9) (sf_10_9 ht) (aw_rf t 0) (sf_10_0 ht) μ) (sf_10_9 ht) (by decide) rfl rfl cw_RX10_267 ⟨Nat.le_of_ble_eq_true rfl, Nat.le_of_ble_eq_true rfl⟩ (fun _ => Nat.le_of_ble_eq_true rfl) (fun r1 => ?_)
  refine aw_istore_n (n := 12) [some (.ref t), some (.int r1.1)] dX10_look_11 rfl rfl (Nat.le_of_ble_eq_true rfl) (Nat.le_of_ble_eq_true rfl) rfl ?_
  refine aw_aload_n (n := 13) dX10_look_12 rfl rfl ?_
  refine aw_getR (n := 16) (RX10, TX10, 12) 10 0 dX10_look_13 rfl ht (by decide) fd_RX10_12 ?_
  refine aw_iconst (n := 17) 0 dX10_look_16 rfl (by decide) ?_
  refine aw_putI (n := 20) (RX6, TX6, 13) 6 1 dX10_look_17 rfl (sf_10_0 ht) (by decide) fp_RX10_100 (fun μ2 => ?_)
  refine aw_iload_n (n := 21) dX10_look_20 rfl rfl ?_
  exact aw_ireturn dX10_look_21 rfl rfl
abbrev k_X10_held : aw_K := (RX10, cX10_held, 2, (some .int), 2, 141)
def f_X10_held (F : Nat) (t : Nat) (a0 : Int32) (μ : aw_M) : Option (Int32 × aw_M) :=
  (f_X7_lawAt F (aw_rf t 9) a0 μ).bind fun r1 =>
  some (r1.1, r1.2)
theorem m_X10_held (l : Launch) (F : Nat) (t : Nat) (ht : (aw_sh t).1 = 15) (a0 : Int32) (μ : aw_M) : AM l yX10_held cX10_held 2 (some .int) 2 141 aw_gi [.ref t, .int a0] μ (f_X10_held F t a0 μ) := by
  refine aw_met [some (.ref t), some (.int a0)] (by decide) (fun _ => rfl) (fun _ => Nat.le_of_ble_eq_true rfl) ?_
  show AW l k_X10_held aw_gi 0 [some (.ref t), some (.int a0)] [] μ _
  unfold f_X10_held
  refine aw_aload_n (n := 1) dX10_held_0 rfl rfl ?_
  refine aw_getR (n := 4) (RX10, TX10, 12) 10 9 dX10_held_1 rfl ht (by decide) fd_RX10_81 ?_
  refine aw_iload_n (n := 5) dX10_held_4 rfl rfl ?_
  refine aw_callVi (n := 8) (as := [.int a0]) (st := []) (RX7, TX7, 4) 7 dX10_held_5 rfl rfl (m_X7_lawAt l F (aw_rf t 9) (sf_10_9 ht) a0 μ) (sf_10_9 ht) (by decide) rfl rfl cw_RX10_271 ⟨Nat.le_of_ble_eq_true rfl, Nat.le_of_ble_eq_true rfl⟩ (fun _ => Nat.le_of_ble_eq_true rfl) (fun r1 => ?_)
  exact aw_ireturn dX10_held_8 rfl rfl
abbrev k_X10_walk : aw_K := (RX10, cX10_walk, 3, (some .int), 2, 143)
def f_X10_walk (F : Nat) (t : Nat) (a0 : Int32) (a1 : Int32) (μ : aw_M) : Option (Int32 × aw_M) :=
  (f_X7_rounds F (aw_rf t 9) a0 a1 μ).bind fun r1 =>
  some (r1.1, r1.2)
theorem m_X10_walk (l : Launch) (F : Nat) (t : Nat) (ht : (aw_sh t).1 = 15) (a0 : Int32) (a1 : Int32) (μ : aw_M) : AM l yX10_walk cX10_walk 3 (some .int) 2 143 aw_gi [.ref t, .int a0, .int a1] μ (f_X10_walk F t a0 a1 μ) := by
  refine aw_met [some (.ref t), some (.int a0), some (.int a1)] (by decide) (fun _ => rfl) (fun _ => Nat.le_of_ble_eq_true rfl) ?_
  show AW l k_X10_walk aw_gi 0 [some (.ref t), some (.int a0), some (.int a1)] [] μ _
  unfold f_X10_walk
  refine aw_aload_n (n := 1) dX10_walk_0 rfl rfl ?_
  refine aw_getR (n := 4) (RX10, TX10, 12) 10 9 dX10_walk_1 rfl ht (by decide) fd_RX10_81 ?_
  refine aw_iload_n (n := 5) dX10_walk_4 rfl rfl ?_
  refine aw_iload_n (n := 6) dX10_walk_5 rfl rfl ?_
  refine aw_callVi (n := 9) (as := [.int a0, .int a1]) (st := []) (RX7, TX7, 4) 7 dX10_walk_6 rfl rfl (m_X7_rounds l F (aw_rf t 9) (sf_10_9 ht) a0 a1 μ) (sf_10_9 ht) (by decide) rfl rfl cw_RX10_274 ⟨Nat.le_of_ble_eq_true rfl, Nat.le_of_ble_eq_true rfl⟩ (fun _ => Nat.le_of_ble_eq_true rfl) (fun r1 => ?_)
  exact aw_ireturn dX10_walk_9 rfl rfl
abbrev k_X10_alike : aw_K := (RX10, cX10_alike, 5, (some .int), 2, 143)
def f_X10_alike (F : Nat) (t : Nat) (a0 : Int32) (a1 : Int32) (a2 : Int32) (a3 : Int32) (μ : aw_M) : Option (Int32 × aw_M) :=
  (if a2 < 0 then
  some ((-1), μ)
  else
  (f_X7_rounds F (aw_rf t 9) a0 a1 μ).bind fun r1 =>
  (if r1.1 ≤ a2 then
  some ((-1), r1.2)
  else
  (if a3 < 0 then
  some ((-1), r1.2)
  else
  (if a0 ≤ a3 then
  some ((-1), r1.2)
  else
  (if 1 ≤ a1 then
  aw_g (aw_nz a1) (some ((((a2 * a0) + a3) - ((a2 * a0) + a3) / a1 * a1), r1.2))
  else
  some ((-1), r1.2))))))
theorem m_X10_alike (l : Launch) (F : Nat) (t : Nat) (ht : (aw_sh t).1 = 15) (a0 : Int32) (a1 : Int32) (a2 : Int32) (a3 : Int32) (μ : aw_M) : AM l yX10_alike cX10_alike 5 (some .int) 2 143 aw_gi [.ref t, .int a0, .int a1, .int a2, .int a3] μ (f_X10_alike F t a0 a1 a2 a3 μ) := by
  refine aw_met [some (.ref t), some (.int a0), some (.int a1), some (.int a2), some (.int a3)] (by decide) (fun _ => rfl) (fun _ => Nat.le_of_ble_eq_true rfl) ?_
  show AW l k_X10_alike aw_gi 0 [some (.ref t), some (.int a0), some (.int a1), some (.int a2), some (.int a3)] [] μ _
  unfold f_X10_alike
  refine aw_iload_n (n := 1) dX10_alike_0 rfl rfl ?_
  refine aw_if_lt (n := 4) 33 dX10_alike_1 (by decide) rfl ?_ ?_
  · refine aw_iconst (n := 34) (-1) dX10_alike_33 rfl (by decide) ?_
    exact aw_ireturn dX10_alike_34 rfl rfl
  · refine aw_iload_n (n := 5) dX10_alike_4 rfl rfl ?_
    refine aw_aload_n (n := 6) dX10_alike_5 rfl rfl ?_
    refine aw_getR (n := 9) (RX10, TX10, 12) 10 9 dX10_alike_6 rfl ht (by decide) fd_RX10_81 ?_
    refine aw_iload_n (n := 10) dX10_alike_9 rfl rfl ?_
    refine aw_iload_n (n := 11) dX10_alike_10 rfl rfl ?_
    refine aw_callVi (n := 14) (as := [.int a0, .int a1]) (st := [.int a2]) (RX7, TX7, 4) 7 dX10_alike_11 rfl rfl (m_X7_rounds l F (aw_rf t 9) (sf_10_9 ht) a0 a1 μ) (sf_10_9 ht) (by decide) rfl rfl cw_RX10_274 ⟨Nat.le_of_ble_eq_true rfl, Nat.le_of_ble_eq_true rfl⟩ (fun _ => Nat.le_of_ble_eq_true rfl) (fun r1 => ?_)
    refine aw_icmp_ge (n := 17) 33 dX10_alike_14 (by decide) rfl ?_ ?_
    · refine aw_iconst (n := 34) (-1) dX10_alike_33 rfl (by decide) ?_
      exact aw_ireturn dX10_alike_34 rfl rfl
    · refine aw_iload (n := 19) dX10_alike_17 rfl rfl ?_
      refine aw_if_lt (n := 22) 33 dX10_alike_19 (by decide) rfl ?_ ?_
      · refine aw_iconst (n := 34) (-1) dX10_alike_33 rfl (by decide) ?_
        exact aw_ireturn dX10_alike_34 rfl rfl
      · refine aw_iload (n := 24) dX10_alike_22 rfl rfl ?_
        refine aw_iload_n (n := 25) dX10_alike_24 rfl rfl ?_
        refine aw_icmp_ge (n := 28) 33 dX10_alike_25 (by decide) rfl ?_ ?_
        · refine aw_iconst (n := 34) (-1) dX10_alike_33 rfl (by decide) ?_
          exact aw_ireturn dX10_alike_34 rfl rfl
        · refine aw_iload_n (n := 29) dX10_alike_28 rfl rfl ?_
          refine aw_iconst (n := 30) 1 dX10_alike_29 rfl (by decide) ?_
          refine aw_icmp_ge (n := 33) 35 dX10_alike_30 (by decide) rfl ?_ ?_
          · refine aw_iload_n (n := 36) dX10_alike_35 rfl rfl ?_
            refine aw_iload_n (n := 37) dX10_alike_36 rfl rfl ?_
            refine aw_imul (n := 38) dX10_alike_37 rfl ?_
            refine aw_iload (n := 40) dX10_alike_38 rfl rfl ?_
            refine aw_iadd (n := 41) dX10_alike_40 rfl ?_
            refine aw_iload_n (n := 42) dX10_alike_41 rfl rfl ?_
            refine aw_irem (n := 43) dX10_alike_42 rfl ?_
            exact aw_ireturn dX10_alike_43 rfl rfl
          · refine aw_iconst (n := 34) (-1) dX10_alike_33 rfl (by decide) ?_
            exact aw_ireturn dX10_alike_34 rfl rfl
abbrev k_X10_comes : aw_K := (RX10, cX10_comes, 2, (some .int), 1, 120)
def f_X10_comes_15 (F : Nat) (t : Nat) (μ : aw_M) : Option (Int32 × aw_M) :=
  some ((-1), μ)
theorem c_X10_comes_15 (l : Launch) (F : Nat) (t : Nat) (ht : (aw_sh t).1 = 15) (μ : aw_M) : AW l k_X10_comes aw_gi 15 [none, none] [] μ (f_X10_comes_15 F t μ) := by
  unfold f_X10_comes_15
  refine aw_iconst (n := 16) (-1) dX10_comes_15 rfl (by decide) ?_
  refine aw_goto 28 dX10_comes_16 (by decide) ?_
  exact aw_ireturn dX10_comes_28 rfl rfl
def f_X10_comes (F : Nat) (t : Nat) (a0 : Int32) (μ : aw_M) : Option (Int32 × aw_M) :=
  (if a0 < 0 then
  f_X10_comes_15 F t μ
  else
  (if a0 < (μ.1 (aw_rf t 10) 0) then
  aw_g (aw_in a0 8) (some ((μ.1 (aw_rf (aw_rf t 10) 1) a0.toNatClampNeg), μ))
  else
  f_X10_comes_15 F t μ))
theorem m_X10_comes (l : Launch) (F : Nat) (t : Nat) (ht : (aw_sh t).1 = 15) (a0 : Int32) (μ : aw_M) : AM l yX10_comes cX10_comes 2 (some .int) 1 120 aw_gi [.ref t, .int a0] μ (f_X10_comes F t a0 μ) := by
  refine aw_met [some (.ref t), some (.int a0)] (by decide) (fun _ => rfl) (fun _ => Nat.le_of_ble_eq_true rfl) ?_
  show AW l k_X10_comes aw_gi 0 [some (.ref t), some (.int a0)] [] μ _
  unfold f_X10_comes
  refine aw_iload_n (n := 1) dX10_comes_0 rfl rfl ?_
  refine aw_if_lt (n := 4) 15 dX10_comes_1 (by decide) rfl ?_ ?_
  · exact aw_weak (c_X10_comes_15 l F t ht μ) (aw_sn (aw_sn aw_s0))
  · refine aw_iload_n (n := 5) dX10_comes_4 rfl rfl ?_
    refine aw_aload_n (n := 6) dX10_comes_5 rfl rfl ?_
    refine aw_getR (n := 9) (RX10, TX10, 12) 10 10 dX10_comes_6 rfl ht (by decide) fd_RX10_88 ?_
    refine aw_getI (n := 12) (RX9, TX9, 13) 9 0 dX10_comes_9 rfl (sf_10_10 ht) (by decide) fd_RX10_281 ?_
    refine aw_icmp_lt (n := 15) 19 dX10_comes_12 (by decide) rfl ?_ ?_
    · refine aw_aload_n (n := 20) dX10_comes_19 rfl rfl ?_
      refine aw_getR (n := 23) (RX10, TX10, 12) 10 10 dX10_comes_20 rfl ht (by decide) fd_RX10_88 ?_
      refine aw_getR (n := 26) (RX9, TX9, 13) 9 1 dX10_comes_23 rfl (sf_10_10 ht) (by decide) fd_RX10_284 ?_
      refine aw_iload_n (n := 27) dX10_comes_26 rfl rfl ?_
      refine aw_iaload (n := 28) 8 dX10_comes_27 rfl (sf_9_1 (sf_10_10 ht)) ?_
      exact aw_ireturn dX10_comes_28 rfl rfl
    · exact aw_weak (c_X10_comes_15 l F t ht μ) (aw_sn (aw_sn aw_s0))
abbrev k_X10_slippery : aw_K := (RX10, cX10_slippery, 1, (some .int), 5, 218)
def f_X10_slippery (F : Nat) (t : Nat) (μ : aw_M) : Option (Int32 × aw_M) :=
  (f_X9_findSand F (aw_rf t 10) (aw_rf (aw_rf t 1) 0) (aw_rf (aw_rf t 1) 4) μ).bind fun r1 =>
  some (r1.1, r1.2)
theorem m_X10_slippery (l : Launch) (F : Nat) (t : Nat) (ht : (aw_sh t).1 = 15) (μ : aw_M) : AM l yX10_slippery cX10_slippery 1 (some .int) 5 218 aw_gi [.ref t] μ (f_X10_slippery F t μ) := by
  refine aw_met [some (.ref t)] (by decide) (fun _ => rfl) (fun _ => Nat.le_of_ble_eq_true rfl) ?_
  show AW l k_X10_slippery aw_gi 0 [some (.ref t)] [] μ _
  unfold f_X10_slippery
  refine aw_aload_n (n := 1) dX10_slippery_0 rfl rfl ?_
  refine aw_getR (n := 4) (RX10, TX10, 12) 10 10 dX10_slippery_1 rfl ht (by decide) fd_RX10_88 ?_
  refine aw_aload_n (n := 5) dX10_slippery_4 rfl rfl ?_
  refine aw_getR (n := 8) (RX10, TX10, 12) 10 1 dX10_slippery_5 rfl ht (by decide) fd_RX10_19 ?_
  refine aw_getR (n := 11) (RX4, TX4, 5) 4 0 dX10_slippery_8 rfl (sf_10_1 ht) (by decide) fd_RX10_54 ?_
  refine aw_aload_n (n := 12) dX10_slippery_11 rfl rfl ?_
  refine aw_getR (n := 15) (RX10, TX10, 12) 10 1 dX10_slippery_12 rfl ht (by decide) fd_RX10_19 ?_
  refine aw_getR (n := 18) (RX4, TX4, 5) 4 4 dX10_slippery_15 rfl (sf_10_1 ht) (by decide) fd_RX10_166 ?_
  refine aw_callVi (n := 21) (as := [.ref (aw_rf (aw_rf t 1) 0), .ref (aw_rf (aw_rf t 1) 4)]) (st := []) (RX9, TX9, 13) 9 dX10_slippery_18 rfl rfl (m_X9_findSand l F (aw_rf t 10) (sf_10_10 ht) (aw_rf (aw_rf t 1) 0) (sf_4_0 (sf_10_1 ht)) (aw_rf (aw_rf t 1) 4) (sf_4_4 (sf_10_1 ht)) μ) (sf_10_10 ht) (by decide) rfl rfl cw_RX10_287 ⟨Nat.le_of_ble_eq_true rfl, Nat.le_of_ble_eq_true rfl⟩ (fun _ => Nat.le_of_ble_eq_true rfl) (fun r1 => ?_)
  exact aw_ireturn dX10_slippery_21 rfl rfl
abbrev k_X10_dry : aw_K := (RX10, cX10_dry, 2, (some .int), 2, 141)
def f_X10_dry (F : Nat) (t : Nat) (a0 : Int32) (μ : aw_M) : Option (Int32 × aw_M) :=
  (f_X9_sandAt F (aw_rf t 10) a0 μ).bind fun r1 =>
  some (r1.1, r1.2)
theorem m_X10_dry (l : Launch) (F : Nat) (t : Nat) (ht : (aw_sh t).1 = 15) (a0 : Int32) (μ : aw_M) : AM l yX10_dry cX10_dry 2 (some .int) 2 141 aw_gi [.ref t, .int a0] μ (f_X10_dry F t a0 μ) := by
  refine aw_met [some (.ref t), some (.int a0)] (by decide) (fun _ => rfl) (fun _ => Nat.le_of_ble_eq_true rfl) ?_
  show AW l k_X10_dry aw_gi 0 [some (.ref t), some (.int a0)] [] μ _
  unfold f_X10_dry
  refine aw_aload_n (n := 1) dX10_dry_0 rfl rfl ?_
  refine aw_getR (n := 4) (RX10, TX10, 12) 10 10 dX10_dry_1 rfl ht (by decide) fd_RX10_88 ?_
  refine aw_iload_n (n := 5) dX10_dry_4 rfl rfl ?_
  refine aw_callVi (n := 8) (as := [.int a0]) (st := []) (RX9, TX9, 13) 9 dX10_dry_5 rfl rfl (m_X9_sandAt l F (aw_rf t 10) (sf_10_10 ht) a0 μ) (sf_10_10 ht) (by decide) rfl rfl cw_RX10_291 ⟨Nat.le_of_ble_eq_true rfl, Nat.le_of_ble_eq_true rfl⟩ (fun _ => Nat.le_of_ble_eq_true rfl) (fun r1 => ?_)
  exact aw_ireturn dX10_dry_8 rfl rfl
abbrev k_X10_table : aw_K := (RX10, cX10_table, 2, (some .int), 6, 247)
def f_X10_table (F : Nat) (t : Nat) (μ : aw_M) : Option (Int32 × aw_M) :=
  (f_X5_tryAll F (aw_rf t 8) (aw_rf t 0) μ).bind fun r1 =>
  aw_let (aw_wI r1.2 (aw_rf t 0) 1 0) fun μ2 =>
  some (r1.1, μ2)
theorem m_X10_table (l : Launch) (F : Nat) (t : Nat) (ht : (aw_sh t).1 = 15) (μ : aw_M) : AM l yX10_table cX10_table 2 (some .int) 6 247 aw_gi [.ref t] μ (f_X10_table F t μ) := by
  refine aw_met [some (.ref t), none] (by decide) (fun _ => rfl) (fun _ => Nat.le_of_ble_eq_true rfl) ?_
  show AW l k_X10_table aw_gi 0 [some (.ref t), none] [] μ _
  unfold f_X10_table
  refine aw_aload_n (n := 1) dX10_table_0 rfl rfl ?_
  refine aw_getR (n := 4) (RX10, TX10, 12) 10 8 dX10_table_1 rfl ht (by decide) fd_RX10_74 ?_
  refine aw_aload_n (n := 5) dX10_table_4 rfl rfl ?_
  refine aw_getR (n := 8) (RX10, TX10, 12) 10 0 dX10_table_5 rfl ht (by decide) fd_RX10_12 ?_
  refine aw_callVi (n := 11) (as := [.ref (aw_rf t 0)]) (st := []) (RX5, TX5, 12) 5 dX10_table_8 rfl rfl (m_X5_tryAll l F (aw_rf t 8) (sf_10_8 ht) (aw_rf t 0) (sf_10_0 ht) μ) (sf_10_8 ht) (by decide) rfl rfl cw_RX10_294 ⟨Nat.le_of_ble_eq_true rfl, Nat.le_of_ble_eq_true rfl⟩ (fun _ => Nat.le_of_ble_eq_true rfl) (fun r1 => ?_)
  refine aw_istore_n (n := 12) [some (.ref t), some (.int r1.1)] dX10_table_11 rfl rfl (Nat.le_of_ble_eq_true rfl) (Nat.le_of_ble_eq_true rfl) rfl ?_
  refine aw_aload_n (n := 13) dX10_table_12 rfl rfl ?_
  refine aw_getR (n := 16) (RX10, TX10, 12) 10 0 dX10_table_13 rfl ht (by decide) fd_RX10_12 ?_
  refine aw_iconst (n := 17) 0 dX10_table_16 rfl (by decide) ?_
  refine aw_putI (n := 20) (RX6, TX6, 13) 6 1 dX10_table_17 rfl (sf_10_0 ht) (by decide) fp_RX10_100 (fun μ2 => ?_)
  refine aw_iload_n (n := 21) dX10_table_20 rfl rfl ?_
  exact aw_ireturn dX10_table_21 rfl rfl
abbrev k_X10_against : aw_K := (RX10, cX10_against, 4, (some .int), 2, 143)
def f_X10_against_9 (F : Nat) (t : Nat) (x1 : Int32) (x2 : Int32) (x3 : Int32) (μ : aw_M) : Option (Int32 × aw_M) :=
  (f_X5_metMarks F (aw_rf t 8) x1 x2 x3 μ).bind fun r2 =>
  some (r2.1, r2.2)
theorem c_X10_against_9 (l : Launch) (F : Nat) (t : Nat) (ht : (aw_sh t).1 = 15) (x1 : Int32) (x2 : Int32) (x3 : Int32) (μ : aw_M) : AW l k_X10_against aw_gi 9 [some (.ref t), some (.int x1), some (.int x2), some (.int x3)] [] μ (f_X10_against_9 F t x1 x2 x3 μ) := by
  unfold f_X10_against_9
  refine aw_aload_n (n := 10) dX10_against_9 rfl rfl ?_
  refine aw_getR (n := 13) (RX10, TX10, 12) 10 8 dX10_against_10 rfl ht (by decide) fd_RX10_74 ?_
  refine aw_iload_n (n := 14) dX10_against_13 rfl rfl ?_
  refine aw_iload_n (n := 15) dX10_against_14 rfl rfl ?_
  refine aw_iload_n (n := 16) dX10_against_15 rfl rfl ?_
  refine aw_callVi (n := 19) (as := [.int x1, .int x2, .int x3]) (st := []) (RX5, TX5, 12) 5 dX10_against_16 rfl rfl (m_X5_metMarks l F (aw_rf t 8) (sf_10_8 ht) x1 x2 x3 μ) (sf_10_8 ht) (by decide) rfl rfl cw_RX10_297 ⟨Nat.le_of_ble_eq_true rfl, Nat.le_of_ble_eq_true rfl⟩ (fun _ => Nat.le_of_ble_eq_true rfl) (fun r2 => ?_)
  refine aw_goto 25 dX10_against_19 (by decide) ?_
  exact aw_ireturn dX10_against_25 rfl rfl
def f_X10_against (F : Nat) (t : Nat) (a0 : Int32) (a1 : Int32) (a2 : Int32) (μ : aw_M) : Option (Int32 × aw_M) :=
  (if a2 = 0 then
  f_X10_against_9 F t a0 a1 a2 μ
  else
  (if a2 = 1 then
  f_X10_against_9 F t a0 a1 a2 μ
  else
  some ((-10001), μ)))
theorem m_X10_against (l : Launch) (F : Nat) (t : Nat) (ht : (aw_sh t).1 = 15) (a0 : Int32) (a1 : Int32) (a2 : Int32) (μ : aw_M) : AM l yX10_against cX10_against 4 (some .int) 2 143 aw_gi [.ref t, .int a0, .int a1, .int a2] μ (f_X10_against F t a0 a1 a2 μ) := by
  refine aw_met [some (.ref t), some (.int a0), some (.int a1), some (.int a2)] (by decide) (fun _ => rfl) (fun _ => Nat.le_of_ble_eq_true rfl) ?_
  show AW l k_X10_against aw_gi 0 [some (.ref t), some (.int a0), some (.int a1), some (.int a2)] [] μ _
  unfold f_X10_against
  refine aw_iload_n (n := 1) dX10_against_0 rfl rfl ?_
  refine aw_if_eq (n := 4) 9 dX10_against_1 (by decide) rfl ?_ ?_
  · exact aw_weak (c_X10_against_9 l F t ht a0 a1 a2 μ) (aw_ss (aw_ss (aw_ss (aw_ss aw_s0))))
  · refine aw_iload_n (n := 5) dX10_against_4 rfl rfl ?_
    refine aw_iconst (n := 6) 1 dX10_against_5 rfl (by decide) ?_
    refine aw_icmp_ne (n := 9) 22 dX10_against_6 (by decide) rfl ?_ ?_
    · refine aw_sipush (n := 25) (-10001) dX10_against_22 rfl (by decide) ?_
      exact aw_ireturn dX10_against_25 rfl rfl
    · exact aw_weak (c_X10_against_9 l F t ht a0 a1 a2 μ) (aw_ss (aw_ss (aw_ss (aw_ss aw_s0))))
abbrev k_X10_reply : aw_K := (RX10, cX10_reply, 2, (some .int), 3, 166)
def f_X10_reply (F : Nat) (t : Nat) (a0 : Int32) (μ : aw_M) : Option (Int32 × aw_M) :=
  (f_X5_bestReply F (aw_rf t 8) a0 μ).bind fun r1 =>
  some (r1.1, r1.2)
theorem m_X10_reply (l : Launch) (F : Nat) (t : Nat) (ht : (aw_sh t).1 = 15) (a0 : Int32) (μ : aw_M) : AM l yX10_reply cX10_reply 2 (some .int) 3 166 aw_gi [.ref t, .int a0] μ (f_X10_reply F t a0 μ) := by
  refine aw_met [some (.ref t), some (.int a0)] (by decide) (fun _ => rfl) (fun _ => Nat.le_of_ble_eq_true rfl) ?_
  show AW l k_X10_reply aw_gi 0 [some (.ref t), some (.int a0)] [] μ _
  unfold f_X10_reply
  refine aw_aload_n (n := 1) dX10_reply_0 rfl rfl ?_
  refine aw_getR (n := 4) (RX10, TX10, 12) 10 8 dX10_reply_1 rfl ht (by decide) fd_RX10_74 ?_
  refine aw_iload_n (n := 5) dX10_reply_4 rfl rfl ?_
  refine aw_callVi (n := 8) (as := [.int a0]) (st := []) (RX5, TX5, 12) 5 dX10_reply_5 rfl rfl (m_X5_bestReply l F (aw_rf t 8) (sf_10_8 ht) a0 μ) (sf_10_8 ht) (by decide) rfl rfl cw_RX10_300 ⟨Nat.le_of_ble_eq_true rfl, Nat.le_of_ble_eq_true rfl⟩ (fun _ => Nat.le_of_ble_eq_true rfl) (fun r1 => ?_)
  exact aw_ireturn dX10_reply_8 rfl rfl
abbrev k_X10_who : aw_K := (RX10, cX10_who, 3, (some .int), 3, 170)
def f_X10_who (F : Nat) (t : Nat) (a0 : Int32) (a1 : Int32) (μ : aw_M) : Option (Int32 × aw_M) :=
  (f_X10_isCart F t a0 μ).bind fun r1 =>
  (if r1.1 = true then
  (f_X0_throwersOf F (aw_rf (aw_rf t 1) 4) a0 a1 r1.2).bind fun r2 =>
  some (r2.1, r2.2)
  else
  some ((-1), r1.2))
theorem m_X10_who (l : Launch) (F : Nat) (t : Nat) (ht : (aw_sh t).1 = 15) (a0 : Int32) (a1 : Int32) (μ : aw_M) : AM l yX10_who cX10_who 3 (some .int) 3 170 aw_gi [.ref t, .int a0, .int a1] μ (f_X10_who F t a0 a1 μ) := by
  refine aw_met [some (.ref t), some (.int a0), some (.int a1)] (by decide) (fun _ => rfl) (fun _ => Nat.le_of_ble_eq_true rfl) ?_
  show AW l k_X10_who aw_gi 0 [some (.ref t), some (.int a0), some (.int a1)] [] μ _
  unfold f_X10_who
  refine aw_aload_n (n := 1) dX10_who_0 rfl rfl ?_
  refine aw_iload_n (n := 2) dX10_who_1 rfl rfl ?_
  refine aw_callVz (n := 5) (as := [.int a0]) (st := []) (RX10, TX10, 12) 10 dX10_who_2 rfl rfl (m_X10_isCart l F t ht a0 μ) ht (by decide) rfl rfl cw_RX10_156 ⟨Nat.le_of_ble_eq_true rfl, Nat.le_of_ble_eq_true rfl⟩ (fun _ => Nat.le_of_ble_eq_true rfl) (fun r1 => ?_)
  refine aw_ifb_eq (n := 8) 23 dX10_who_5 (by decide) rfl ?_ ?_
  · refine aw_iconst (n := 24) (-1) dX10_who_23 rfl (by decide) ?_
    exact aw_ireturn dX10_who_24 rfl rfl
  · refine aw_aload_n (n := 9) dX10_who_8 rfl rfl ?_
    refine aw_getR (n := 12) (RX10, TX10, 12) 10 1 dX10_who_9 rfl ht (by decide) fd_RX10_19 ?_
    refine aw_getR (n := 15) (RX4, TX4, 5) 4 4 dX10_who_12 rfl (sf_10_1 ht) (by decide) fd_RX10_166 ?_
    refine aw_iload_n (n := 16) dX10_who_15 rfl rfl ?_
    refine aw_iload_n (n := 17) dX10_who_16 rfl rfl ?_
    refine aw_callVi (n := 20) (as := [.int a0, .int a1]) (st := []) (RX0, TX0, 20) 0 dX10_who_17 rfl rfl (m_X0_throwersOf l F (aw_rf (aw_rf t 1) 4) (sf_4_4 (sf_10_1 ht)) a0 a1 r1.2) (sf_4_4 (sf_10_1 ht)) (by decide) rfl rfl cw_RX10_303 ⟨Nat.le_of_ble_eq_true rfl, Nat.le_of_ble_eq_true rfl⟩ (fun _ => Nat.le_of_ble_eq_true rfl) (fun r2 => ?_)
    refine aw_goto 24 dX10_who_20 (by decide) ?_
    exact aw_ireturn dX10_who_24 rfl rfl
abbrev k_X10_odds : aw_K := (RX10, cX10_odds, 7, (some .int), 6, 245)
def f_X10_odds_96 (F : Nat) (t : Nat) (k51 : Int32 × Int32 × Int32 × Int32 × Int32 × Int32 × aw_M → Option (Int32 × aw_M)) (x1 : Int32) (x2 : Int32) (x3 : Int32) (x4 : Int32) (x5 : Int32) (x6 : Int32) (μ : aw_M) : Option (Int32 × aw_M) :=
  k51 (x1, x2, x3, x4, x5, (x6 + 1), μ)
theorem c_X10_odds_96 (l : Launch) (F : Nat) (t : Nat) (ht : (aw_sh t).1 = 15) (k51 : Int32 × Int32 × Int32 × Int32 × Int32 × Int32 × aw_M → Option (Int32 × aw_M)) (hk51 : ∀ s : Int32 × Int32 × Int32 × Int32 × Int32 × Int32 × aw_M, AW l k_X10_odds aw_gi 51 [some (.ref t), some (.int s.1), some (.int s.2.1), some (.int s.2.2.1), some (.int s.2.2.2.1), some (.int s.2.2.2.2.1), some (.int s.2.2.2.2.2.1)] [] s.2.2.2.2.2.2 (k51 s)) (x1 : Int32) (x2 : Int32) (x3 : Int32) (x4 : Int32) (x5 : Int32) (x6 : Int32) (μ : aw_M) : AW l k_X10_odds aw_gi 96 [some (.ref t), some (.int x1), some (.int x2), some (.int x3), some (.int x4), some (.int x5), some (.int x6)] [] μ (f_X10_odds_96 F t k51 x1 x2 x3 x4 x5 x6 μ) := by
  unfold f_X10_odds_96
  refine aw_iinc (n := 99) (x6 + 1) [some (.ref t), some (.int x1), some (.int x2), some (.int x3), some (.int x4), some (.int x5), some (.int (x6 + 1))] dX10_odds_96 rfl rfl (by rfl) rfl (Nat.le_of_ble_eq_true rfl) rfl ?_
  refine aw_goto 51 dX10_odds_99 (by decide) ?_
  exact aw_weak (hk51 (x1, x2, x3, x4, x5, (x6 + 1), μ)) (aw_ss (aw_ss (aw_ss (aw_ss (aw_ss (aw_ss (aw_ss aw_s0)))))))
def f_X10_odds_51 (F : Nat) (t : Nat) (k51 : Int32 × Int32 × Int32 × Int32 × Int32 × Int32 × aw_M → Option (Int32 × aw_M)) (x1 : Int32) (x2 : Int32) (x3 : Int32) (x4 : Int32) (x5 : Int32) (x6 : Int32) (μ : aw_M) : Option (Int32 × aw_M) :=
  (if x2 ≤ x6 then
  some (x5, μ)
  else
  (f_X0_restart F (aw_rf t 7) (x3 + x6) μ).bind fun r14 =>
  (f_X0_pass F (aw_rf t 7) 240 r14).bind fun r15 =>
  aw_g (aw_in x1 9) ((if (r15.2.1 (aw_rf (aw_rf t 7) 10) x1.toNatClampNeg) ≤ x4 then
  f_X10_odds_96 F t k51 x1 x2 x3 x4 x5 x6 r15.2
  else
  f_X10_odds_96 F t k51 x1 x2 x3 x4 (x5 + 1) x6 r15.2)))
theorem c_X10_odds_51 (l : Launch) (F : Nat) (t : Nat) (ht : (aw_sh t).1 = 15) : ∀ (N : Nat) (s : Int32 × Int32 × Int32 × Int32 × Int32 × Int32 × aw_M), AW l k_X10_odds aw_gi 51 [some (.ref t), some (.int s.1), some (.int s.2.1), some (.int s.2.2.1), some (.int s.2.2.2.1), some (.int s.2.2.2.2.1), some (.int s.2.2.2.2.2.1)] [] s.2.2.2.2.2.2 (aw_loop (fun k s => f_X10_odds_51 F t k s.1 s.2.1 s.2.2.1 s.2.2.2.1 s.2.2.2.2.1 s.2.2.2.2.2.1 s.2.2.2.2.2.2) N s) := by
  refine aw_loop_ok (f := fun k s => f_X10_odds_51 F t k s.1 s.2.1 s.2.2.1 s.2.2.2.1 s.2.2.2.2.1 s.2.2.2.2.2.1 s.2.2.2.2.2.2) (Ls := fun s => [some (.ref t), some (.int s.1), some (.int s.2.1), some (.int s.2.2.1), some (.int s.2.2.2.1), some (.int s.2.2.2.2.1), some (.int s.2.2.2.2.2.1)]) (ms := fun s => s.2.2.2.2.2.2) ?_
  intro k51 hk51 s
  obtain ⟨x1, x2, x3, x4, x5, x6, μ⟩ := s
  show AW l k_X10_odds aw_gi 51 [some (.ref t), some (.int x1), some (.int x2), some (.int x3), some (.int x4), some (.int x5), some (.int x6)] [] μ (f_X10_odds_51 F t k51 x1 x2 x3 x4 x5 x6 μ)
  unfold f_X10_odds_51
  refine aw_iload (n := 53) dX10_odds_51 rfl rfl ?_
  refine aw_iload_n (n := 54) dX10_odds_53 rfl rfl ?_
  refine aw_icmp_ge (n := 57) 102 dX10_odds_54 (by decide) rfl ?_ ?_
  · refine aw_iload (n := 104) dX10_odds_102 rfl rfl ?_
    exact aw_ireturn dX10_odds_104 rfl rfl
  · refine aw_aload_n (n := 58) dX10_odds_57 rfl rfl ?_
    refine aw_getR (n := 61) (RX10, TX10, 12) 10 7 dX10_odds_58 rfl ht (by decide) fd_RX10_67 ?_
    refine aw_iload_n (n := 62) dX10_odds_61 rfl rfl ?_
    refine aw_iload (n := 64) dX10_odds_62 rfl rfl ?_
    refine aw_iadd (n := 65) dX10_odds_64 rfl ?_
    refine aw_callVv (n := 68) (as := [.int (x3 + x6)]) (st := []) (RX0, TX0, 20) 0 dX10_odds_65 rfl rfl (m_X0_restart l F (aw_rf t 7) (sf_10_7 ht) (x3 + x6) μ) (sf_10_7 ht) (by decide) rfl rfl cw_RX10_201 ⟨Nat.le_of_ble_eq_true rfl, Nat.le_of_ble_eq_true rfl⟩ (fun _ => Nat.le_of_ble_eq_true rfl) (fun r14 => ?_)
    refine aw_aload_n (n := 69) dX10_odds_68 rfl rfl ?_
    refine aw_getR (n := 72) (RX10, TX10, 12) 10 7 dX10_odds_69 rfl ht (by decide) fd_RX10_67 ?_
    refine aw_sipush (n := 75) 240 dX10_odds_72 rfl (by decide) ?_
    refine aw_callVi (n := 78) (as := [.int 240]) (st := []) (RX0, TX0, 20) 0 dX10_odds_75 rfl rfl (m_X0_pass l F (aw_rf t 7) (sf_10_7 ht) 240 r14) (sf_10_7 ht) (by decide) rfl rfl cw_RX10_204 ⟨Nat.le_of_ble_eq_true rfl, Nat.le_of_ble_eq_true rfl⟩ (fun _ => Nat.le_of_ble_eq_true rfl) (fun r15 => ?_)
    refine aw_pop (n := 79) dX10_odds_78 rfl (fun _ => rfl) ?_
    refine aw_aload_n (n := 80) dX10_odds_79 rfl rfl ?_
    refine aw_getR (n := 83) (RX10, TX10, 12) 10 7 dX10_odds_80 rfl ht (by decide) fd_RX10_67 ?_
    refine aw_getR (n := 86) (RX0, TX0, 20) 0 10 dX10_odds_83 rfl (sf_10_7 ht) (by decide) fd_RX10_310 ?_
    refine aw_iload_n (n := 87) dX10_odds_86 rfl rfl ?_
    refine aw_iaload (n := 88) 9 dX10_odds_87 rfl (sf_0_10 (sf_10_7 ht)) ?_
    refine aw_iload (n := 90) dX10_odds_88 rfl rfl ?_
    refine aw_icmp_le (n := 93) 96 dX10_odds_90 (by decide) rfl ?_ ?_
    · exact aw_weak (c_X10_odds_96 l F t ht k51 hk51 x1 x2 x3 x4 x5 x6 r15.2) (aw_ss (aw_ss (aw_ss (aw_ss (aw_ss (aw_ss (aw_ss aw_s0)))))))
    · refine aw_iinc (n := 96) (x5 + 1) [some (.ref t), some (.int x1), some (.int x2), some (.int x3), some (.int x4), some (.int (x5 + 1)), some (.int x6)] dX10_odds_93 rfl rfl (by rfl) rfl (Nat.le_of_ble_eq_true rfl) rfl ?_
      exact aw_weak (c_X10_odds_96 l F t ht k51 hk51 x1 x2 x3 x4 (x5 + 1) x6 r15.2) (aw_ss (aw_ss (aw_ss (aw_ss (aw_ss (aw_ss (aw_ss aw_s0)))))))
def f_X10_odds (F : Nat) (t : Nat) (a0 : Int32) (a1 : Int32) (a2 : Int32) (μ : aw_M) : Option (Int32 × aw_M) :=
  (f_X10_isQuarter F t a0 μ).bind fun r11 =>
  (if r11.1 = true then
  (if a1 < 1 then
  some ((-1), r11.2)
  else
  (if a1 ≤ 60 then
  (f_X5_marksAsTold F (aw_rf t 8) a0 r11.2).bind fun r12 =>
  (f_X0_takeSand F (aw_rf t 7) (aw_rf (aw_rf t 1) 4) r12.2).bind fun r13 =>
  aw_loop (fun k s => f_X10_odds_51 F t k s.1 s.2.1 s.2.2.1 s.2.2.2.1 s.2.2.2.2.1 s.2.2.2.2.2.1 s.2.2.2.2.2.2) F (a0, a1, a2, r12.1, 0, 0, r13)
  else
  some ((-1), r11.2)))
  else
  some ((-1), r11.2))
theorem m_X10_odds (l : Launch) (F : Nat) (t : Nat) (ht : (aw_sh t).1 = 15) (a0 : Int32) (a1 : Int32) (a2 : Int32) (μ : aw_M) : AM l yX10_odds cX10_odds 7 (some .int) 6 245 aw_gi [.ref t, .int a0, .int a1, .int a2] μ (f_X10_odds F t a0 a1 a2 μ) := by
  refine aw_met [some (.ref t), some (.int a0), some (.int a1), some (.int a2), none, none, none] (by decide) (fun _ => rfl) (fun _ => Nat.le_of_ble_eq_true rfl) ?_
  show AW l k_X10_odds aw_gi 0 [some (.ref t), some (.int a0), some (.int a1), some (.int a2), none, none, none] [] μ _
  unfold f_X10_odds
  refine aw_aload_n (n := 1) dX10_odds_0 rfl rfl ?_
  refine aw_iload_n (n := 2) dX10_odds_1 rfl rfl ?_
  refine aw_callVz (n := 5) (as := [.int a0]) (st := []) (RX10, TX10, 12) 10 dX10_odds_2 rfl rfl (m_X10_isQuarter l F t ht a0 μ) ht (by decide) rfl rfl cw_RX10_142 ⟨Nat.le_of_ble_eq_true rfl, Nat.le_of_ble_eq_true rfl⟩ (fun _ => Nat.le_of_ble_eq_true rfl) (fun r11 => ?_)
  refine aw_ifb_eq (n := 8) 19 dX10_odds_5 (by decide) rfl ?_ ?_
  · refine aw_iconst (n := 20) (-1) dX10_odds_19 rfl (by decide) ?_
    exact aw_ireturn dX10_odds_20 rfl rfl
  · refine aw_iload_n (n := 9) dX10_odds_8 rfl rfl ?_
    refine aw_iconst (n := 10) 1 dX10_odds_9 rfl (by decide) ?_
    refine aw_icmp_lt (n := 13) 19 dX10_odds_10 (by decide) rfl ?_ ?_
    · refine aw_iconst (n := 20) (-1) dX10_odds_19 rfl (by decide) ?_
      exact aw_ireturn dX10_odds_20 rfl rfl
    · refine aw_iload_n (n := 14) dX10_odds_13 rfl rfl ?_
      refine aw_bipush (n := 16) 60 dX10_odds_14 rfl (by decide) ?_
      refine aw_icmp_le (n := 19) 21 dX10_odds_16 (by decide) rfl ?_ ?_
      · refine aw_aload_n (n := 22) dX10_odds_21 rfl rfl ?_
        refine aw_getR (n := 25) (RX10, TX10, 12) 10 8 dX10_odds_22 rfl ht (by decide) fd_RX10_74 ?_
        refine aw_iload_n (n := 26) dX10_odds_25 rfl rfl ?_
        refine aw_callVi (n := 29) (as := [.int a0]) (st := []) (RX5, TX5, 12) 5 dX10_odds_26 rfl rfl (m_X5_marksAsTold l F (aw_rf t 8) (sf_10_8 ht) a0 r11.2) (sf_10_8 ht) (by decide) rfl rfl cw_RX10_232 ⟨Nat.le_of_ble_eq_true rfl, Nat.le_of_ble_eq_true rfl⟩ (fun _ => Nat.le_of_ble_eq_true rfl) (fun r12 => ?_)
        refine aw_istore (n := 31) [some (.ref t), some (.int a0), some (.int a1), some (.int a2), some (.int r12.1), none, none] dX10_odds_29 rfl rfl (Nat.le_of_ble_eq_true rfl) (Nat.le_of_ble_eq_true rfl) rfl ?_
        refine aw_iconst (n := 32) 0 dX10_odds_31 rfl (by decide) ?_
        refine aw_istore (n := 34) [some (.ref t), some (.int a0), some (.int a1), some (.int a2), some (.int r12.1), some (.int 0), none] dX10_odds_32 rfl rfl (Nat.le_of_ble_eq_true rfl) (Nat.le_of_ble_eq_true rfl) rfl ?_
        refine aw_aload_n (n := 35) dX10_odds_34 rfl rfl ?_
        refine aw_getR (n := 38) (RX10, TX10, 12) 10 7 dX10_odds_35 rfl ht (by decide) fd_RX10_67 ?_
        refine aw_aload_n (n := 39) dX10_odds_38 rfl rfl ?_
        refine aw_getR (n := 42) (RX10, TX10, 12) 10 1 dX10_odds_39 rfl ht (by decide) fd_RX10_19 ?_
        refine aw_getR (n := 45) (RX4, TX4, 5) 4 4 dX10_odds_42 rfl (sf_10_1 ht) (by decide) fd_RX10_166 ?_
        refine aw_callVv (n := 48) (as := [.ref (aw_rf (aw_rf t 1) 4)]) (st := []) (RX0, TX0, 20) 0 dX10_odds_45 rfl rfl (m_X0_takeSand l F (aw_rf t 7) (sf_10_7 ht) (aw_rf (aw_rf t 1) 4) (sf_4_4 (sf_10_1 ht)) r12.2) (sf_10_7 ht) (by decide) rfl rfl cw_RX10_306 ⟨Nat.le_of_ble_eq_true rfl, Nat.le_of_ble_eq_true rfl⟩ (fun _ => Nat.le_of_ble_eq_true rfl) (fun r13 => ?_)
        refine aw_iconst (n := 49) 0 dX10_odds_48 rfl (by decide) ?_
        refine aw_istore (n := 51) [some (.ref t), some (.int a0), some (.int a1), some (.int a2), some (.int r12.1), some (.int 0), some (.int 0)] dX10_odds_49 rfl rfl (Nat.le_of_ble_eq_true rfl) (Nat.le_of_ble_eq_true rfl) rfl ?_
        exact aw_weak (c_X10_odds_51 l F t ht F (a0, a1, a2, r12.1, 0, 0, r13)) (aw_ss (aw_ss (aw_ss (aw_ss (aw_ss (aw_ss (aw_ss aw_s0)))))))
      · refine aw_iconst (n := 20) (-1) dX10_odds_19 rfl (by decide) ?_
        exact aw_ireturn dX10_odds_20 rfl rfl
abbrev k_X10_said : aw_K := (RX10, cX10_said, 4, (some .int), 7, 266)
def f_X10_said_75 (F : Nat) (t : Nat) (x1 : Int32) (x2 : Int32) (μ : aw_M) : Option (Int32 × aw_M) :=
  (if x1 = (-1) then
  some (x2, μ)
  else
  some ((-1), μ))
theorem c_X10_said_75 (l : Launch) (F : Nat) (t : Nat) (ht : (aw_sh t).1 = 15) (x1 : Int32) (x2 : Int32) (μ : aw_M) : AW l k_X10_said aw_gi 75 [none, some (.int x1), some (.int x2), none] [] μ (f_X10_said_75 F t x1 x2 μ) := by
  unfold f_X10_said_75
  refine aw_iload_n (n := 76) dX10_said_75 rfl rfl ?_
  refine aw_iconst (n := 77) (-1) dX10_said_76 rfl (by decide) ?_
  refine aw_icmp_ne (n := 80) 84 dX10_said_77 (by decide) rfl ?_ ?_
  · refine aw_iconst (n := 85) (-1) dX10_said_84 rfl (by decide) ?_
    exact aw_ireturn dX10_said_85 rfl rfl
  · refine aw_iload_n (n := 81) dX10_said_80 rfl rfl ?_
    refine aw_goto 85 dX10_said_81 (by decide) ?_
    exact aw_ireturn dX10_said_85 rfl rfl
def f_X10_said_69 (F : Nat) (t : Nat) (k24 : Int32 × Int32 × Int32 × aw_M → Option (Int32 × aw_M)) (x1 : Int32) (x2 : Int32) (x3 : Int32) (μ : aw_M) : Option (Int32 × aw_M) :=
  k24 (x1, x2, (x3 + 1), μ)
theorem c_X10_said_69 (l : Launch) (F : Nat) (t : Nat) (ht : (aw_sh t).1 = 15) (k24 : Int32 × Int32 × Int32 × aw_M → Option (Int32 × aw_M)) (hk24 : ∀ s : Int32 × Int32 × Int32 × aw_M, AW l k_X10_said aw_gi 24 [some (.ref t), some (.int s.1), some (.int s.2.1), some (.int s.2.2.1)] [] s.2.2.2 (k24 s)) (x1 : Int32) (x2 : Int32) (x3 : Int32) (μ : aw_M) : AW l k_X10_said aw_gi 69 [some (.ref t), some (.int x1), some (.int x2), some (.int x3)] [] μ (f_X10_said_69 F t k24 x1 x2 x3 μ) := by
  unfold f_X10_said_69
  refine aw_iinc (n := 72) (x3 + 1) [some (.ref t), some (.int x1), some (.int x2), some (.int (x3 + 1))] dX10_said_69 rfl rfl (by rfl) rfl (Nat.le_of_ble_eq_true rfl) rfl ?_
  refine aw_goto 24 dX10_said_72 (by decide) ?_
  exact aw_weak (hk24 (x1, x2, (x3 + 1), μ)) (aw_ss (aw_ss (aw_ss (aw_ss aw_s0))))
def f_X10_said_24 (F : Nat) (t : Nat) (k24 : Int32 × Int32 × Int32 × aw_M → Option (Int32 × aw_M)) (x1 : Int32) (x2 : Int32) (x3 : Int32) (μ : aw_M) : Option (Int32 × aw_M) :=
  (if (μ.1 (aw_rf (aw_rf t 1) 0) 3) ≤ x3 then
  f_X10_said_75 F t x1 x2 μ
  else
  (f_X3_holds F (aw_rf (aw_rf t 1) 2) (aw_rf (aw_rf t 1) 4) x3 μ).bind fun r8 =>
  (if r8.1 = true then
  (if x2 = x1 then
  some (x3, r8.2)
  else
  f_X10_said_69 F t k24 x1 (x2 + 1) x3 r8.2)
  else
  f_X10_said_69 F t k24 x1 x2 x3 r8.2))
theorem c_X10_said_24 (l : Launch) (F : Nat) (t : Nat) (ht : (aw_sh t).1 = 15) : ∀ (N : Nat) (s : Int32 × Int32 × Int32 × aw_M), AW l k_X10_said aw_gi 24 [some (.ref t), some (.int s.1), some (.int s.2.1), some (.int s.2.2.1)] [] s.2.2.2 (aw_loop (fun k s => f_X10_said_24 F t k s.1 s.2.1 s.2.2.1 s.2.2.2) N s) := by
  refine aw_loop_ok (f := fun k s => f_X10_said_24 F t k s.1 s.2.1 s.2.2.1 s.2.2.2) (Ls := fun s => [some (.ref t), some (.int s.1), some (.int s.2.1), some (.int s.2.2.1)]) (ms := fun s => s.2.2.2) ?_
  intro k24 hk24 s
  obtain ⟨x1, x2, x3, μ⟩ := s
  show AW l k_X10_said aw_gi 24 [some (.ref t), some (.int x1), some (.int x2), some (.int x3)] [] μ (f_X10_said_24 F t k24 x1 x2 x3 μ)
  unfold f_X10_said_24
  refine aw_iload_n (n := 25) dX10_said_24 rfl rfl ?_
  refine aw_aload_n (n := 26) dX10_said_25 rfl rfl ?_
  refine aw_getR (n := 29) (RX10, TX10, 12) 10 1 dX10_said_26 rfl ht (by decide) fd_RX10_19 ?_
  refine aw_getR (n := 32) (RX4, TX4, 5) 4 0 dX10_said_29 rfl (sf_10_1 ht) (by decide) fd_RX10_54 ?_
  refine aw_getI (n := 35) (RX8, TX8, 20) 8 3 dX10_said_32 rfl (sf_4_0 (sf_10_1 ht)) (by decide) fd_RX10_316 ?_
  refine aw_icmp_ge (n := 38) 75 dX10_said_35 (by decide) rfl ?_ ?_
  · exact aw_weak (c_X10_said_75 l F t ht x1 x2 μ) (aw_sn (aw_ss (aw_ss (aw_sn aw_s0))))
  · refine aw_aload_n (n := 39) dX10_said_38 rfl rfl ?_
    refine aw_getR (n := 42) (RX10, TX10, 12) 10 1 dX10_said_39 rfl ht (by decide) fd_RX10_19 ?_
    refine aw_getR (n := 45) (RX4, TX4, 5) 4 2 dX10_said_42 rfl (sf_10_1 ht) (by decide) fd_RX10_130 ?_
    refine aw_iload_n (n := 46) dX10_said_45 rfl rfl ?_
    refine aw_aload_n (n := 47) dX10_said_46 rfl rfl ?_
    refine aw_getR (n := 50) (RX10, TX10, 12) 10 1 dX10_said_47 rfl ht (by decide) fd_RX10_19 ?_
    refine aw_getR (n := 53) (RX4, TX4, 5) 4 4 dX10_said_50 rfl (sf_10_1 ht) (by decide) fd_RX10_166 ?_
    refine aw_callVz (n := 56) (as := [.int x3, .ref (aw_rf (aw_rf t 1) 4)]) (st := []) (RX3, TX3, 6) 3 dX10_said_53 rfl rfl (m_X3_holds l F (aw_rf (aw_rf t 1) 2) (sf_4_2 (sf_10_1 ht)) (aw_rf (aw_rf t 1) 4) (sf_4_4 (sf_10_1 ht)) x3 μ) (sf_4_2 (sf_10_1 ht)) (by decide) rfl rfl cw_RX10_319 ⟨Nat.le_of_ble_eq_true rfl, Nat.le_of_ble_eq_true rfl⟩ (fun _ => Nat.le_of_ble_eq_true rfl) (fun r8 => ?_)
    refine aw_ifb_eq (n := 59) 69 dX10_said_56 (by decide) rfl ?_ ?_
    · exact aw_weak (c_X10_said_69 l F t ht k24 hk24 x1 x2 x3 r8.2) (aw_ss (aw_ss (aw_ss (aw_ss aw_s0))))
    · refine aw_iload_n (n := 60) dX10_said_59 rfl rfl ?_
      refine aw_iload_n (n := 61) dX10_said_60 rfl rfl ?_
      refine aw_icmp_ne (n := 64) 66 dX10_said_61 (by decide) rfl ?_ ?_
      · refine aw_iinc (n := 69) (x2 + 1) [some (.ref t), some (.int x1), some (.int (x2 + 1)), some (.int x3)] dX10_said_66 rfl rfl (by rfl) rfl (Nat.le_of_ble_eq_true rfl) rfl ?_
        exact aw_weak (c_X10_said_69 l F t ht k24 hk24 x1 (x2 + 1) x3 r8.2) (aw_ss (aw_ss (aw_ss (aw_ss aw_s0))))
      · refine aw_iload_n (n := 65) dX10_said_64 rfl rfl ?_
        exact aw_ireturn dX10_said_65 rfl rfl
def f_X10_said (F : Nat) (t : Nat) (a0 : Int32) (μ : aw_M) : Option (Int32 × aw_M) :=
  (if a0 < (-1) then
  some ((-1), μ)
  else
  (f_X3_isTold F (aw_rf (aw_rf t 1) 2) μ).bind fun r7 =>
  (if r7.1 = true then
  aw_loop (fun k s => f_X10_said_24 F t k s.1 s.2.1 s.2.2.1 s.2.2.2) F (a0, 0, 0, r7.2)
  else
  some ((-1), r7.2)))
theorem m_X10_said (l : Launch) (F : Nat) (t : Nat) (ht : (aw_sh t).1 = 15) (a0 : Int32) (μ : aw_M) : AM l yX10_said cX10_said 4 (some .int) 7 266 aw_gi [.ref t, .int a0] μ (f_X10_said F t a0 μ) := by
  refine aw_met [some (.ref t), some (.int a0), none, none] (by decide) (fun _ => rfl) (fun _ => Nat.le_of_ble_eq_true rfl) ?_
  show AW l k_X10_said aw_gi 0 [some (.ref t), some (.int a0), none, none] [] μ _
  unfold f_X10_said
  refine aw_iload_n (n := 1) dX10_said_0 rfl rfl ?_
  refine aw_iconst (n := 2) (-1) dX10_said_1 rfl (by decide) ?_
  refine aw_icmp_lt (n := 5) 18 dX10_said_2 (by decide) rfl ?_ ?_
  · refine aw_iconst (n := 19) (-1) dX10_said_18 rfl (by decide) ?_
    exact aw_ireturn dX10_said_19 rfl rfl
  · refine aw_aload_n (n := 6) dX10_said_5 rfl rfl ?_
    refine aw_getR (n := 9) (RX10, TX10, 12) 10 1 dX10_said_6 rfl ht (by decide) fd_RX10_19 ?_
    refine aw_getR (n := 12) (RX4, TX4, 5) 4 2 dX10_said_9 rfl (sf_10_1 ht) (by decide) fd_RX10_130 ?_
    refine aw_callVz (n := 15) (as := []) (st := []) (RX3, TX3, 6) 3 dX10_said_12 rfl rfl (m_X3_isTold l F (aw_rf (aw_rf t 1) 2) (sf_4_2 (sf_10_1 ht)) μ) (sf_4_2 (sf_10_1 ht)) (by decide) rfl rfl cw_RX10_313 ⟨Nat.le_of_ble_eq_true rfl, Nat.le_of_ble_eq_true rfl⟩ (fun _ => Nat.le_of_ble_eq_true rfl) (fun r7 => ?_)
    refine aw_ifb_ne (n := 18) 20 dX10_said_15 (by decide) rfl ?_ ?_
    · refine aw_iconst (n := 21) 0 dX10_said_20 rfl (by decide) ?_
      refine aw_istore_n (n := 22) [some (.ref t), some (.int a0), some (.int 0), none] dX10_said_21 rfl rfl (Nat.le_of_ble_eq_true rfl) (Nat.le_of_ble_eq_true rfl) rfl ?_
      refine aw_iconst (n := 23) 0 dX10_said_22 rfl (by decide) ?_
      refine aw_istore_n (n := 24) [some (.ref t), some (.int a0), some (.int 0), some (.int 0)] dX10_said_23 rfl rfl (Nat.le_of_ble_eq_true rfl) (Nat.le_of_ble_eq_true rfl) rfl ?_
      exact aw_weak (c_X10_said_24 l F t ht F (a0, 0, 0, r7.2)) (aw_ss (aw_ss (aw_ss (aw_ss aw_s0))))
    · refine aw_iconst (n := 19) (-1) dX10_said_18 rfl (by decide) ?_
      exact aw_ireturn dX10_said_19 rfl rfl
abbrev k_X10_count : aw_K := (RX10, cX10_count, 3, (some .int), 1, 120)
def f_X10_count (F : Nat) (t : Nat) (a0 : Int32) (μ : aw_M) : Option (Int32 × aw_M) :=
  (aw_sel ((a0 : Int32).toInt - 0) [(some ((μ.1 (aw_rf (aw_rf t 1) 0) 1), μ)), (some ((μ.1 (aw_rf (aw_rf t 1) 0) 2), μ)), (some ((μ.1 (aw_rf (aw_rf t 1) 0) 3), μ)), (some ((μ.1 (aw_rf (aw_rf t 1) 0) 4), μ)), (aw_g (aw_in 0 4) (some ((μ.1 (aw_rf (aw_rf (aw_rf t 1) 0) 14) (0 : Int32).toNatClampNeg), μ))), (aw_g (aw_in 1 4) (some ((μ.1 (aw_rf (aw_rf (aw_rf t 1) 0) 14) (1 : Int32).toNatClampNeg), μ))), (aw_g (aw_in 2 4) (some ((μ.1 (aw_rf (aw_rf (aw_rf t 1) 0) 14) (2 : Int32).toNatClampNeg), μ))), (some ((μ.1 (aw_rf (aw_rf t 1) 1) 0), μ)), (some ((μ.1 (aw_rf t 0) 1), μ))] (some ((-1), μ)))
theorem m_X10_count (l : Launch) (F : Nat) (t : Nat) (ht : (aw_sh t).1 = 15) (a0 : Int32) (μ : aw_M) : AM l yX10_count cX10_count 3 (some .int) 1 120 aw_gi [.ref t, .int a0] μ (f_X10_count F t a0 μ) := by
  refine aw_met [some (.ref t), some (.int a0), none] (by decide) (fun _ => rfl) (fun _ => Nat.le_of_ble_eq_true rfl) ?_
  show AW l k_X10_count aw_gi 0 [some (.ref t), some (.int a0), none] [] μ _
  unfold f_X10_count
  refine aw_aload_n (n := 1) dX10_count_0 rfl rfl ?_
  refine aw_getR (n := 4) (RX10, TX10, 12) 10 1 dX10_count_1 rfl ht (by decide) fd_RX10_19 ?_
  refine aw_getR (n := 7) (RX4, TX4, 5) 4 0 dX10_count_4 rfl (sf_10_1 ht) (by decide) fd_RX10_54 ?_
  refine aw_astore_n (n := 8) [some (.ref t), some (.int a0), some (.ref (aw_rf (aw_rf t 1) 0))] dX10_count_7 rfl rfl (Nat.le_of_ble_eq_true rfl) (Nat.le_of_ble_eq_true rfl) rfl ?_
  refine aw_iload_n (n := 9) dX10_count_8 rfl rfl ?_
  refine aw_tsw [60, 65, 70, 75, 80, 87, 94, 101, 112] 120 dX10_count_9 (by decide) (by decide) (by decide) ⟨?_, ?_, ?_, ?_, ?_, ?_, ?_, ?_, ?_, trivial⟩ ?_
  · refine aw_aload_n (n := 61) dX10_count_60 rfl rfl ?_
    refine aw_getI (n := 64) (RX8, TX8, 20) 8 1 dX10_count_61 rfl (sf_4_0 (sf_10_1 ht)) (by decide) fd_RX10_326 ?_
    exact aw_ireturn dX10_count_64 rfl rfl
  · refine aw_aload_n (n := 66) dX10_count_65 rfl rfl ?_
    refine aw_getI (n := 69) (RX8, TX8, 20) 8 2 dX10_count_66 rfl (sf_4_0 (sf_10_1 ht)) (by decide) fd_RX10_329 ?_
    exact aw_ireturn dX10_count_69 rfl rfl
  · refine aw_aload_n (n := 71) dX10_count_70 rfl rfl ?_
    refine aw_getI (n := 74) (RX8, TX8, 20) 8 3 dX10_count_71 rfl (sf_4_0 (sf_10_1 ht)) (by decide) fd_RX10_316 ?_
    exact aw_ireturn dX10_count_74 rfl rfl
  · refine aw_aload_n (n := 76) dX10_count_75 rfl rfl ?_
    refine aw_getI (n := 79) (RX8, TX8, 20) 8 4 dX10_count_76 rfl (sf_4_0 (sf_10_1 ht)) (by decide) fd_RX10_332 ?_
    exact aw_ireturn dX10_count_79 rfl rfl
  · refine aw_aload_n (n := 81) dX10_count_80 rfl rfl ?_
    refine aw_getR (n := 84) (RX8, TX8, 20) 8 14 dX10_count_81 rfl (sf_4_0 (sf_10_1 ht)) (by decide) fd_RX10_335 ?_
    refine aw_iconst (n := 85) 0 dX10_count_84 rfl (by decide) ?_
    refine aw_iaload (n := 86) 4 dX10_count_85 rfl (sf_8_14 (sf_4_0 (sf_10_1 ht))) ?_
    exact aw_ireturn dX10_count_86 rfl rfl
  · refine aw_aload_n (n := 88) dX10_count_87 rfl rfl ?_
    refine aw_getR (n := 91) (RX8, TX8, 20) 8 14 dX10_count_88 rfl (sf_4_0 (sf_10_1 ht)) (by decide) fd_RX10_335 ?_
    refine aw_iconst (n := 92) 1 dX10_count_91 rfl (by decide) ?_
    refine aw_iaload (n := 93) 4 dX10_count_92 rfl (sf_8_14 (sf_4_0 (sf_10_1 ht))) ?_
    exact aw_ireturn dX10_count_93 rfl rfl
  · refine aw_aload_n (n := 95) dX10_count_94 rfl rfl ?_
    refine aw_getR (n := 98) (RX8, TX8, 20) 8 14 dX10_count_95 rfl (sf_4_0 (sf_10_1 ht)) (by decide) fd_RX10_335 ?_
    refine aw_iconst (n := 99) 2 dX10_count_98 rfl (by decide) ?_
    refine aw_iaload (n := 100) 4 dX10_count_99 rfl (sf_8_14 (sf_4_0 (sf_10_1 ht))) ?_
    exact aw_ireturn dX10_count_100 rfl rfl
  · refine aw_aload_n (n := 102) dX10_count_101 rfl rfl ?_
    refine aw_getR (n := 105) (RX10, TX10, 12) 10 1 dX10_count_102 rfl ht (by decide) fd_RX10_19 ?_
    refine aw_getR (n := 108) (RX4, TX4, 5) 4 1 dX10_count_105 rfl (sf_10_1 ht) (by decide) fd_RX10_57 ?_
    refine aw_getI (n := 111) (RX2, TX2, 4) 2 0 dX10_count_108 rfl (sf_4_1 (sf_10_1 ht)) (by decide) fd_RX10_126 ?_
    exact aw_ireturn dX10_count_111 rfl rfl
  · refine aw_aload_n (n := 113) dX10_count_112 rfl rfl ?_
    refine aw_getR (n := 116) (RX10, TX10, 12) 10 0 dX10_count_113 rfl ht (by decide) fd_RX10_12 ?_
    refine aw_getI (n := 119) (RX6, TX6, 13) 6 1 dX10_count_116 rfl (sf_10_0 ht) (by decide) fd_RX10_100 ?_
    exact aw_ireturn dX10_count_119 rfl rfl
  · refine aw_iconst (n := 121) (-1) dX10_count_120 rfl (by decide) ?_
    exact aw_ireturn dX10_count_121 rfl rfl
