abbrev k_X8_marksFor : aw_K := (RX8, cX8_marksFor, 6, (some .int), 1, 120)
def f_X8_marksFor_34 (F : Nat) (t : Nat) (x1 : Int32) (x3 : Int32) (x4 : Int32) (z0 : Int32) (μ : aw_M) : Option (Int32 × aw_M) :=
  aw_g (aw_in 0 4) (aw_g (aw_in 2 4) (some ((((((μ.1 (aw_rf t 17) (0 : Int32).toNatClampNeg) * x1) + x4) + ((μ.1 (aw_rf t 17) (2 : Int32).toNatClampNeg) * x3)) - z0), μ)))
theorem c_X8_marksFor_34 (l : Launch) (F : Nat) (t : Nat) (ht : (aw_sh t).1 = 13) (x1 : Int32) (x3 : Int32) (x4 : Int32) (z0 : Int32) (μ : aw_M) : AW l k_X8_marksFor aw_gi 34 [some (.ref t), some (.int x1), none, some (.int x3), some (.int x4), none] [.int z0] μ (f_X8_marksFor_34 F t x1 x3 x4 z0 μ) := by
  unfold f_X8_marksFor_34
  refine aw_istore (n := 36) [some (.ref t), some (.int x1), none, some (.int x3), some (.int x4), some (.int z0)] dX8_marksFor_34 rfl rfl (Nat.le_of_ble_eq_true rfl) (Nat.le_of_ble_eq_true rfl) rfl ?_
  refine aw_aload_n (n := 37) dX8_marksFor_36 rfl rfl ?_
  refine aw_getR (n := 40) (RX8, TX8, 20) 8 17 dX8_marksFor_37 rfl ht (by decide) fd_RX8_49 ?_
  refine aw_iconst (n := 41) 0 dX8_marksFor_40 rfl (by decide) ?_
  refine aw_iaload (n := 42) 4 dX8_marksFor_41 rfl (sf_8_17 ht) ?_
  refine aw_iload_n (n := 43) dX8_marksFor_42 rfl rfl ?_
  refine aw_imul (n := 44) dX8_marksFor_43 rfl ?_
  refine aw_iload (n := 46) dX8_marksFor_44 rfl rfl ?_
  refine aw_iadd (n := 47) dX8_marksFor_46 rfl ?_
  refine aw_aload_n (n := 48) dX8_marksFor_47 rfl rfl ?_
  refine aw_getR (n := 51) (RX8, TX8, 20) 8 17 dX8_marksFor_48 rfl ht (by decide) fd_RX8_49 ?_
  refine aw_iconst (n := 52) 2 dX8_marksFor_51 rfl (by decide) ?_
  refine aw_iaload (n := 53) 4 dX8_marksFor_52 rfl (sf_8_17 ht) ?_
  refine aw_iload_n (n := 54) dX8_marksFor_53 rfl rfl ?_
  refine aw_imul (n := 55) dX8_marksFor_54 rfl ?_
  refine aw_iadd (n := 56) dX8_marksFor_55 rfl ?_
  refine aw_iload (n := 58) dX8_marksFor_56 rfl rfl ?_
  refine aw_isub (n := 59) dX8_marksFor_58 rfl ?_
  exact aw_ireturn dX8_marksFor_59 rfl rfl
def f_X8_marksFor_16 (F : Nat) (t : Nat) (x1 : Int32) (x3 : Int32) (z0 : Int32) (μ : aw_M) : Option (Int32 × aw_M) :=
  (if x1 < 7 then
  f_X8_marksFor_34 F t x1 x3 z0 0 μ
  else
  aw_g (aw_in 3 4) (f_X8_marksFor_34 F t x1 x3 z0 (μ.1 (aw_rf t 17) (3 : Int32).toNatClampNeg) μ))
theorem c_X8_marksFor_16 (l : Launch) (F : Nat) (t : Nat) (ht : (aw_sh t).1 = 13) (x1 : Int32) (x3 : Int32) (z0 : Int32) (μ : aw_M) : AW l k_X8_marksFor aw_gi 16 [some (.ref t), some (.int x1), none, some (.int x3), none, none] [.int z0] μ (f_X8_marksFor_16 F t x1 x3 z0 μ) := by
  unfold f_X8_marksFor_16
  refine aw_istore (n := 18) [some (.ref t), some (.int x1), none, some (.int x3), some (.int z0), none] dX8_marksFor_16 rfl rfl (Nat.le_of_ble_eq_true rfl) (Nat.le_of_ble_eq_true rfl) rfl ?_
  refine aw_iload_n (n := 19) dX8_marksFor_18 rfl rfl ?_
  refine aw_bipush (n := 21) 7 dX8_marksFor_19 rfl (by decide) ?_
  refine aw_icmp_lt (n := 24) 33 dX8_marksFor_21 (by decide) rfl ?_ ?_
  · refine aw_iconst (n := 34) 0 dX8_marksFor_33 rfl (by decide) ?_
    exact aw_weak (c_X8_marksFor_34 l F t ht x1 x3 z0 0 μ) (aw_ss (aw_ss (aw_sn (aw_ss (aw_ss (aw_sn aw_s0))))))
  · refine aw_aload_n (n := 25) dX8_marksFor_24 rfl rfl ?_
    refine aw_getR (n := 28) (RX8, TX8, 20) 8 17 dX8_marksFor_25 rfl ht (by decide) fd_RX8_49 ?_
    refine aw_iconst (n := 29) 3 dX8_marksFor_28 rfl (by decide) ?_
    refine aw_iaload (n := 30) 4 dX8_marksFor_29 rfl (sf_8_17 ht) ?_
    refine aw_goto 34 dX8_marksFor_30 (by decide) ?_
    exact aw_weak (c_X8_marksFor_34 l F t ht x1 x3 z0 (μ.1 (aw_rf t 17) (3 : Int32).toNatClampNeg) μ) (aw_ss (aw_ss (aw_sn (aw_ss (aw_ss (aw_sn aw_s0))))))
def f_X8_marksFor (F : Nat) (t : Nat) (a0 : Int32) (a1 : Int32) (a2 : Int32) (μ : aw_M) : Option (Int32 × aw_M) :=
  (if a1 = 0 then
  f_X8_marksFor_16 F t a0 a2 0 μ
  else
  aw_g (aw_in 1 4) (f_X8_marksFor_16 F t a0 a2 ((μ.1 (aw_rf t 17) (1 : Int32).toNatClampNeg) * 2) μ))
theorem m_X8_marksFor (l : Launch) (F : Nat) (t : Nat) (ht : (aw_sh t).1 = 13) (a0 : Int32) (a1 : Int32) (a2 : Int32) (μ : aw_M) : AM l yX8_marksFor cX8_marksFor 6 (some .int) 1 120 aw_gi [.ref t, .int a0, .int a1, .int a2] μ (f_X8_marksFor F t a0 a1 a2 μ) := by
  refine aw_met [some (.ref t), some (.int a0), some (.int a1), some (.int a2), none, none] (by decide) (fun _ => rfl) (fun _ => Nat.le_of_ble_eq_true rfl) ?_
  show AW l k_X8_marksFor aw_gi 0 [some (.ref t), some (.int a0), some (.int a1), some (.int a2), none, none] [] μ _
  unfold f_X8_marksFor
  refine aw_iload_n (n := 1) dX8_marksFor_0 rfl rfl ?_
  refine aw_if_eq (n := 4) 15 dX8_marksFor_1 (by decide) rfl ?_ ?_
  · refine aw_iconst (n := 16) 0 dX8_marksFor_15 rfl (by decide) ?_
    exact aw_weak (c_X8_marksFor_16 l F t ht a0 a2 0 μ) (aw_ss (aw_ss (aw_sn (aw_ss (aw_sn (aw_sn aw_s0))))))
  · refine aw_aload_n (n := 5) dX8_marksFor_4 rfl rfl ?_
    refine aw_getR (n := 8) (RX8, TX8, 20) 8 17 dX8_marksFor_5 rfl ht (by decide) fd_RX8_49 ?_
    refine aw_iconst (n := 9) 1 dX8_marksFor_8 rfl (by decide) ?_
    refine aw_iaload (n := 10) 4 dX8_marksFor_9 rfl (sf_8_17 ht) ?_
    refine aw_iconst (n := 11) 2 dX8_marksFor_10 rfl (by decide) ?_
    refine aw_imul (n := 12) dX8_marksFor_11 rfl ?_
    refine aw_goto 16 dX8_marksFor_12 (by decide) ?_
    exact aw_weak (c_X8_marksFor_16 l F t ht a0 a2 ((μ.1 (aw_rf t 17) (1 : Int32).toNatClampNeg) * 2) μ) (aw_ss (aw_ss (aw_sn (aw_ss (aw_sn (aw_sn aw_s0))))))
abbrev k_X8_hitOf : aw_K := (RX8, cX8_hitOf, 6, (some .int), 1, 120)
def f_X8_hitOf_20 (F : Nat) (t : Nat) (x2 : Int32) (z0 : Int32) (z1 : Int32) (μ : aw_M) : Option (Int32 × aw_M) :=
  aw_g (aw_in x2 20) (aw_let (((z1 + z0) - (μ.1 (aw_rf t 13) x2.toNatClampNeg))) fun v2 =>
  some ((if v2 < 0 then 0 else v2), μ))
theorem c_X8_hitOf_20 (l : Launch) (F : Nat) (t : Nat) (ht : (aw_sh t).1 = 13) (x2 : Int32) (z0 : Int32) (z1 : Int32) (μ : aw_M) : AW l k_X8_hitOf aw_gi 20 [some (.ref t), none, some (.int x2), none, none, none] [.int z0, .int z1] μ (f_X8_hitOf_20 F t x2 z0 z1 μ) := by
  unfold f_X8_hitOf_20
  refine aw_iadd (n := 21) dX8_hitOf_20 rfl ?_
  refine aw_aload_n (n := 22) dX8_hitOf_21 rfl rfl ?_
  refine aw_getR (n := 25) (RX8, TX8, 20) 8 13 dX8_hitOf_22 rfl ht (by decide) fd_RX8_37 ?_
  refine aw_iload_n (n := 26) dX8_hitOf_25 rfl rfl ?_
  refine aw_iaload (n := 27) 20 dX8_hitOf_26 rfl (sf_8_13 ht) ?_
  refine aw_isub (n := 28) dX8_hitOf_27 rfl ?_
  refine aw_nmI (fun v2 => ?_)
  refine aw_istore (n := 30) [some (.ref t), none, some (.int x2), none, none, some (.int v2)] dX8_hitOf_28 rfl rfl (Nat.le_of_ble_eq_true rfl) (Nat.le_of_ble_eq_true rfl) rfl ?_
  refine aw_iload (n := 32) dX8_hitOf_30 rfl rfl ?_
  refine aw_iconst (n := 33) 0 dX8_hitOf_32 rfl (by decide) ?_
  refine aw_mmax (n := 36) dX8_hitOf_33 rfl tb_986 (Nat.le_of_ble_eq_true rfl) (fun _ => Nat.le_of_ble_eq_true rfl) ?_
  exact aw_ireturn dX8_hitOf_36 rfl rfl
def f_X8_hitOf (F : Nat) (t : Nat) (a0 : Int32) (a1 : Int32) (a2 : Int32) (a3 : Int32) (μ : aw_M) : Option (Int32 × aw_M) :=
  aw_g (aw_in a0 9) ((if 2 < a2 then
  f_X8_hitOf_20 F t a1 (-a2) ((μ.1 (aw_rf t 8) a0.toNatClampNeg) + a3) μ
  else
  f_X8_hitOf_20 F t a1 2 ((μ.1 (aw_rf t 8) a0.toNatClampNeg) + a3) μ))
theorem m_X8_hitOf (l : Launch) (F : Nat) (t : Nat) (ht : (aw_sh t).1 = 13) (a0 : Int32) (a1 : Int32) (a2 : Int32) (a3 : Int32) (μ : aw_M) : AM l yX8_hitOf cX8_hitOf 6 (some .int) 1 120 aw_gi [.ref t, .int a0, .int a1, .int a2, .int a3] μ (f_X8_hitOf F t a0 a1 a2 a3 μ) := by
  refine aw_met [some (.ref t), some (.int a0), some (.int a1), some (.int a2), some (.int a3), none] (by decide) (fun _ => rfl) (fun _ => Nat.le_of_ble_eq_true rfl) ?_
  show AW l k_X8_hitOf aw_gi 0 [some (.ref t), some (.int a0), some (.int a1), some (.int a2), some (.int a3), none] [] μ _
  unfold f_X8_hitOf
  refine aw_aload_n (n := 1) dX8_hitOf_0 rfl rfl ?_
  refine aw_getR (n := 4) (RX8, TX8, 20) 8 8 dX8_hitOf_1 rfl ht (by decide) fd_RX8_22 ?_
  refine aw_iload_n (n := 5) dX8_hitOf_4 rfl rfl ?_
  refine aw_iaload (n := 6) 9 dX8_hitOf_5 rfl (sf_8_8 ht) ?_
  refine aw_iload (n := 8) dX8_hitOf_6 rfl rfl ?_
  refine aw_iadd (n := 9) dX8_hitOf_8 rfl ?_
  refine aw_iload_n (n := 10) dX8_hitOf_9 rfl rfl ?_
  refine aw_iconst (n := 11) 2 dX8_hitOf_10 rfl (by decide) ?_
  refine aw_icmp_gt (n := 14) 18 dX8_hitOf_11 (by decide) rfl ?_ ?_
  · refine aw_iload_n (n := 19) dX8_hitOf_18 rfl rfl ?_
    refine aw_ineg (n := 20) dX8_hitOf_19 rfl ?_
    exact aw_weak (c_X8_hitOf_20 l F t ht a1 (-a2) ((μ.1 (aw_rf t 8) a0.toNatClampNeg) + a3) μ) (aw_ss (aw_sn (aw_ss (aw_sn (aw_sn (aw_sn aw_s0))))))
  · refine aw_iconst (n := 15) 2 dX8_hitOf_14 rfl (by decide) ?_
    refine aw_goto 20 dX8_hitOf_15 (by decide) ?_
    exact aw_weak (c_X8_hitOf_20 l F t ht a1 2 ((μ.1 (aw_rf t 8) a0.toNatClampNeg) + a3) μ) (aw_ss (aw_sn (aw_ss (aw_sn (aw_sn (aw_sn aw_s0))))))
abbrev k_X8_hasCell : aw_K := (RX8, cX8_hasCell, 2, (some .boolean), 1, 120)
def f_X8_hasCell (F : Nat) (t : Nat) (a0 : Int32) (μ : aw_M) : Option (Bool × aw_M) :=
  (if a0 < 0 then
  some (false, μ)
  else
  (if 100 ≤ a0 then
  some (false, μ)
  else
  (if (μ.1 t 1) ≤ (a0 - a0 / 10 * 10) then
  some (false, μ)
  else
  (if (μ.1 t 2) ≤ (a0 / 10) then
  some (false, μ)
  else
  some (true, μ)))))
theorem m_X8_hasCell (l : Launch) (F : Nat) (t : Nat) (ht : (aw_sh t).1 = 13) (a0 : Int32) (μ : aw_M) : AM l yX8_hasCell cX8_hasCell 2 (some .boolean) 1 120 aw_gz [.ref t, .int a0] μ (f_X8_hasCell F t a0 μ) := by
  refine aw_met [some (.ref t), some (.int a0)] (by decide) (fun _ => rfl) (fun _ => Nat.le_of_ble_eq_true rfl) ?_
  show AW l k_X8_hasCell aw_gz 0 [some (.ref t), some (.int a0)] [] μ _
  unfold f_X8_hasCell
  refine aw_iload_n (n := 1) dX8_hasCell_0 rfl rfl ?_
  refine aw_if_lt (n := 4) 36 dX8_hasCell_1 (by decide) rfl ?_ ?_
  · refine aw_iconst (n := 37) 0 dX8_hasCell_36 rfl (by decide) ?_
    exact aw_zreturn (b := false) dX8_hasCell_37 rfl rfl
  · refine aw_iload_n (n := 5) dX8_hasCell_4 rfl rfl ?_
    refine aw_bipush (n := 7) 100 dX8_hasCell_5 rfl (by decide) ?_
    refine aw_icmp_ge (n := 10) 36 dX8_hasCell_7 (by decide) rfl ?_ ?_
    · refine aw_iconst (n := 37) 0 dX8_hasCell_36 rfl (by decide) ?_
      exact aw_zreturn (b := false) dX8_hasCell_37 rfl rfl
    · refine aw_iload_n (n := 11) dX8_hasCell_10 rfl rfl ?_
      refine aw_bipush (n := 13) 10 dX8_hasCell_11 rfl (by decide) ?_
      refine aw_iremK (n := 14) dX8_hasCell_13 rfl (by decide) ?_
      refine aw_aload_n (n := 15) dX8_hasCell_14 rfl rfl ?_
      refine aw_getI (n := 18) (RX8, TX8, 20) 8 1 dX8_hasCell_15 rfl ht (by decide) fd_RX8_59 ?_
      refine aw_icmp_ge (n := 21) 36 dX8_hasCell_18 (by decide) rfl ?_ ?_
      · refine aw_iconst (n := 37) 0 dX8_hasCell_36 rfl (by decide) ?_
        exact aw_zreturn (b := false) dX8_hasCell_37 rfl rfl
      · refine aw_iload_n (n := 22) dX8_hasCell_21 rfl rfl ?_
        refine aw_bipush (n := 24) 10 dX8_hasCell_22 rfl (by decide) ?_
        refine aw_idivK (n := 25) dX8_hasCell_24 rfl (by decide) ?_
        refine aw_aload_n (n := 26) dX8_hasCell_25 rfl rfl ?_
        refine aw_getI (n := 29) (RX8, TX8, 20) 8 2 dX8_hasCell_26 rfl ht (by decide) fd_RX8_62 ?_
        refine aw_icmp_ge (n := 32) 36 dX8_hasCell_29 (by decide) rfl ?_ ?_
        · refine aw_iconst (n := 37) 0 dX8_hasCell_36 rfl (by decide) ?_
          exact aw_zreturn (b := false) dX8_hasCell_37 rfl rfl
        · refine aw_iconst (n := 33) 1 dX8_hasCell_32 rfl (by decide) ?_
          refine aw_goto 37 dX8_hasCell_33 (by decide) ?_
          exact aw_zreturn (b := true) dX8_hasCell_37 rfl rfl
abbrev k_X8_hasOn : aw_K := (RX8, cX8_hasOn, 3, (some .boolean), 1, 120)
def f_X8_hasOn (F : Nat) (t : Nat) (a0 : Int32) (a1 : Int32) (μ : aw_M) : Option (Bool × aw_M) :=
  (if a1 < 0 then
  some (false, μ)
  else
  (if 100 ≤ a1 then
  some (false, μ)
  else
  aw_g (aw_in a1 100) ((if (((μ.1 (aw_rf t 15) a1.toNatClampNeg) >>> (a0 &&& 31)) &&& 1) = 0 then
  some (false, μ)
  else
  some (true, μ)))))
theorem m_X8_hasOn (l : Launch) (F : Nat) (t : Nat) (ht : (aw_sh t).1 = 13) (a0 : Int32) (a1 : Int32) (μ : aw_M) : AM l yX8_hasOn cX8_hasOn 3 (some .boolean) 1 120 aw_gz [.ref t, .int a0, .int a1] μ (f_X8_hasOn F t a0 a1 μ) := by
  refine aw_met [some (.ref t), some (.int a0), some (.int a1)] (by decide) (fun _ => rfl) (fun _ => Nat.le_of_ble_eq_true rfl) ?_
  show AW l k_X8_hasOn aw_gz 0 [some (.ref t), some (.int a0), some (.int a1)] [] μ _
  unfold f_X8_hasOn
  refine aw_iload_n (n := 1) dX8_hasOn_0 rfl rfl ?_
  refine aw_if_lt (n := 4) 27 dX8_hasOn_1 (by decide) rfl ?_ ?_
  · refine aw_iconst (n := 28) 0 dX8_hasOn_27 rfl (by decide) ?_
    exact aw_zreturn (b := false) dX8_hasOn_28 rfl rfl
  · refine aw_iload_n (n := 5) dX8_hasOn_4 rfl rfl ?_
    refine aw_bipush (n := 7) 100 dX8_hasOn_5 rfl (by decide) ?_
    refine aw_icmp_ge (n := 10) 27 dX8_hasOn_7 (by decide) rfl ?_ ?_
    · refine aw_iconst (n := 28) 0 dX8_hasOn_27 rfl (by decide) ?_
      exact aw_zreturn (b := false) dX8_hasOn_28 rfl rfl
    · refine aw_aload_n (n := 11) dX8_hasOn_10 rfl rfl ?_
      refine aw_getR (n := 14) (RX8, TX8, 20) 8 15 dX8_hasOn_11 rfl ht (by decide) fd_RX8_43 ?_
      refine aw_iload_n (n := 15) dX8_hasOn_14 rfl rfl ?_
      refine aw_iaload (n := 16) 100 dX8_hasOn_15 rfl (sf_8_15 ht) ?_
      refine aw_iload_n (n := 17) dX8_hasOn_16 rfl rfl ?_
      refine aw_ishr (n := 18) dX8_hasOn_17 rfl ?_
      refine aw_iconst (n := 19) 1 dX8_hasOn_18 rfl (by decide) ?_
      refine aw_iand (n := 20) dX8_hasOn_19 rfl ?_
      refine aw_if_eq (n := 23) 27 dX8_hasOn_20 (by decide) rfl ?_ ?_
      · refine aw_iconst (n := 28) 0 dX8_hasOn_27 rfl (by decide) ?_
        exact aw_zreturn (b := false) dX8_hasOn_28 rfl rfl
      · refine aw_iconst (n := 24) 1 dX8_hasOn_23 rfl (by decide) ?_
        refine aw_goto 28 dX8_hasOn_24 (by decide) ?_
        exact aw_zreturn (b := true) dX8_hasOn_28 rfl rfl
abbrev k_X8_sideOf : aw_K := (RX8, cX8_sideOf, 5, (some .int), 1, 120)
def f_X8_sideOf_48 (F : Nat) (t : Nat) (x3 : Int32) (z0 : Int32) (z1 : Int32) (μ : aw_M) : Option (Int32 × aw_M) :=
  aw_let ((z1 + z0)) fun v4 =>
  (if x3 < 0 then
  some ((-1), μ)
  else
  (if (μ.1 t 1) ≤ x3 then
  some ((-1), μ)
  else
  (if v4 < 0 then
  some ((-1), μ)
  else
  (if (μ.1 t 2) ≤ v4 then
  some ((-1), μ)
  else
  some (((10 * v4) + x3), μ)))))
theorem c_X8_sideOf_48 (l : Launch) (F : Nat) (t : Nat) (ht : (aw_sh t).1 = 13) (x3 : Int32) (z0 : Int32) (z1 : Int32) (μ : aw_M) : AW l k_X8_sideOf aw_gi 48 [some (.ref t), none, none, some (.int x3), none] [.int z0, .int z1] μ (f_X8_sideOf_48 F t x3 z0 z1 μ) := by
  unfold f_X8_sideOf_48
  refine aw_iadd (n := 49) dX8_sideOf_48 rfl ?_
  refine aw_nmI (fun v4 => ?_)
  refine aw_istore (n := 51) [some (.ref t), none, none, some (.int x3), some (.int v4)] dX8_sideOf_49 rfl rfl (Nat.le_of_ble_eq_true rfl) (Nat.le_of_ble_eq_true rfl) rfl ?_
  refine aw_iload_n (n := 52) dX8_sideOf_51 rfl rfl ?_
  refine aw_if_lt (n := 55) 87 dX8_sideOf_52 (by decide) rfl ?_ ?_
  · refine aw_iconst (n := 88) (-1) dX8_sideOf_87 rfl (by decide) ?_
    exact aw_ireturn dX8_sideOf_88 rfl rfl
  · refine aw_iload_n (n := 56) dX8_sideOf_55 rfl rfl ?_
    refine aw_aload_n (n := 57) dX8_sideOf_56 rfl rfl ?_
    refine aw_getI (n := 60) (RX8, TX8, 20) 8 1 dX8_sideOf_57 rfl ht (by decide) fd_RX8_59 ?_
    refine aw_icmp_ge (n := 63) 87 dX8_sideOf_60 (by decide) rfl ?_ ?_
    · refine aw_iconst (n := 88) (-1) dX8_sideOf_87 rfl (by decide) ?_
      exact aw_ireturn dX8_sideOf_88 rfl rfl
    · refine aw_iload (n := 65) dX8_sideOf_63 rfl rfl ?_
      refine aw_if_lt (n := 68) 87 dX8_sideOf_65 (by decide) rfl ?_ ?_
      · refine aw_iconst (n := 88) (-1) dX8_sideOf_87 rfl (by decide) ?_
        exact aw_ireturn dX8_sideOf_88 rfl rfl
      · refine aw_iload (n := 70) dX8_sideOf_68 rfl rfl ?_
        refine aw_aload_n (n := 71) dX8_sideOf_70 rfl rfl ?_
        refine aw_getI (n := 74) (RX8, TX8, 20) 8 2 dX8_sideOf_71 rfl ht (by decide) fd_RX8_62 ?_
        refine aw_icmp_ge (n := 77) 87 dX8_sideOf_74 (by decide) rfl ?_ ?_
        · refine aw_iconst (n := 88) (-1) dX8_sideOf_87 rfl (by decide) ?_
          exact aw_ireturn dX8_sideOf_88 rfl rfl
        · refine aw_bipush (n := 79) 10 dX8_sideOf_77 rfl (by decide) ?_
          refine aw_iload (n := 81) dX8_sideOf_79 rfl rfl ?_
          refine aw_imul (n := 82) dX8_sideOf_81 rfl ?_
          refine aw_iload_n (n := 83) dX8_sideOf_82 rfl rfl ?_
          refine aw_iadd (n := 84) dX8_sideOf_83 rfl ?_
          refine aw_goto 88 dX8_sideOf_84 (by decide) ?_
          exact aw_ireturn dX8_sideOf_88 rfl rfl
def f_X8_sideOf_23 (F : Nat) (t : Nat) (x1 : Int32) (x2 : Int32) (z0 : Int32) (z1 : Int32) (μ : aw_M) : Option (Int32 × aw_M) :=
  aw_let ((z1 + z0)) fun v3 =>
  (if x2 = 3 then
  f_X8_sideOf_48 F t v3 1 (x1 / 10) μ
  else
  (if x2 = 4 then
  f_X8_sideOf_48 F t v3 (-1) (x1 / 10) μ
  else
  f_X8_sideOf_48 F t v3 0 (x1 / 10) μ))
theorem c_X8_sideOf_23 (l : Launch) (F : Nat) (t : Nat) (ht : (aw_sh t).1 = 13) (x1 : Int32) (x2 : Int32) (z0 : Int32) (z1 : Int32) (μ : aw_M) : AW l k_X8_sideOf aw_gi 23 [some (.ref t), some (.int x1), some (.int x2), none, none] [.int z0, .int z1] μ (f_X8_sideOf_23 F t x1 x2 z0 z1 μ) := by
  unfold f_X8_sideOf_23
  refine aw_iadd (n := 24) dX8_sideOf_23 rfl ?_
  refine aw_nmI (fun v3 => ?_)
  refine aw_istore_n (n := 25) [some (.ref t), some (.int x1), some (.int x2), some (.int v3), none] dX8_sideOf_24 rfl rfl (Nat.le_of_ble_eq_true rfl) (Nat.le_of_ble_eq_true rfl) rfl ?_
  refine aw_iload_n (n := 26) dX8_sideOf_25 rfl rfl ?_
  refine aw_bipush (n := 28) 10 dX8_sideOf_26 rfl (by decide) ?_
  refine aw_idivK (n := 29) dX8_sideOf_28 rfl (by decide) ?_
  refine aw_iload_n (n := 30) dX8_sideOf_29 rfl rfl ?_
  refine aw_iconst (n := 31) 3 dX8_sideOf_30 rfl (by decide) ?_
  refine aw_icmp_ne (n := 34) 38 dX8_sideOf_31 (by decide) rfl ?_ ?_
  · refine aw_iload_n (n := 39) dX8_sideOf_38 rfl rfl ?_
    refine aw_iconst (n := 40) 4 dX8_sideOf_39 rfl (by decide) ?_
    refine aw_icmp_ne (n := 43) 47 dX8_sideOf_40 (by decide) rfl ?_ ?_
    · refine aw_iconst (n := 48) 0 dX8_sideOf_47 rfl (by decide) ?_
      exact aw_weak (c_X8_sideOf_48 l F t ht v3 0 (x1 / 10) μ) (aw_ss (aw_sn (aw_sn (aw_ss (aw_sn aw_s0)))))
    · refine aw_iconst (n := 44) (-1) dX8_sideOf_43 rfl (by decide) ?_
      refine aw_goto 48 dX8_sideOf_44 (by decide) ?_
      exact aw_weak (c_X8_sideOf_48 l F t ht v3 (-1) (x1 / 10) μ) (aw_ss (aw_sn (aw_sn (aw_ss (aw_sn aw_s0)))))
  · refine aw_iconst (n := 35) 1 dX8_sideOf_34 rfl (by decide) ?_
    refine aw_goto 48 dX8_sideOf_35 (by decide) ?_
    exact aw_weak (c_X8_sideOf_48 l F t ht v3 1 (x1 / 10) μ) (aw_ss (aw_sn (aw_sn (aw_ss (aw_sn aw_s0)))))
def f_X8_sideOf (F : Nat) (t : Nat) (a0 : Int32) (a1 : Int32) (μ : aw_M) : Option (Int32 × aw_M) :=
  (if a1 = 1 then
  f_X8_sideOf_23 F t a0 a1 1 (a0 - a0 / 10 * 10) μ
  else
  (if a1 = 2 then
  f_X8_sideOf_23 F t a0 a1 (-1) (a0 - a0 / 10 * 10) μ
  else
  f_X8_sideOf_23 F t a0 a1 0 (a0 - a0 / 10 * 10) μ))
theorem m_X8_sideOf (l : Launch) (F : Nat) (t : Nat) (ht : (aw_sh t).1 = 13) (a0 : Int32) (a1 : Int32) (μ : aw_M) : AM l yX8_sideOf cX8_sideOf 5 (some .int) 1 120 aw_gi [.ref t, .int a0, .int a1] μ (f_X8_sideOf F t a0 a1 μ) := by
  refine aw_met [some (.ref t), some (.int a0), some (.int a1), none, none] (by decide) (fun _ => rfl) (fun _ => Nat.le_of_ble_eq_true rfl) ?_
  show AW l k_X8_sideOf aw_gi 0 [some (.ref t), some (.int a0), some (.int a1), none, none] [] μ _
  unfold f_X8_sideOf
  refine aw_iload_n (n := 1) dX8_sideOf_0 rfl rfl ?_
  refine aw_bipush (n := 3) 10 dX8_sideOf_1 rfl (by decide) ?_
  refine aw_iremK (n := 4) dX8_sideOf_3 rfl (by decide) ?_
  refine aw_iload_n (n := 5) dX8_sideOf_4 rfl rfl ?_
  refine aw_iconst (n := 6) 1 dX8_sideOf_5 rfl (by decide) ?_
  refine aw_icmp_ne (n := 9) 13 dX8_sideOf_6 (by decide) rfl ?_ ?_
  · refine aw_iload_n (n := 14) dX8_sideOf_13 rfl rfl ?_
    refine aw_iconst (n := 15) 2 dX8_sideOf_14 rfl (by decide) ?_
    refine aw_icmp_ne (n := 18) 22 dX8_sideOf_15 (by decide) rfl ?_ ?_
    · refine aw_iconst (n := 23) 0 dX8_sideOf_22 rfl (by decide) ?_
      exact aw_weak (c_X8_sideOf_23 l F t ht a0 a1 0 (a0 - a0 / 10 * 10) μ) (aw_ss (aw_ss (aw_ss (aw_sn (aw_sn aw_s0)))))
    · refine aw_iconst (n := 19) (-1) dX8_sideOf_18 rfl (by decide) ?_
      refine aw_goto 23 dX8_sideOf_19 (by decide) ?_
      exact aw_weak (c_X8_sideOf_23 l F t ht a0 a1 (-1) (a0 - a0 / 10 * 10) μ) (aw_ss (aw_ss (aw_ss (aw_sn (aw_sn aw_s0)))))
  · refine aw_iconst (n := 10) 1 dX8_sideOf_9 rfl (by decide) ?_
    refine aw_goto 23 dX8_sideOf_10 (by decide) ?_
    exact aw_weak (c_X8_sideOf_23 l F t ht a0 a1 1 (a0 - a0 / 10 * 10) μ) (aw_ss (aw_ss (aw_ss (aw_sn (aw_sn aw_s0)))))
abbrev k_X8_distance : aw_K := (RX8, cX8_distance, 2, (some .int), 1, 120)
def f_X8_distance (F : Nat)  (a0 : Int32) (a1 : Int32) (μ : aw_M) : Option (Int32 × aw_M) :=
  some (((if 0 ≤ ((a0 - a0 / 10 * 10) - (a1 - a1 / 10 * 10)) then ((a0 - a0 / 10 * 10) - (a1 - a1 / 10 * 10)) else 0 - ((a0 - a0 / 10 * 10) - (a1 - a1 / 10 * 10))) + (if 0 ≤ ((a0 / 10) - (a1 / 10)) then ((a0 / 10) - (a1 / 10)) else 0 - ((a0 / 10) - (a1 / 10)))), μ)
theorem m_X8_distance (l : Launch) (F : Nat) (a0 : Int32) (a1 : Int32) (μ : aw_M) : AM l yX8_distance cX8_distance 2 (some .int) 1 120 aw_gi [.int a0, .int a1] μ (f_X8_distance F  a0 a1 μ) := by
  refine aw_met [some (.int a0), some (.int a1)] (by decide) (fun _ => rfl) (fun _ => Nat.le_of_ble_eq_true rfl) ?_
  show AW l k_X8_distance aw_gi 0 [some (.int a0), some (.int a1)] [] μ _
  unfold f_X8_distance
  refine aw_iload_n (n := 1) dX8_distance_0 rfl rfl ?_
  refine aw_bipush (n := 3) 10 dX8_distance_1 rfl (by decide) ?_
  refine aw_iremK (n := 4) dX8_distance_3 rfl (by decide) ?_
  refine aw_iload_n (n := 5) dX8_distance_4 rfl rfl ?_
  refine aw_bipush (n := 7) 10 dX8_distance_5 rfl (by decide) ?_
  refine aw_iremK (n := 8) dX8_distance_7 rfl (by decide) ?_
  refine aw_isub (n := 9) dX8_distance_8 rfl ?_
  refine aw_mabs (n := 12) dX8_distance_9 rfl tb_792 (Nat.le_of_ble_eq_true rfl) (fun _ => Nat.le_of_ble_eq_true rfl) ?_
  refine aw_iload_n (n := 13) dX8_distance_12 rfl rfl ?_
  refine aw_bipush (n := 15) 10 dX8_distance_13 rfl (by decide) ?_
  refine aw_idivK (n := 16) dX8_distance_15 rfl (by decide) ?_
  refine aw_iload_n (n := 17) dX8_distance_16 rfl rfl ?_
  refine aw_bipush (n := 19) 10 dX8_distance_17 rfl (by decide) ?_
  refine aw_idivK (n := 20) dX8_distance_19 rfl (by decide) ?_
  refine aw_isub (n := 21) dX8_distance_20 rfl ?_
  refine aw_mabs (n := 24) dX8_distance_21 rfl tb_792 (Nat.le_of_ble_eq_true rfl) (fun _ => Nat.le_of_ble_eq_true rfl) ?_
  refine aw_iadd (n := 25) dX8_distance_24 rfl ?_
  exact aw_ireturn dX8_distance_25 rfl rfl
abbrev k_X8_quarterNamed : aw_K := (RX8, cX8_quarterNamed, 4, (some .int), 1, 120)
def f_X8_quarterNamed_2 (F : Nat) (t : Nat) (k2 : Int64 × Int32 × aw_M → Option (Int32 × aw_M)) (x1 : Int64) (x3 : Int32) (μ : aw_M) : Option (Int32 × aw_M) :=
  (if (μ.1 t 3) ≤ x3 then
  some ((-1), μ)
  else
  aw_g (aw_in x3 9) ((if (lg_cmp (μ.2 (aw_rf t 5) x3.toNatClampNeg) x1) = 0 then
  some (x3, μ)
  else
  k2 (x1, (x3 + 1), μ))))
theorem c_X8_quarterNamed_2 (l : Launch) (F : Nat) (t : Nat) (ht : (aw_sh t).1 = 13) : ∀ (N : Nat) (s : Int64 × Int32 × aw_M), AW l k_X8_quarterNamed aw_gi 2 [some (.ref t), some (.long s.1), none, some (.int s.2.1)] [] s.2.2 (aw_loop (fun k s => f_X8_quarterNamed_2 F t k s.1 s.2.1 s.2.2) N s) := by
  refine aw_loop_ok (f := fun k s => f_X8_quarterNamed_2 F t k s.1 s.2.1 s.2.2) (Ls := fun s => [some (.ref t), some (.long s.1), none, some (.int s.2.1)]) (ms := fun s => s.2.2) ?_
  intro k2 hk2 s
  obtain ⟨x1, x3, μ⟩ := s
  show AW l k_X8_quarterNamed aw_gi 2 [some (.ref t), some (.long x1), none, some (.int x3)] [] μ (f_X8_quarterNamed_2 F t k2 x1 x3 μ)
  unfold f_X8_quarterNamed_2
  refine aw_iload_n (n := 3) dX8_quarterNamed_2 rfl rfl ?_
  refine aw_aload_n (n := 4) dX8_quarterNamed_3 rfl rfl ?_
  refine aw_getI (n := 7) (RX8, TX8, 20) 8 3 dX8_quarterNamed_4 rfl ht (by decide) fd_RX8_65 ?_
  refine aw_icmp_ge (n := 10) 29 dX8_quarterNamed_7 (by decide) rfl ?_ ?_
  · refine aw_iconst (n := 30) (-1) dX8_quarterNamed_29 rfl (by decide) ?_
    exact aw_ireturn dX8_quarterNamed_30 rfl rfl
  · refine aw_aload_n (n := 11) dX8_quarterNamed_10 rfl rfl ?_
    refine aw_getR (n := 14) (RX8, TX8, 20) 8 5 dX8_quarterNamed_11 rfl ht (by decide) fd_RX8_9 ?_
    refine aw_iload_n (n := 15) dX8_quarterNamed_14 rfl rfl ?_
    refine aw_laload (n := 16) 9 dX8_quarterNamed_15 rfl (sf_8_5 ht) ?_
    refine aw_lload_n (n := 17) dX8_quarterNamed_16 rfl rfl ?_
    refine aw_lcmp (n := 18) dX8_quarterNamed_17 rfl ?_
    refine aw_if_ne (n := 21) 23 dX8_quarterNamed_18 (by decide) rfl ?_ ?_
    · refine aw_iinc (n := 26) (x3 + 1) [some (.ref t), some (.long x1), none, some (.int (x3 + 1))] dX8_quarterNamed_23 rfl rfl (by rfl) rfl (Nat.le_of_ble_eq_true rfl) rfl ?_
      refine aw_goto 2 dX8_quarterNamed_26 (by decide) ?_
      exact aw_weak (hk2 (x1, (x3 + 1), μ)) (aw_ss (aw_ss (aw_sn (aw_ss aw_s0))))
    · refine aw_iload_n (n := 22) dX8_quarterNamed_21 rfl rfl ?_
      exact aw_ireturn dX8_quarterNamed_22 rfl rfl
def f_X8_quarterNamed (F : Nat) (t : Nat) (a0 : Int64) (μ : aw_M) : Option (Int32 × aw_M) :=
  aw_loop (fun k s => f_X8_quarterNamed_2 F t k s.1 s.2.1 s.2.2) F (a0, 0, μ)
theorem m_X8_quarterNamed (l : Launch) (F : Nat) (t : Nat) (ht : (aw_sh t).1 = 13) (a0 : Int64) (μ : aw_M) : AM l yX8_quarterNamed cX8_quarterNamed 4 (some .int) 1 120 aw_gi [.ref t, .long a0] μ (f_X8_quarterNamed F t a0 μ) := by
  refine aw_met [some (.ref t), some (.long a0), none, none] (by decide) (fun _ => rfl) (fun _ => Nat.le_of_ble_eq_true rfl) ?_
  show AW l k_X8_quarterNamed aw_gi 0 [some (.ref t), some (.long a0), none, none] [] μ _
  unfold f_X8_quarterNamed
  refine aw_iconst (n := 1) 0 dX8_quarterNamed_0 rfl (by decide) ?_
  refine aw_istore_n (n := 2) [some (.ref t), some (.long a0), none, some (.int 0)] dX8_quarterNamed_1 rfl rfl (Nat.le_of_ble_eq_true rfl) (Nat.le_of_ble_eq_true rfl) rfl ?_
  exact aw_weak (c_X8_quarterNamed_2 l F t ht F (a0, 0, μ)) (aw_ss (aw_ss (aw_sn (aw_ss aw_s0))))
abbrev k_X8_empty : aw_K := (RX8, cX8_empty, 1, none, 2, 143)
def f_X8_empty (F : Nat) (t : Nat) (μ : aw_M) : Option (aw_M) :=
  aw_let (aw_wI μ t 0 0) fun μ1 =>
  aw_let (aw_wI μ1 t 1 0) fun μ2 =>
  aw_let (aw_wI μ2 t 2 0) fun μ3 =>
  aw_let (aw_wI μ3 t 3 0) fun μ4 =>
  aw_let (aw_wI μ4 t 4 0) fun μ5 =>
  aw_let (aw_wI μ5 t 18 0) fun μ6 =>
  (f_J7_fill_53178 F (aw_rf t 9) (-1) μ6).bind fun r7 =>
  (f_J7_fill_53178 F (aw_rf t 14) 0 r7).bind fun r8 =>
  (f_J7_fill_53178 F (aw_rf t 15) 0 r8).bind fun r9 =>
  (f_J7_fill_53178 F (aw_rf t 16) (-1) r9).bind fun r10 =>
  (f_J7_fill_53178 F (aw_rf t 17) 1 r10).bind fun r11 =>
  aw_g (aw_in 3 4) (aw_let (aw_wI r11 (aw_rf t 17) (3 : Int32).toNatClampNeg 0) fun μ12 =>
  some μ12)
theorem m_X8_empty (l : Launch) (F : Nat) (t : Nat) (ht : (aw_sh t).1 = 13) (μ : aw_M) : AM l yX8_empty cX8_empty 1 none 2 143 aw_gv [.ref t] μ (f_X8_empty F t μ) := by
  refine aw_met [some (.ref t)] (by decide) (fun _ => rfl) (fun _ => Nat.le_of_ble_eq_true rfl) ?_
  show AW l k_X8_empty aw_gv 0 [some (.ref t)] [] μ _
  unfold f_X8_empty
  refine aw_aload_n (n := 1) dX8_empty_0 rfl rfl ?_
  refine aw_iconst (n := 2) 0 dX8_empty_1 rfl (by decide) ?_
  refine aw_putI (n := 5) (RX8, TX8, 20) 8 0 dX8_empty_2 rfl ht (by decide) fp_RX8_55 (fun μ1 => ?_)
  refine aw_aload_n (n := 6) dX8_empty_5 rfl rfl ?_
  refine aw_iconst (n := 7) 0 dX8_empty_6 rfl (by decide) ?_
  refine aw_putI (n := 10) (RX8, TX8, 20) 8 1 dX8_empty_7 rfl ht (by decide) fp_RX8_59 (fun μ2 => ?_)
  refine aw_aload_n (n := 11) dX8_empty_10 rfl rfl ?_
  refine aw_iconst (n := 12) 0 dX8_empty_11 rfl (by decide) ?_
  refine aw_putI (n := 15) (RX8, TX8, 20) 8 2 dX8_empty_12 rfl ht (by decide) fp_RX8_62 (fun μ3 => ?_)
  refine aw_aload_n (n := 16) dX8_empty_15 rfl rfl ?_
  refine aw_iconst (n := 17) 0 dX8_empty_16 rfl (by decide) ?_
  refine aw_putI (n := 20) (RX8, TX8, 20) 8 3 dX8_empty_17 rfl ht (by decide) fp_RX8_65 (fun μ4 => ?_)
  refine aw_aload_n (n := 21) dX8_empty_20 rfl rfl ?_
  refine aw_iconst (n := 22) 0 dX8_empty_21 rfl (by decide) ?_
  refine aw_putI (n := 25) (RX8, TX8, 20) 8 4 dX8_empty_22 rfl ht (by decide) fp_RX8_68 (fun μ5 => ?_)
  refine aw_aload_n (n := 26) dX8_empty_25 rfl rfl ?_
  refine aw_iconst (n := 27) 0 dX8_empty_26 rfl (by decide) ?_
  refine aw_putZ (n := 30) (RX8, TX8, 20) 8 18 dX8_empty_27 rfl ht (by decide) fp_RX8_71 (Or.inl rfl) (fun μ6 => ?_)
  refine aw_aload_n (n := 31) dX8_empty_30 rfl rfl ?_
  refine aw_getR (n := 34) (RX8, TX8, 20) 8 9 dX8_empty_31 rfl ht (by decide) fd_RX8_25 ?_
  refine aw_iconst (n := 35) (-1) dX8_empty_34 rfl (by decide) ?_
  refine aw_callSv (n := 38) (as := [.ref (aw_rf t 9), .int (-1)]) (st := []) dX8_empty_35 rfl rfl (m_J7_fill_53178 l F (aw_rf t 9) (aw_arr (sf_8_9 ht)) (-1) μ6) cw_RX8_75 ⟨Nat.le_of_ble_eq_true rfl, Nat.le_of_ble_eq_true rfl⟩ (fun _ => Nat.le_of_ble_eq_true rfl) (fun r7 => ?_)
  refine aw_aload_n (n := 39) dX8_empty_38 rfl rfl ?_
  refine aw_getR (n := 42) (RX8, TX8, 20) 8 14 dX8_empty_39 rfl ht (by decide) fd_RX8_40 ?_
  refine aw_iconst (n := 43) 0 dX8_empty_42 rfl (by decide) ?_
  refine aw_callSv (n := 46) (as := [.ref (aw_rf t 14), .int 0]) (st := []) dX8_empty_43 rfl rfl (m_J7_fill_53178 l F (aw_rf t 14) (aw_arr (sf_8_14 ht)) 0 r7) cw_RX8_75 ⟨Nat.le_of_ble_eq_true rfl, Nat.le_of_ble_eq_true rfl⟩ (fun _ => Nat.le_of_ble_eq_true rfl) (fun r8 => ?_)
  refine aw_aload_n (n := 47) dX8_empty_46 rfl rfl ?_
  refine aw_getR (n := 50) (RX8, TX8, 20) 8 15 dX8_empty_47 rfl ht (by decide) fd_RX8_43 ?_
  refine aw_iconst (n := 51) 0 dX8_empty_50 rfl (by decide) ?_
  refine aw_callSv (n := 54) (as := [.ref (aw_rf t 15), .int 0]) (st := []) dX8_empty_51 rfl rfl (m_J7_fill_53178 l F (aw_rf t 15) (aw_arr (sf_8_15 ht)) 0 r8) cw_RX8_75 ⟨Nat.le_of_ble_eq_true rfl, Nat.le_of_ble_eq_true rfl⟩ (fun _ => Nat.le_of_ble_eq_true rfl) (fun r9 => ?_)
  refine aw_aload_n (n := 55) dX8_empty_54 rfl rfl ?_
  refine aw_getR (n := 58) (RX8, TX8, 20) 8 16 dX8_empty_55 rfl ht (by decide) fd_RX8_46 ?_
  refine aw_iconst (n := 59) (-1) dX8_empty_58 rfl (by decide) ?_
  refine aw_callSv (n := 62) (as := [.ref (aw_rf t 16), .int (-1)]) (st := []) dX8_empty_59 rfl rfl (m_J7_fill_53178 l F (aw_rf t 16) (aw_arr (sf_8_16 ht)) (-1) r9) cw_RX8_75 ⟨Nat.le_of_ble_eq_true rfl, Nat.le_of_ble_eq_true rfl⟩ (fun _ => Nat.le_of_ble_eq_true rfl) (fun r10 => ?_)
  refine aw_aload_n (n := 63) dX8_empty_62 rfl rfl ?_
  refine aw_getR (n := 66) (RX8, TX8, 20) 8 17 dX8_empty_63 rfl ht (by decide) fd_RX8_49 ?_
  refine aw_iconst (n := 67) 1 dX8_empty_66 rfl (by decide) ?_
  refine aw_callSv (n := 70) (as := [.ref (aw_rf t 17), .int 1]) (st := []) dX8_empty_67 rfl rfl (m_J7_fill_53178 l F (aw_rf t 17) (aw_arr (sf_8_17 ht)) 1 r10) cw_RX8_75 ⟨Nat.le_of_ble_eq_true rfl, Nat.le_of_ble_eq_true rfl⟩ (fun _ => Nat.le_of_ble_eq_true rfl) (fun r11 => ?_)
  refine aw_aload_n (n := 71) dX8_empty_70 rfl rfl ?_
  refine aw_getR (n := 74) (RX8, TX8, 20) 8 17 dX8_empty_71 rfl ht (by decide) fd_RX8_49 ?_
  refine aw_iconst (n := 75) 3 dX8_empty_74 rfl (by decide) ?_
  refine aw_iconst (n := 76) 0 dX8_empty_75 rfl (by decide) ?_
  refine aw_iastore (n := 77) 4 dX8_empty_76 rfl (sf_8_17 ht) (fun μ12 => ?_)
  exact aw_vreturn dX8_empty_77 rfl rfl
abbrev k_X8_takeFrom : aw_K := (RX8, cX8_takeFrom, 2, none, 2, 141)
def f_X8_takeFrom (F : Nat) (t a0 : Nat) (μ : aw_M) : Option (aw_M) :=
  aw_let (aw_wI μ t 1 (μ.1 a0 1)) fun μ1 =>
  aw_let (aw_wI μ1 t 2 (μ1.1 a0 2)) fun μ2 =>
  aw_let (aw_wI μ2 t 3 (μ2.1 a0 3)) fun μ3 =>
  aw_let (aw_wI μ3 t 4 (μ3.1 a0 4)) fun μ4 =>
  aw_g (aw_cok 0 0 9 9 9) (aw_let (aw_cpL μ4 (aw_rf a0 5) (aw_rf t 5) ((0 : Int32).toNatClampNeg) ((0 : Int32).toNatClampNeg) ((9 : Int32).toNatClampNeg)) fun μ5 =>
  (f_X10_copyRow F (aw_rf a0 6) (aw_rf t 6) μ5).bind fun r6 =>
  (f_X10_copyRow F (aw_rf a0 7) (aw_rf t 7) r6).bind fun r7 =>
  (f_X10_copyRow F (aw_rf a0 8) (aw_rf t 8) r7).bind fun r8 =>
  (f_X10_copyRow F (aw_rf a0 9) (aw_rf t 9) r8).bind fun r9 =>
  (f_X10_copyRow F (aw_rf a0 10) (aw_rf t 10) r9).bind fun r10 =>
  (f_X10_copyRow F (aw_rf a0 11) (aw_rf t 11) r10).bind fun r11 =>
  (f_X10_copyRow F (aw_rf a0 12) (aw_rf t 12) r11).bind fun r12 =>
  (f_X10_copyRow F (aw_rf a0 13) (aw_rf t 13) r12).bind fun r13 =>
  (f_X10_copyRow F (aw_rf a0 14) (aw_rf t 14) r13).bind fun r14 =>
  (f_X10_copyRow F (aw_rf a0 15) (aw_rf t 15) r14).bind fun r15 =>
  (f_X10_copyRow F (aw_rf a0 16) (aw_rf t 16) r15).bind fun r16 =>
  (f_X10_copyRow F (aw_rf a0 17) (aw_rf t 17) r16).bind fun r17 =>
  some r17)
theorem m_X8_takeFrom (l : Launch) (F : Nat) (t : Nat) (ht : (aw_sh t).1 = 13) (a0 : Nat) (ha0 : (aw_sh a0).1 = 13) (μ : aw_M) : AM l yX8_takeFrom cX8_takeFrom 2 none 2 141 aw_gv [.ref t, .ref a0] μ (f_X8_takeFrom F t a0 μ) := by
  refine aw_met [some (.ref t), some (.ref a0)] (by decide) (fun _ => rfl) (fun _ => Nat.le_of_ble_eq_true rfl) ?_
  show AW l k_X8_takeFrom aw_gv 0 [some (.ref t), some (.ref a0)] [] μ _
  unfold f_X8_takeFrom
  refine aw_aload_n (n := 1) dX8_takeFrom_0 rfl rfl ?_
  refine aw_aload_n (n := 2) dX8_takeFrom_1 rfl rfl ?_
  refine aw_getI (n := 5) (RX8, TX8, 20) 8 1 dX8_takeFrom_2 rfl ha0 (by decide) fd_RX8_59 ?_
  refine aw_putI (n := 8) (RX8, TX8, 20) 8 1 dX8_takeFrom_5 rfl ht (by decide) fp_RX8_59 (fun μ1 => ?_)
  refine aw_aload_n (n := 9) dX8_takeFrom_8 rfl rfl ?_
  refine aw_aload_n (n := 10) dX8_takeFrom_9 rfl rfl ?_
  refine aw_getI (n := 13) (RX8, TX8, 20) 8 2 dX8_takeFrom_10 rfl ha0 (by decide) fd_RX8_62 ?_
  refine aw_putI (n := 16) (RX8, TX8, 20) 8 2 dX8_takeFrom_13 rfl ht (by decide) fp_RX8_62 (fun μ2 => ?_)
  refine aw_aload_n (n := 17) dX8_takeFrom_16 rfl rfl ?_
  refine aw_aload_n (n := 18) dX8_takeFrom_17 rfl rfl ?_
  refine aw_getI (n := 21) (RX8, TX8, 20) 8 3 dX8_takeFrom_18 rfl ha0 (by decide) fd_RX8_65 ?_
  refine aw_putI (n := 24) (RX8, TX8, 20) 8 3 dX8_takeFrom_21 rfl ht (by decide) fp_RX8_65 (fun μ3 => ?_)
  refine aw_aload_n (n := 25) dX8_takeFrom_24 rfl rfl ?_
  refine aw_aload_n (n := 26) dX8_takeFrom_25 rfl rfl ?_
  refine aw_getI (n := 29) (RX8, TX8, 20) 8 4 dX8_takeFrom_26 rfl ha0 (by decide) fd_RX8_68 ?_
  refine aw_putI (n := 32) (RX8, TX8, 20) 8 4 dX8_takeFrom_29 rfl ht (by decide) fp_RX8_68 (fun μ4 => ?_)
  refine aw_aload_n (n := 33) dX8_takeFrom_32 rfl rfl ?_
  refine aw_getR (n := 36) (RX8, TX8, 20) 8 5 dX8_takeFrom_33 rfl ha0 (by decide) fd_RX8_9 ?_
  refine aw_iconst (n := 37) 0 dX8_takeFrom_36 rfl (by decide) ?_
  refine aw_aload_n (n := 38) dX8_takeFrom_37 rfl rfl ?_
  refine aw_getR (n := 41) (RX8, TX8, 20) 8 5 dX8_takeFrom_38 rfl ht (by decide) fd_RX8_9 ?_
  refine aw_iconst (n := 42) 0 dX8_takeFrom_41 rfl (by decide) ?_
  refine aw_bipush (n := 44) 9 dX8_takeFrom_42 rfl (by decide) ?_
  refine aw_copyl (n := 47) 9 9 dX8_takeFrom_44 rfl tb_771 (Nat.le_of_ble_eq_true rfl) (fun _ => Nat.le_of_ble_eq_true rfl) (sf_8_5 ha0) (sf_8_5 ht) (fun μ5 => ?_)
  refine aw_aload_n (n := 48) dX8_takeFrom_47 rfl rfl ?_
  refine aw_getR (n := 51) (RX8, TX8, 20) 8 6 dX8_takeFrom_48 rfl ha0 (by decide) fd_RX8_15 ?_
  refine aw_aload_n (n := 52) dX8_takeFrom_51 rfl rfl ?_
  refine aw_getR (n := 55) (RX8, TX8, 20) 8 6 dX8_takeFrom_52 rfl ht (by decide) fd_RX8_15 ?_
  refine aw_callNv (n := 58) (as := [.ref (aw_rf a0 6), .ref (aw_rf t 6)]) (st := []) RX10 dX8_takeFrom_55 rfl rfl (m_X10_copyRow l F (aw_rf a0 6) (aw_arr (sf_8_6 ha0)) (aw_rf t 6) (aw_arr (sf_8_6 ht)) μ5) cw_RX8_87 ⟨Nat.le_of_ble_eq_true rfl, Nat.le_of_ble_eq_true rfl⟩ (fun _ => Nat.le_of_ble_eq_true rfl) (fun r6 => ?_)
  refine aw_aload_n (n := 59) dX8_takeFrom_58 rfl rfl ?_
  refine aw_getR (n := 62) (RX8, TX8, 20) 8 7 dX8_takeFrom_59 rfl ha0 (by decide) fd_RX8_19 ?_
  refine aw_aload_n (n := 63) dX8_takeFrom_62 rfl rfl ?_
  refine aw_getR (n := 66) (RX8, TX8, 20) 8 7 dX8_takeFrom_63 rfl ht (by decide) fd_RX8_19 ?_
  refine aw_callNv (n := 69) (as := [.ref (aw_rf a0 7), .ref (aw_rf t 7)]) (st := []) RX10 dX8_takeFrom_66 rfl rfl (m_X10_copyRow l F (aw_rf a0 7) (aw_arr (sf_8_7 ha0)) (aw_rf t 7) (aw_arr (sf_8_7 ht)) r6) cw_RX8_87 ⟨Nat.le_of_ble_eq_true rfl, Nat.le_of_ble_eq_true rfl⟩ (fun _ => Nat.le_of_ble_eq_true rfl) (fun r7 => ?_)
  refine aw_aload_n (n := 70) dX8_takeFrom_69 rfl rfl ?_
  refine aw_getR (n := 73) (RX8, TX8, 20) 8 8 dX8_takeFrom_70 rfl ha0 (by decide) fd_RX8_22 ?_
  refine aw_aload_n (n := 74) dX8_takeFrom_73 rfl rfl ?_
  refine aw_getR (n := 77) (RX8, TX8, 20) 8 8 dX8_takeFrom_74 rfl ht (by decide) fd_RX8_22 ?_
  refine aw_callNv (n := 80) (as := [.ref (aw_rf a0 8), .ref (aw_rf t 8)]) (st := []) RX10 dX8_takeFrom_77 rfl rfl (m_X10_copyRow l F (aw_rf a0 8) (aw_arr (sf_8_8 ha0)) (aw_rf t 8) (aw_arr (sf_8_8 ht)) r7) cw_RX8_87 ⟨Nat.le_of_ble_eq_true rfl, Nat.le_of_ble_eq_true rfl⟩ (fun _ => Nat.le_of_ble_eq_true rfl) (fun r8 => ?_)
  refine aw_aload_n (n := 81) dX8_takeFrom_80 rfl rfl ?_
  refine aw_getR (n := 84) (RX8, TX8, 20) 8 9 dX8_takeFrom_81 rfl ha0 (by decide) fd_RX8_25 ?_
  refine aw_aload_n (n := 85) dX8_takeFrom_84 rfl rfl ?_
  refine aw_getR (n := 88) (RX8, TX8, 20) 8 9 dX8_takeFrom_85 rfl ht (by decide) fd_RX8_25 ?_
  refine aw_callNv (n := 91) (as := [.ref (aw_rf a0 9), .ref (aw_rf t 9)]) (st := []) RX10 dX8_takeFrom_88 rfl rfl (m_X10_copyRow l F (aw_rf a0 9) (aw_arr (sf_8_9 ha0)) (aw_rf t 9) (aw_arr (sf_8_9 ht)) r8) cw_RX8_87 ⟨Nat.le_of_ble_eq_true rfl, Nat.le_of_ble_eq_true rfl⟩ (fun _ => Nat.le_of_ble_eq_true rfl) (fun r9 => ?_)
  refine aw_aload_n (n := 92) dX8_takeFrom_91 rfl rfl ?_
  refine aw_getR (n := 95) (RX8, TX8, 20) 8 10 dX8_takeFrom_92 rfl ha0 (by decide) fd_RX8_28 ?_
  refine aw_aload_n (n := 96) dX8_takeFrom_95 rfl rfl ?_
  refine aw_getR (n := 99) (RX8, TX8, 20) 8 10 dX8_takeFrom_96 rfl ht (by decide) fd_RX8_28 ?_
  refine aw_callNv (n := 102) (as := [.ref (aw_rf a0 10), .ref (aw_rf t 10)]) (st := []) RX10 dX8_takeFrom_99 rfl rfl (m_X10_copyRow l F (aw_rf a0 10) (aw_arr (sf_8_10 ha0)) (aw_rf t 10) (aw_arr (sf_8_10 ht)) r9) cw_RX8_87 ⟨Nat.le_of_ble_eq_true rfl, Nat.le_of_ble_eq_true rfl⟩ (fun _ => Nat.le_of_ble_eq_true rfl) (fun r10 => ?_)
  refine aw_aload_n (n := 103) dX8_takeFrom_102 rfl rfl ?_
  refine aw_getR (n := 106) (RX8, TX8, 20) 8 11 dX8_takeFrom_103 rfl ha0 (by decide) fd_RX8_31 ?_
  refine aw_aload_n (n := 107) dX8_takeFrom_106 rfl rfl ?_
  refine aw_getR (n := 110) (RX8, TX8, 20) 8 11 dX8_takeFrom_107 rfl ht (by decide) fd_RX8_31 ?_
  refine aw_callNv (n := 113) (as := [.ref (aw_rf a0 11), .ref (aw_rf t 11)]) (st := []) RX10 dX8_takeFrom_110 rfl rfl (m_X10_copyRow l F (aw_rf a0 11) (aw_arr (sf_8_11 ha0)) (aw_rf t 11) (aw_arr (sf_8_11 ht)) r10) cw_RX8_87 ⟨Nat.le_of_ble_eq_true rfl, Nat.le_of_ble_eq_true rfl⟩ (fun _ => Nat.le_of_ble_eq_true rfl) (fun r11 => ?_)
  refine aw_aload_n (n := 114) dX8_takeFrom_113 rfl rfl ?_
  refine aw_getR (n := 117) (RX8, TX8, 20) 8 12 dX8_takeFrom_114 rfl ha0 (by decide) fd_RX8_34 ?_
  refine aw_aload_n (n := 118) dX8_takeFrom_117 rfl rfl ?_
  refine aw_getR (n := 121) (RX8, TX8, 20) 8 12 dX8_takeFrom_118 rfl ht (by decide) fd_RX8_34 ?_
  refine aw_callNv (n := 124) (as := [.ref (aw_rf a0 12), .ref (aw_rf t 12)]) (st := []) RX10 dX8_takeFrom_121 rfl rfl (m_X10_copyRow l F (aw_rf a0 12) (aw_arr (sf_8_12 ha0)) (aw_rf t 12) (aw_arr (sf_8_12 ht)) r11) cw_RX8_87 ⟨Nat.le_of_ble_eq_true rfl, Nat.le_of_ble_eq_true rfl⟩ (fun _ => Nat.le_of_ble_eq_true rfl) (fun r12 => ?_)
  refine aw_aload_n (n := 125) dX8_takeFrom_124 rfl rfl ?_
  refine aw_getR (n := 128) (RX8, TX8, 20) 8 13 dX8_takeFrom_125 rfl ha0 (by decide) fd_RX8_37 ?_
  refine aw_aload_n (n := 129) dX8_takeFrom_128 rfl rfl ?_
  refine aw_getR (n := 132) (RX8, TX8, 20) 8 13 dX8_takeFrom_129 rfl ht (by decide) fd_RX8_37 ?_
  refine aw_callNv (n := 135) (as := [.ref (aw_rf a0 13), .ref (aw_rf t 13)]) (st := []) RX10 dX8_takeFrom_132 rfl rfl (m_X10_copyRow l F (aw_rf a0 13) (aw_arr (sf_8_13 ha0)) (aw_rf t 13) (aw_arr (sf_8_13 ht)) r12) cw_RX8_87 ⟨Nat.le_of_ble_eq_true rfl, Nat.le_of_ble_eq_true rfl⟩ (fun _ => Nat.le_of_ble_eq_true rfl) (fun r13 => ?_)
  refine aw_aload_n (n := 136) dX8_takeFrom_135 rfl rfl ?_
  refine aw_getR (n := 139) (RX8, TX8, 20) 8 14 dX8_takeFrom_136 rfl ha0 (by decide) fd_RX8_40 ?_
  refine aw_aload_n (n := 140) dX8_takeFrom_139 rfl rfl ?_
  refine aw_getR (n := 143) (RX8, TX8, 20) 8 14 dX8_takeFrom_140 rfl ht (by decide) fd_RX8_40 ?_
  refine aw_callNv (n := 146) (as := [.ref (aw_rf a0 14), .ref (aw_rf t 14)]) (st := []) RX10 dX8_takeFrom_143 rfl rfl (m_X10_copyRow l F (aw_rf a0 14) (aw_arr (sf_8_14 ha0)) (aw_rf t 14) (aw_arr (sf_8_14 ht)) r13) cw_RX8_87 ⟨Nat.le_of_ble_eq_true rfl, Nat.le_of_ble_eq_true rfl⟩ (fun _ => Nat.le_of_ble_eq_true rfl) (fun r14 => ?_)
  refine aw_aload_n (n := 147) dX8_takeFrom_146 rfl rfl ?_
  refine aw_getR (n := 150) (RX8, TX8, 20) 8 15 dX8_takeFrom_147 rfl ha0 (by decide) fd_RX8_43 ?_
  refine aw_aload_n (n := 151) dX8_takeFrom_150 rfl rfl ?_
  refine aw_getR (n := 154) (RX8, TX8, 20) 8 15 dX8_takeFrom_151 rfl ht (by decide) fd_RX8_43 ?_
  refine aw_callNv (n := 157) (as := [.ref (aw_rf a0 15), .ref (aw_rf t 15)]) (st := []) RX10 dX8_takeFrom_154 rfl rfl (m_X10_copyRow l F (aw_rf a0 15) (aw_arr (sf_8_15 ha0)) (aw_rf t 15) (aw_arr (sf_8_15 ht)) r14) cw_RX8_87 ⟨Nat.le_of_ble_eq_true rfl, Nat.le_of_ble_eq_true rfl⟩ (fun _ => Nat.le_of_ble_eq_true rfl) (fun r15 => ?_)
  refine aw_aload_n (n := 158) dX8_takeFrom_157 rfl rfl ?_
  refine aw_getR (n := 161) (RX8, TX8, 20) 8 16 dX8_takeFrom_158 rfl ha0 (by decide) fd_RX8_46 ?_
  refine aw_aload_n (n := 162) dX8_takeFrom_161 rfl rfl ?_
  refine aw_getR (n := 165) (RX8, TX8, 20) 8 16 dX8_takeFrom_162 rfl ht (by decide) fd_RX8_46 ?_
  refine aw_callNv (n := 168) (as := [.ref (aw_rf a0 16), .ref (aw_rf t 16)]) (st := []) RX10 dX8_takeFrom_165 rfl rfl (m_X10_copyRow l F (aw_rf a0 16) (aw_arr (sf_8_16 ha0)) (aw_rf t 16) (aw_arr (sf_8_16 ht)) r15) cw_RX8_87 ⟨Nat.le_of_ble_eq_true rfl, Nat.le_of_ble_eq_true rfl⟩ (fun _ => Nat.le_of_ble_eq_true rfl) (fun r16 => ?_)
  refine aw_aload_n (n := 169) dX8_takeFrom_168 rfl rfl ?_
  refine aw_getR (n := 172) (RX8, TX8, 20) 8 17 dX8_takeFrom_169 rfl ha0 (by decide) fd_RX8_49 ?_
  refine aw_aload_n (n := 173) dX8_takeFrom_172 rfl rfl ?_
  refine aw_getR (n := 176) (RX8, TX8, 20) 8 17 dX8_takeFrom_173 rfl ht (by decide) fd_RX8_49 ?_
  refine aw_callNv (n := 179) (as := [.ref (aw_rf a0 17), .ref (aw_rf t 17)]) (st := []) RX10 dX8_takeFrom_176 rfl rfl (m_X10_copyRow l F (aw_rf a0 17) (aw_arr (sf_8_17 ha0)) (aw_rf t 17) (aw_arr (sf_8_17 ht)) r16) cw_RX8_87 ⟨Nat.le_of_ble_eq_true rfl, Nat.le_of_ble_eq_true rfl⟩ (fun _ => Nat.le_of_ble_eq_true rfl) (fun r17 => ?_)
  exact aw_vreturn dX8_takeFrom_179 rfl rfl
abbrev k_X8_readCell : aw_K := (RX8, cX8_readCell, 4, (some .boolean), 3, 163)
def f_X8_readCell_77 (F : Nat) (t a0 : Nat) (μ : aw_M) : Option (Bool × aw_M) :=
  (f_X6_step F a0 μ).bind fun r14 =>
  some (true, r14)
theorem c_X8_readCell_77 (l : Launch) (F : Nat) (t : Nat) (ht : (aw_sh t).1 = 13) (a0 : Nat) (ha0 : (aw_sh a0).1 = 11) (μ : aw_M) : AW l k_X8_readCell aw_gz 77 [none, some (.ref a0), none, none] [] μ (f_X8_readCell_77 F t a0 μ) := by
  unfold f_X8_readCell_77
  refine aw_aload_n (n := 78) dX8_readCell_77 rfl rfl ?_
  refine aw_callVv (n := 81) (as := []) (st := []) (RX6, TX6, 13) 6 dX8_readCell_78 rfl rfl (m_X6_step l F a0 ha0 μ) ha0 (by decide) rfl rfl cw_RX8_143 ⟨Nat.le_of_ble_eq_true rfl, Nat.le_of_ble_eq_true rfl⟩ (fun _ => Nat.le_of_ble_eq_true rfl) (fun r14 => ?_)
  refine aw_iconst (n := 82) 1 dX8_readCell_81 rfl (by decide) ?_
  exact aw_zreturn (b := true) dX8_readCell_82 rfl rfl
def f_X8_readCell (F : Nat) (t a0 : Nat) (a1 : Int32) (μ : aw_M) : Option (Bool × aw_M) :=
  (f_X6_seeNumber F a0 0 ((μ.1 t 1) - 1) μ).bind fun r9 =>
  (if r9.1 = true then
  aw_let ((r9.2.1 a0 7)) fun v10 =>
  (f_X6_step F a0 r9.2).bind fun r11 =>
  (f_X6_seeNumber F a0 0 ((r11.1 t 2) - 1) r11).bind fun r12 =>
  (if r12.1 = true then
  aw_let (aw_wI r12.2 t 19 ((10 * (r12.2.1 a0 7)) + v10)) fun μ13 =>
  (if a1 = (-1) then
  f_X8_readCell_77 F t a0 μ13
  else
  (f_X8_hasOn F t a1 (μ13.1 t 19) μ13).bind fun r15 =>
  (if r15.1 = true then
  (f_X6_fail F a0 3 r15.2).bind fun r16 =>
  some (r16.1, r16.2)
  else
  f_X8_readCell_77 F t a0 r15.2))
  else
  some (false, r12.2))
  else
  some (false, r9.2))
theorem m_X8_readCell (l : Launch) (F : Nat) (t : Nat) (ht : (aw_sh t).1 = 13) (a0 : Nat) (ha0 : (aw_sh a0).1 = 11) (a1 : Int32) (μ : aw_M) : AM l yX8_readCell cX8_readCell 4 (some .boolean) (3) (163) aw_gz [.ref t, .ref a0, .int a1] μ (f_X8_readCell F t a0 a1 μ) := by
  refine aw_met [some (.ref t), some (.ref a0), some (.int a1), none] (by decide) (fun _ => rfl) (fun _ => Nat.le_of_ble_eq_true rfl) ?_
  show AW l k_X8_readCell aw_gz 0 [some (.ref t), some (.ref a0), some (.int a1), none] [] μ _
  unfold f_X8_readCell
  refine aw_aload_n (n := 1) dX8_readCell_0 rfl rfl ?_
  refine aw_iconst (n := 2) 0 dX8_readCell_1 rfl (by decide) ?_
  refine aw_aload_n (n := 3) dX8_readCell_2 rfl rfl ?_
  refine aw_getI (n := 6) (RX8, TX8, 20) 8 1 dX8_readCell_3 rfl ht (by decide) fd_RX8_59 ?_
  refine aw_iconst (n := 7) 1 dX8_readCell_6 rfl (by decide) ?_
  refine aw_isub (n := 8) dX8_readCell_7 rfl ?_
  refine aw_callVz (n := 11) (as := [.int 0, .int ((μ.1 t 1) - 1)]) (st := []) (RX6, TX6, 13) 6 dX8_readCell_8 rfl rfl (m_X6_seeNumber l F a0 ha0 0 ((μ.1 t 1) - 1) μ) ha0 (by decide) rfl rfl cw_RX8_146 ⟨Nat.le_of_ble_eq_true rfl, Nat.le_of_ble_eq_true rfl⟩ (fun _ => Nat.le_of_ble_eq_true rfl) (fun r9 => ?_)
  refine aw_ifb_ne (n := 14) 16 dX8_readCell_11 (by decide) rfl ?_ ?_
  · refine aw_aload_n (n := 17) dX8_readCell_16 rfl rfl ?_
    refine aw_getI (n := 20) (RX6, TX6, 13) 6 7 dX8_readCell_17 rfl ha0 (by decide) fd_RX8_150 ?_
    refine aw_nmI (fun v10 => ?_)
    refine aw_istore_n (n := 21) [some (.ref t), some (.ref a0), some (.int a1), some (.int v10)] dX8_readCell_20 rfl rfl (Nat.le_of_ble_eq_true rfl) (Nat.le_of_ble_eq_true rfl) rfl ?_
    refine aw_aload_n (n := 22) dX8_readCell_21 rfl rfl ?_
    refine aw_callVv (n := 25) (as := []) (st := []) (RX6, TX6, 13) 6 dX8_readCell_22 rfl rfl (m_X6_step l F a0 ha0 r9.2) ha0 (by decide) rfl rfl cw_RX8_143 ⟨Nat.le_of_ble_eq_true rfl, Nat.le_of_ble_eq_true rfl⟩ (fun _ => Nat.le_of_ble_eq_true rfl) (fun r11 => ?_)
    refine aw_aload_n (n := 26) dX8_readCell_25 rfl rfl ?_
    refine aw_iconst (n := 27) 0 dX8_readCell_26 rfl (by decide) ?_
    refine aw_aload_n (n := 28) dX8_readCell_27 rfl rfl ?_
    refine aw_getI (n := 31) (RX8, TX8, 20) 8 2 dX8_readCell_28 rfl ht (by decide) fd_RX8_62 ?_
    refine aw_iconst (n := 32) 1 dX8_readCell_31 rfl (by decide) ?_
    refine aw_isub (n := 33) dX8_readCell_32 rfl ?_
    refine aw_callVz (n := 36) (as := [.int 0, .int ((r11.1 t 2) - 1)]) (st := []) (RX6, TX6, 13) 6 dX8_readCell_33 rfl rfl (m_X6_seeNumber l F a0 ha0 0 ((r11.1 t 2) - 1) r11) ha0 (by decide) rfl rfl cw_RX8_146 ⟨Nat.le_of_ble_eq_true rfl, Nat.le_of_ble_eq_true rfl⟩ (fun _ => Nat.le_of_ble_eq_true rfl) (fun r12 => ?_)
    refine aw_ifb_ne (n := 39) 41 dX8_readCell_36 (by decide) rfl ?_ ?_
    · refine aw_aload_n (n := 42) dX8_readCell_41 rfl rfl ?_
      refine aw_bipush (n := 44) 10 dX8_readCell_42 rfl (by decide) ?_
      refine aw_aload_n (n := 45) dX8_readCell_44 rfl rfl ?_
      refine aw_getI (n := 48) (RX6, TX6, 13) 6 7 dX8_readCell_45 rfl ha0 (by decide) fd_RX8_150 ?_
      refine aw_imul (n := 49) dX8_readCell_48 rfl ?_
      refine aw_iload_n (n := 50) dX8_readCell_49 rfl rfl ?_
      refine aw_iadd (n := 51) dX8_readCell_50 rfl ?_
      refine aw_putI (n := 54) (RX8, TX8, 20) 8 19 dX8_readCell_51 rfl ht (by decide) fp_RX8_168 (fun μ13 => ?_)
      refine aw_iload_n (n := 55) dX8_readCell_54 rfl rfl ?_
      refine aw_iconst (n := 56) (-1) dX8_readCell_55 rfl (by decide) ?_
      refine aw_icmp_eq (n := 59) 77 dX8_readCell_56 (by decide) rfl ?_ ?_
      · exact aw_weak (c_X8_readCell_77 l F t ht a0 ha0 μ13) (aw_sn (aw_ss (aw_sn (aw_sn aw_s0))))
      · refine aw_aload_n (n := 60) dX8_readCell_59 rfl rfl ?_
        refine aw_iload_n (n := 61) dX8_readCell_60 rfl rfl ?_
        refine aw_aload_n (n := 62) dX8_readCell_61 rfl rfl ?_
        refine aw_getI (n := 65) (RX8, TX8, 20) 8 19 dX8_readCell_62 rfl ht (by decide) fd_RX8_168 ?_
        refine aw_callVz (n := 68) (as := [.int a1, .int (μ13.1 t 19)]) (st := []) (RX8, TX8, 20) 8 dX8_readCell_65 rfl rfl (m_X8_hasOn l F t ht a1 (μ13.1 t 19) μ13) ht (by decide) rfl rfl cw_RX8_179 ⟨Nat.le_of_ble_eq_true rfl, Nat.le_of_ble_eq_true rfl⟩ (fun _ => Nat.le_of_ble_eq_true rfl) (fun r15 => ?_)
        refine aw_ifb_eq (n := 71) 77 dX8_readCell_68 (by decide) rfl ?_ ?_
        · exact aw_weak (c_X8_readCell_77 l F t ht a0 ha0 r15.2) (aw_sn (aw_ss (aw_sn (aw_sn aw_s0))))
        · refine aw_aload_n (n := 72) dX8_readCell_71 rfl rfl ?_
          refine aw_iconst (n := 73) 3 dX8_readCell_72 rfl (by decide) ?_
          refine aw_callVz (n := 76) (as := [.int 3]) (st := []) (RX6, TX6, 13) 6 dX8_readCell_73 rfl rfl (m_X6_fail l F a0 ha0 3 r15.2) ha0 (by decide) rfl rfl cw_RX8_118 ⟨Nat.le_of_ble_eq_true rfl, Nat.le_of_ble_eq_true rfl⟩ (fun _ => Nat.le_of_ble_eq_true rfl) (fun r16 => ?_)
          exact aw_zreturn (b := r16.1) dX8_readCell_76 rfl rfl
    · refine aw_iconst (n := 40) 0 dX8_readCell_39 rfl (by decide) ?_
      exact aw_zreturn (b := false) dX8_readCell_40 rfl rfl
  · refine aw_iconst (n := 15) 0 dX8_readCell_14 rfl (by decide) ?_
    exact aw_zreturn (b := false) dX8_readCell_15 rfl rfl
abbrev k_X8_readCart : aw_K := (RX8, cX8_readCart, 2, (some .boolean), 4, 187)
def f_X8_readCart (F : Nat) (t a0 : Nat) (μ : aw_M) : Option (Bool × aw_M) :=
  (if (μ.1 t 4) < 20 then
  (f_X6_step F a0 μ).bind fun r1 =>
  (f_X6_passNumber F a0 (aw_rf t 10) 0 239 (r1.1 t 4) r1).bind fun r2 =>
  (if r2.1 = true then
  (f_X8_readCell F t a0 (-1) r2.2).bind fun r3 =>
  (if r3.1 = true then
  aw_g (aw_in (r3.2.1 t 4) 20) (aw_let (aw_wI r3.2 (aw_rf t 11) (r3.2.1 t 4).toNatClampNeg (r3.2.1 t 19)) fun μ4 =>
  (f_X6_passNumber F a0 (aw_rf t 12) 0 400 (μ4.1 t 4) μ4).bind fun r5 =>
  (if r5.1 = true then
  (f_X6_passNumber F a0 (aw_rf t 13) 0 9 (r5.2.1 t 4) r5.2).bind fun r6 =>
  (if r6.1 = true then
  aw_let (aw_wI r6.2 t 4 ((r6.2.1 t 4) + 1)) fun μ7 =>
  some (true, μ7)
  else
  some (false, r6.2))
  else
  some (false, r5.2)))
  else
  some (false, r3.2))
  else
  some (false, r2.2))
  else
  (f_X6_fail F a0 4 μ).bind fun r8 =>
  some (r8.1, r8.2))
theorem m_X8_readCart (l : Launch) (F : Nat) (t : Nat) (ht : (aw_sh t).1 = 13) (a0 : Nat) (ha0 : (aw_sh a0).1 = 11) (μ : aw_M) : AM l yX8_readCart cX8_readCart 2 (some .boolean) (4) (187) aw_gz [.ref t, .ref a0] μ (f_X8_readCart F t a0 μ) := by
  refine aw_met [some (.ref t), some (.ref a0)] (by decide) (fun _ => rfl) (fun _ => Nat.le_of_ble_eq_true rfl) ?_
  show AW l k_X8_readCart aw_gz 0 [some (.ref t), some (.ref a0)] [] μ _
  unfold f_X8_readCart
  refine aw_aload_n (n := 1) dX8_readCart_0 rfl rfl ?_
  refine aw_getI (n := 4) (RX8, TX8, 20) 8 4 dX8_readCart_1 rfl ht (by decide) fd_RX8_68 ?_
  refine aw_bipush (n := 6) 20 dX8_readCart_4 rfl (by decide) ?_
  refine aw_icmp_lt (n := 9) 15 dX8_readCart_6 (by decide) rfl ?_ ?_
  · refine aw_aload_n (n := 16) dX8_readCart_15 rfl rfl ?_
    refine aw_callVv (n := 19) (as := []) (st := []) (RX6, TX6, 13) 6 dX8_readCart_16 rfl rfl (m_X6_step l F a0 ha0 μ) ha0 (by decide) rfl rfl cw_RX8_143 ⟨Nat.le_of_ble_eq_true rfl, Nat.le_of_ble_eq_true rfl⟩ (fun _ => Nat.le_of_ble_eq_true rfl) (fun r1 => ?_)
    refine aw_aload_n (n := 20) dX8_readCart_19 rfl rfl ?_
    refine aw_iconst (n := 21) 0 dX8_readCart_20 rfl (by decide) ?_
    refine aw_sipush (n := 24) 239 dX8_readCart_21 rfl (by decide) ?_
    refine aw_aload_n (n := 25) dX8_readCart_24 rfl rfl ?_
    refine aw_getR (n := 28) (RX8, TX8, 20) 8 10 dX8_readCart_25 rfl ht (by decide) fd_RX8_28 ?_
    refine aw_aload_n (n := 29) dX8_readCart_28 rfl rfl ?_
    refine aw_getI (n := 32) (RX8, TX8, 20) 8 4 dX8_readCart_29 rfl ht (by decide) fd_RX8_68 ?_
    refine aw_callVz (n := 35) (as := [.int 0, .int 239, .ref (aw_rf t 10), .int (r1.1 t 4)]) (st := []) (RX6, TX6, 13) 6 dX8_readCart_32 rfl rfl (m_X6_passNumber l F a0 ha0 (aw_rf t 10) (aw_arr (sf_8_10 ht)) 0 239 (r1.1 t 4) r1) ha0 (by decide) rfl rfl cw_RX8_171 ⟨Nat.le_of_ble_eq_true rfl, Nat.le_of_ble_eq_true rfl⟩ (fun _ => Nat.le_of_ble_eq_true rfl) (fun r2 => ?_)
    refine aw_ifb_eq (n := 38) 47 dX8_readCart_35 (by decide) rfl ?_ ?_
    · refine aw_iconst (n := 48) 0 dX8_readCart_47 rfl (by decide) ?_
      exact aw_zreturn (b := false) dX8_readCart_48 rfl rfl
    · refine aw_aload_n (n := 39) dX8_readCart_38 rfl rfl ?_
      refine aw_aload_n (n := 40) dX8_readCart_39 rfl rfl ?_
      refine aw_iconst (n := 41) (-1) dX8_readCart_40 rfl (by decide) ?_
      refine aw_callVz (n := 44) (as := [.ref a0, .int (-1)]) (st := []) (RX8, TX8, 20) 8 dX8_readCart_41 rfl rfl (m_X8_readCell l F t ht a0 ha0 (-1) r2.2) ht (by decide) rfl rfl cw_RX8_165 ⟨Nat.le_of_ble_eq_true rfl, Nat.le_of_ble_eq_true rfl⟩ (fun _ => Nat.le_of_ble_eq_true rfl) (fun r3 => ?_)
      refine aw_ifb_ne (n := 47) 49 dX8_readCart_44 (by decide) rfl ?_ ?_
      · refine aw_aload_n (n := 50) dX8_readCart_49 rfl rfl ?_
        refine aw_getR (n := 53) (RX8, TX8, 20) 8 11 dX8_readCart_50 rfl ht (by decide) fd_RX8_31 ?_
        refine aw_aload_n (n := 54) dX8_readCart_53 rfl rfl ?_
        refine aw_getI (n := 57) (RX8, TX8, 20) 8 4 dX8_readCart_54 rfl ht (by decide) fd_RX8_68 ?_
        refine aw_aload_n (n := 58) dX8_readCart_57 rfl rfl ?_
        refine aw_getI (n := 61) (RX8, TX8, 20) 8 19 dX8_readCart_58 rfl ht (by decide) fd_RX8_168 ?_
        refine aw_iastore (n := 62) 20 dX8_readCart_61 rfl (sf_8_11 ht) (fun μ4 => ?_)
        refine aw_aload_n (n := 63) dX8_readCart_62 rfl rfl ?_
        refine aw_iconst (n := 64) 0 dX8_readCart_63 rfl (by decide) ?_
        refine aw_sipush (n := 67) 400 dX8_readCart_64 rfl (by decide) ?_
        refine aw_aload_n (n := 68) dX8_readCart_67 rfl rfl ?_
        refine aw_getR (n := 71) (RX8, TX8, 20) 8 12 dX8_readCart_68 rfl ht (by decide) fd_RX8_34 ?_
        refine aw_aload_n (n := 72) dX8_readCart_71 rfl rfl ?_
        refine aw_getI (n := 75) (RX8, TX8, 20) 8 4 dX8_readCart_72 rfl ht (by decide) fd_RX8_68 ?_
        refine aw_callVz (n := 78) (as := [.int 0, .int 400, .ref (aw_rf t 12), .int (μ4.1 t 4)]) (st := []) (RX6, TX6, 13) 6 dX8_readCart_75 rfl rfl (m_X6_passNumber l F a0 ha0 (aw_rf t 12) (aw_arr (sf_8_12 ht)) 0 400 (μ4.1 t 4) μ4) ha0 (by decide) rfl rfl cw_RX8_171 ⟨Nat.le_of_ble_eq_true rfl, Nat.le_of_ble_eq_true rfl⟩ (fun _ => Nat.le_of_ble_eq_true rfl) (fun r5 => ?_)
        refine aw_ifb_eq (n := 81) 99 dX8_readCart_78 (by decide) rfl ?_ ?_
        · refine aw_iconst (n := 100) 0 dX8_readCart_99 rfl (by decide) ?_
          exact aw_zreturn (b := false) dX8_readCart_100 rfl rfl
        · refine aw_aload_n (n := 82) dX8_readCart_81 rfl rfl ?_
          refine aw_iconst (n := 83) 0 dX8_readCart_82 rfl (by decide) ?_
          refine aw_bipush (n := 85) 9 dX8_readCart_83 rfl (by decide) ?_
          refine aw_aload_n (n := 86) dX8_readCart_85 rfl rfl ?_
          refine aw_getR (n := 89) (RX8, TX8, 20) 8 13 dX8_readCart_86 rfl ht (by decide) fd_RX8_37 ?_
          refine aw_aload_n (n := 90) dX8_readCart_89 rfl rfl ?_
          refine aw_getI (n := 93) (RX8, TX8, 20) 8 4 dX8_readCart_90 rfl ht (by decide) fd_RX8_68 ?_
          refine aw_callVz (n := 96) (as := [.int 0, .int 9, .ref (aw_rf t 13), .int (r5.2.1 t 4)]) (st := []) (RX6, TX6, 13) 6 dX8_readCart_93 rfl rfl (m_X6_passNumber l F a0 ha0 (aw_rf t 13) (aw_arr (sf_8_13 ht)) 0 9 (r5.2.1 t 4) r5.2) ha0 (by decide) rfl rfl cw_RX8_171 ⟨Nat.le_of_ble_eq_true rfl, Nat.le_of_ble_eq_true rfl⟩ (fun _ => Nat.le_of_ble_eq_true rfl) (fun r6 => ?_)
          refine aw_ifb_ne (n := 99) 101 dX8_readCart_96 (by decide) rfl ?_ ?_
          · refine aw_aload_n (n := 102) dX8_readCart_101 rfl rfl ?_
            refine aw_dup (n := 103) dX8_readCart_102 rfl (fun _ => rfl) ?_
            refine aw_getI (n := 106) (RX8, TX8, 20) 8 4 dX8_readCart_103 rfl ht (by decide) fd_RX8_68 ?_
            refine aw_iconst (n := 107) 1 dX8_readCart_106 rfl (by decide) ?_
            refine aw_iadd (n := 108) dX8_readCart_107 rfl ?_
            refine aw_putI (n := 111) (RX8, TX8, 20) 8 4 dX8_readCart_108 rfl ht (by decide) fp_RX8_68 (fun μ7 => ?_)
            refine aw_iconst (n := 112) 1 dX8_readCart_111 rfl (by decide) ?_
            exact aw_zreturn (b := true) dX8_readCart_112 rfl rfl
          · refine aw_iconst (n := 100) 0 dX8_readCart_99 rfl (by decide) ?_
            exact aw_zreturn (b := false) dX8_readCart_100 rfl rfl
      · refine aw_iconst (n := 48) 0 dX8_readCart_47 rfl (by decide) ?_
        exact aw_zreturn (b := false) dX8_readCart_48 rfl rfl
  · refine aw_aload_n (n := 10) dX8_readCart_9 rfl rfl ?_
    refine aw_iconst (n := 11) 4 dX8_readCart_10 rfl (by decide) ?_
    refine aw_callVz (n := 14) (as := [.int 4]) (st := []) (RX6, TX6, 13) 6 dX8_readCart_11 rfl rfl (m_X6_fail l F a0 ha0 4 μ) ha0 (by decide) rfl rfl cw_RX8_118 ⟨Nat.le_of_ble_eq_true rfl, Nat.le_of_ble_eq_true rfl⟩ (fun _ => Nat.le_of_ble_eq_true rfl) (fun r8 => ?_)
    exact aw_zreturn (b := r8.1) dX8_readCart_14 rfl rfl
abbrev k_X8_readLaw : aw_K := (RX8, cX8_readLaw, 3, (some .boolean), 4, 187)
def f_X8_readLaw_24 (F : Nat) (t a0 : Nat) (k24 : Int32 × aw_M → Option (Bool × aw_M)) (x2 : Int32) (μ : aw_M) : Option (Bool × aw_M) :=
  (if 4 ≤ x2 then
  some (true, μ)
  else
  (f_X6_passNumber F a0 (aw_rf t 17) 0 9 x2 μ).bind fun r7 =>
  (if r7.1 = true then
  k24 ((x2 + 1), r7.2)
  else
  some (false, r7.2)))
theorem c_X8_readLaw_24 (l : Launch) (F : Nat) (t : Nat) (ht : (aw_sh t).1 = 13) (a0 : Nat) (ha0 : (aw_sh a0).1 = 11) : ∀ (N : Nat) (s : Int32 × aw_M), AW l k_X8_readLaw aw_gz 24 [some (.ref t), some (.ref a0), some (.int s.1)] [] s.2 (aw_loop (fun k s => f_X8_readLaw_24 F t a0 k s.1 s.2) N s) := by
  refine aw_loop_ok (f := fun k s => f_X8_readLaw_24 F t a0 k s.1 s.2) (Ls := fun s => [some (.ref t), some (.ref a0), some (.int s.1)]) (ms := fun s => s.2) ?_
  intro k24 hk24 s
  obtain ⟨x2, μ⟩ := s
  show AW l k_X8_readLaw aw_gz 24 [some (.ref t), some (.ref a0), some (.int x2)] [] μ (f_X8_readLaw_24 F t a0 k24 x2 μ)
  unfold f_X8_readLaw_24
  refine aw_iload_n (n := 25) dX8_readLaw_24 rfl rfl ?_
  refine aw_aload_n (n := 26) dX8_readLaw_25 rfl rfl ?_
  refine aw_getR (n := 29) (RX8, TX8, 20) 8 17 dX8_readLaw_26 rfl ht (by decide) fd_RX8_49 ?_
  refine aw_alen (n := 30) 4 dX8_readLaw_29 rfl (congrArg Prod.fst (sf_8_17 ht)) (by rw [(sf_8_17 ht)]; rfl) ?_
  refine aw_icmp_ge (n := 33) 56 dX8_readLaw_30 (by decide) rfl ?_ ?_
  · refine aw_iconst (n := 57) 1 dX8_readLaw_56 rfl (by decide) ?_
    exact aw_zreturn (b := true) dX8_readLaw_57 rfl rfl
  · refine aw_aload_n (n := 34) dX8_readLaw_33 rfl rfl ?_
    refine aw_iconst (n := 35) 0 dX8_readLaw_34 rfl (by decide) ?_
    refine aw_bipush (n := 37) 9 dX8_readLaw_35 rfl (by decide) ?_
    refine aw_aload_n (n := 38) dX8_readLaw_37 rfl rfl ?_
    refine aw_getR (n := 41) (RX8, TX8, 20) 8 17 dX8_readLaw_38 rfl ht (by decide) fd_RX8_49 ?_
    refine aw_iload_n (n := 42) dX8_readLaw_41 rfl rfl ?_
    refine aw_callVz (n := 45) (as := [.int 0, .int 9, .ref (aw_rf t 17), .int x2]) (st := []) (RX6, TX6, 13) 6 dX8_readLaw_42 rfl rfl (m_X6_passNumber l F a0 ha0 (aw_rf t 17) (aw_arr (sf_8_17 ht)) 0 9 x2 μ) ha0 (by decide) rfl rfl cw_RX8_171 ⟨Nat.le_of_ble_eq_true rfl, Nat.le_of_ble_eq_true rfl⟩ (fun _ => Nat.le_of_ble_eq_true rfl) (fun r7 => ?_)
    refine aw_ifb_ne (n := 48) 50 dX8_readLaw_45 (by decide) rfl ?_ ?_
    · refine aw_iinc (n := 53) (x2 + 1) [some (.ref t), some (.ref a0), some (.int (x2 + 1))] dX8_readLaw_50 rfl rfl (by rfl) rfl (Nat.le_of_ble_eq_true rfl) rfl ?_
      refine aw_goto 24 dX8_readLaw_53 (by decide) ?_
      exact aw_weak (hk24 ((x2 + 1), r7.2)) (aw_ss (aw_ss (aw_ss aw_s0)))
    · refine aw_iconst (n := 49) 0 dX8_readLaw_48 rfl (by decide) ?_
      exact aw_zreturn (b := false) dX8_readLaw_49 rfl rfl
def f_X8_readLaw (F : Nat) (t a0 : Nat) (μ : aw_M) : Option (Bool × aw_M) :=
  (if (μ.1 t 18) = 0 then
  (f_X6_step F a0 μ).bind fun r5 =>
  aw_let (aw_wI r5 t 18 1) fun μ6 =>
  aw_loop (fun k s => f_X8_readLaw_24 F t a0 k s.1 s.2) F (0, μ6)
  else
  (f_X6_fail F a0 3 μ).bind fun r8 =>
  some (r8.1, r8.2))
theorem m_X8_readLaw (l : Launch) (F : Nat) (t : Nat) (ht : (aw_sh t).1 = 13) (a0 : Nat) (ha0 : (aw_sh a0).1 = 11) (μ : aw_M) : AM l yX8_readLaw cX8_readLaw 3 (some .boolean) (4) (187) aw_gz [.ref t, .ref a0] μ (f_X8_readLaw F t a0 μ) := by
  refine aw_met [some (.ref t), some (.ref a0), none] (by decide) (fun _ => rfl) (fun _ => Nat.le_of_ble_eq_true rfl) ?_
  show AW l k_X8_readLaw aw_gz 0 [some (.ref t), some (.ref a0), none] [] μ _
  unfold f_X8_readLaw
  refine aw_aload_n (n := 1) dX8_readLaw_0 rfl rfl ?_
  refine aw_getI (n := 4) (RX8, TX8, 20) 8 18 dX8_readLaw_1 rfl ht (by decide) fd_RX8_71 ?_
  refine aw_if_eq (n := 7) 13 dX8_readLaw_4 (by decide) rfl ?_ ?_
  · refine aw_aload_n (n := 14) dX8_readLaw_13 rfl rfl ?_
    refine aw_callVv (n := 17) (as := []) (st := []) (RX6, TX6, 13) 6 dX8_readLaw_14 rfl rfl (m_X6_step l F a0 ha0 μ) ha0 (by decide) rfl rfl cw_RX8_143 ⟨Nat.le_of_ble_eq_true rfl, Nat.le_of_ble_eq_true rfl⟩ (fun _ => Nat.le_of_ble_eq_true rfl) (fun r5 => ?_)
    refine aw_aload_n (n := 18) dX8_readLaw_17 rfl rfl ?_
    refine aw_iconst (n := 19) 1 dX8_readLaw_18 rfl (by decide) ?_
    refine aw_putZ (n := 22) (RX8, TX8, 20) 8 18 dX8_readLaw_19 rfl ht (by decide) fp_RX8_71 (Or.inr rfl) (fun μ6 => ?_)
    refine aw_iconst (n := 23) 0 dX8_readLaw_22 rfl (by decide) ?_
    refine aw_istore_n (n := 24) [some (.ref t), some (.ref a0), some (.int 0)] dX8_readLaw_23 rfl rfl (Nat.le_of_ble_eq_true rfl) (Nat.le_of_ble_eq_true rfl) rfl ?_
    exact aw_weak (c_X8_readLaw_24 l F t ht a0 ha0 F (0, μ6)) (aw_ss (aw_ss (aw_ss aw_s0)))
  · refine aw_aload_n (n := 8) dX8_readLaw_7 rfl rfl ?_
    refine aw_iconst (n := 9) 3 dX8_readLaw_8 rfl (by decide) ?_
    refine aw_callVz (n := 12) (as := [.int 3]) (st := []) (RX6, TX6, 13) 6 dX8_readLaw_9 rfl rfl (m_X6_fail l F a0 ha0 3 μ) ha0 (by decide) rfl rfl cw_RX8_118 ⟨Nat.le_of_ble_eq_true rfl, Nat.le_of_ble_eq_true rfl⟩ (fun _ => Nat.le_of_ble_eq_true rfl) (fun r8 => ?_)
    exact aw_zreturn (b := r8.1) dX8_readLaw_12 rfl rfl
abbrev k_X8_putOn : aw_K := (RX8, cX8_putOn, 3, none, 1, 120)
def f_X8_putOn (F : Nat) (t : Nat) (a0 : Int32) (a1 : Int32) (μ : aw_M) : Option (aw_M) :=
  aw_g (aw_in a1 100) (aw_g (aw_in a1 100) (aw_let (aw_wI μ (aw_rf t 15) a1.toNatClampNeg ((μ.1 (aw_rf t 15) a1.toNatClampNeg) ||| (1 <<< (a0 &&& 31)))) fun μ1 =>
  aw_g (aw_in a0 4) (aw_g (aw_in a0 4) (aw_let (aw_wI μ1 (aw_rf t 14) a0.toNatClampNeg ((μ1.1 (aw_rf t 14) a0.toNatClampNeg) + 1)) fun μ2 =>
  some μ2))))
theorem m_X8_putOn (l : Launch) (F : Nat) (t : Nat) (ht : (aw_sh t).1 = 13) (a0 : Int32) (a1 : Int32) (μ : aw_M) : AM l yX8_putOn cX8_putOn 3 none 1 120 aw_gv [.ref t, .int a0, .int a1] μ (f_X8_putOn F t a0 a1 μ) := by
  refine aw_met [some (.ref t), some (.int a0), some (.int a1)] (by decide) (fun _ => rfl) (fun _ => Nat.le_of_ble_eq_true rfl) ?_
  show AW l k_X8_putOn aw_gv 0 [some (.ref t), some (.int a0), some (.int a1)] [] μ _
  unfold f_X8_putOn
  refine aw_aload_n (n := 1) dX8_putOn_0 rfl rfl ?_
  refine aw_getR (n := 4) (RX8, TX8, 20) 8 15 dX8_putOn_1 rfl ht (by decide) fd_RX8_43 ?_
  refine aw_iload_n (n := 5) dX8_putOn_4 rfl rfl ?_
  refine aw_dup2 (n := 6) dX8_putOn_5 rfl (fun _ => rfl) (fun _ => rfl) ?_
  refine aw_iaload (n := 7) 100 dX8_putOn_6 rfl (sf_8_15 ht) ?_
  refine aw_iconst (n := 8) 1 dX8_putOn_7 rfl (by decide) ?_
  refine aw_iload_n (n := 9) dX8_putOn_8 rfl rfl ?_
  refine aw_ishl (n := 10) dX8_putOn_9 rfl ?_
  refine aw_ior (n := 11) dX8_putOn_10 rfl ?_
  refine aw_iastore (n := 12) 100 dX8_putOn_11 rfl (sf_8_15 ht) (fun μ1 => ?_)
  refine aw_aload_n (n := 13) dX8_putOn_12 rfl rfl ?_
  refine aw_getR (n := 16) (RX8, TX8, 20) 8 14 dX8_putOn_13 rfl ht (by decide) fd_RX8_40 ?_
  refine aw_iload_n (n := 17) dX8_putOn_16 rfl rfl ?_
  refine aw_dup2 (n := 18) dX8_putOn_17 rfl (fun _ => rfl) (fun _ => rfl) ?_
  refine aw_iaload (n := 19) 4 dX8_putOn_18 rfl (sf_8_14 ht) ?_
  refine aw_iconst (n := 20) 1 dX8_putOn_19 rfl (by decide) ?_
  refine aw_iadd (n := 21) dX8_putOn_20 rfl ?_
  refine aw_iastore (n := 22) 4 dX8_putOn_21 rfl (sf_8_14 ht) (fun μ2 => ?_)
  exact aw_vreturn dX8_putOn_22 rfl rfl
abbrev k_X8_readQuarter : aw_K := (RX8, cX8_readQuarter, 2, (some .boolean), 4, 187)
def f_X8_readQuarter (F : Nat) (t a0 : Nat) (μ : aw_M) : Option (Bool × aw_M) :=
  (if (μ.1 t 3) < 9 then
  (f_X6_step F a0 μ).bind fun r1 =>
  (f_X6_atName F a0 r1).bind fun r2 =>
  (if r2.1 = true then
  (f_X8_quarterNamed F t (r2.2.2 a0 8) r2.2).bind fun r3 =>
  (if r3.1 = (-1) then
  aw_g (aw_in (r3.2.1 t 3) 9) (aw_let (aw_wL r3.2 (aw_rf t 5) (r3.2.1 t 3).toNatClampNeg ((r3.2.2 a0 8))) fun μ4 =>
  (f_X6_step F a0 μ4).bind fun r5 =>
  (f_X8_readCell F t a0 3 r5).bind fun r6 =>
  (if r6.1 = true then
  aw_g (aw_in (r6.2.1 t 3) 9) (aw_let (aw_wI r6.2 (aw_rf t 6) (r6.2.1 t 3).toNatClampNeg (r6.2.1 t 19)) fun μ7 =>
  (f_X6_passNumber F a0 (aw_rf t 7) 0 400 (μ7.1 t 3) μ7).bind fun r8 =>
  (if r8.1 = true then
  (f_X6_passNumber F a0 (aw_rf t 8) 1 9 (r8.2.1 t 3) r8.2).bind fun r9 =>
  (if r9.1 = true then
  (f_X8_putOn F t 3 (r9.2.1 t 19) r9.2).bind fun r10 =>
  aw_g (aw_in (r10.1 t 19) 100) (aw_let (aw_wI r10 (aw_rf t 16) (r10.1 t 19).toNatClampNeg (r10.1 t 3)) fun μ11 =>
  aw_let (aw_wI μ11 t 3 ((μ11.1 t 3) + 1)) fun μ12 =>
  some (true, μ12))
  else
  some (false, r9.2))
  else
  some (false, r8.2)))
  else
  some (false, r6.2)))
  else
  (f_X6_fail F a0 3 r3.2).bind fun r13 =>
  some (r13.1, r13.2))
  else
  (f_X6_fail F a0 1 r2.2).bind fun r14 =>
  some (r14.1, r14.2))
  else
  (f_X6_fail F a0 4 μ).bind fun r15 =>
  some (r15.1, r15.2))
theorem m_X8_readQuarter (l : Launch) (F : Nat) (t : Nat) (ht : (aw_sh t).1 = 13) (a0 : Nat) (ha0 : (aw_sh a0).1 = 11) (μ : aw_M) : AM l yX8_readQuarter cX8_readQuarter 2 (some .boolean) (4) (187) aw_gz [.ref t, .ref a0] μ (f_X8_readQuarter F t a0 μ) := by
  refine aw_met [some (.ref t), some (.ref a0)] (by decide) (fun _ => rfl) (fun _ => Nat.le_of_ble_eq_true rfl) ?_
  show AW l k_X8_readQuarter aw_gz 0 [some (.ref t), some (.ref a0)] [] μ _
  unfold f_X8_readQuarter
  refine aw_aload_n (n := 1) dX8_readQuarter_0 rfl rfl ?_
  refine aw_getI (n := 4) (RX8, TX8, 20) 8 3 dX8_readQuarter_1 rfl ht (by decide) fd_RX8_65 ?_
  refine aw_bipush (n := 6) 9 dX8_readQuarter_4 rfl (by decide) ?_
  refine aw_icmp_lt (n := 9) 15 dX8_readQuarter_6 (by decide) rfl ?_ ?_
  · refine aw_aload_n (n := 16) dX8_readQuarter_15 rfl rfl ?_
    refine aw_callVv (n := 19) (as := []) (st := []) (RX6, TX6, 13) 6 dX8_readQuarter_16 rfl rfl (m_X6_step l F a0 ha0 μ) ha0 (by decide) rfl rfl cw_RX8_143 ⟨Nat.le_of_ble_eq_true rfl, Nat.le_of_ble_eq_true rfl⟩ (fun _ => Nat.le_of_ble_eq_true rfl) (fun r1 => ?_)
    refine aw_aload_n (n := 20) dX8_readQuarter_19 rfl rfl ?_
    refine aw_callVz (n := 23) (as := []) (st := []) (RX6, TX6, 13) 6 dX8_readQuarter_20 rfl rfl (m_X6_atName l F a0 ha0 r1) ha0 (by decide) rfl rfl cw_RX8_153 ⟨Nat.le_of_ble_eq_true rfl, Nat.le_of_ble_eq_true rfl⟩ (fun _ => Nat.le_of_ble_eq_true rfl) (fun r2 => ?_)
    refine aw_ifb_ne (n := 26) 32 dX8_readQuarter_23 (by decide) rfl ?_ ?_
    · refine aw_aload_n (n := 33) dX8_readQuarter_32 rfl rfl ?_
      refine aw_aload_n (n := 34) dX8_readQuarter_33 rfl rfl ?_
      refine aw_getL (n := 37) (RX6, TX6, 13) 6 8 dX8_readQuarter_34 rfl ha0 (by decide) fd_RX8_157 ?_
      refine aw_callVi (n := 40) (as := [.long (r2.2.2 a0 8)]) (st := []) (RX8, TX8, 20) 8 dX8_readQuarter_37 rfl rfl (m_X8_quarterNamed l F t ht (r2.2.2 a0 8) r2.2) ht (by decide) rfl rfl cw_RX8_161 ⟨Nat.le_of_ble_eq_true rfl, Nat.le_of_ble_eq_true rfl⟩ (fun _ => Nat.le_of_ble_eq_true rfl) (fun r3 => ?_)
      refine aw_iconst (n := 41) (-1) dX8_readQuarter_40 rfl (by decide) ?_
      refine aw_icmp_eq (n := 44) 50 dX8_readQuarter_41 (by decide) rfl ?_ ?_
      · refine aw_aload_n (n := 51) dX8_readQuarter_50 rfl rfl ?_
        refine aw_getR (n := 54) (RX8, TX8, 20) 8 5 dX8_readQuarter_51 rfl ht (by decide) fd_RX8_9 ?_
        refine aw_aload_n (n := 55) dX8_readQuarter_54 rfl rfl ?_
        refine aw_getI (n := 58) (RX8, TX8, 20) 8 3 dX8_readQuarter_55 rfl ht (by decide) fd_RX8_65 ?_
        refine aw_aload_n (n := 59) dX8_readQuarter_58 rfl rfl ?_
        refine aw_getL (n := 62) (RX6, TX6, 13) 6 8 dX8_readQuarter_59 rfl ha0 (by decide) fd_RX8_157 ?_
        refine aw_lastore (n := 63) 9 dX8_readQuarter_62 rfl (sf_8_5 ht) (fun μ4 => ?_)
        refine aw_aload_n (n := 64) dX8_readQuarter_63 rfl rfl ?_
        refine aw_callVv (n := 67) (as := []) (st := []) (RX6, TX6, 13) 6 dX8_readQuarter_64 rfl rfl (m_X6_step l F a0 ha0 μ4) ha0 (by decide) rfl rfl cw_RX8_143 ⟨Nat.le_of_ble_eq_true rfl, Nat.le_of_ble_eq_true rfl⟩ (fun _ => Nat.le_of_ble_eq_true rfl) (fun r5 => ?_)
        refine aw_aload_n (n := 68) dX8_readQuarter_67 rfl rfl ?_
        refine aw_aload_n (n := 69) dX8_readQuarter_68 rfl rfl ?_
        refine aw_iconst (n := 70) 3 dX8_readQuarter_69 rfl (by decide) ?_
        refine aw_callVz (n := 73) (as := [.ref a0, .int 3]) (st := []) (RX8, TX8, 20) 8 dX8_readQuarter_70 rfl rfl (m_X8_readCell l F t ht a0 ha0 3 r5) ht (by decide) rfl rfl cw_RX8_165 ⟨Nat.le_of_ble_eq_true rfl, Nat.le_of_ble_eq_true rfl⟩ (fun _ => Nat.le_of_ble_eq_true rfl) (fun r6 => ?_)
        refine aw_ifb_ne (n := 76) 78 dX8_readQuarter_73 (by decide) rfl ?_ ?_
        · refine aw_aload_n (n := 79) dX8_readQuarter_78 rfl rfl ?_
          refine aw_getR (n := 82) (RX8, TX8, 20) 8 6 dX8_readQuarter_79 rfl ht (by decide) fd_RX8_15 ?_
          refine aw_aload_n (n := 83) dX8_readQuarter_82 rfl rfl ?_
          refine aw_getI (n := 86) (RX8, TX8, 20) 8 3 dX8_readQuarter_83 rfl ht (by decide) fd_RX8_65 ?_
          refine aw_aload_n (n := 87) dX8_readQuarter_86 rfl rfl ?_
          refine aw_getI (n := 90) (RX8, TX8, 20) 8 19 dX8_readQuarter_87 rfl ht (by decide) fd_RX8_168 ?_
          refine aw_iastore (n := 91) 9 dX8_readQuarter_90 rfl (sf_8_6 ht) (fun μ7 => ?_)
          refine aw_aload_n (n := 92) dX8_readQuarter_91 rfl rfl ?_
          refine aw_iconst (n := 93) 0 dX8_readQuarter_92 rfl (by decide) ?_
          refine aw_sipush (n := 96) 400 dX8_readQuarter_93 rfl (by decide) ?_
          refine aw_aload_n (n := 97) dX8_readQuarter_96 rfl rfl ?_
          refine aw_getR (n := 100) (RX8, TX8, 20) 8 7 dX8_readQuarter_97 rfl ht (by decide) fd_RX8_19 ?_
          refine aw_aload_n (n := 101) dX8_readQuarter_100 rfl rfl ?_
          refine aw_getI (n := 104) (RX8, TX8, 20) 8 3 dX8_readQuarter_101 rfl ht (by decide) fd_RX8_65 ?_
          refine aw_callVz (n := 107) (as := [.int 0, .int 400, .ref (aw_rf t 7), .int (μ7.1 t 3)]) (st := []) (RX6, TX6, 13) 6 dX8_readQuarter_104 rfl rfl (m_X6_passNumber l F a0 ha0 (aw_rf t 7) (aw_arr (sf_8_7 ht)) 0 400 (μ7.1 t 3) μ7) ha0 (by decide) rfl rfl cw_RX8_171 ⟨Nat.le_of_ble_eq_true rfl, Nat.le_of_ble_eq_true rfl⟩ (fun _ => Nat.le_of_ble_eq_true rfl) (fun r8 => ?_)
          refine aw_ifb_eq (n := 110) 128 dX8_readQuarter_107 (by decide) rfl ?_ ?_
          · refine aw_iconst (n := 129) 0 dX8_readQuarter_128 rfl (by decide) ?_
            exact aw_zreturn (b := false) dX8_readQuarter_129 rfl rfl
          · refine aw_aload_n (n := 111) dX8_readQuarter_110 rfl rfl ?_
            refine aw_iconst (n := 112) 1 dX8_readQuarter_111 rfl (by decide) ?_
            refine aw_bipush (n := 114) 9 dX8_readQuarter_112 rfl (by decide) ?_
            refine aw_aload_n (n := 115) dX8_readQuarter_114 rfl rfl ?_
            refine aw_getR (n := 118) (RX8, TX8, 20) 8 8 dX8_readQuarter_115 rfl ht (by decide) fd_RX8_22 ?_
            refine aw_aload_n (n := 119) dX8_readQuarter_118 rfl rfl ?_
            refine aw_getI (n := 122) (RX8, TX8, 20) 8 3 dX8_readQuarter_119 rfl ht (by decide) fd_RX8_65 ?_
            refine aw_callVz (n := 125) (as := [.int 1, .int 9, .ref (aw_rf t 8), .int (r8.2.1 t 3)]) (st := []) (RX6, TX6, 13) 6 dX8_readQuarter_122 rfl rfl (m_X6_passNumber l F a0 ha0 (aw_rf t 8) (aw_arr (sf_8_8 ht)) 1 9 (r8.2.1 t 3) r8.2) ha0 (by decide) rfl rfl cw_RX8_171 ⟨Nat.le_of_ble_eq_true rfl, Nat.le_of_ble_eq_true rfl⟩ (fun _ => Nat.le_of_ble_eq_true rfl) (fun r9 => ?_)
            refine aw_ifb_ne (n := 128) 130 dX8_readQuarter_125 (by decide) rfl ?_ ?_
            · refine aw_aload_n (n := 131) dX8_readQuarter_130 rfl rfl ?_
              refine aw_iconst (n := 132) 3 dX8_readQuarter_131 rfl (by decide) ?_
              refine aw_aload_n (n := 133) dX8_readQuarter_132 rfl rfl ?_
              refine aw_getI (n := 136) (RX8, TX8, 20) 8 19 dX8_readQuarter_133 rfl ht (by decide) fd_RX8_168 ?_
              refine aw_callVv (n := 139) (as := [.int 3, .int (r9.2.1 t 19)]) (st := []) (RX8, TX8, 20) 8 dX8_readQuarter_136 rfl rfl (m_X8_putOn l F t ht 3 (r9.2.1 t 19) r9.2) ht (by decide) rfl rfl cw_RX8_175 ⟨Nat.le_of_ble_eq_true rfl, Nat.le_of_ble_eq_true rfl⟩ (fun _ => Nat.le_of_ble_eq_true rfl) (fun r10 => ?_)
              refine aw_aload_n (n := 140) dX8_readQuarter_139 rfl rfl ?_
              refine aw_getR (n := 143) (RX8, TX8, 20) 8 16 dX8_readQuarter_140 rfl ht (by decide) fd_RX8_46 ?_
              refine aw_aload_n (n := 144) dX8_readQuarter_143 rfl rfl ?_
              refine aw_getI (n := 147) (RX8, TX8, 20) 8 19 dX8_readQuarter_144 rfl ht (by decide) fd_RX8_168 ?_
              refine aw_aload_n (n := 148) dX8_readQuarter_147 rfl rfl ?_
              refine aw_getI (n := 151) (RX8, TX8, 20) 8 3 dX8_readQuarter_148 rfl ht (by decide) fd_RX8_65 ?_
              refine aw_iastore (n := 152) 100 dX8_readQuarter_151 rfl (sf_8_16 ht) (fun μ11 => ?_)
              refine aw_aload_n (n := 153) dX8_readQuarter_152 rfl rfl ?_
              refine aw_dup (n := 154) dX8_readQuarter_153 rfl (fun _ => rfl) ?_
              refine aw_getI (n := 157) (RX8, TX8, 20) 8 3 dX8_readQuarter_154 rfl ht (by decide) fd_RX8_65 ?_
              refine aw_iconst (n := 158) 1 dX8_readQuarter_157 rfl (by decide) ?_
              refine aw_iadd (n := 159) dX8_readQuarter_158 rfl ?_
              refine aw_putI (n := 162) (RX8, TX8, 20) 8 3 dX8_readQuarter_159 rfl ht (by decide) fp_RX8_65 (fun μ12 => ?_)
              refine aw_iconst (n := 163) 1 dX8_readQuarter_162 rfl (by decide) ?_
              exact aw_zreturn (b := true) dX8_readQuarter_163 rfl rfl
            · refine aw_iconst (n := 129) 0 dX8_readQuarter_128 rfl (by decide) ?_
              exact aw_zreturn (b := false) dX8_readQuarter_129 rfl rfl
        · refine aw_iconst (n := 77) 0 dX8_readQuarter_76 rfl (by decide) ?_
          exact aw_zreturn (b := false) dX8_readQuarter_77 rfl rfl
      · refine aw_aload_n (n := 45) dX8_readQuarter_44 rfl rfl ?_
        refine aw_iconst (n := 46) 3 dX8_readQuarter_45 rfl (by decide) ?_
        refine aw_callVz (n := 49) (as := [.int 3]) (st := []) (RX6, TX6, 13) 6 dX8_readQuarter_46 rfl rfl (m_X6_fail l F a0 ha0 3 r3.2) ha0 (by decide) rfl rfl cw_RX8_118 ⟨Nat.le_of_ble_eq_true rfl, Nat.le_of_ble_eq_true rfl⟩ (fun _ => Nat.le_of_ble_eq_true rfl) (fun r13 => ?_)
        exact aw_zreturn (b := r13.1) dX8_readQuarter_49 rfl rfl
    · refine aw_aload_n (n := 27) dX8_readQuarter_26 rfl rfl ?_
      refine aw_iconst (n := 28) 1 dX8_readQuarter_27 rfl (by decide) ?_
      refine aw_callVz (n := 31) (as := [.int 1]) (st := []) (RX6, TX6, 13) 6 dX8_readQuarter_28 rfl rfl (m_X6_fail l F a0 ha0 1 r2.2) ha0 (by decide) rfl rfl cw_RX8_118 ⟨Nat.le_of_ble_eq_true rfl, Nat.le_of_ble_eq_true rfl⟩ (fun _ => Nat.le_of_ble_eq_true rfl) (fun r14 => ?_)
      exact aw_zreturn (b := r14.1) dX8_readQuarter_31 rfl rfl
  · refine aw_aload_n (n := 10) dX8_readQuarter_9 rfl rfl ?_
    refine aw_iconst (n := 11) 4 dX8_readQuarter_10 rfl (by decide) ?_
    refine aw_callVz (n := 14) (as := [.int 4]) (st := []) (RX6, TX6, 13) 6 dX8_readQuarter_11 rfl rfl (m_X6_fail l F a0 ha0 4 μ) ha0 (by decide) rfl rfl cw_RX8_118 ⟨Nat.le_of_ble_eq_true rfl, Nat.le_of_ble_eq_true rfl⟩ (fun _ => Nat.le_of_ble_eq_true rfl) (fun r15 => ?_)
    exact aw_zreturn (b := r15.1) dX8_readQuarter_14 rfl rfl
abbrev k_X8_readSpot : aw_K := (RX8, cX8_readSpot, 3, (some .boolean), 4, 186)
def f_X8_readSpot_41 (F : Nat) (t a0 : Nat) (μ : aw_M) : Option (Bool × aw_M) :=
  (f_X6_fail F a0 3 μ).bind fun r12 =>
  some (r12.1, r12.2)
theorem c_X8_readSpot_41 (l : Launch) (F : Nat) (t : Nat) (ht : (aw_sh t).1 = 13) (a0 : Nat) (ha0 : (aw_sh a0).1 = 11) (μ : aw_M) : AW l k_X8_readSpot aw_gz 41 [none, some (.ref a0), none] [] μ (f_X8_readSpot_41 F t a0 μ) := by
  unfold f_X8_readSpot_41
  refine aw_aload_n (n := 42) dX8_readSpot_41 rfl rfl ?_
  refine aw_iconst (n := 43) 3 dX8_readSpot_42 rfl (by decide) ?_
  refine aw_callVz (n := 46) (as := [.int 3]) (st := []) (RX6, TX6, 13) 6 dX8_readSpot_43 rfl rfl (m_X6_fail l F a0 ha0 3 μ) ha0 (by decide) rfl rfl cw_RX8_118 ⟨Nat.le_of_ble_eq_true rfl, Nat.le_of_ble_eq_true rfl⟩ (fun _ => Nat.le_of_ble_eq_true rfl) (fun r12 => ?_)
  exact aw_zreturn (b := r12.1) dX8_readSpot_46 rfl rfl
def f_X8_readSpot (F : Nat) (t a0 : Nat) (μ : aw_M) : Option (Bool × aw_M) :=
  (f_X6_step F a0 μ).bind fun r9 =>
  (f_X6_atName F a0 r9).bind fun r10 =>
  (if r10.1 = true then
  (f_X8_quarterNamed F t (r10.2.2 a0 8) r10.2).bind fun r11 =>
  (if r11.1 = (-1) then
  f_X8_readSpot_41 F t a0 r11.2
  else
  aw_g (aw_in r11.1 9) ((if (r11.2.1 (aw_rf t 9) r11.1.toNatClampNeg) = (-1) then
  (f_X6_step F a0 r11.2).bind fun r13 =>
  (f_X8_readCell F t a0 (-1) r13).bind fun r14 =>
  (if r14.1 = true then
  aw_g (aw_in r11.1 9) (aw_let (aw_wI r14.2 (aw_rf t 9) r11.1.toNatClampNeg (r14.2.1 t 19)) fun μ15 =>
  some (true, μ15))
  else
  some (false, r14.2))
  else
  f_X8_readSpot_41 F t a0 r11.2)))
  else
  (f_X6_fail F a0 1 r10.2).bind fun r16 =>
  some (r16.1, r16.2))
theorem m_X8_readSpot (l : Launch) (F : Nat) (t : Nat) (ht : (aw_sh t).1 = 13) (a0 : Nat) (ha0 : (aw_sh a0).1 = 11) (μ : aw_M) : AM l yX8_readSpot cX8_readSpot 3 (some .boolean) (4) (186) aw_gz [.ref t, .ref a0] μ (f_X8_readSpot F t a0 μ) := by
  refine aw_met [some (.ref t), some (.ref a0), none] (by decide) (fun _ => rfl) (fun _ => Nat.le_of_ble_eq_true rfl) ?_
  show AW l k_X8_readSpot aw_gz 0 [some (.ref t), some (.ref a0), none] [] μ _
  unfold f_X8_readSpot
  refine aw_aload_n (n := 1) dX8_readSpot_0 rfl rfl ?_
  refine aw_callVv (n := 4) (as := []) (st := []) (RX6, TX6, 13) 6 dX8_readSpot_1 rfl rfl (m_X6_step l F a0 ha0 μ) ha0 (by decide) rfl rfl cw_RX8_143 ⟨Nat.le_of_ble_eq_true rfl, Nat.le_of_ble_eq_true rfl⟩ (fun _ => Nat.le_of_ble_eq_true rfl) (fun r9 => ?_)
  refine aw_aload_n (n := 5) dX8_readSpot_4 rfl rfl ?_
  refine aw_callVz (n := 8) (as := []) (st := []) (RX6, TX6, 13) 6 dX8_readSpot_5 rfl rfl (m_X6_atName l F a0 ha0 r9) ha0 (by decide) rfl rfl cw_RX8_153 ⟨Nat.le_of_ble_eq_true rfl, Nat.le_of_ble_eq_true rfl⟩ (fun _ => Nat.le_of_ble_eq_true rfl) (fun r10 => ?_)
  refine aw_ifb_ne (n := 11) 17 dX8_readSpot_8 (by decide) rfl ?_ ?_
  · refine aw_aload_n (n := 18) dX8_readSpot_17 rfl rfl ?_
    refine aw_aload_n (n := 19) dX8_readSpot_18 rfl rfl ?_
    refine aw_getL (n := 22) (RX6, TX6, 13) 6 8 dX8_readSpot_19 rfl ha0 (by decide) fd_RX8_157 ?_
    refine aw_callVi (n := 25) (as := [.long (r10.2.2 a0 8)]) (st := []) (RX8, TX8, 20) 8 dX8_readSpot_22 rfl rfl (m_X8_quarterNamed l F t ht (r10.2.2 a0 8) r10.2) ht (by decide) rfl rfl cw_RX8_161 ⟨Nat.le_of_ble_eq_true rfl, Nat.le_of_ble_eq_true rfl⟩ (fun _ => Nat.le_of_ble_eq_true rfl) (fun r11 => ?_)
    refine aw_istore_n (n := 26) [some (.ref t), some (.ref a0), some (.int r11.1)] dX8_readSpot_25 rfl rfl (Nat.le_of_ble_eq_true rfl) (Nat.le_of_ble_eq_true rfl) rfl ?_
    refine aw_iload_n (n := 27) dX8_readSpot_26 rfl rfl ?_
    refine aw_iconst (n := 28) (-1) dX8_readSpot_27 rfl (by decide) ?_
    refine aw_icmp_eq (n := 31) 41 dX8_readSpot_28 (by decide) rfl ?_ ?_
    · exact aw_weak (c_X8_readSpot_41 l F t ht a0 ha0 r11.2) (aw_sn (aw_ss (aw_sn aw_s0)))
    · refine aw_aload_n (n := 32) dX8_readSpot_31 rfl rfl ?_
      refine aw_getR (n := 35) (RX8, TX8, 20) 8 9 dX8_readSpot_32 rfl ht (by decide) fd_RX8_25 ?_
      refine aw_iload_n (n := 36) dX8_readSpot_35 rfl rfl ?_
      refine aw_iaload (n := 37) 9 dX8_readSpot_36 rfl (sf_8_9 ht) ?_
      refine aw_iconst (n := 38) (-1) dX8_readSpot_37 rfl (by decide) ?_
      refine aw_icmp_eq (n := 41) 47 dX8_readSpot_38 (by decide) rfl ?_ ?_
      · refine aw_aload_n (n := 48) dX8_readSpot_47 rfl rfl ?_
        refine aw_callVv (n := 51) (as := []) (st := []) (RX6, TX6, 13) 6 dX8_readSpot_48 rfl rfl (m_X6_step l F a0 ha0 r11.2) ha0 (by decide) rfl rfl cw_RX8_143 ⟨Nat.le_of_ble_eq_true rfl, Nat.le_of_ble_eq_true rfl⟩ (fun _ => Nat.le_of_ble_eq_true rfl) (fun r13 => ?_)
        refine aw_aload_n (n := 52) dX8_readSpot_51 rfl rfl ?_
        refine aw_aload_n (n := 53) dX8_readSpot_52 rfl rfl ?_
        refine aw_iconst (n := 54) (-1) dX8_readSpot_53 rfl (by decide) ?_
        refine aw_callVz (n := 57) (as := [.ref a0, .int (-1)]) (st := []) (RX8, TX8, 20) 8 dX8_readSpot_54 rfl rfl (m_X8_readCell l F t ht a0 ha0 (-1) r13) ht (by decide) rfl rfl cw_RX8_165 ⟨Nat.le_of_ble_eq_true rfl, Nat.le_of_ble_eq_true rfl⟩ (fun _ => Nat.le_of_ble_eq_true rfl) (fun r14 => ?_)
        refine aw_ifb_ne (n := 60) 62 dX8_readSpot_57 (by decide) rfl ?_ ?_
        · refine aw_aload_n (n := 63) dX8_readSpot_62 rfl rfl ?_
          refine aw_getR (n := 66) (RX8, TX8, 20) 8 9 dX8_readSpot_63 rfl ht (by decide) fd_RX8_25 ?_
          refine aw_iload_n (n := 67) dX8_readSpot_66 rfl rfl ?_
          refine aw_aload_n (n := 68) dX8_readSpot_67 rfl rfl ?_
          refine aw_getI (n := 71) (RX8, TX8, 20) 8 19 dX8_readSpot_68 rfl ht (by decide) fd_RX8_168 ?_
          refine aw_iastore (n := 72) 9 dX8_readSpot_71 rfl (sf_8_9 ht) (fun μ15 => ?_)
          refine aw_iconst (n := 73) 1 dX8_readSpot_72 rfl (by decide) ?_
          exact aw_zreturn (b := true) dX8_readSpot_73 rfl rfl
        · refine aw_iconst (n := 61) 0 dX8_readSpot_60 rfl (by decide) ?_
          exact aw_zreturn (b := false) dX8_readSpot_61 rfl rfl
      · exact aw_weak (c_X8_readSpot_41 l F t ht a0 ha0 r11.2) (aw_sn (aw_ss (aw_sn aw_s0)))
  · refine aw_aload_n (n := 12) dX8_readSpot_11 rfl rfl ?_
    refine aw_iconst (n := 13) 1 dX8_readSpot_12 rfl (by decide) ?_
    refine aw_callVz (n := 16) (as := [.int 1]) (st := []) (RX6, TX6, 13) 6 dX8_readSpot_13 rfl rfl (m_X6_fail l F a0 ha0 1 r10.2) ha0 (by decide) rfl rfl cw_RX8_118 ⟨Nat.le_of_ble_eq_true rfl, Nat.le_of_ble_eq_true rfl⟩ (fun _ => Nat.le_of_ble_eq_true rfl) (fun r16 => ?_)
    exact aw_zreturn (b := r16.1) dX8_readSpot_16 rfl rfl
abbrev k_X8_readSquare : aw_K := (RX8, cX8_readSquare, 2, (some .boolean), 3, 163)
def f_X8_readSquare (F : Nat) (t a0 : Nat) (μ : aw_M) : Option (Bool × aw_M) :=
  (if (μ.1 t 1) ≤ 0 then
  (f_X6_step F a0 μ).bind fun r1 =>
  (f_X6_seeNumber F a0 2 10 r1).bind fun r2 =>
  (if r2.1 = true then
  aw_let (aw_wI r2.2 t 1 (r2.2.1 a0 7)) fun μ3 =>
  (f_X6_step F a0 μ3).bind fun r4 =>
  (f_X6_seeNumber F a0 2 10 r4).bind fun r5 =>
  (if r5.1 = true then
  aw_let (aw_wI r5.2 t 2 (r5.2.1 a0 7)) fun μ6 =>
  (f_X6_step F a0 μ6).bind fun r7 =>
  some (true, r7)
  else
  some (false, r5.2))
  else
  some (false, r2.2))
  else
  (f_X6_fail F a0 3 μ).bind fun r8 =>
  some (r8.1, r8.2))
theorem m_X8_readSquare (l : Launch) (F : Nat) (t : Nat) (ht : (aw_sh t).1 = 13) (a0 : Nat) (ha0 : (aw_sh a0).1 = 11) (μ : aw_M) : AM l yX8_readSquare cX8_readSquare 2 (some .boolean) (3) (163) aw_gz [.ref t, .ref a0] μ (f_X8_readSquare F t a0 μ) := by
  refine aw_met [some (.ref t), some (.ref a0)] (by decide) (fun _ => rfl) (fun _ => Nat.le_of_ble_eq_true rfl) ?_
  show AW l k_X8_readSquare aw_gz 0 [some (.ref t), some (.ref a0)] [] μ _
  unfold f_X8_readSquare
  refine aw_aload_n (n := 1) dX8_readSquare_0 rfl rfl ?_
  refine aw_getI (n := 4) (RX8, TX8, 20) 8 1 dX8_readSquare_1 rfl ht (by decide) fd_RX8_59 ?_
  refine aw_if_le (n := 7) 13 dX8_readSquare_4 (by decide) rfl ?_ ?_
  · refine aw_aload_n (n := 14) dX8_readSquare_13 rfl rfl ?_
    refine aw_callVv (n := 17) (as := []) (st := []) (RX6, TX6, 13) 6 dX8_readSquare_14 rfl rfl (m_X6_step l F a0 ha0 μ) ha0 (by decide) rfl rfl cw_RX8_143 ⟨Nat.le_of_ble_eq_true rfl, Nat.le_of_ble_eq_true rfl⟩ (fun _ => Nat.le_of_ble_eq_true rfl) (fun r1 => ?_)
    refine aw_aload_n (n := 18) dX8_readSquare_17 rfl rfl ?_
    refine aw_iconst (n := 19) 2 dX8_readSquare_18 rfl (by decide) ?_
    refine aw_bipush (n := 21) 10 dX8_readSquare_19 rfl (by decide) ?_
    refine aw_callVz (n := 24) (as := [.int 2, .int 10]) (st := []) (RX6, TX6, 13) 6 dX8_readSquare_21 rfl rfl (m_X6_seeNumber l F a0 ha0 2 10 r1) ha0 (by decide) rfl rfl cw_RX8_146 ⟨Nat.le_of_ble_eq_true rfl, Nat.le_of_ble_eq_true rfl⟩ (fun _ => Nat.le_of_ble_eq_true rfl) (fun r2 => ?_)
    refine aw_ifb_ne (n := 27) 29 dX8_readSquare_24 (by decide) rfl ?_ ?_
    · refine aw_aload_n (n := 30) dX8_readSquare_29 rfl rfl ?_
      refine aw_aload_n (n := 31) dX8_readSquare_30 rfl rfl ?_
      refine aw_getI (n := 34) (RX6, TX6, 13) 6 7 dX8_readSquare_31 rfl ha0 (by decide) fd_RX8_150 ?_
      refine aw_putI (n := 37) (RX8, TX8, 20) 8 1 dX8_readSquare_34 rfl ht (by decide) fp_RX8_59 (fun μ3 => ?_)
      refine aw_aload_n (n := 38) dX8_readSquare_37 rfl rfl ?_
      refine aw_callVv (n := 41) (as := []) (st := []) (RX6, TX6, 13) 6 dX8_readSquare_38 rfl rfl (m_X6_step l F a0 ha0 μ3) ha0 (by decide) rfl rfl cw_RX8_143 ⟨Nat.le_of_ble_eq_true rfl, Nat.le_of_ble_eq_true rfl⟩ (fun _ => Nat.le_of_ble_eq_true rfl) (fun r4 => ?_)
      refine aw_aload_n (n := 42) dX8_readSquare_41 rfl rfl ?_
      refine aw_iconst (n := 43) 2 dX8_readSquare_42 rfl (by decide) ?_
      refine aw_bipush (n := 45) 10 dX8_readSquare_43 rfl (by decide) ?_
      refine aw_callVz (n := 48) (as := [.int 2, .int 10]) (st := []) (RX6, TX6, 13) 6 dX8_readSquare_45 rfl rfl (m_X6_seeNumber l F a0 ha0 2 10 r4) ha0 (by decide) rfl rfl cw_RX8_146 ⟨Nat.le_of_ble_eq_true rfl, Nat.le_of_ble_eq_true rfl⟩ (fun _ => Nat.le_of_ble_eq_true rfl) (fun r5 => ?_)
      refine aw_ifb_ne (n := 51) 53 dX8_readSquare_48 (by decide) rfl ?_ ?_
      · refine aw_aload_n (n := 54) dX8_readSquare_53 rfl rfl ?_
        refine aw_aload_n (n := 55) dX8_readSquare_54 rfl rfl ?_
        refine aw_getI (n := 58) (RX6, TX6, 13) 6 7 dX8_readSquare_55 rfl ha0 (by decide) fd_RX8_150 ?_
        refine aw_putI (n := 61) (RX8, TX8, 20) 8 2 dX8_readSquare_58 rfl ht (by decide) fp_RX8_62 (fun μ6 => ?_)
        refine aw_aload_n (n := 62) dX8_readSquare_61 rfl rfl ?_
        refine aw_callVv (n := 65) (as := []) (st := []) (RX6, TX6, 13) 6 dX8_readSquare_62 rfl rfl (m_X6_step l F a0 ha0 μ6) ha0 (by decide) rfl rfl cw_RX8_143 ⟨Nat.le_of_ble_eq_true rfl, Nat.le_of_ble_eq_true rfl⟩ (fun _ => Nat.le_of_ble_eq_true rfl) (fun r7 => ?_)
        refine aw_iconst (n := 66) 1 dX8_readSquare_65 rfl (by decide) ?_
        exact aw_zreturn (b := true) dX8_readSquare_66 rfl rfl
      · refine aw_iconst (n := 52) 0 dX8_readSquare_51 rfl (by decide) ?_
        exact aw_zreturn (b := false) dX8_readSquare_52 rfl rfl
    · refine aw_iconst (n := 28) 0 dX8_readSquare_27 rfl (by decide) ?_
      exact aw_zreturn (b := false) dX8_readSquare_28 rfl rfl
  · refine aw_aload_n (n := 8) dX8_readSquare_7 rfl rfl ?_
    refine aw_iconst (n := 9) 3 dX8_readSquare_8 rfl (by decide) ?_
    refine aw_callVz (n := 12) (as := [.int 3]) (st := []) (RX6, TX6, 13) 6 dX8_readSquare_9 rfl rfl (m_X6_fail l F a0 ha0 3 μ) ha0 (by decide) rfl rfl cw_RX8_118 ⟨Nat.le_of_ble_eq_true rfl, Nat.le_of_ble_eq_true rfl⟩ (fun _ => Nat.le_of_ble_eq_true rfl) (fun r8 => ?_)
    exact aw_zreturn (b := r8.1) dX8_readSquare_12 rfl rfl
abbrev k_X8_readThing : aw_K := (RX8, cX8_readThing, 3, (some .boolean), 4, 186)
def f_X8_readThing (F : Nat) (t a0 : Nat) (a1 : Int32) (μ : aw_M) : Option (Bool × aw_M) :=
  aw_g (aw_in a1 4) ((if (μ.1 (aw_rf t 14) a1.toNatClampNeg) < 12 then
  (f_X6_step F a0 μ).bind fun r1 =>
  (f_X8_readCell F t a0 a1 r1).bind fun r2 =>
  (if r2.1 = true then
  (f_X8_putOn F t a1 (r2.2.1 t 19) r2.2).bind fun r3 =>
  some (true, r3)
  else
  some (false, r2.2))
  else
  (f_X6_fail F a0 4 μ).bind fun r4 =>
  some (r4.1, r4.2)))
theorem m_X8_readThing (l : Launch) (F : Nat) (t : Nat) (ht : (aw_sh t).1 = 13) (a0 : Nat) (ha0 : (aw_sh a0).1 = 11) (a1 : Int32) (μ : aw_M) : AM l yX8_readThing cX8_readThing 3 (some .boolean) (4) (186) aw_gz [.ref t, .ref a0, .int a1] μ (f_X8_readThing F t a0 a1 μ) := by
  refine aw_met [some (.ref t), some (.ref a0), some (.int a1)] (by decide) (fun _ => rfl) (fun _ => Nat.le_of_ble_eq_true rfl) ?_
  show AW l k_X8_readThing aw_gz 0 [some (.ref t), some (.ref a0), some (.int a1)] [] μ _
  unfold f_X8_readThing
  refine aw_aload_n (n := 1) dX8_readThing_0 rfl rfl ?_
  refine aw_getR (n := 4) (RX8, TX8, 20) 8 14 dX8_readThing_1 rfl ht (by decide) fd_RX8_40 ?_
  refine aw_iload_n (n := 5) dX8_readThing_4 rfl rfl ?_
  refine aw_iaload (n := 6) 4 dX8_readThing_5 rfl (sf_8_14 ht) ?_
  refine aw_bipush (n := 8) 12 dX8_readThing_6 rfl (by decide) ?_
  refine aw_icmp_lt (n := 11) 17 dX8_readThing_8 (by decide) rfl ?_ ?_
  · refine aw_aload_n (n := 18) dX8_readThing_17 rfl rfl ?_
    refine aw_callVv (n := 21) (as := []) (st := []) (RX6, TX6, 13) 6 dX8_readThing_18 rfl rfl (m_X6_step l F a0 ha0 μ) ha0 (by decide) rfl rfl cw_RX8_143 ⟨Nat.le_of_ble_eq_true rfl, Nat.le_of_ble_eq_true rfl⟩ (fun _ => Nat.le_of_ble_eq_true rfl) (fun r1 => ?_)
    refine aw_aload_n (n := 22) dX8_readThing_21 rfl rfl ?_
    refine aw_aload_n (n := 23) dX8_readThing_22 rfl rfl ?_
    refine aw_iload_n (n := 24) dX8_readThing_23 rfl rfl ?_
    refine aw_callVz (n := 27) (as := [.ref a0, .int a1]) (st := []) (RX8, TX8, 20) 8 dX8_readThing_24 rfl rfl (m_X8_readCell l F t ht a0 ha0 a1 r1) ht (by decide) rfl rfl cw_RX8_165 ⟨Nat.le_of_ble_eq_true rfl, Nat.le_of_ble_eq_true rfl⟩ (fun _ => Nat.le_of_ble_eq_true rfl) (fun r2 => ?_)
    refine aw_ifb_ne (n := 30) 32 dX8_readThing_27 (by decide) rfl ?_ ?_
    · refine aw_aload_n (n := 33) dX8_readThing_32 rfl rfl ?_
      refine aw_iload_n (n := 34) dX8_readThing_33 rfl rfl ?_
      refine aw_aload_n (n := 35) dX8_readThing_34 rfl rfl ?_
      refine aw_getI (n := 38) (RX8, TX8, 20) 8 19 dX8_readThing_35 rfl ht (by decide) fd_RX8_168 ?_
      refine aw_callVv (n := 41) (as := [.int a1, .int (r2.2.1 t 19)]) (st := []) (RX8, TX8, 20) 8 dX8_readThing_38 rfl rfl (m_X8_putOn l F t ht a1 (r2.2.1 t 19) r2.2) ht (by decide) rfl rfl cw_RX8_175 ⟨Nat.le_of_ble_eq_true rfl, Nat.le_of_ble_eq_true rfl⟩ (fun _ => Nat.le_of_ble_eq_true rfl) (fun r3 => ?_)
      refine aw_iconst (n := 42) 1 dX8_readThing_41 rfl (by decide) ?_
      exact aw_zreturn (b := true) dX8_readThing_42 rfl rfl
    · refine aw_iconst (n := 31) 0 dX8_readThing_30 rfl (by decide) ?_
      exact aw_zreturn (b := false) dX8_readThing_31 rfl rfl
  · refine aw_aload_n (n := 12) dX8_readThing_11 rfl rfl ?_
    refine aw_iconst (n := 13) 4 dX8_readThing_12 rfl (by decide) ?_
    refine aw_callVz (n := 16) (as := [.int 4]) (st := []) (RX6, TX6, 13) 6 dX8_readThing_13 rfl rfl (m_X6_fail l F a0 ha0 4 μ) ha0 (by decide) rfl rfl cw_RX8_118 ⟨Nat.le_of_ble_eq_true rfl, Nat.le_of_ble_eq_true rfl⟩ (fun _ => Nat.le_of_ble_eq_true rfl) (fun r4 => ?_)
    exact aw_zreturn (b := r4.1) dX8_readThing_16 rfl rfl
abbrev k_X8_readLine : aw_K := (RX8, cX8_readLine, 2, (some .boolean), 5, 209)
def f_X8_readLine (F : Nat) (t a0 : Nat) (μ : aw_M) : Option (Bool × aw_M) :=
  (if (μ.1 a0 6) = 1 then
  (aw_sel (((μ.1 a0 9) : Int32).toInt - 0) [((f_X8_readSquare F t a0 μ).bind fun r1 =>
  some (r1.1, r1.2)), ((f_X8_readQuarter F t a0 μ).bind fun r2 =>
  some (r2.1, r2.2)), ((f_X8_readCart F t a0 μ).bind fun r3 =>
  some (r3.1, r3.2)), ((f_X8_readThing F t a0 0 μ).bind fun r4 =>
  some (r4.1, r4.2)), ((f_X8_readThing F t a0 1 μ).bind fun r5 =>
  some (r5.1, r5.2)), ((f_X8_readThing F t a0 2 μ).bind fun r6 =>
  some (r6.1, r6.2)), ((f_X8_readSpot F t a0 μ).bind fun r7 =>
  some (r7.1, r7.2)), ((f_X8_readLaw F t a0 μ).bind fun r8 =>
  some (r8.1, r8.2))] ((f_X6_fail F a0 1 μ).bind fun r9 =>
  some (r9.1, r9.2)))
  else
  (f_X6_fail F a0 1 μ).bind fun r10 =>
  some (r10.1, r10.2))
theorem m_X8_readLine (l : Launch) (F : Nat) (t : Nat) (ht : (aw_sh t).1 = 13) (a0 : Nat) (ha0 : (aw_sh a0).1 = 11) (μ : aw_M) : AM l yX8_readLine cX8_readLine 2 (some .boolean) (5) (209) aw_gz [.ref t, .ref a0] μ (f_X8_readLine F t a0 μ) := by
  refine aw_met [some (.ref t), some (.ref a0)] (by decide) (fun _ => rfl) (fun _ => Nat.le_of_ble_eq_true rfl) ?_
  show AW l k_X8_readLine aw_gz 0 [some (.ref t), some (.ref a0)] [] μ _
  unfold f_X8_readLine
  refine aw_aload_n (n := 1) dX8_readLine_0 rfl rfl ?_
  refine aw_getI (n := 4) (RX6, TX6, 13) 6 6 dX8_readLine_1 rfl ha0 (by decide) fd_RX8_107 ?_
  refine aw_iconst (n := 5) 1 dX8_readLine_4 rfl (by decide) ?_
  refine aw_icmp_eq (n := 8) 14 dX8_readLine_5 (by decide) rfl ?_ ?_
  · refine aw_aload_n (n := 15) dX8_readLine_14 rfl rfl ?_
    refine aw_getI (n := 18) (RX6, TX6, 13) 6 9 dX8_readLine_15 rfl ha0 (by decide) fd_RX8_121 ?_
    refine aw_tsw [64, 70, 76, 82, 89, 96, 103, 109] 115 dX8_readLine_18 (by decide) (by decide) (by decide) ⟨?_, ?_, ?_, ?_, ?_, ?_, ?_, ?_, trivial⟩ ?_
    · refine aw_aload_n (n := 65) dX8_readLine_64 rfl rfl ?_
      refine aw_aload_n (n := 66) dX8_readLine_65 rfl rfl ?_
      refine aw_callVz (n := 69) (as := [.ref a0]) (st := []) (RX8, TX8, 20) 8 dX8_readLine_66 rfl rfl (m_X8_readSquare l F t ht a0 ha0 μ) ht (by decide) rfl rfl cw_RX8_124 ⟨Nat.le_of_ble_eq_true rfl, Nat.le_of_ble_eq_true rfl⟩ (fun _ => Nat.le_of_ble_eq_true rfl) (fun r1 => ?_)
      exact aw_zreturn (b := r1.1) dX8_readLine_69 rfl rfl
    · refine aw_aload_n (n := 71) dX8_readLine_70 rfl rfl ?_
      refine aw_aload_n (n := 72) dX8_readLine_71 rfl rfl ?_
      refine aw_callVz (n := 75) (as := [.ref a0]) (st := []) (RX8, TX8, 20) 8 dX8_readLine_72 rfl rfl (m_X8_readQuarter l F t ht a0 ha0 μ) ht (by decide) rfl rfl cw_RX8_127 ⟨Nat.le_of_ble_eq_true rfl, Nat.le_of_ble_eq_true rfl⟩ (fun _ => Nat.le_of_ble_eq_true rfl) (fun r2 => ?_)
      exact aw_zreturn (b := r2.1) dX8_readLine_75 rfl rfl
    · refine aw_aload_n (n := 77) dX8_readLine_76 rfl rfl ?_
      refine aw_aload_n (n := 78) dX8_readLine_77 rfl rfl ?_
      refine aw_callVz (n := 81) (as := [.ref a0]) (st := []) (RX8, TX8, 20) 8 dX8_readLine_78 rfl rfl (m_X8_readCart l F t ht a0 ha0 μ) ht (by decide) rfl rfl cw_RX8_130 ⟨Nat.le_of_ble_eq_true rfl, Nat.le_of_ble_eq_true rfl⟩ (fun _ => Nat.le_of_ble_eq_true rfl) (fun r3 => ?_)
      exact aw_zreturn (b := r3.1) dX8_readLine_81 rfl rfl
    · refine aw_aload_n (n := 83) dX8_readLine_82 rfl rfl ?_
      refine aw_aload_n (n := 84) dX8_readLine_83 rfl rfl ?_
      refine aw_iconst (n := 85) 0 dX8_readLine_84 rfl (by decide) ?_
      refine aw_callVz (n := 88) (as := [.ref a0, .int 0]) (st := []) (RX8, TX8, 20) 8 dX8_readLine_85 rfl rfl (m_X8_readThing l F t ht a0 ha0 0 μ) ht (by decide) rfl rfl cw_RX8_133 ⟨Nat.le_of_ble_eq_true rfl, Nat.le_of_ble_eq_true rfl⟩ (fun _ => Nat.le_of_ble_eq_true rfl) (fun r4 => ?_)
      exact aw_zreturn (b := r4.1) dX8_readLine_88 rfl rfl
    · refine aw_aload_n (n := 90) dX8_readLine_89 rfl rfl ?_
      refine aw_aload_n (n := 91) dX8_readLine_90 rfl rfl ?_
      refine aw_iconst (n := 92) 1 dX8_readLine_91 rfl (by decide) ?_
      refine aw_callVz (n := 95) (as := [.ref a0, .int 1]) (st := []) (RX8, TX8, 20) 8 dX8_readLine_92 rfl rfl (m_X8_readThing l F t ht a0 ha0 1 μ) ht (by decide) rfl rfl cw_RX8_133 ⟨Nat.le_of_ble_eq_true rfl, Nat.le_of_ble_eq_true rfl⟩ (fun _ => Nat.le_of_ble_eq_true rfl) (fun r5 => ?_)
      exact aw_zreturn (b := r5.1) dX8_readLine_95 rfl rfl
    · refine aw_aload_n (n := 97) dX8_readLine_96 rfl rfl ?_
      refine aw_aload_n (n := 98) dX8_readLine_97 rfl rfl ?_
      refine aw_iconst (n := 99) 2 dX8_readLine_98 rfl (by decide) ?_
      refine aw_callVz (n := 102) (as := [.ref a0, .int 2]) (st := []) (RX8, TX8, 20) 8 dX8_readLine_99 rfl rfl (m_X8_readThing l F t ht a0 ha0 2 μ) ht (by decide) rfl rfl cw_RX8_133 ⟨Nat.le_of_ble_eq_true rfl, Nat.le_of_ble_eq_true rfl⟩ (fun _ => Nat.le_of_ble_eq_true rfl) (fun r6 => ?_)
      exact aw_zreturn (b := r6.1) dX8_readLine_102 rfl rfl
    · refine aw_aload_n (n := 104) dX8_readLine_103 rfl rfl ?_
      refine aw_aload_n (n := 105) dX8_readLine_104 rfl rfl ?_
      refine aw_callVz (n := 108) (as := [.ref a0]) (st := []) (RX8, TX8, 20) 8 dX8_readLine_105 rfl rfl (m_X8_readSpot l F t ht a0 ha0 μ) ht (by decide) rfl rfl cw_RX8_137 ⟨Nat.le_of_ble_eq_true rfl, Nat.le_of_ble_eq_true rfl⟩ (fun _ => Nat.le_of_ble_eq_true rfl) (fun r7 => ?_)
      exact aw_zreturn (b := r7.1) dX8_readLine_108 rfl rfl
    · refine aw_aload_n (n := 110) dX8_readLine_109 rfl rfl ?_
      refine aw_aload_n (n := 111) dX8_readLine_110 rfl rfl ?_
      refine aw_callVz (n := 114) (as := [.ref a0]) (st := []) (RX8, TX8, 20) 8 dX8_readLine_111 rfl rfl (m_X8_readLaw l F t ht a0 ha0 μ) ht (by decide) rfl rfl cw_RX8_140 ⟨Nat.le_of_ble_eq_true rfl, Nat.le_of_ble_eq_true rfl⟩ (fun _ => Nat.le_of_ble_eq_true rfl) (fun r8 => ?_)
      exact aw_zreturn (b := r8.1) dX8_readLine_114 rfl rfl
    · refine aw_aload_n (n := 116) dX8_readLine_115 rfl rfl ?_
      refine aw_iconst (n := 117) 1 dX8_readLine_116 rfl (by decide) ?_
      refine aw_callVz (n := 120) (as := [.int 1]) (st := []) (RX6, TX6, 13) 6 dX8_readLine_117 rfl rfl (m_X6_fail l F a0 ha0 1 μ) ha0 (by decide) rfl rfl cw_RX8_118 ⟨Nat.le_of_ble_eq_true rfl, Nat.le_of_ble_eq_true rfl⟩ (fun _ => Nat.le_of_ble_eq_true rfl) (fun r9 => ?_)
      exact aw_zreturn (b := r9.1) dX8_readLine_120 rfl rfl
  · refine aw_aload_n (n := 9) dX8_readLine_8 rfl rfl ?_
    refine aw_iconst (n := 10) 1 dX8_readLine_9 rfl (by decide) ?_
    refine aw_callVz (n := 13) (as := [.int 1]) (st := []) (RX6, TX6, 13) 6 dX8_readLine_10 rfl rfl (m_X6_fail l F a0 ha0 1 μ) ha0 (by decide) rfl rfl cw_RX8_118 ⟨Nat.le_of_ble_eq_true rfl, Nat.le_of_ble_eq_true rfl⟩ (fun _ => Nat.le_of_ble_eq_true rfl) (fun r10 => ?_)
    exact aw_zreturn (b := r10.1) dX8_readLine_13 rfl rfl
abbrev k_X8_readFrom : aw_K := (RX8, cX8_readFrom, 3, (some .boolean), 6, 230)
def f_X8_readFrom_13 (F : Nat) (t a0 : Nat) (k13 : Int32 × aw_M → Option (Bool × aw_M)) (x2 : Int32) (μ : aw_M) : Option (Bool × aw_M) :=
  (if 900 ≤ x2 then
  some (true, μ)
  else
  (if (μ.1 a0 6) = 4 then
  some (true, μ)
  else
  (f_X8_readLine F t a0 μ).bind fun r8 =>
  (if r8.1 = true then
  (f_X6_passSign F a0 59 r8.2).bind fun r9 =>
  (if r9.1 = true then
  aw_let (aw_wI r9.2 t 0 ((r9.2.1 t 0) + 1)) fun μ10 =>
  k13 ((x2 + 1), μ10)
  else
  some (false, r9.2))
  else
  some (false, r8.2))))
theorem c_X8_readFrom_13 (l : Launch) (F : Nat) (t : Nat) (ht : (aw_sh t).1 = 13) (a0 : Nat) (ha0 : (aw_sh a0).1 = 11) : ∀ (N : Nat) (s : Int32 × aw_M), AW l k_X8_readFrom aw_gz 13 [some (.ref t), some (.ref a0), some (.int s.1)] [] s.2 (aw_loop (fun k s => f_X8_readFrom_13 F t a0 k s.1 s.2) N s) := by
  refine aw_loop_ok (f := fun k s => f_X8_readFrom_13 F t a0 k s.1 s.2) (Ls := fun s => [some (.ref t), some (.ref a0), some (.int s.1)]) (ms := fun s => s.2) ?_
  intro k13 hk13 s
  obtain ⟨x2, μ⟩ := s
  show AW l k_X8_readFrom aw_gz 13 [some (.ref t), some (.ref a0), some (.int x2)] [] μ (f_X8_readFrom_13 F t a0 k13 x2 μ)
  unfold f_X8_readFrom_13
  refine aw_iload_n (n := 14) dX8_readFrom_13 rfl rfl ?_
  refine aw_sipush (n := 17) 900 dX8_readFrom_14 rfl (by decide) ?_
  refine aw_icmp_ge (n := 20) 63 dX8_readFrom_17 (by decide) rfl ?_ ?_
  · refine aw_iconst (n := 64) 1 dX8_readFrom_63 rfl (by decide) ?_
    exact aw_zreturn (b := true) dX8_readFrom_64 rfl rfl
  · refine aw_aload_n (n := 21) dX8_readFrom_20 rfl rfl ?_
    refine aw_getI (n := 24) (RX6, TX6, 13) 6 6 dX8_readFrom_21 rfl ha0 (by decide) fd_RX8_107 ?_
    refine aw_iconst (n := 25) 4 dX8_readFrom_24 rfl (by decide) ?_
    refine aw_icmp_eq (n := 28) 63 dX8_readFrom_25 (by decide) rfl ?_ ?_
    · refine aw_iconst (n := 64) 1 dX8_readFrom_63 rfl (by decide) ?_
      exact aw_zreturn (b := true) dX8_readFrom_64 rfl rfl
    · refine aw_aload_n (n := 29) dX8_readFrom_28 rfl rfl ?_
      refine aw_aload_n (n := 30) dX8_readFrom_29 rfl rfl ?_
      refine aw_callVz (n := 33) (as := [.ref a0]) (st := []) (RX8, TX8, 20) 8 dX8_readFrom_30 rfl rfl (m_X8_readLine l F t ht a0 ha0 μ) ht (by decide) rfl rfl cw_RX8_110 ⟨Nat.le_of_ble_eq_true rfl, Nat.le_of_ble_eq_true rfl⟩ (fun _ => Nat.le_of_ble_eq_true rfl) (fun r8 => ?_)
      refine aw_ifb_eq (n := 36) 45 dX8_readFrom_33 (by decide) rfl ?_ ?_
      · refine aw_iconst (n := 46) 0 dX8_readFrom_45 rfl (by decide) ?_
        exact aw_zreturn (b := false) dX8_readFrom_46 rfl rfl
      · refine aw_aload_n (n := 37) dX8_readFrom_36 rfl rfl ?_
        refine aw_bipush (n := 39) 59 dX8_readFrom_37 rfl (by decide) ?_
        refine aw_callVz (n := 42) (as := [.int 59]) (st := []) (RX6, TX6, 13) 6 dX8_readFrom_39 rfl rfl (m_X6_passSign l F a0 ha0 59 r8.2) ha0 (by decide) rfl rfl cw_RX8_114 ⟨Nat.le_of_ble_eq_true rfl, Nat.le_of_ble_eq_true rfl⟩ (fun _ => Nat.le_of_ble_eq_true rfl) (fun r9 => ?_)
        refine aw_ifb_ne (n := 45) 47 dX8_readFrom_42 (by decide) rfl ?_ ?_
        · refine aw_aload_n (n := 48) dX8_readFrom_47 rfl rfl ?_
          refine aw_dup (n := 49) dX8_readFrom_48 rfl (fun _ => rfl) ?_
          refine aw_getI (n := 52) (RX8, TX8, 20) 8 0 dX8_readFrom_49 rfl ht (by decide) fd_RX8_55 ?_
          refine aw_iconst (n := 53) 1 dX8_readFrom_52 rfl (by decide) ?_
          refine aw_iadd (n := 54) dX8_readFrom_53 rfl ?_
          refine aw_putI (n := 57) (RX8, TX8, 20) 8 0 dX8_readFrom_54 rfl ht (by decide) fp_RX8_55 (fun μ10 => ?_)
          refine aw_iinc (n := 60) (x2 + 1) [some (.ref t), some (.ref a0), some (.int (x2 + 1))] dX8_readFrom_57 rfl rfl (by rfl) rfl (Nat.le_of_ble_eq_true rfl) rfl ?_
          refine aw_goto 13 dX8_readFrom_60 (by decide) ?_
          exact aw_weak (hk13 ((x2 + 1), μ10)) (aw_ss (aw_ss (aw_ss aw_s0)))
        · refine aw_iconst (n := 46) 0 dX8_readFrom_45 rfl (by decide) ?_
          exact aw_zreturn (b := false) dX8_readFrom_46 rfl rfl
def f_X8_readFrom (F : Nat) (t a0 : Nat) (μ : aw_M) : Option (Bool × aw_M) :=
  (f_X8_empty F t μ).bind fun r6 =>
  (f_X6_open F a0 900 r6).bind fun r7 =>
  aw_loop (fun k s => f_X8_readFrom_13 F t a0 k s.1 s.2) F (0, r7)
theorem m_X8_readFrom (l : Launch) (F : Nat) (t : Nat) (ht : (aw_sh t).1 = 13) (a0 : Nat) (ha0 : (aw_sh a0).1 = 11) (μ : aw_M) : AM l yX8_readFrom cX8_readFrom 3 (some .boolean) (6) (230) aw_gz [.ref t, .ref a0] μ (f_X8_readFrom F t a0 μ) := by
  refine aw_met [some (.ref t), some (.ref a0), none] (by decide) (fun _ => rfl) (fun _ => Nat.le_of_ble_eq_true rfl) ?_
  show AW l k_X8_readFrom aw_gz 0 [some (.ref t), some (.ref a0), none] [] μ _
  unfold f_X8_readFrom
  refine aw_aload_n (n := 1) dX8_readFrom_0 rfl rfl ?_
  refine aw_callVv (n := 4) (as := []) (st := []) (RX8, TX8, 20) 8 dX8_readFrom_1 rfl rfl (m_X8_empty l F t ht μ) ht (by decide) rfl rfl cw_RX8_52 ⟨Nat.le_of_ble_eq_true rfl, Nat.le_of_ble_eq_true rfl⟩ (fun _ => Nat.le_of_ble_eq_true rfl) (fun r6 => ?_)
  refine aw_aload_n (n := 5) dX8_readFrom_4 rfl rfl ?_
  refine aw_sipush (n := 8) 900 dX8_readFrom_5 rfl (by decide) ?_
  refine aw_callVv (n := 11) (as := [.int 900]) (st := []) (RX6, TX6, 13) 6 dX8_readFrom_8 rfl rfl (m_X6_open l F a0 ha0 900 r6) ha0 (by decide) rfl rfl cw_RX8_101 ⟨Nat.le_of_ble_eq_true rfl, Nat.le_of_ble_eq_true rfl⟩ (fun _ => Nat.le_of_ble_eq_true rfl) (fun r7 => ?_)
  refine aw_iconst (n := 12) 0 dX8_readFrom_11 rfl (by decide) ?_
  refine aw_istore_n (n := 13) [some (.ref t), some (.ref a0), some (.int 0)] dX8_readFrom_12 rfl rfl (Nat.le_of_ble_eq_true rfl) (Nat.le_of_ble_eq_true rfl) rfl ?_
  exact aw_weak (c_X8_readFrom_13 l F t ht a0 ha0 F (0, r7)) (aw_ss (aw_ss (aw_ss aw_s0)))
