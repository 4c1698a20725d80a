abbrev k_X5_marksOf : aw_K := (RX5, cX5_marksOf, 5, (some .int), 1, 120)
def f_X5_marksOf_52 (F : Nat) (t : Nat) (x1 : Int32) (x2 : Int32) (μ : aw_M) : Option (Int32 × aw_M) :=
  aw_g (aw_in x1 9) (aw_g (aw_in x1 9) (aw_g (aw_in 2 4) (some (((μ.1 (aw_rf t 6) x1.toNatClampNeg) * ((μ.1 (aw_rf t 5) x1.toNatClampNeg) + ((μ.1 (aw_rf (aw_rf t 0) 17) (2 : Int32).toNatClampNeg) * x2))), μ))))
theorem c_X5_marksOf_52 (l : Launch) (F : Nat) (t : Nat) (ht : (aw_sh t).1 = 10) (x1 : Int32) (x2 : Int32) (μ : aw_M) : AW l k_X5_marksOf aw_gi 52 [some (.ref t), some (.int x1), some (.int x2), none, none] [] μ (f_X5_marksOf_52 F t x1 x2 μ) := by
  unfold f_X5_marksOf_52
  refine aw_aload_n (n := 53) dX5_marksOf_52 rfl rfl ?_
  refine aw_getR (n := 56) (RX5, TX5, 12) 5 6 dX5_marksOf_53 rfl ht (by decide) fd_RX5_21 ?_
  refine aw_iload_n (n := 57) dX5_marksOf_56 rfl rfl ?_
  refine aw_iaload (n := 58) 9 dX5_marksOf_57 rfl (sf_5_6 ht) ?_
  refine aw_aload_n (n := 59) dX5_marksOf_58 rfl rfl ?_
  refine aw_getR (n := 62) (RX5, TX5, 12) 5 5 dX5_marksOf_59 rfl ht (by decide) fd_RX5_18 ?_
  refine aw_iload_n (n := 63) dX5_marksOf_62 rfl rfl ?_
  refine aw_iaload (n := 64) 9 dX5_marksOf_63 rfl (sf_5_5 ht) ?_
  refine aw_aload_n (n := 65) dX5_marksOf_64 rfl rfl ?_
  refine aw_getR (n := 68) (RX5, TX5, 12) 5 0 dX5_marksOf_65 rfl ht (by decide) fd_RX5_36 ?_
  refine aw_getR (n := 71) (RX8, TX8, 20) 8 17 dX5_marksOf_68 rfl (sf_5_0 ht) (by decide) fd_RX5_132 ?_
  refine aw_iconst (n := 72) 2 dX5_marksOf_71 rfl (by decide) ?_
  refine aw_iaload (n := 73) 4 dX5_marksOf_72 rfl (sf_8_17 (sf_5_0 ht)) ?_
  refine aw_iload_n (n := 74) dX5_marksOf_73 rfl rfl ?_
  refine aw_imul (n := 75) dX5_marksOf_74 rfl ?_
  refine aw_iadd (n := 76) dX5_marksOf_75 rfl ?_
  refine aw_imul (n := 77) dX5_marksOf_76 rfl ?_
  exact aw_ireturn dX5_marksOf_77 rfl rfl
def f_X5_marksOf_46 (F : Nat) (t : Nat) (k4 : Int32 × Int32 × Int32 × aw_M → Option (Int32 × aw_M)) (x1 : Int32) (x2 : Int32) (x3 : Int32) (μ : aw_M) : Option (Int32 × aw_M) :=
  k4 (x1, x2, (x3 + 1), μ)
theorem c_X5_marksOf_46 (l : Launch) (F : Nat) (t : Nat) (ht : (aw_sh t).1 = 10) (k4 : Int32 × Int32 × Int32 × aw_M → Option (Int32 × aw_M)) (hk4 : ∀ s : Int32 × Int32 × Int32 × aw_M, AW l k_X5_marksOf aw_gi 4 [some (.ref t), some (.int s.1), some (.int s.2.1), some (.int s.2.2.1), none] [] s.2.2.2 (k4 s)) (x1 : Int32) (x2 : Int32) (x3 : Int32) (μ : aw_M) : AW l k_X5_marksOf aw_gi 46 [some (.ref t), some (.int x1), some (.int x2), some (.int x3), none] [] μ (f_X5_marksOf_46 F t k4 x1 x2 x3 μ) := by
  unfold f_X5_marksOf_46
  refine aw_iinc (n := 49) (x3 + 1) [some (.ref t), some (.int x1), some (.int x2), some (.int (x3 + 1)), none] dX5_marksOf_46 rfl rfl (by rfl) rfl (Nat.le_of_ble_eq_true rfl) rfl ?_
  refine aw_goto 4 dX5_marksOf_49 (by decide) ?_
  exact aw_weak (hk4 (x1, x2, (x3 + 1), μ)) (aw_ss (aw_ss (aw_ss (aw_ss (aw_sn aw_s0)))))
def f_X5_marksOf_4 (F : Nat) (t : Nat) (k4 : Int32 × Int32 × Int32 × aw_M → Option (Int32 × aw_M)) (x1 : Int32) (x2 : Int32) (x3 : Int32) (μ : aw_M) : Option (Int32 × aw_M) :=
  (if (μ.1 (aw_rf t 2) 7) ≤ x3 then
  f_X5_marksOf_52 F t x1 x2 μ
  else
  aw_g (aw_in ((x1 * 80) + x3) 720) (aw_let ((μ.1 (aw_rf t 3) ((x1 * 80) + x3).toNatClampNeg)) fun v7 =>
  (if v7 = (-1) then
  f_X5_marksOf_46 F t k4 x1 x2 x3 μ
  else
  aw_g (aw_in v7 80) (aw_let ((x2 + ((μ.1 (aw_rf t 4) v7.toNatClampNeg) - 1))) fun v8 =>
  f_X5_marksOf_46 F t k4 x1 v8 x3 μ))))
theorem c_X5_marksOf_4 (l : Launch) (F : Nat) (t : Nat) (ht : (aw_sh t).1 = 10) : ∀ (N : Nat) (s : Int32 × Int32 × Int32 × aw_M), AW l k_X5_marksOf aw_gi 4 [some (.ref t), some (.int s.1), some (.int s.2.1), some (.int s.2.2.1), none] [] s.2.2.2 (aw_loop (fun k s => f_X5_marksOf_4 F t k s.1 s.2.1 s.2.2.1 s.2.2.2) N s) := by
  refine aw_loop_ok (f := fun k s => f_X5_marksOf_4 F t k s.1 s.2.1 s.2.2.1 s.2.2.2) (Ls := fun s => [some (.ref t), some (.int s.1), some (.int s.2.1), some (.int s.2.2.1), none]) (ms := fun s => s.2.2.2) ?_
  intro k4 hk4 s
  obtain ⟨x1, x2, x3, μ⟩ := s
  show AW l k_X5_marksOf aw_gi 4 [some (.ref t), some (.int x1), some (.int x2), some (.int x3), none] [] μ (f_X5_marksOf_4 F t k4 x1 x2 x3 μ)
  unfold f_X5_marksOf_4
  refine aw_iload_n (n := 5) dX5_marksOf_4 rfl rfl ?_
  refine aw_aload_n (n := 6) dX5_marksOf_5 rfl rfl ?_
  refine aw_getR (n := 9) (RX5, TX5, 12) 5 2 dX5_marksOf_6 rfl ht (by decide) fd_RX5_44 ?_
  refine aw_getI (n := 12) (RX1, TX1, 12) 1 7 dX5_marksOf_9 rfl (sf_5_2 ht) (by decide) fd_RX5_127 ?_
  refine aw_icmp_ge (n := 15) 52 dX5_marksOf_12 (by decide) rfl ?_ ?_
  · exact aw_weak (c_X5_marksOf_52 l F t ht x1 x2 μ) (aw_ss (aw_ss (aw_ss (aw_sn (aw_sn aw_s0)))))
  · refine aw_aload_n (n := 16) dX5_marksOf_15 rfl rfl ?_
    refine aw_getR (n := 19) (RX5, TX5, 12) 5 3 dX5_marksOf_16 rfl ht (by decide) fd_RX5_9 ?_
    refine aw_iload_n (n := 20) dX5_marksOf_19 rfl rfl ?_
    refine aw_bipush (n := 22) 80 dX5_marksOf_20 rfl (by decide) ?_
    refine aw_imul (n := 23) dX5_marksOf_22 rfl ?_
    refine aw_iload_n (n := 24) dX5_marksOf_23 rfl rfl ?_
    refine aw_iadd (n := 25) dX5_marksOf_24 rfl ?_
    refine aw_iaload (n := 26) 720 dX5_marksOf_25 rfl (sf_5_3 ht) ?_
    refine aw_nmI (fun v7 => ?_)
    refine aw_istore (n := 28) [some (.ref t), some (.int x1), some (.int x2), some (.int x3), some (.int v7)] dX5_marksOf_26 rfl rfl (Nat.le_of_ble_eq_true rfl) (Nat.le_of_ble_eq_true rfl) rfl ?_
    refine aw_iload (n := 30) dX5_marksOf_28 rfl rfl ?_
    refine aw_iconst (n := 31) (-1) dX5_marksOf_30 rfl (by decide) ?_
    refine aw_icmp_eq (n := 34) 46 dX5_marksOf_31 (by decide) rfl ?_ ?_
    · exact aw_weak (c_X5_marksOf_46 l F t ht k4 hk4 x1 x2 x3 μ) (aw_ss (aw_ss (aw_ss (aw_ss (aw_sn aw_s0)))))
    · refine aw_iload_n (n := 35) dX5_marksOf_34 rfl rfl ?_
      refine aw_aload_n (n := 36) dX5_marksOf_35 rfl rfl ?_
      refine aw_getR (n := 39) (RX5, TX5, 12) 5 4 dX5_marksOf_36 rfl ht (by decide) fd_RX5_15 ?_
      refine aw_iload (n := 41) dX5_marksOf_39 rfl rfl ?_
      refine aw_iaload (n := 42) 80 dX5_marksOf_41 rfl (sf_5_4 ht) ?_
      refine aw_iconst (n := 43) 1 dX5_marksOf_42 rfl (by decide) ?_
      refine aw_isub (n := 44) dX5_marksOf_43 rfl ?_
      refine aw_iadd (n := 45) dX5_marksOf_44 rfl ?_
      refine aw_nmI (fun v8 => ?_)
      refine aw_istore_n (n := 46) [some (.ref t), some (.int x1), some (.int v8), some (.int x3), some (.int v7)] dX5_marksOf_45 rfl rfl (Nat.le_of_ble_eq_true rfl) (Nat.le_of_ble_eq_true rfl) rfl ?_
      exact aw_weak (c_X5_marksOf_46 l F t ht k4 hk4 x1 v8 x3 μ) (aw_ss (aw_ss (aw_ss (aw_ss (aw_sn aw_s0)))))
def f_X5_marksOf (F : Nat) (t : Nat) (a0 : Int32) (μ : aw_M) : Option (Int32 × aw_M) :=
  aw_loop (fun k s => f_X5_marksOf_4 F t k s.1 s.2.1 s.2.2.1 s.2.2.2) F (a0, 0, 0, μ)
theorem m_X5_marksOf (l : Launch) (F : Nat) (t : Nat) (ht : (aw_sh t).1 = 10) (a0 : Int32) (μ : aw_M) : AM l yX5_marksOf cX5_marksOf 5 (some .int) 1 120 aw_gi [.ref t, .int a0] μ (f_X5_marksOf F t a0 μ) := by
  refine aw_met [some (.ref t), some (.int a0), none, none, none] (by decide) (fun _ => rfl) (fun _ => Nat.le_of_ble_eq_true rfl) ?_
  show AW l k_X5_marksOf aw_gi 0 [some (.ref t), some (.int a0), none, none, none] [] μ _
  unfold f_X5_marksOf
  refine aw_iconst (n := 1) 0 dX5_marksOf_0 rfl (by decide) ?_
  refine aw_istore_n (n := 2) [some (.ref t), some (.int a0), some (.int 0), none, none] dX5_marksOf_1 rfl rfl (Nat.le_of_ble_eq_true rfl) (Nat.le_of_ble_eq_true rfl) rfl ?_
  refine aw_iconst (n := 3) 0 dX5_marksOf_2 rfl (by decide) ?_
  refine aw_istore_n (n := 4) [some (.ref t), some (.int a0), some (.int 0), some (.int 0), none] dX5_marksOf_3 rfl rfl (Nat.le_of_ble_eq_true rfl) (Nat.le_of_ble_eq_true rfl) rfl ?_
  exact aw_weak (c_X5_marksOf_4 l F t ht F (a0, 0, 0, μ)) (aw_ss (aw_ss (aw_ss (aw_ss (aw_sn aw_s0)))))
abbrev k_X5_takeBack : aw_K := (RX5, cX5_takeBack, 3, none, 1, 120)
def f_X5_takeBack_47 (F : Nat) (t : Nat) (k5 : Int32 × Int32 × aw_M → Option (aw_M)) (x1 : Int32) (x2 : Int32) (μ : aw_M) : Option (aw_M) :=
  k5 (x1, (x2 + 1), μ)
theorem c_X5_takeBack_47 (l : Launch) (F : Nat) (t : Nat) (ht : (aw_sh t).1 = 10) (k5 : Int32 × Int32 × aw_M → Option (aw_M)) (hk5 : ∀ s : Int32 × Int32 × aw_M, AW l k_X5_takeBack aw_gv 5 [some (.ref t), some (.int s.1), some (.int s.2.1)] [] s.2.2 (k5 s)) (x1 : Int32) (x2 : Int32) (μ : aw_M) : AW l k_X5_takeBack aw_gv 47 [some (.ref t), some (.int x1), some (.int x2)] [] μ (f_X5_takeBack_47 F t k5 x1 x2 μ) := by
  unfold f_X5_takeBack_47
  refine aw_iinc (n := 50) (x2 + 1) [some (.ref t), some (.int x1), some (.int (x2 + 1))] dX5_takeBack_47 rfl rfl (by rfl) rfl (Nat.le_of_ble_eq_true rfl) rfl ?_
  refine aw_goto 5 dX5_takeBack_50 (by decide) ?_
  exact aw_weak (hk5 (x1, (x2 + 1), μ)) (aw_ss (aw_ss (aw_ss aw_s0)))
def f_X5_takeBack_5 (F : Nat) (t : Nat) (k5 : Int32 × Int32 × aw_M → Option (aw_M)) (x1 : Int32) (x2 : Int32) (μ : aw_M) : Option (aw_M) :=
  (if ((x1 + 1) * 80) ≤ x2 then
  some μ
  else
  aw_g (aw_in x2 720) ((if (μ.1 (aw_rf t 3) x2.toNatClampNeg) = (-1) then
  f_X5_takeBack_47 F t k5 x1 x2 μ
  else
  aw_g (aw_in x2 720) (aw_g (aw_in (μ.1 (aw_rf t 3) x2.toNatClampNeg) 80) (aw_g (aw_in (μ.1 (aw_rf t 3) x2.toNatClampNeg) 80) (aw_let (aw_wI μ (aw_rf t 4) (μ.1 (aw_rf t 3) x2.toNatClampNeg).toNatClampNeg ((μ.1 (aw_rf t 4) (μ.1 (aw_rf t 3) x2.toNatClampNeg).toNatClampNeg) - 1)) fun μ5 =>
  aw_g (aw_in x2 720) (aw_let (aw_wI μ5 (aw_rf t 3) x2.toNatClampNeg (-1)) fun μ6 =>
  f_X5_takeBack_47 F t k5 x1 x2 μ6)))))))
theorem c_X5_takeBack_5 (l : Launch) (F : Nat) (t : Nat) (ht : (aw_sh t).1 = 10) : ∀ (N : Nat) (s : Int32 × Int32 × aw_M), AW l k_X5_takeBack aw_gv 5 [some (.ref t), some (.int s.1), some (.int s.2.1)] [] s.2.2 (aw_loop (fun k s => f_X5_takeBack_5 F t k s.1 s.2.1 s.2.2) N s) := by
  refine aw_loop_ok (f := fun k s => f_X5_takeBack_5 F t k s.1 s.2.1 s.2.2) (Ls := fun s => [some (.ref t), some (.int s.1), some (.int s.2.1)]) (ms := fun s => s.2.2) ?_
  intro k5 hk5 s
  obtain ⟨x1, x2, μ⟩ := s
  show AW l k_X5_takeBack aw_gv 5 [some (.ref t), some (.int x1), some (.int x2)] [] μ (f_X5_takeBack_5 F t k5 x1 x2 μ)
  unfold f_X5_takeBack_5
  refine aw_iload_n (n := 6) dX5_takeBack_5 rfl rfl ?_
  refine aw_iload_n (n := 7) dX5_takeBack_6 rfl rfl ?_
  refine aw_iconst (n := 8) 1 dX5_takeBack_7 rfl (by decide) ?_
  refine aw_iadd (n := 9) dX5_takeBack_8 rfl ?_
  refine aw_bipush (n := 11) 80 dX5_takeBack_9 rfl (by decide) ?_
  refine aw_imul (n := 12) dX5_takeBack_11 rfl ?_
  refine aw_icmp_ge (n := 15) 53 dX5_takeBack_12 (by decide) rfl ?_ ?_
  · exact aw_vreturn dX5_takeBack_53 rfl rfl
  · refine aw_aload_n (n := 16) dX5_takeBack_15 rfl rfl ?_
    refine aw_getR (n := 19) (RX5, TX5, 12) 5 3 dX5_takeBack_16 rfl ht (by decide) fd_RX5_9 ?_
    refine aw_iload_n (n := 20) dX5_takeBack_19 rfl rfl ?_
    refine aw_iaload (n := 21) 720 dX5_takeBack_20 rfl (sf_5_3 ht) ?_
    refine aw_iconst (n := 22) (-1) dX5_takeBack_21 rfl (by decide) ?_
    refine aw_icmp_eq (n := 25) 47 dX5_takeBack_22 (by decide) rfl ?_ ?_
    · exact aw_weak (c_X5_takeBack_47 l F t ht k5 hk5 x1 x2 μ) (aw_ss (aw_ss (aw_ss aw_s0)))
    · refine aw_aload_n (n := 26) dX5_takeBack_25 rfl rfl ?_
      refine aw_getR (n := 29) (RX5, TX5, 12) 5 4 dX5_takeBack_26 rfl ht (by decide) fd_RX5_15 ?_
      refine aw_aload_n (n := 30) dX5_takeBack_29 rfl rfl ?_
      refine aw_getR (n := 33) (RX5, TX5, 12) 5 3 dX5_takeBack_30 rfl ht (by decide) fd_RX5_9 ?_
      refine aw_iload_n (n := 34) dX5_takeBack_33 rfl rfl ?_
      refine aw_iaload (n := 35) 720 dX5_takeBack_34 rfl (sf_5_3 ht) ?_
      refine aw_dup2 (n := 36) dX5_takeBack_35 rfl (fun _ => rfl) (fun _ => rfl) ?_
      refine aw_iaload (n := 37) 80 dX5_takeBack_36 rfl (sf_5_4 ht) ?_
      refine aw_iconst (n := 38) 1 dX5_takeBack_37 rfl (by decide) ?_
      refine aw_isub (n := 39) dX5_takeBack_38 rfl ?_
      refine aw_iastore (n := 40) 80 dX5_takeBack_39 rfl (sf_5_4 ht) (fun μ5 => ?_)
      refine aw_aload_n (n := 41) dX5_takeBack_40 rfl rfl ?_
      refine aw_getR (n := 44) (RX5, TX5, 12) 5 3 dX5_takeBack_41 rfl ht (by decide) fd_RX5_9 ?_
      refine aw_iload_n (n := 45) dX5_takeBack_44 rfl rfl ?_
      refine aw_iconst (n := 46) (-1) dX5_takeBack_45 rfl (by decide) ?_
      refine aw_iastore (n := 47) 720 dX5_takeBack_46 rfl (sf_5_3 ht) (fun μ6 => ?_)
      exact aw_weak (c_X5_takeBack_47 l F t ht k5 hk5 x1 x2 μ6) (aw_ss (aw_ss (aw_ss aw_s0)))
def f_X5_takeBack (F : Nat) (t : Nat) (a0 : Int32) (μ : aw_M) : Option (aw_M) :=
  aw_let ((a0 * 80)) fun v4 =>
  aw_loop (fun k s => f_X5_takeBack_5 F t k s.1 s.2.1 s.2.2) F (a0, v4, μ)
theorem m_X5_takeBack (l : Launch) (F : Nat) (t : Nat) (ht : (aw_sh t).1 = 10) (a0 : Int32) (μ : aw_M) : AM l yX5_takeBack cX5_takeBack 3 none 1 120 aw_gv [.ref t, .int a0] μ (f_X5_takeBack F t a0 μ) := by
  refine aw_met [some (.ref t), some (.int a0), none] (by decide) (fun _ => rfl) (fun _ => Nat.le_of_ble_eq_true rfl) ?_
  show AW l k_X5_takeBack aw_gv 0 [some (.ref t), some (.int a0), none] [] μ _
  unfold f_X5_takeBack
  refine aw_iload_n (n := 1) dX5_takeBack_0 rfl rfl ?_
  refine aw_bipush (n := 3) 80 dX5_takeBack_1 rfl (by decide) ?_
  refine aw_imul (n := 4) dX5_takeBack_3 rfl ?_
  refine aw_nmI (fun v4 => ?_)
  refine aw_istore_n (n := 5) [some (.ref t), some (.int a0), some (.int v4)] dX5_takeBack_4 rfl rfl (Nat.le_of_ble_eq_true rfl) (Nat.le_of_ble_eq_true rfl) rfl ?_
  exact aw_weak (c_X5_takeBack_5 l F t ht F (a0, v4, μ)) (aw_ss (aw_ss (aw_ss aw_s0)))
abbrev k_X5_play : aw_K := (RX5, cX5_play, 12, none, 2, 150)
def f_X5_play_263 (F : Nat) (t : Nat) (k52 : Int32 × Int32 × Int32 × Int32 × Int32 × Int32 × Int32 × Int32 × aw_M → Option (aw_M)) (x1 : Int32) (x2 : Int32) (x3 : Int32) (x4 : Int32) (x5 : Int32) (x6 : Int32) (x7 : Int32) (x8 : Int32) (μ : aw_M) : Option (aw_M) :=
  k52 (x1, x2, x3, x4, x5, x6, x7, (x8 + 1), μ)
theorem c_X5_play_263 (l : Launch) (F : Nat) (t : Nat) (ht : (aw_sh t).1 = 10) (k52 : Int32 × Int32 × Int32 × Int32 × Int32 × Int32 × Int32 × Int32 × aw_M → Option (aw_M)) (hk52 : ∀ s : Int32 × Int32 × Int32 × Int32 × Int32 × Int32 × Int32 × Int32 × aw_M, AW l k_X5_play aw_gv 52 [some (.ref t), some (.int s.1), some (.int s.2.1), some (.int s.2.2.1), some (.int s.2.2.2.1), some (.int s.2.2.2.2.1), some (.int s.2.2.2.2.2.1), some (.int s.2.2.2.2.2.2.1), some (.int s.2.2.2.2.2.2.2.1), none, none, none] [] s.2.2.2.2.2.2.2.2 (k52 s)) (x1 : Int32) (x2 : Int32) (x3 : Int32) (x4 : Int32) (x5 : Int32) (x6 : Int32) (x7 : Int32) (x8 : Int32) (μ : aw_M) : AW l k_X5_play aw_gv 263 [some (.ref t), some (.int x1), some (.int x2), some (.int x3), some (.int x4), some (.int x5), some (.int x6), some (.int x7), some (.int x8), none, none, none] [] μ (f_X5_play_263 F t k52 x1 x2 x3 x4 x5 x6 x7 x8 μ) := by
  unfold f_X5_play_263
  refine aw_iinc (n := 266) (x8 + 1) [some (.ref t), some (.int x1), some (.int x2), some (.int x3), some (.int x4), some (.int x5), some (.int x6), some (.int x7), some (.int (x8 + 1)), none, none, none] dX5_play_263 rfl rfl (by rfl) rfl (Nat.le_of_ble_eq_true rfl) rfl ?_
  refine aw_goto 52 dX5_play_266 (by decide) ?_
  exact aw_weak (hk52 (x1, x2, x3, x4, x5, x6, x7, (x8 + 1), μ)) (aw_ss (aw_ss (aw_ss (aw_ss (aw_ss (aw_ss (aw_ss (aw_ss (aw_ss (aw_sn (aw_sn (aw_sn aw_s0))))))))))))
def f_X5_play_215 (F : Nat) (t : Nat) (k52 : Int32 × Int32 × Int32 × Int32 × Int32 × Int32 × Int32 × Int32 × aw_M → Option (aw_M)) (x1 : Int32) (x2 : Int32) (x3 : Int32) (x4 : Int32) (x5 : Int32) (x6 : Int32) (x8 : Int32) (x9 : Int32) (x10 : Int32) (z0 : Bool) (z1 : Int32) (z3 : Int32) (z4 : Int32) (μ : aw_M) : Option (aw_M) :=
  (f_X8_marksFor F (aw_rf t 0) z1 (aw_b z0) 0 μ).bind fun r52 =>
  aw_g (aw_in z4 9) (aw_let (aw_wI r52.2 (aw_rf t 5) z4.toNatClampNeg (z3 + r52.1)) fun μ53 =>
  aw_g (aw_in x10 20) (aw_g (aw_in x10 20) (aw_let (aw_wI μ53 (aw_rf t 7) x10.toNatClampNeg ((μ53.1 (aw_rf t 7) x10.toNatClampNeg) + 1)) fun μ54 =>
  aw_g (aw_in ((x1 * 80) + x8) 720) (aw_let (aw_wI μ54 (aw_rf t 3) ((x1 * 80) + x8).toNatClampNeg x9) fun μ55 =>
  aw_g (aw_in x9 80) (aw_g (aw_in x9 80) (aw_let (aw_wI μ55 (aw_rf t 4) x9.toNatClampNeg ((μ55.1 (aw_rf t 4) x9.toNatClampNeg) + 1)) fun μ56 =>
  f_X5_play_263 F t k52 x1 x2 x3 x4 x5 (x6 + (-1)) 0 x8 μ56))))))
theorem c_X5_play_215 (l : Launch) (F : Nat) (t : Nat) (ht : (aw_sh t).1 = 10) (k52 : Int32 × Int32 × Int32 × Int32 × Int32 × Int32 × Int32 × Int32 × aw_M → Option (aw_M)) (hk52 : ∀ s : Int32 × Int32 × Int32 × Int32 × Int32 × Int32 × Int32 × Int32 × aw_M, AW l k_X5_play aw_gv 52 [some (.ref t), some (.int s.1), some (.int s.2.1), some (.int s.2.2.1), some (.int s.2.2.2.1), some (.int s.2.2.2.2.1), some (.int s.2.2.2.2.2.1), some (.int s.2.2.2.2.2.2.1), some (.int s.2.2.2.2.2.2.2.1), none, none, none] [] s.2.2.2.2.2.2.2.2 (k52 s)) (x1 : Int32) (x2 : Int32) (x3 : Int32) (x4 : Int32) (x5 : Int32) (x6 : Int32) (x8 : Int32) (x9 : Int32) (x10 : Int32) (z0 : Bool) (z1 : Int32) (z3 : Int32) (z4 : Int32) (μ : aw_M) : AW l k_X5_play aw_gv 215 [some (.ref t), some (.int x1), some (.int x2), some (.int x3), some (.int x4), some (.int x5), some (.int x6), none, some (.int x8), some (.int x9), some (.int x10), none] [.int (aw_b z0), .int z1, .ref (aw_rf t 0), .int z3, .int z4, .ref (aw_rf t 5)] μ (f_X5_play_215 F t k52 x1 x2 x3 x4 x5 x6 x8 x9 x10 z0 z1 z3 z4 μ) := by
  unfold f_X5_play_215
  refine aw_iconst (n := 216) 0 dX5_play_215 rfl (by decide) ?_
  refine aw_callVi (n := 219) (as := [.int z1, .int (aw_b z0), .int 0]) (st := [.int z3, .int z4, .ref (aw_rf t 5)]) (RX8, TX8, 20) 8 dX5_play_216 rfl rfl (m_X8_marksFor l F (aw_rf t 0) (sf_5_0 ht) z1 (aw_b z0) 0 μ) (sf_5_0 ht) (by decide) rfl rfl cw_RX5_164 ⟨Nat.le_of_ble_eq_true rfl, Nat.le_of_ble_eq_true rfl⟩ (fun _ => Nat.le_of_ble_eq_true rfl) (fun r52 => ?_)
  refine aw_iadd (n := 220) dX5_play_219 rfl ?_
  refine aw_iastore (n := 221) 9 dX5_play_220 rfl (sf_5_5 ht) (fun μ53 => ?_)
  refine aw_iconst (n := 222) 0 dX5_play_221 rfl (by decide) ?_
  refine aw_istore (n := 224) [some (.ref t), some (.int x1), some (.int x2), some (.int x3), some (.int x4), some (.int x5), some (.int x6), some (.int 0), some (.int x8), some (.int x9), some (.int x10), none] dX5_play_222 rfl rfl (Nat.le_of_ble_eq_true rfl) (Nat.le_of_ble_eq_true rfl) rfl ?_
  refine aw_iinc (n := 227) (x6 + (-1)) [some (.ref t), some (.int x1), some (.int x2), some (.int x3), some (.int x4), some (.int x5), some (.int (x6 + (-1))), some (.int 0), some (.int x8), some (.int x9), some (.int x10), none] dX5_play_224 rfl rfl (by rfl) rfl (Nat.le_of_ble_eq_true rfl) rfl ?_
  refine aw_aload_n (n := 228) dX5_play_227 rfl rfl ?_
  refine aw_getR (n := 231) (RX5, TX5, 12) 5 7 dX5_play_228 rfl ht (by decide) fd_RX5_24 ?_
  refine aw_iload (n := 233) dX5_play_231 rfl rfl ?_
  refine aw_dup2 (n := 234) dX5_play_233 rfl (fun _ => rfl) (fun _ => rfl) ?_
  refine aw_iaload (n := 235) 20 dX5_play_234 rfl (sf_5_7 ht) ?_
  refine aw_iconst (n := 236) 1 dX5_play_235 rfl (by decide) ?_
  refine aw_iadd (n := 237) dX5_play_236 rfl ?_
  refine aw_iastore (n := 238) 20 dX5_play_237 rfl (sf_5_7 ht) (fun μ54 => ?_)
  refine aw_aload_n (n := 239) dX5_play_238 rfl rfl ?_
  refine aw_getR (n := 242) (RX5, TX5, 12) 5 3 dX5_play_239 rfl ht (by decide) fd_RX5_9 ?_
  refine aw_iload_n (n := 243) dX5_play_242 rfl rfl ?_
  refine aw_bipush (n := 245) 80 dX5_play_243 rfl (by decide) ?_
  refine aw_imul (n := 246) dX5_play_245 rfl ?_
  refine aw_iload (n := 248) dX5_play_246 rfl rfl ?_
  refine aw_iadd (n := 249) dX5_play_248 rfl ?_
  refine aw_iload (n := 251) dX5_play_249 rfl rfl ?_
  refine aw_iastore (n := 252) 720 dX5_play_251 rfl (sf_5_3 ht) (fun μ55 => ?_)
  refine aw_aload_n (n := 253) dX5_play_252 rfl rfl ?_
  refine aw_getR (n := 256) (RX5, TX5, 12) 5 4 dX5_play_253 rfl ht (by decide) fd_RX5_15 ?_
  refine aw_iload (n := 258) dX5_play_256 rfl rfl ?_
  refine aw_dup2 (n := 259) dX5_play_258 rfl (fun _ => rfl) (fun _ => rfl) ?_
  refine aw_iaload (n := 260) 80 dX5_play_259 rfl (sf_5_4 ht) ?_
  refine aw_iconst (n := 261) 1 dX5_play_260 rfl (by decide) ?_
  refine aw_iadd (n := 262) dX5_play_261 rfl ?_
  refine aw_iastore (n := 263) 80 dX5_play_262 rfl (sf_5_4 ht) (fun μ56 => ?_)
  exact aw_weak (c_X5_play_263 l F t ht k52 hk52 x1 x2 x3 x4 x5 (x6 + (-1)) 0 x8 μ56) (aw_ss (aw_ss (aw_ss (aw_ss (aw_ss (aw_ss (aw_ss (aw_ss (aw_ss (aw_sn (aw_sn (aw_sn aw_s0))))))))))))
def f_X5_play_179 (F : Nat) (t : Nat) (k52 : Int32 × Int32 × Int32 × Int32 × Int32 × Int32 × Int32 × Int32 × aw_M → Option (aw_M)) (x1 : Int32) (x2 : Int32) (x3 : Int32) (x4 : Int32) (x5 : Int32) (x6 : Int32) (x7 : Int32) (x8 : Int32) (x9 : Int32) (x10 : Int32) (x11 : Int32) (μ : aw_M) : Option (aw_M) :=
  aw_g (aw_in x1 9) ((f_X8_hitOf F (aw_rf t 0) x1 x10 x11 x7 μ).bind fun r51 =>
  (if 2 < x11 then
  f_X5_play_215 F t k52 x1 x2 x3 x4 x5 x6 x8 x9 x10 false r51.1 (μ.1 (aw_rf t 5) x1.toNatClampNeg) x1 r51.2
  else
  f_X5_play_215 F t k52 x1 x2 x3 x4 x5 x6 x8 x9 x10 true r51.1 (μ.1 (aw_rf t 5) x1.toNatClampNeg) x1 r51.2))
theorem c_X5_play_179 (l : Launch) (F : Nat) (t : Nat) (ht : (aw_sh t).1 = 10) (k52 : Int32 × Int32 × Int32 × Int32 × Int32 × Int32 × Int32 × Int32 × aw_M → Option (aw_M)) (hk52 : ∀ s : Int32 × Int32 × Int32 × Int32 × Int32 × Int32 × Int32 × Int32 × aw_M, AW l k_X5_play aw_gv 52 [some (.ref t), some (.int s.1), some (.int s.2.1), some (.int s.2.2.1), some (.int s.2.2.2.1), some (.int s.2.2.2.2.1), some (.int s.2.2.2.2.2.1), some (.int s.2.2.2.2.2.2.1), some (.int s.2.2.2.2.2.2.2.1), none, none, none] [] s.2.2.2.2.2.2.2.2 (k52 s)) (x1 : Int32) (x2 : Int32) (x3 : Int32) (x4 : Int32) (x5 : Int32) (x6 : Int32) (x7 : Int32) (x8 : Int32) (x9 : Int32) (x10 : Int32) (x11 : Int32) (μ : aw_M) : AW l k_X5_play aw_gv 179 [some (.ref t), some (.int x1), some (.int x2), some (.int x3), some (.int x4), some (.int x5), some (.int x6), some (.int x7), some (.int x8), some (.int x9), some (.int x10), some (.int x11)] [] μ (f_X5_play_179 F t k52 x1 x2 x3 x4 x5 x6 x7 x8 x9 x10 x11 μ) := by
  unfold f_X5_play_179
  refine aw_aload_n (n := 180) dX5_play_179 rfl rfl ?_
  refine aw_getR (n := 183) (RX5, TX5, 12) 5 5 dX5_play_180 rfl ht (by decide) fd_RX5_18 ?_
  refine aw_iload_n (n := 184) dX5_play_183 rfl rfl ?_
  refine aw_dup2 (n := 185) dX5_play_184 rfl (fun _ => rfl) (fun _ => rfl) ?_
  refine aw_iaload (n := 186) 9 dX5_play_185 rfl (sf_5_5 ht) ?_
  refine aw_aload_n (n := 187) dX5_play_186 rfl rfl ?_
  refine aw_getR (n := 190) (RX5, TX5, 12) 5 0 dX5_play_187 rfl ht (by decide) fd_RX5_36 ?_
  refine aw_aload_n (n := 191) dX5_play_190 rfl rfl ?_
  refine aw_getR (n := 194) (RX5, TX5, 12) 5 0 dX5_play_191 rfl ht (by decide) fd_RX5_36 ?_
  refine aw_iload_n (n := 195) dX5_play_194 rfl rfl ?_
  refine aw_iload (n := 197) dX5_play_195 rfl rfl ?_
  refine aw_iload (n := 199) dX5_play_197 rfl rfl ?_
  refine aw_iload (n := 201) dX5_play_199 rfl rfl ?_
  refine aw_callVi (n := 204) (as := [.int x1, .int x10, .int x11, .int x7]) (st := [.ref (aw_rf t 0), .int (μ.1 (aw_rf t 5) x1.toNatClampNeg), .int x1, .ref (aw_rf t 5)]) (RX8, TX8, 20) 8 dX5_play_201 rfl rfl (m_X8_hitOf l F (aw_rf t 0) (sf_5_0 ht) x1 x10 x11 x7 μ) (sf_5_0 ht) (by decide) rfl rfl cw_RX5_160 ⟨Nat.le_of_ble_eq_true rfl, Nat.le_of_ble_eq_true rfl⟩ (fun _ => Nat.le_of_ble_eq_true rfl) (fun r51 => ?_)
  refine aw_iload (n := 206) dX5_play_204 rfl rfl ?_
  refine aw_iconst (n := 207) 2 dX5_play_206 rfl (by decide) ?_
  refine aw_icmp_gt (n := 210) 214 dX5_play_207 (by decide) rfl ?_ ?_
  · refine aw_iconst (n := 215) 0 dX5_play_214 rfl (by decide) ?_
    exact aw_weak (c_X5_play_215 l F t ht k52 hk52 x1 x2 x3 x4 x5 x6 x8 x9 x10 false r51.1 (μ.1 (aw_rf t 5) x1.toNatClampNeg) x1 r51.2) (aw_ss (aw_ss (aw_ss (aw_ss (aw_ss (aw_ss (aw_ss (aw_sn (aw_ss (aw_ss (aw_ss (aw_sn aw_s0))))))))))))
  · refine aw_iconst (n := 211) 1 dX5_play_210 rfl (by decide) ?_
    refine aw_goto 215 dX5_play_211 (by decide) ?_
    exact aw_weak (c_X5_play_215 l F t ht k52 hk52 x1 x2 x3 x4 x5 x6 x8 x9 x10 true r51.1 (μ.1 (aw_rf t 5) x1.toNatClampNeg) x1 r51.2) (aw_ss (aw_ss (aw_ss (aw_ss (aw_ss (aw_ss (aw_ss (aw_sn (aw_ss (aw_ss (aw_ss (aw_sn aw_s0))))))))))))
def f_X5_play_109 (F : Nat) (t : Nat) (k52 : Int32 × Int32 × Int32 × Int32 × Int32 × Int32 × Int32 × Int32 × aw_M → Option (aw_M)) (x1 : Int32) (x2 : Int32) (x3 : Int32) (x4 : Int32) (x5 : Int32) (x6 : Int32) (x7 : Int32) (x8 : Int32) (x9 : Int32) (z0 : Int32) (μ : aw_M) : Option (aw_M) :=
  aw_g (aw_in ((x2 * 20) + z0) 360) (aw_let ((μ.1 (aw_rf (aw_rf t 2) 0) ((x2 * 20) + z0).toNatClampNeg)) fun v49 =>
  (if x9 = (-1) then
  f_X5_play_263 F t k52 x1 x2 x3 x4 x5 x6 x7 x8 μ
  else
  (f_X1_bars F (aw_rf t 2) z0 v49 μ).bind fun r50 =>
  (if r50.1 = true then
  f_X5_play_263 F t k52 x1 x2 x3 x4 x5 x6 x7 x8 r50.2
  else
  (if x5 = 1 then
  aw_g (aw_in x8 80) ((if ((r50.2.1 (aw_rf (aw_rf t 2) 9) x8.toNatClampNeg) - (r50.2.1 (aw_rf (aw_rf t 2) 9) x8.toNatClampNeg) / 2 * 2) = 1 then
  f_X5_play_263 F t k52 x1 x2 x3 x4 x5 x6 2 x8 r50.2
  else
  f_X5_play_179 F t k52 x1 x2 x3 x4 x5 x6 x7 x8 x9 z0 v49 r50.2))
  else
  f_X5_play_179 F t k52 x1 x2 x3 x4 x5 x6 x7 x8 x9 z0 v49 r50.2))))
theorem c_X5_play_109 (l : Launch) (F : Nat) (t : Nat) (ht : (aw_sh t).1 = 10) (k52 : Int32 × Int32 × Int32 × Int32 × Int32 × Int32 × Int32 × Int32 × aw_M → Option (aw_M)) (hk52 : ∀ s : Int32 × Int32 × Int32 × Int32 × Int32 × Int32 × Int32 × Int32 × aw_M, AW l k_X5_play aw_gv 52 [some (.ref t), some (.int s.1), some (.int s.2.1), some (.int s.2.2.1), some (.int s.2.2.2.1), some (.int s.2.2.2.2.1), some (.int s.2.2.2.2.2.1), some (.int s.2.2.2.2.2.2.1), some (.int s.2.2.2.2.2.2.2.1), none, none, none] [] s.2.2.2.2.2.2.2.2 (k52 s)) (x1 : Int32) (x2 : Int32) (x3 : Int32) (x4 : Int32) (x5 : Int32) (x6 : Int32) (x7 : Int32) (x8 : Int32) (x9 : Int32) (z0 : Int32) (μ : aw_M) : AW l k_X5_play aw_gv 109 [some (.ref t), some (.int x1), some (.int x2), some (.int x3), some (.int x4), some (.int x5), some (.int x6), some (.int x7), some (.int x8), some (.int x9), none, none] [.int z0] μ (f_X5_play_109 F t k52 x1 x2 x3 x4 x5 x6 x7 x8 x9 z0 μ) := by
  unfold f_X5_play_109
  refine aw_istore (n := 111) [some (.ref t), some (.int x1), some (.int x2), some (.int x3), some (.int x4), some (.int x5), some (.int x6), some (.int x7), some (.int x8), some (.int x9), some (.int z0), none] dX5_play_109 rfl rfl (Nat.le_of_ble_eq_true rfl) (Nat.le_of_ble_eq_true rfl) rfl ?_
  refine aw_aload_n (n := 112) dX5_play_111 rfl rfl ?_
  refine aw_getR (n := 115) (RX5, TX5, 12) 5 2 dX5_play_112 rfl ht (by decide) fd_RX5_44 ?_
  refine aw_getR (n := 118) (RX1, TX1, 12) 1 0 dX5_play_115 rfl (sf_5_2 ht) (by decide) fd_RX5_151 ?_
  refine aw_iload_n (n := 119) dX5_play_118 rfl rfl ?_
  refine aw_bipush (n := 121) 20 dX5_play_119 rfl (by decide) ?_
  refine aw_imul (n := 122) dX5_play_121 rfl ?_
  refine aw_iload (n := 124) dX5_play_122 rfl rfl ?_
  refine aw_iadd (n := 125) dX5_play_124 rfl ?_
  refine aw_iaload (n := 126) 360 dX5_play_125 rfl (sf_1_0 (sf_5_2 ht)) ?_
  refine aw_nmI (fun v49 => ?_)
  refine aw_istore (n := 128) [some (.ref t), some (.int x1), some (.int x2), some (.int x3), some (.int x4), some (.int x5), some (.int x6), some (.int x7), some (.int x8), some (.int x9), some (.int z0), some (.int v49)] dX5_play_126 rfl rfl (Nat.le_of_ble_eq_true rfl) (Nat.le_of_ble_eq_true rfl) rfl ?_
  refine aw_iload (n := 130) dX5_play_128 rfl rfl ?_
  refine aw_iconst (n := 131) (-1) dX5_play_130 rfl (by decide) ?_
  refine aw_icmp_eq (n := 134) 263 dX5_play_131 (by decide) rfl ?_ ?_
  · exact aw_weak (c_X5_play_263 l F t ht k52 hk52 x1 x2 x3 x4 x5 x6 x7 x8 μ) (aw_ss (aw_ss (aw_ss (aw_ss (aw_ss (aw_ss (aw_ss (aw_ss (aw_ss (aw_sn (aw_sn (aw_sn aw_s0))))))))))))
  · refine aw_aload_n (n := 135) dX5_play_134 rfl rfl ?_
    refine aw_getR (n := 138) (RX5, TX5, 12) 5 2 dX5_play_135 rfl ht (by decide) fd_RX5_44 ?_
    refine aw_iload (n := 140) dX5_play_138 rfl rfl ?_
    refine aw_iload (n := 142) dX5_play_140 rfl rfl ?_
    refine aw_callVz (n := 145) (as := [.int z0, .int v49]) (st := []) (RX1, TX1, 12) 1 dX5_play_142 rfl rfl (m_X1_bars l F (aw_rf t 2) (sf_5_2 ht) z0 v49 μ) (sf_5_2 ht) (by decide) rfl rfl cw_RX5_154 ⟨Nat.le_of_ble_eq_true rfl, Nat.le_of_ble_eq_true rfl⟩ (fun _ => Nat.le_of_ble_eq_true rfl) (fun r50 => ?_)
    refine aw_ifb_eq (n := 148) 151 dX5_play_145 (by decide) rfl ?_ ?_
    · refine aw_iload (n := 153) dX5_play_151 rfl rfl ?_
      refine aw_iconst (n := 154) 1 dX5_play_153 rfl (by decide) ?_
      refine aw_icmp_ne (n := 157) 179 dX5_play_154 (by decide) rfl ?_ ?_
      · exact aw_weak (c_X5_play_179 l F t ht k52 hk52 x1 x2 x3 x4 x5 x6 x7 x8 x9 z0 v49 r50.2) (aw_ss (aw_ss (aw_ss (aw_ss (aw_ss (aw_ss (aw_ss (aw_ss (aw_ss (aw_ss (aw_ss (aw_ss aw_s0))))))))))))
      · refine aw_aload_n (n := 158) dX5_play_157 rfl rfl ?_
        refine aw_getR (n := 161) (RX5, TX5, 12) 5 2 dX5_play_158 rfl ht (by decide) fd_RX5_44 ?_
        refine aw_getR (n := 164) (RX1, TX1, 12) 1 9 dX5_play_161 rfl (sf_5_2 ht) (by decide) fd_RX5_157 ?_
        refine aw_iload (n := 166) dX5_play_164 rfl rfl ?_
        refine aw_iaload (n := 167) 80 dX5_play_166 rfl (sf_1_9 (sf_5_2 ht)) ?_
        refine aw_iconst (n := 168) 2 dX5_play_167 rfl (by decide) ?_
        refine aw_iremK (n := 169) dX5_play_168 rfl (by decide) ?_
        refine aw_iconst (n := 170) 1 dX5_play_169 rfl (by decide) ?_
        refine aw_icmp_ne (n := 173) 179 dX5_play_170 (by decide) rfl ?_ ?_
        · exact aw_weak (c_X5_play_179 l F t ht k52 hk52 x1 x2 x3 x4 x5 x6 x7 x8 x9 z0 v49 r50.2) (aw_ss (aw_ss (aw_ss (aw_ss (aw_ss (aw_ss (aw_ss (aw_ss (aw_ss (aw_ss (aw_ss (aw_ss aw_s0))))))))))))
        · refine aw_iconst (n := 174) 2 dX5_play_173 rfl (by decide) ?_
          refine aw_istore (n := 176) [some (.ref t), some (.int x1), some (.int x2), some (.int x3), some (.int x4), some (.int x5), some (.int x6), some (.int 2), some (.int x8), some (.int x9), some (.int z0), some (.int v49)] dX5_play_174 rfl rfl (Nat.le_of_ble_eq_true rfl) (Nat.le_of_ble_eq_true rfl) rfl ?_
          refine aw_goto 263 dX5_play_176 (by decide) ?_
          exact aw_weak (c_X5_play_263 l F t ht k52 hk52 x1 x2 x3 x4 x5 x6 2 x8 r50.2) (aw_ss (aw_ss (aw_ss (aw_ss (aw_ss (aw_ss (aw_ss (aw_ss (aw_ss (aw_sn (aw_sn (aw_sn aw_s0))))))))))))
    · refine aw_goto 263 dX5_play_148 (by decide) ?_
      exact aw_weak (c_X5_play_263 l F t ht k52 hk52 x1 x2 x3 x4 x5 x6 x7 x8 r50.2) (aw_ss (aw_ss (aw_ss (aw_ss (aw_ss (aw_ss (aw_ss (aw_ss (aw_ss (aw_sn (aw_sn (aw_sn aw_s0))))))))))))
def f_X5_play_52 (F : Nat) (t : Nat) (k52 : Int32 × Int32 × Int32 × Int32 × Int32 × Int32 × Int32 × Int32 × aw_M → Option (aw_M)) (x1 : Int32) (x2 : Int32) (x3 : Int32) (x4 : Int32) (x5 : Int32) (x6 : Int32) (x7 : Int32) (x8 : Int32) (μ : aw_M) : Option (aw_M) :=
  (if (μ.1 (aw_rf t 2) 7) ≤ x8 then
  some μ
  else
  (if x6 ≤ 0 then
  some μ
  else
  (f_X1_nearestVisit F (aw_rf t 2) (aw_rf t 7) x2 x8 x3 x4 0 μ).bind fun r48 =>
  (if r48.1 = (-1) then
  f_X5_play_109 F t k52 x1 x2 x3 x4 x5 x6 x7 x8 r48.1 0 r48.2
  else
  aw_g (aw_in r48.1 80) (f_X5_play_109 F t k52 x1 x2 x3 x4 x5 x6 x7 x8 r48.1 (r48.2.1 (aw_rf (aw_rf t 2) 11) r48.1.toNatClampNeg) r48.2))))
theorem c_X5_play_52 (l : Launch) (F : Nat) (t : Nat) (ht : (aw_sh t).1 = 10) : ∀ (N : Nat) (s : Int32 × Int32 × Int32 × Int32 × Int32 × Int32 × Int32 × Int32 × aw_M), AW l k_X5_play aw_gv 52 [some (.ref t), some (.int s.1), some (.int s.2.1), some (.int s.2.2.1), some (.int s.2.2.2.1), some (.int s.2.2.2.2.1), some (.int s.2.2.2.2.2.1), some (.int s.2.2.2.2.2.2.1), some (.int s.2.2.2.2.2.2.2.1), none, none, none] [] s.2.2.2.2.2.2.2.2 (aw_loop (fun k s => f_X5_play_52 F t k s.1 s.2.1 s.2.2.1 s.2.2.2.1 s.2.2.2.2.1 s.2.2.2.2.2.1 s.2.2.2.2.2.2.1 s.2.2.2.2.2.2.2.1 s.2.2.2.2.2.2.2.2) N s) := by
  refine aw_loop_ok (f := fun k s => f_X5_play_52 F t k s.1 s.2.1 s.2.2.1 s.2.2.2.1 s.2.2.2.2.1 s.2.2.2.2.2.1 s.2.2.2.2.2.2.1 s.2.2.2.2.2.2.2.1 s.2.2.2.2.2.2.2.2) (Ls := fun s => [some (.ref t), some (.int s.1), some (.int s.2.1), some (.int s.2.2.1), some (.int s.2.2.2.1), some (.int s.2.2.2.2.1), some (.int s.2.2.2.2.2.1), some (.int s.2.2.2.2.2.2.1), some (.int s.2.2.2.2.2.2.2.1), none, none, none]) (ms := fun s => s.2.2.2.2.2.2.2.2) ?_
  intro k52 hk52 s
  obtain ⟨x1, x2, x3, x4, x5, x6, x7, x8, μ⟩ := s
  show AW l k_X5_play aw_gv 52 [some (.ref t), some (.int x1), some (.int x2), some (.int x3), some (.int x4), some (.int x5), some (.int x6), some (.int x7), some (.int x8), none, none, none] [] μ (f_X5_play_52 F t k52 x1 x2 x3 x4 x5 x6 x7 x8 μ)
  unfold f_X5_play_52
  refine aw_iload (n := 54) dX5_play_52 rfl rfl ?_
  refine aw_aload_n (n := 55) dX5_play_54 rfl rfl ?_
  refine aw_getR (n := 58) (RX5, TX5, 12) 5 2 dX5_play_55 rfl ht (by decide) fd_RX5_44 ?_
  refine aw_getI (n := 61) (RX1, TX1, 12) 1 7 dX5_play_58 rfl (sf_5_2 ht) (by decide) fd_RX5_127 ?_
  refine aw_icmp_ge (n := 64) 269 dX5_play_61 (by decide) rfl ?_ ?_
  · exact aw_vreturn dX5_play_269 rfl rfl
  · refine aw_iload (n := 66) dX5_play_64 rfl rfl ?_
    refine aw_if_le (n := 69) 269 dX5_play_66 (by decide) rfl ?_ ?_
    · exact aw_vreturn dX5_play_269 rfl rfl
    · refine aw_aload_n (n := 70) dX5_play_69 rfl rfl ?_
      refine aw_getR (n := 73) (RX5, TX5, 12) 5 2 dX5_play_70 rfl ht (by decide) fd_RX5_44 ?_
      refine aw_iload_n (n := 74) dX5_play_73 rfl rfl ?_
      refine aw_iload (n := 76) dX5_play_74 rfl rfl ?_
      refine aw_iload_n (n := 77) dX5_play_76 rfl rfl ?_
      refine aw_iload (n := 79) dX5_play_77 rfl rfl ?_
      refine aw_aload_n (n := 80) dX5_play_79 rfl rfl ?_
      refine aw_getR (n := 83) (RX5, TX5, 12) 5 7 dX5_play_80 rfl ht (by decide) fd_RX5_24 ?_
      refine aw_iconst (n := 84) 0 dX5_play_83 rfl (by decide) ?_
      refine aw_callVi (n := 87) (as := [.int x2, .int x8, .int x3, .int x4, .ref (aw_rf t 7), .int 0]) (st := []) (RX1, TX1, 12) 1 dX5_play_84 rfl rfl (m_X1_nearestVisit l F (aw_rf t 2) (sf_5_2 ht) (aw_rf t 7) (aw_arr (sf_5_7 ht)) x2 x8 x3 x4 0 μ) (sf_5_2 ht) (by decide) rfl rfl cw_RX5_144 ⟨Nat.le_of_ble_eq_true rfl, Nat.le_of_ble_eq_true rfl⟩ (fun _ => Nat.le_of_ble_eq_true rfl) (fun r48 => ?_)
      refine aw_istore (n := 89) [some (.ref t), some (.int x1), some (.int x2), some (.int x3), some (.int x4), some (.int x5), some (.int x6), some (.int x7), some (.int x8), some (.int r48.1), none, none] dX5_play_87 rfl rfl (Nat.le_of_ble_eq_true rfl) (Nat.le_of_ble_eq_true rfl) rfl ?_
      refine aw_iload (n := 91) dX5_play_89 rfl rfl ?_
      refine aw_iconst (n := 92) (-1) dX5_play_91 rfl (by decide) ?_
      refine aw_icmp_ne (n := 95) 99 dX5_play_92 (by decide) rfl ?_ ?_
      · refine aw_aload_n (n := 100) dX5_play_99 rfl rfl ?_
        refine aw_getR (n := 103) (RX5, TX5, 12) 5 2 dX5_play_100 rfl ht (by decide) fd_RX5_44 ?_
        refine aw_getR (n := 106) (RX1, TX1, 12) 1 11 dX5_play_103 rfl (sf_5_2 ht) (by decide) fd_RX5_148 ?_
        refine aw_iload (n := 108) dX5_play_106 rfl rfl ?_
        refine aw_iaload (n := 109) 80 dX5_play_108 rfl (sf_1_11 (sf_5_2 ht)) ?_
        exact aw_weak (c_X5_play_109 l F t ht k52 hk52 x1 x2 x3 x4 x5 x6 x7 x8 r48.1 (r48.2.1 (aw_rf (aw_rf t 2) 11) r48.1.toNatClampNeg) r48.2) (aw_ss (aw_ss (aw_ss (aw_ss (aw_ss (aw_ss (aw_ss (aw_ss (aw_ss (aw_ss (aw_sn (aw_sn aw_s0))))))))))))
      · refine aw_iconst (n := 96) 0 dX5_play_95 rfl (by decide) ?_
        refine aw_goto 109 dX5_play_96 (by decide) ?_
        exact aw_weak (c_X5_play_109 l F t ht k52 hk52 x1 x2 x3 x4 x5 x6 x7 x8 r48.1 0 r48.2) (aw_ss (aw_ss (aw_ss (aw_ss (aw_ss (aw_ss (aw_ss (aw_ss (aw_ss (aw_ss (aw_sn (aw_sn aw_s0))))))))))))
def f_X5_play (F : Nat) (t : Nat) (a0 : Int32) (a1 : Int32) (a2 : Int32) (a3 : Int32) (a4 : Int32) (μ : aw_M) : Option (aw_M) :=
  (f_X5_takeBack F t a0 μ).bind fun r43 =>
  aw_g (aw_in a1 18) (aw_g (aw_in a0 9) (aw_let (aw_wI r43 (aw_rf t 6) a0.toNatClampNeg (r43.1 (aw_rf (aw_rf t 2) 1) a1.toNatClampNeg)) fun μ44 =>
  aw_g (aw_in a0 9) (aw_let (aw_wI μ44 (aw_rf t 5) a0.toNatClampNeg 0) fun μ45 =>
  (f_J7_fill_53178 F (aw_rf t 7) 0 μ45).bind fun r46 =>
  aw_g (aw_in a0 9) (aw_let ((r46.1 (aw_rf (aw_rf t 0) 7) a0.toNatClampNeg)) fun v47 =>
  aw_loop (fun k s => f_X5_play_52 F t k s.1 s.2.1 s.2.2.1 s.2.2.2.1 s.2.2.2.2.1 s.2.2.2.2.2.1 s.2.2.2.2.2.2.1 s.2.2.2.2.2.2.2.1 s.2.2.2.2.2.2.2.2) F (a0, a1, a2, a3, a4, v47, 0, 0, r46)))))
theorem m_X5_play (l : Launch) (F : Nat) (t : Nat) (ht : (aw_sh t).1 = 10) (a0 : Int32) (a1 : Int32) (a2 : Int32) (a3 : Int32) (a4 : Int32) (μ : aw_M) : AM l yX5_play cX5_play 12 none 2 150 aw_gv [.ref t, .int a0, .int a1, .int a2, .int a3, .int a4] μ (f_X5_play F t a0 a1 a2 a3 a4 μ) := by
  refine aw_met [some (.ref t), some (.int a0), some (.int a1), some (.int a2), some (.int a3), some (.int a4), none, none, none, none, none, none] (by decide) (fun _ => rfl) (fun _ => Nat.le_of_ble_eq_true rfl) ?_
  show AW l k_X5_play aw_gv 0 [some (.ref t), some (.int a0), some (.int a1), some (.int a2), some (.int a3), some (.int a4), none, none, none, none, none, none] [] μ _
  unfold f_X5_play
  refine aw_aload_n (n := 1) dX5_play_0 rfl rfl ?_
  refine aw_iload_n (n := 2) dX5_play_1 rfl rfl ?_
  refine aw_callVv (n := 5) (as := [.int a0]) (st := []) (RX5, TX5, 12) 5 dX5_play_2 rfl rfl (m_X5_takeBack l F t ht a0 μ) ht (by decide) rfl rfl cw_RX5_135 ⟨Nat.le_of_ble_eq_true rfl, Nat.le_of_ble_eq_true rfl⟩ (fun _ => Nat.le_of_ble_eq_true rfl) (fun r43 => ?_)
  refine aw_aload_n (n := 6) dX5_play_5 rfl rfl ?_
  refine aw_getR (n := 9) (RX5, TX5, 12) 5 6 dX5_play_6 rfl ht (by decide) fd_RX5_21 ?_
  refine aw_iload_n (n := 10) dX5_play_9 rfl rfl ?_
  refine aw_aload_n (n := 11) dX5_play_10 rfl rfl ?_
  refine aw_getR (n := 14) (RX5, TX5, 12) 5 2 dX5_play_11 rfl ht (by decide) fd_RX5_44 ?_
  refine aw_getR (n := 17) (RX1, TX1, 12) 1 1 dX5_play_14 rfl (sf_5_2 ht) (by decide) fd_RX5_138 ?_
  refine aw_iload_n (n := 18) dX5_play_17 rfl rfl ?_
  refine aw_iaload (n := 19) 18 dX5_play_18 rfl (sf_1_1 (sf_5_2 ht)) ?_
  refine aw_iastore (n := 20) 9 dX5_play_19 rfl (sf_5_6 ht) (fun μ44 => ?_)
  refine aw_aload_n (n := 21) dX5_play_20 rfl rfl ?_
  refine aw_getR (n := 24) (RX5, TX5, 12) 5 5 dX5_play_21 rfl ht (by decide) fd_RX5_18 ?_
  refine aw_iload_n (n := 25) dX5_play_24 rfl rfl ?_
  refine aw_iconst (n := 26) 0 dX5_play_25 rfl (by decide) ?_
  refine aw_iastore (n := 27) 9 dX5_play_26 rfl (sf_5_5 ht) (fun μ45 => ?_)
  refine aw_aload_n (n := 28) dX5_play_27 rfl rfl ?_
  refine aw_getR (n := 31) (RX5, TX5, 12) 5 7 dX5_play_28 rfl ht (by decide) fd_RX5_24 ?_
  refine aw_iconst (n := 32) 0 dX5_play_31 rfl (by decide) ?_
  refine aw_callSv (n := 35) (as := [.ref (aw_rf t 7), .int 0]) (st := []) dX5_play_32 rfl rfl (m_J7_fill_53178 l F (aw_rf t 7) (aw_arr (sf_5_7 ht)) 0 μ45) cw_RX5_121 ⟨Nat.le_of_ble_eq_true rfl, Nat.le_of_ble_eq_true rfl⟩ (fun _ => Nat.le_of_ble_eq_true rfl) (fun r46 => ?_)
  refine aw_aload_n (n := 36) dX5_play_35 rfl rfl ?_
  refine aw_getR (n := 39) (RX5, TX5, 12) 5 0 dX5_play_36 rfl ht (by decide) fd_RX5_36 ?_
  refine aw_getR (n := 42) (RX8, TX8, 20) 8 7 dX5_play_39 rfl (sf_5_0 ht) (by decide) fd_RX5_141 ?_
  refine aw_iload_n (n := 43) dX5_play_42 rfl rfl ?_
  refine aw_iaload (n := 44) 9 dX5_play_43 rfl (sf_8_7 (sf_5_0 ht)) ?_
  refine aw_nmI (fun v47 => ?_)
  refine aw_istore (n := 46) [some (.ref t), some (.int a0), some (.int a1), some (.int a2), some (.int a3), some (.int a4), some (.int v47), none, none, none, none, none] dX5_play_44 rfl rfl (Nat.le_of_ble_eq_true rfl) (Nat.le_of_ble_eq_true rfl) rfl ?_
  refine aw_iconst (n := 47) 0 dX5_play_46 rfl (by decide) ?_
  refine aw_istore (n := 49) [some (.ref t), some (.int a0), some (.int a1), some (.int a2), some (.int a3), some (.int a4), some (.int v47), some (.int 0), none, none, none, none] dX5_play_47 rfl rfl (Nat.le_of_ble_eq_true rfl) (Nat.le_of_ble_eq_true rfl) rfl ?_
  refine aw_iconst (n := 50) 0 dX5_play_49 rfl (by decide) ?_
  refine aw_istore (n := 52) [some (.ref t), some (.int a0), some (.int a1), some (.int a2), some (.int a3), some (.int a4), some (.int v47), some (.int 0), some (.int 0), none, none, none] dX5_play_50 rfl rfl (Nat.le_of_ble_eq_true rfl) (Nat.le_of_ble_eq_true rfl) rfl ?_
  exact aw_weak (c_X5_play_52 l F t ht F (a0, a1, a2, a3, a4, v47, 0, 0, r46)) (aw_ss (aw_ss (aw_ss (aw_ss (aw_ss (aw_ss (aw_ss (aw_ss (aw_ss (aw_sn (aw_sn (aw_sn aw_s0))))))))))))
abbrev k_X5_standAt : aw_K := (RX5, cX5_standAt, 3, none, 3, 181)
def f_X5_standAt_15 (F : Nat) (t : Nat) (x1 : Int32) (z0 : Int32) (z1 : Int32) (μ : aw_M) : Option (aw_M) :=
  aw_g (aw_in x1 9) (aw_g (aw_in x1 9) (aw_g (aw_in x1 9) ((f_X5_play F t z1 z0 (μ.1 (aw_rf (aw_rf t 1) 1) x1.toNatClampNeg) (μ.1 (aw_rf (aw_rf t 1) 2) x1.toNatClampNeg) (μ.1 (aw_rf (aw_rf t 1) 3) x1.toNatClampNeg) μ).bind fun r2 =>
  some r2)))
theorem c_X5_standAt_15 (l : Launch) (F : Nat) (t : Nat) (ht : (aw_sh t).1 = 10) (x1 : Int32) (z0 : Int32) (z1 : Int32) (μ : aw_M) : AW l k_X5_standAt aw_gv 15 [some (.ref t), some (.int x1), none] [.int z0, .int z1, .ref t] μ (f_X5_standAt_15 F t x1 z0 z1 μ) := by
  unfold f_X5_standAt_15
  refine aw_aload_n (n := 16) dX5_standAt_15 rfl rfl ?_
  refine aw_getR (n := 19) (RX5, TX5, 12) 5 1 dX5_standAt_16 rfl ht (by decide) fd_RX5_40 ?_
  refine aw_getR (n := 22) (RX2, TX2, 4) 2 1 dX5_standAt_19 rfl (sf_5_1 ht) (by decide) fd_RX5_64 ?_
  refine aw_iload_n (n := 23) dX5_standAt_22 rfl rfl ?_
  refine aw_iaload (n := 24) 9 dX5_standAt_23 rfl (sf_2_1 (sf_5_1 ht)) ?_
  refine aw_aload_n (n := 25) dX5_standAt_24 rfl rfl ?_
  refine aw_getR (n := 28) (RX5, TX5, 12) 5 1 dX5_standAt_25 rfl ht (by decide) fd_RX5_40 ?_
  refine aw_getR (n := 31) (RX2, TX2, 4) 2 2 dX5_standAt_28 rfl (sf_5_1 ht) (by decide) fd_RX5_67 ?_
  refine aw_iload_n (n := 32) dX5_standAt_31 rfl rfl ?_
  refine aw_iaload (n := 33) 9 dX5_standAt_32 rfl (sf_2_2 (sf_5_1 ht)) ?_
  refine aw_aload_n (n := 34) dX5_standAt_33 rfl rfl ?_
  refine aw_getR (n := 37) (RX5, TX5, 12) 5 1 dX5_standAt_34 rfl ht (by decide) fd_RX5_40 ?_
  refine aw_getR (n := 40) (RX2, TX2, 4) 2 3 dX5_standAt_37 rfl (sf_5_1 ht) (by decide) fd_RX5_55 ?_
  refine aw_iload_n (n := 41) dX5_standAt_40 rfl rfl ?_
  refine aw_iaload (n := 42) 9 dX5_standAt_41 rfl (sf_2_3 (sf_5_1 ht)) ?_
  refine aw_callVv (n := 45) (as := [.int z1, .int z0, .int (μ.1 (aw_rf (aw_rf t 1) 1) x1.toNatClampNeg), .int (μ.1 (aw_rf (aw_rf t 1) 2) x1.toNatClampNeg), .int (μ.1 (aw_rf (aw_rf t 1) 3) x1.toNatClampNeg)]) (st := []) (RX5, TX5, 12) 5 dX5_standAt_42 rfl rfl (m_X5_play l F t ht z1 z0 (μ.1 (aw_rf (aw_rf t 1) 1) x1.toNatClampNeg) (μ.1 (aw_rf (aw_rf t 1) 2) x1.toNatClampNeg) (μ.1 (aw_rf (aw_rf t 1) 3) x1.toNatClampNeg) μ) ht (by decide) rfl rfl cw_RX5_60 ⟨Nat.le_of_ble_eq_true rfl, Nat.le_of_ble_eq_true rfl⟩ (fun _ => Nat.le_of_ble_eq_true rfl) (fun r2 => ?_)
  exact aw_vreturn dX5_standAt_45 rfl rfl
def f_X5_standAt (F : Nat) (t : Nat) (a0 : Int32) (a1 : Int32) (μ : aw_M) : Option (aw_M) :=
  (if a1 = 1 then
  f_X5_standAt_15 F t a0 (9 + a0) a0 μ
  else
  f_X5_standAt_15 F t a0 a0 a0 μ)
theorem m_X5_standAt (l : Launch) (F : Nat) (t : Nat) (ht : (aw_sh t).1 = 10) (a0 : Int32) (a1 : Int32) (μ : aw_M) : AM l yX5_standAt cX5_standAt 3 none 3 181 aw_gv [.ref t, .int a0, .int a1] μ (f_X5_standAt F t a0 a1 μ) := by
  refine aw_met [some (.ref t), some (.int a0), some (.int a1)] (by decide) (fun _ => rfl) (fun _ => Nat.le_of_ble_eq_true rfl) ?_
  show AW l k_X5_standAt aw_gv 0 [some (.ref t), some (.int a0), some (.int a1)] [] μ _
  unfold f_X5_standAt
  refine aw_aload_n (n := 1) dX5_standAt_0 rfl rfl ?_
  refine aw_iload_n (n := 2) dX5_standAt_1 rfl rfl ?_
  refine aw_iload_n (n := 3) dX5_standAt_2 rfl rfl ?_
  refine aw_iconst (n := 4) 1 dX5_standAt_3 rfl (by decide) ?_
  refine aw_icmp_ne (n := 7) 14 dX5_standAt_4 (by decide) rfl ?_ ?_
  · refine aw_iload_n (n := 15) dX5_standAt_14 rfl rfl ?_
    exact aw_weak (c_X5_standAt_15 l F t ht a0 a0 a0 μ) (aw_ss (aw_ss (aw_sn aw_s0)))
  · refine aw_bipush (n := 9) 9 dX5_standAt_7 rfl (by decide) ?_
    refine aw_iload_n (n := 10) dX5_standAt_9 rfl rfl ?_
    refine aw_iadd (n := 11) dX5_standAt_10 rfl ?_
    refine aw_goto 15 dX5_standAt_11 (by decide) ?_
    exact aw_weak (c_X5_standAt_15 l F t ht a0 (9 + a0) a0 μ) (aw_ss (aw_ss (aw_sn aw_s0)))
abbrev k_X5_playAll : aw_K := (RX5, cX5_playAll, 2, none, 4, 203)
def f_X5_playAll_18 (F : Nat) (t : Nat) (k18 : Int32 × aw_M → Option (aw_M)) (x1 : Int32) (μ : aw_M) : Option (aw_M) :=
  (if (μ.1 (aw_rf t 0) 3) ≤ x1 then
  some μ
  else
  (f_X5_standAt F t x1 0 μ).bind fun r6 =>
  k18 ((x1 + 1), r6))
theorem c_X5_playAll_18 (l : Launch) (F : Nat) (t : Nat) (ht : (aw_sh t).1 = 10) : ∀ (N : Nat) (s : Int32 × aw_M), AW l k_X5_playAll aw_gv 18 [some (.ref t), some (.int s.1)] [] s.2 (aw_loop (fun k s => f_X5_playAll_18 F t k s.1 s.2) N s) := by
  refine aw_loop_ok (f := fun k s => f_X5_playAll_18 F t k s.1 s.2) (Ls := fun s => [some (.ref t), some (.int s.1)]) (ms := fun s => s.2) ?_
  intro k18 hk18 s
  obtain ⟨x1, μ⟩ := s
  show AW l k_X5_playAll aw_gv 18 [some (.ref t), some (.int x1)] [] μ (f_X5_playAll_18 F t k18 x1 μ)
  unfold f_X5_playAll_18
  refine aw_iload_n (n := 19) dX5_playAll_18 rfl rfl ?_
  refine aw_aload_n (n := 20) dX5_playAll_19 rfl rfl ?_
  refine aw_getR (n := 23) (RX5, TX5, 12) 5 0 dX5_playAll_20 rfl ht (by decide) fd_RX5_36 ?_
  refine aw_getI (n := 26) (RX8, TX8, 20) 8 3 dX5_playAll_23 rfl (sf_5_0 ht) (by decide) fd_RX5_70 ?_
  refine aw_icmp_ge (n := 29) 41 dX5_playAll_26 (by decide) rfl ?_ ?_
  · exact aw_vreturn dX5_playAll_41 rfl rfl
  · refine aw_aload_n (n := 30) dX5_playAll_29 rfl rfl ?_
    refine aw_iload_n (n := 31) dX5_playAll_30 rfl rfl ?_
    refine aw_iconst (n := 32) 0 dX5_playAll_31 rfl (by decide) ?_
    refine aw_callVv (n := 35) (as := [.int x1, .int 0]) (st := []) (RX5, TX5, 12) 5 dX5_playAll_32 rfl rfl (m_X5_standAt l F t ht x1 0 μ) ht (by decide) rfl rfl cw_RX5_79 ⟨Nat.le_of_ble_eq_true rfl, Nat.le_of_ble_eq_true rfl⟩ (fun _ => Nat.le_of_ble_eq_true rfl) (fun r6 => ?_)
    refine aw_iinc (n := 38) (x1 + 1) [some (.ref t), some (.int (x1 + 1))] dX5_playAll_35 rfl rfl (by rfl) rfl (Nat.le_of_ble_eq_true rfl) rfl ?_
    refine aw_goto 18 dX5_playAll_38 (by decide) ?_
    exact aw_weak (hk18 ((x1 + 1), r6)) (aw_ss (aw_ss aw_s0))
def f_X5_playAll (F : Nat) (t : Nat) (μ : aw_M) : Option (aw_M) :=
  (f_J7_fill_53178 F (aw_rf t 3) (-1) μ).bind fun r4 =>
  (f_J7_fill_53178 F (aw_rf t 4) 0 r4).bind fun r5 =>
  aw_loop (fun k s => f_X5_playAll_18 F t k s.1 s.2) F (0, r5)
theorem m_X5_playAll (l : Launch) (F : Nat) (t : Nat) (ht : (aw_sh t).1 = 10) (μ : aw_M) : AM l yX5_playAll cX5_playAll 2 none 4 203 aw_gv [.ref t] μ (f_X5_playAll F t μ) := by
  refine aw_met [some (.ref t), none] (by decide) (fun _ => rfl) (fun _ => Nat.le_of_ble_eq_true rfl) ?_
  show AW l k_X5_playAll aw_gv 0 [some (.ref t), none] [] μ _
  unfold f_X5_playAll
  refine aw_aload_n (n := 1) dX5_playAll_0 rfl rfl ?_
  refine aw_getR (n := 4) (RX5, TX5, 12) 5 3 dX5_playAll_1 rfl ht (by decide) fd_RX5_9 ?_
  refine aw_iconst (n := 5) (-1) dX5_playAll_4 rfl (by decide) ?_
  refine aw_callSv (n := 8) (as := [.ref (aw_rf t 3), .int (-1)]) (st := []) dX5_playAll_5 rfl rfl (m_J7_fill_53178 l F (aw_rf t 3) (aw_arr (sf_5_3 ht)) (-1) μ) cw_RX5_121 ⟨Nat.le_of_ble_eq_true rfl, Nat.le_of_ble_eq_true rfl⟩ (fun _ => Nat.le_of_ble_eq_true rfl) (fun r4 => ?_)
  refine aw_aload_n (n := 9) dX5_playAll_8 rfl rfl ?_
  refine aw_getR (n := 12) (RX5, TX5, 12) 5 4 dX5_playAll_9 rfl ht (by decide) fd_RX5_15 ?_
  refine aw_iconst (n := 13) 0 dX5_playAll_12 rfl (by decide) ?_
  refine aw_callSv (n := 16) (as := [.ref (aw_rf t 4), .int 0]) (st := []) dX5_playAll_13 rfl rfl (m_J7_fill_53178 l F (aw_rf t 4) (aw_arr (sf_5_4 ht)) 0 r4) cw_RX5_121 ⟨Nat.le_of_ble_eq_true rfl, Nat.le_of_ble_eq_true rfl⟩ (fun _ => Nat.le_of_ble_eq_true rfl) (fun r5 => ?_)
  refine aw_iconst (n := 17) 0 dX5_playAll_16 rfl (by decide) ?_
  refine aw_istore_n (n := 18) [some (.ref t), some (.int 0)] dX5_playAll_17 rfl rfl (Nat.le_of_ble_eq_true rfl) (Nat.le_of_ble_eq_true rfl) rfl ?_
  exact aw_weak (c_X5_playAll_18 l F t ht F (0, r5)) (aw_ss (aw_ss aw_s0))
abbrev k_X5_marksAsTold : aw_K := (RX5, cX5_marksAsTold, 2, (some .int), 5, 224)
def f_X5_marksAsTold (F : Nat) (t : Nat) (a0 : Int32) (μ : aw_M) : Option (Int32 × aw_M) :=
  (f_X5_playAll F t μ).bind fun r1 =>
  (f_X5_marksOf F t a0 r1).bind fun r2 =>
  some (r2.1, r2.2)
theorem m_X5_marksAsTold (l : Launch) (F : Nat) (t : Nat) (ht : (aw_sh t).1 = 10) (a0 : Int32) (μ : aw_M) : AM l yX5_marksAsTold cX5_marksAsTold 2 (some .int) 5 224 aw_gi [.ref t, .int a0] μ (f_X5_marksAsTold F t a0 μ) := by
  refine aw_met [some (.ref t), some (.int a0)] (by decide) (fun _ => rfl) (fun _ => Nat.le_of_ble_eq_true rfl) ?_
  show AW l k_X5_marksAsTold aw_gi 0 [some (.ref t), some (.int a0)] [] μ _
  unfold f_X5_marksAsTold
  refine aw_aload_n (n := 1) dX5_marksAsTold_0 rfl rfl ?_
  refine aw_callVv (n := 4) (as := []) (st := []) (RX5, TX5, 12) 5 dX5_marksAsTold_1 rfl rfl (m_X5_playAll l F t ht μ) ht (by decide) rfl rfl cw_RX5_48 ⟨Nat.le_of_ble_eq_true rfl, Nat.le_of_ble_eq_true rfl⟩ (fun _ => Nat.le_of_ble_eq_true rfl) (fun r1 => ?_)
  refine aw_aload_n (n := 5) dX5_marksAsTold_4 rfl rfl ?_
  refine aw_iload_n (n := 6) dX5_marksAsTold_5 rfl rfl ?_
  refine aw_callVi (n := 9) (as := [.int a0]) (st := []) (RX5, TX5, 12) 5 dX5_marksAsTold_6 rfl rfl (m_X5_marksOf l F t ht a0 r1) ht (by decide) rfl rfl cw_RX5_51 ⟨Nat.le_of_ble_eq_true rfl, Nat.le_of_ble_eq_true rfl⟩ (fun _ => Nat.le_of_ble_eq_true rfl) (fun r2 => ?_)
  exact aw_ireturn dX5_marksAsTold_9 rfl rfl
abbrev k_X5_marksWith : aw_K := (RX5, cX5_marksWith, 4, (some .int), 5, 224)
def f_X5_marksWith (F : Nat) (t : Nat) (a0 : Int32) (a1 : Int32) (a2 : Int32) (μ : aw_M) : Option (Int32 × aw_M) :=
  (f_X5_playAll F t μ).bind fun r1 =>
  aw_g (aw_in a0 9) ((f_X5_play F t a0 a0 a1 a2 (r1.1 (aw_rf (aw_rf t 1) 3) a0.toNatClampNeg) r1).bind fun r2 =>
  (f_X5_marksOf F t a0 r2).bind fun r3 =>
  some (r3.1, r3.2))
theorem m_X5_marksWith (l : Launch) (F : Nat) (t : Nat) (ht : (aw_sh t).1 = 10) (a0 : Int32) (a1 : Int32) (a2 : Int32) (μ : aw_M) : AM l yX5_marksWith cX5_marksWith 4 (some .int) 5 224 aw_gi [.ref t, .int a0, .int a1, .int a2] μ (f_X5_marksWith F t a0 a1 a2 μ) := by
  refine aw_met [some (.ref t), some (.int a0), some (.int a1), some (.int a2)] (by decide) (fun _ => rfl) (fun _ => Nat.le_of_ble_eq_true rfl) ?_
  show AW l k_X5_marksWith aw_gi 0 [some (.ref t), some (.int a0), some (.int a1), some (.int a2)] [] μ _
  unfold f_X5_marksWith
  refine aw_aload_n (n := 1) dX5_marksWith_0 rfl rfl ?_
  refine aw_callVv (n := 4) (as := []) (st := []) (RX5, TX5, 12) 5 dX5_marksWith_1 rfl rfl (m_X5_playAll l F t ht μ) ht (by decide) rfl rfl cw_RX5_48 ⟨Nat.le_of_ble_eq_true rfl, Nat.le_of_ble_eq_true rfl⟩ (fun _ => Nat.le_of_ble_eq_true rfl) (fun r1 => ?_)
  refine aw_aload_n (n := 5) dX5_marksWith_4 rfl rfl ?_
  refine aw_iload_n (n := 6) dX5_marksWith_5 rfl rfl ?_
  refine aw_iload_n (n := 7) dX5_marksWith_6 rfl rfl ?_
  refine aw_iload_n (n := 8) dX5_marksWith_7 rfl rfl ?_
  refine aw_iload_n (n := 9) dX5_marksWith_8 rfl rfl ?_
  refine aw_aload_n (n := 10) dX5_marksWith_9 rfl rfl ?_
  refine aw_getR (n := 13) (RX5, TX5, 12) 5 1 dX5_marksWith_10 rfl ht (by decide) fd_RX5_40 ?_
  refine aw_getR (n := 16) (RX2, TX2, 4) 2 3 dX5_marksWith_13 rfl (sf_5_1 ht) (by decide) fd_RX5_55 ?_
  refine aw_iload_n (n := 17) dX5_marksWith_16 rfl rfl ?_
  refine aw_iaload (n := 18) 9 dX5_marksWith_17 rfl (sf_2_3 (sf_5_1 ht)) ?_
  refine aw_callVv (n := 21) (as := [.int a0, .int a0, .int a1, .int a2, .int (r1.1 (aw_rf (aw_rf t 1) 3) a0.toNatClampNeg)]) (st := []) (RX5, TX5, 12) 5 dX5_marksWith_18 rfl rfl (m_X5_play l F t ht a0 a0 a1 a2 (r1.1 (aw_rf (aw_rf t 1) 3) a0.toNatClampNeg) r1) ht (by decide) rfl rfl cw_RX5_60 ⟨Nat.le_of_ble_eq_true rfl, Nat.le_of_ble_eq_true rfl⟩ (fun _ => Nat.le_of_ble_eq_true rfl) (fun r2 => ?_)
  refine aw_aload_n (n := 22) dX5_marksWith_21 rfl rfl ?_
  refine aw_iload_n (n := 23) dX5_marksWith_22 rfl rfl ?_
  refine aw_callVi (n := 26) (as := [.int a0]) (st := []) (RX5, TX5, 12) 5 dX5_marksWith_23 rfl rfl (m_X5_marksOf l F t ht a0 r2) ht (by decide) rfl rfl cw_RX5_51 ⟨Nat.le_of_ble_eq_true rfl, Nat.le_of_ble_eq_true rfl⟩ (fun _ => Nat.le_of_ble_eq_true rfl) (fun r3 => ?_)
  exact aw_ireturn dX5_marksWith_26 rfl rfl
abbrev k_X5_bestPlan : aw_K := (RX5, cX5_bestPlan, 7, (some .int), 5, 224)
def f_X5_bestPlan_78 (F : Nat) (t : Nat) (k11 : Int32 × Int32 × Int32 × Int32 × aw_M → Option (Int32 × aw_M)) (x1 : Int32) (x2 : Int32) (x3 : Int32) (x4 : Int32) (μ : aw_M) : Option (Int32 × aw_M) :=
  k11 (x1, x2, x3, (x4 + 1), μ)
theorem c_X5_bestPlan_78 (l : Launch) (F : Nat) (t : Nat) (ht : (aw_sh t).1 = 10) (k11 : Int32 × Int32 × Int32 × Int32 × aw_M → Option (Int32 × aw_M)) (hk11 : ∀ s : Int32 × Int32 × Int32 × Int32 × aw_M, AW l k_X5_bestPlan aw_gi 11 [some (.ref t), some (.int s.1), some (.int s.2.1), some (.int s.2.2.1), some (.int s.2.2.2.1), none, none] [] s.2.2.2.2 (k11 s)) (x1 : Int32) (x2 : Int32) (x3 : Int32) (x4 : Int32) (μ : aw_M) : AW l k_X5_bestPlan aw_gi 78 [some (.ref t), some (.int x1), some (.int x2), some (.int x3), some (.int x4), none, none] [] μ (f_X5_bestPlan_78 F t k11 x1 x2 x3 x4 μ) := by
  unfold f_X5_bestPlan_78
  refine aw_iinc (n := 81) (x4 + 1) [some (.ref t), some (.int x1), some (.int x2), some (.int x3), some (.int (x4 + 1)), none, none] dX5_bestPlan_78 rfl rfl (by rfl) rfl (Nat.le_of_ble_eq_true rfl) rfl ?_
  refine aw_goto 11 dX5_bestPlan_81 (by decide) ?_
  exact aw_weak (hk11 (x1, x2, x3, (x4 + 1), μ)) (aw_ss (aw_ss (aw_ss (aw_ss (aw_ss (aw_sn (aw_sn aw_s0)))))))
def f_X5_bestPlan_72 (F : Nat) (t : Nat) (k11 : Int32 × Int32 × Int32 × Int32 × aw_M → Option (Int32 × aw_M)) (k21 : Int32 × Int32 × Int32 × Int32 × Int32 × aw_M → Option (Int32 × aw_M)) (x1 : Int32) (x2 : Int32) (x3 : Int32) (x4 : Int32) (x5 : Int32) (μ : aw_M) : Option (Int32 × aw_M) :=
  k21 (x1, x2, x3, x4, (x5 + 1), μ)
theorem c_X5_bestPlan_72 (l : Launch) (F : Nat) (t : Nat) (ht : (aw_sh t).1 = 10) (k11 : Int32 × Int32 × Int32 × Int32 × aw_M → Option (Int32 × aw_M)) (hk11 : ∀ s : Int32 × Int32 × Int32 × Int32 × aw_M, AW l k_X5_bestPlan aw_gi 11 [some (.ref t), some (.int s.1), some (.int s.2.1), some (.int s.2.2.1), some (.int s.2.2.2.1), none, none] [] s.2.2.2.2 (k11 s)) (k21 : Int32 × Int32 × Int32 × Int32 × Int32 × aw_M → Option (Int32 × aw_M)) (hk21 : ∀ s : Int32 × Int32 × Int32 × Int32 × Int32 × aw_M, AW l k_X5_bestPlan aw_gi 21 [some (.ref t), some (.int s.1), some (.int s.2.1), some (.int s.2.2.1), some (.int s.2.2.2.1), some (.int s.2.2.2.2.1), none] [] s.2.2.2.2.2 (k21 s)) (x1 : Int32) (x2 : Int32) (x3 : Int32) (x4 : Int32) (x5 : Int32) (μ : aw_M) : AW l k_X5_bestPlan aw_gi 72 [some (.ref t), some (.int x1), some (.int x2), some (.int x3), some (.int x4), some (.int x5), none] [] μ (f_X5_bestPlan_72 F t k11 k21 x1 x2 x3 x4 x5 μ) := by
  unfold f_X5_bestPlan_72
  refine aw_iinc (n := 75) (x5 + 1) [some (.ref t), some (.int x1), some (.int x2), some (.int x3), some (.int x4), some (.int (x5 + 1)), none] dX5_bestPlan_72 rfl rfl (by rfl) rfl (Nat.le_of_ble_eq_true rfl) rfl ?_
  refine aw_goto 21 dX5_bestPlan_75 (by decide) ?_
  exact aw_weak (hk21 (x1, x2, x3, x4, (x5 + 1), μ)) (aw_ss (aw_ss (aw_ss (aw_ss (aw_ss (aw_ss (aw_sn aw_s0)))))))
def f_X5_bestPlan_21 (F : Nat) (t : Nat) (k21 : Int32 × Int32 × Int32 × Int32 × Int32 × aw_M → Option (Int32 × aw_M)) (k11 : Int32 × Int32 × Int32 × Int32 × aw_M → Option (Int32 × aw_M)) (x1 : Int32) (x2 : Int32) (x3 : Int32) (x4 : Int32) (x5 : Int32) (μ : aw_M) : Option (Int32 × aw_M) :=
  (if 12 < x5 then
  f_X5_bestPlan_78 F t k11 x1 x2 x3 x4 μ
  else
  aw_g (aw_in x1 9) ((f_X5_play F t x1 x1 x5 x4 (μ.1 (aw_rf (aw_rf t 1) 3) x1.toNatClampNeg) μ).bind fun r14 =>
  (f_X5_marksOf F t x1 r14).bind fun r15 =>
  (if r15.1 ≤ x3 then
  f_X5_bestPlan_72 F t k11 k21 x1 x2 x3 x4 x5 r15.2
  else
  aw_let (((100 * x5) + x4)) fun v16 =>
  f_X5_bestPlan_72 F t k11 k21 x1 v16 r15.1 x4 x5 r15.2)))
theorem c_X5_bestPlan_21 (l : Launch) (F : Nat) (t : Nat) (ht : (aw_sh t).1 = 10) (k11 : Int32 × Int32 × Int32 × Int32 × aw_M → Option (Int32 × aw_M)) (hk11 : ∀ s : Int32 × Int32 × Int32 × Int32 × aw_M, AW l k_X5_bestPlan aw_gi 11 [some (.ref t), some (.int s.1), some (.int s.2.1), some (.int s.2.2.1), some (.int s.2.2.2.1), none, none] [] s.2.2.2.2 (k11 s)) : ∀ (N : Nat) (s : Int32 × Int32 × Int32 × Int32 × Int32 × aw_M), AW l k_X5_bestPlan aw_gi 21 [some (.ref t), some (.int s.1), some (.int s.2.1), some (.int s.2.2.1), some (.int s.2.2.2.1), some (.int s.2.2.2.2.1), none] [] s.2.2.2.2.2 (aw_loop (fun k s => f_X5_bestPlan_21 F t k k11 s.1 s.2.1 s.2.2.1 s.2.2.2.1 s.2.2.2.2.1 s.2.2.2.2.2) N s) := by
  refine aw_loop_ok (f := fun k s => f_X5_bestPlan_21 F t k k11 s.1 s.2.1 s.2.2.1 s.2.2.2.1 s.2.2.2.2.1 s.2.2.2.2.2) (Ls := fun s => [some (.ref t), some (.int s.1), some (.int s.2.1), some (.int s.2.2.1), some (.int s.2.2.2.1), some (.int s.2.2.2.2.1), none]) (ms := fun s => s.2.2.2.2.2) ?_
  intro k21 hk21 s
  obtain ⟨x1, x2, x3, x4, x5, μ⟩ := s
  show AW l k_X5_bestPlan aw_gi 21 [some (.ref t), some (.int x1), some (.int x2), some (.int x3), some (.int x4), some (.int x5), none] [] μ (f_X5_bestPlan_21 F t k21 k11 x1 x2 x3 x4 x5 μ)
  unfold f_X5_bestPlan_21
  refine aw_iload (n := 23) dX5_bestPlan_21 rfl rfl ?_
  refine aw_bipush (n := 25) 12 dX5_bestPlan_23 rfl (by decide) ?_
  refine aw_icmp_gt (n := 28) 78 dX5_bestPlan_25 (by decide) rfl ?_ ?_
  · exact aw_weak (c_X5_bestPlan_78 l F t ht k11 hk11 x1 x2 x3 x4 μ) (aw_ss (aw_ss (aw_ss (aw_ss (aw_ss (aw_sn (aw_sn aw_s0)))))))
  · refine aw_aload_n (n := 29) dX5_bestPlan_28 rfl rfl ?_
    refine aw_iload_n (n := 30) dX5_bestPlan_29 rfl rfl ?_
    refine aw_iload_n (n := 31) dX5_bestPlan_30 rfl rfl ?_
    refine aw_iload (n := 33) dX5_bestPlan_31 rfl rfl ?_
    refine aw_iload (n := 35) dX5_bestPlan_33 rfl rfl ?_
    refine aw_aload_n (n := 36) dX5_bestPlan_35 rfl rfl ?_
    refine aw_getR (n := 39) (RX5, TX5, 12) 5 1 dX5_bestPlan_36 rfl ht (by decide) fd_RX5_40 ?_
    refine aw_getR (n := 42) (RX2, TX2, 4) 2 3 dX5_bestPlan_39 rfl (sf_5_1 ht) (by decide) fd_RX5_55 ?_
    refine aw_iload_n (n := 43) dX5_bestPlan_42 rfl rfl ?_
    refine aw_iaload (n := 44) 9 dX5_bestPlan_43 rfl (sf_2_3 (sf_5_1 ht)) ?_
    refine aw_callVv (n := 47) (as := [.int x1, .int x1, .int x5, .int x4, .int (μ.1 (aw_rf (aw_rf t 1) 3) x1.toNatClampNeg)]) (st := []) (RX5, TX5, 12) 5 dX5_bestPlan_44 rfl rfl (m_X5_play l F t ht x1 x1 x5 x4 (μ.1 (aw_rf (aw_rf t 1) 3) x1.toNatClampNeg) μ) ht (by decide) rfl rfl cw_RX5_60 ⟨Nat.le_of_ble_eq_true rfl, Nat.le_of_ble_eq_true rfl⟩ (fun _ => Nat.le_of_ble_eq_true rfl) (fun r14 => ?_)
    refine aw_aload_n (n := 48) dX5_bestPlan_47 rfl rfl ?_
    refine aw_iload_n (n := 49) dX5_bestPlan_48 rfl rfl ?_
    refine aw_callVi (n := 52) (as := [.int x1]) (st := []) (RX5, TX5, 12) 5 dX5_bestPlan_49 rfl rfl (m_X5_marksOf l F t ht x1 r14) ht (by decide) rfl rfl cw_RX5_51 ⟨Nat.le_of_ble_eq_true rfl, Nat.le_of_ble_eq_true rfl⟩ (fun _ => Nat.le_of_ble_eq_true rfl) (fun r15 => ?_)
    refine aw_istore (n := 54) [some (.ref t), some (.int x1), some (.int x2), some (.int x3), some (.int x4), some (.int x5), some (.int r15.1)] dX5_bestPlan_52 rfl rfl (Nat.le_of_ble_eq_true rfl) (Nat.le_of_ble_eq_true rfl) rfl ?_
    refine aw_iload (n := 56) dX5_bestPlan_54 rfl rfl ?_
    refine aw_iload_n (n := 57) dX5_bestPlan_56 rfl rfl ?_
    refine aw_icmp_le (n := 60) 72 dX5_bestPlan_57 (by decide) rfl ?_ ?_
    · exact aw_weak (c_X5_bestPlan_72 l F t ht k11 hk11 k21 hk21 x1 x2 x3 x4 x5 r15.2) (aw_ss (aw_ss (aw_ss (aw_ss (aw_ss (aw_ss (aw_sn aw_s0)))))))
    · refine aw_iload (n := 62) dX5_bestPlan_60 rfl rfl ?_
      refine aw_istore_n (n := 63) [some (.ref t), some (.int x1), some (.int x2), some (.int r15.1), some (.int x4), some (.int x5), some (.int r15.1)] dX5_bestPlan_62 rfl rfl (Nat.le_of_ble_eq_true rfl) (Nat.le_of_ble_eq_true rfl) rfl ?_
      refine aw_bipush (n := 65) 100 dX5_bestPlan_63 rfl (by decide) ?_
      refine aw_iload (n := 67) dX5_bestPlan_65 rfl rfl ?_
      refine aw_imul (n := 68) dX5_bestPlan_67 rfl ?_
      refine aw_iload (n := 70) dX5_bestPlan_68 rfl rfl ?_
      refine aw_iadd (n := 71) dX5_bestPlan_70 rfl ?_
      refine aw_nmI (fun v16 => ?_)
      refine aw_istore_n (n := 72) [some (.ref t), some (.int x1), some (.int v16), some (.int r15.1), some (.int x4), some (.int x5), some (.int r15.1)] dX5_bestPlan_71 rfl rfl (Nat.le_of_ble_eq_true rfl) (Nat.le_of_ble_eq_true rfl) rfl ?_
      exact aw_weak (c_X5_bestPlan_72 l F t ht k11 hk11 k21 hk21 x1 v16 r15.1 x4 x5 r15.2) (aw_ss (aw_ss (aw_ss (aw_ss (aw_ss (aw_ss (aw_sn aw_s0)))))))
def f_X5_bestPlan_11 (F : Nat) (t : Nat) (k11 : Int32 × Int32 × Int32 × Int32 × aw_M → Option (Int32 × aw_M)) (x1 : Int32) (x2 : Int32) (x3 : Int32) (x4 : Int32) (μ : aw_M) : Option (Int32 × aw_M) :=
  (if 20 < x4 then
  some (x2, μ)
  else
  aw_loop (fun k s => f_X5_bestPlan_21 F t k k11 s.1 s.2.1 s.2.2.1 s.2.2.2.1 s.2.2.2.2.1 s.2.2.2.2.2) F (x1, x2, x3, x4, 0, μ))
theorem c_X5_bestPlan_11 (l : Launch) (F : Nat) (t : Nat) (ht : (aw_sh t).1 = 10) : ∀ (N : Nat) (s : Int32 × Int32 × Int32 × Int32 × aw_M), AW l k_X5_bestPlan aw_gi 11 [some (.ref t), some (.int s.1), some (.int s.2.1), some (.int s.2.2.1), some (.int s.2.2.2.1), none, none] [] s.2.2.2.2 (aw_loop (fun k s => f_X5_bestPlan_11 F t k s.1 s.2.1 s.2.2.1 s.2.2.2.1 s.2.2.2.2) N s) := by
  refine aw_loop_ok (f := fun k s => f_X5_bestPlan_11 F t k s.1 s.2.1 s.2.2.1 s.2.2.2.1 s.2.2.2.2) (Ls := fun s => [some (.ref t), some (.int s.1), some (.int s.2.1), some (.int s.2.2.1), some (.int s.2.2.2.1), none, none]) (ms := fun s => s.2.2.2.2) ?_
  intro k11 hk11 s
  obtain ⟨x1, x2, x3, x4, μ⟩ := s
  show AW l k_X5_bestPlan aw_gi 11 [some (.ref t), some (.int x1), some (.int x2), some (.int x3), some (.int x4), none, none] [] μ (f_X5_bestPlan_11 F t k11 x1 x2 x3 x4 μ)
  unfold f_X5_bestPlan_11
  refine aw_iload (n := 13) dX5_bestPlan_11 rfl rfl ?_
  refine aw_bipush (n := 15) 20 dX5_bestPlan_13 rfl (by decide) ?_
  refine aw_icmp_gt (n := 18) 84 dX5_bestPlan_15 (by decide) rfl ?_ ?_
  · refine aw_iload_n (n := 85) dX5_bestPlan_84 rfl rfl ?_
    exact aw_ireturn dX5_bestPlan_85 rfl rfl
  · refine aw_iconst (n := 19) 0 dX5_bestPlan_18 rfl (by decide) ?_
    refine aw_istore (n := 21) [some (.ref t), some (.int x1), some (.int x2), some (.int x3), some (.int x4), some (.int 0), none] dX5_bestPlan_19 rfl rfl (Nat.le_of_ble_eq_true rfl) (Nat.le_of_ble_eq_true rfl) rfl ?_
    exact aw_weak (c_X5_bestPlan_21 l F t ht k11 hk11 F (x1, x2, x3, x4, 0, μ)) (aw_ss (aw_ss (aw_ss (aw_ss (aw_ss (aw_ss (aw_sn aw_s0)))))))
def f_X5_bestPlan (F : Nat) (t : Nat) (a0 : Int32) (μ : aw_M) : Option (Int32 × aw_M) :=
  (f_X5_playAll F t μ).bind fun r13 =>
  aw_loop (fun k s => f_X5_bestPlan_11 F t k s.1 s.2.1 s.2.2.1 s.2.2.2.1 s.2.2.2.2) F (a0, 0, 0, 0, r13)
theorem m_X5_bestPlan (l : Launch) (F : Nat) (t : Nat) (ht : (aw_sh t).1 = 10) (a0 : Int32) (μ : aw_M) : AM l yX5_bestPlan cX5_bestPlan 7 (some .int) 5 224 aw_gi [.ref t, .int a0] μ (f_X5_bestPlan F t a0 μ) := by
  refine aw_met [some (.ref t), some (.int a0), none, none, none, none, none] (by decide) (fun _ => rfl) (fun _ => Nat.le_of_ble_eq_true rfl) ?_
  show AW l k_X5_bestPlan aw_gi 0 [some (.ref t), some (.int a0), none, none, none, none, none] [] μ _
  unfold f_X5_bestPlan
  refine aw_iconst (n := 1) 0 dX5_bestPlan_0 rfl (by decide) ?_
  refine aw_istore_n (n := 2) [some (.ref t), some (.int a0), some (.int 0), none, none, none, none] dX5_bestPlan_1 rfl rfl (Nat.le_of_ble_eq_true rfl) (Nat.le_of_ble_eq_true rfl) rfl ?_
  refine aw_iconst (n := 3) 0 dX5_bestPlan_2 rfl (by decide) ?_
  refine aw_istore_n (n := 4) [some (.ref t), some (.int a0), some (.int 0), some (.int 0), none, none, none] dX5_bestPlan_3 rfl rfl (Nat.le_of_ble_eq_true rfl) (Nat.le_of_ble_eq_true rfl) rfl ?_
  refine aw_aload_n (n := 5) dX5_bestPlan_4 rfl rfl ?_
  refine aw_callVv (n := 8) (as := []) (st := []) (RX5, TX5, 12) 5 dX5_bestPlan_5 rfl rfl (m_X5_playAll l F t ht μ) ht (by decide) rfl rfl cw_RX5_48 ⟨Nat.le_of_ble_eq_true rfl, Nat.le_of_ble_eq_true rfl⟩ (fun _ => Nat.le_of_ble_eq_true rfl) (fun r13 => ?_)
  refine aw_iconst (n := 9) 0 dX5_bestPlan_8 rfl (by decide) ?_
  refine aw_istore (n := 11) [some (.ref t), some (.int a0), some (.int 0), some (.int 0), some (.int 0), none, none] dX5_bestPlan_9 rfl rfl (Nat.le_of_ble_eq_true rfl) (Nat.le_of_ble_eq_true rfl) rfl ?_
  exact aw_weak (c_X5_bestPlan_11 l F t ht F (a0, 0, 0, 0, r13)) (aw_ss (aw_ss (aw_ss (aw_ss (aw_ss (aw_sn (aw_sn aw_s0)))))))
abbrev k_X5_gainByJoining : aw_K := (RX5, cX5_gainByJoining, 4, (some .int), 5, 224)
def f_X5_gainByJoining (F : Nat) (t : Nat) (a0 : Int32) (a1 : Int32) (μ : aw_M) : Option (Int32 × aw_M) :=
  (f_X5_playAll F t μ).bind fun r1 =>
  (f_X5_marksOf F t a0 r1).bind fun r2 =>
  (f_X5_marksOf F t a1 r2.2).bind fun r3 =>
  aw_let ((r2.1 + r3.1)) fun v4 =>
  aw_g (aw_in a1 9) (aw_g (aw_in a1 9) (aw_g (aw_in a1 9) ((f_X5_play F t a0 a0 (r3.2.1 (aw_rf (aw_rf t 1) 1) a1.toNatClampNeg) (r3.2.1 (aw_rf (aw_rf t 1) 2) a1.toNatClampNeg) (r3.2.1 (aw_rf (aw_rf t 1) 3) a1.toNatClampNeg) r3.2).bind fun r5 =>
  (f_X5_marksOf F t a0 r5).bind fun r6 =>
  (f_X5_marksOf F t a1 r6.2).bind fun r7 =>
  some (((r6.1 + r7.1) - v4), r7.2))))
theorem m_X5_gainByJoining (l : Launch) (F : Nat) (t : Nat) (ht : (aw_sh t).1 = 10) (a0 : Int32) (a1 : Int32) (μ : aw_M) : AM l yX5_gainByJoining cX5_gainByJoining 4 (some .int) 5 224 aw_gi [.ref t, .int a0, .int a1] μ (f_X5_gainByJoining F t a0 a1 μ) := by
  refine aw_met [some (.ref t), some (.int a0), some (.int a1), none] (by decide) (fun _ => rfl) (fun _ => Nat.le_of_ble_eq_true rfl) ?_
  show AW l k_X5_gainByJoining aw_gi 0 [some (.ref t), some (.int a0), some (.int a1), none] [] μ _
  unfold f_X5_gainByJoining
  refine aw_aload_n (n := 1) dX5_gainByJoining_0 rfl rfl ?_
  refine aw_callVv (n := 4) (as := []) (st := []) (RX5, TX5, 12) 5 dX5_gainByJoining_1 rfl rfl (m_X5_playAll l F t ht μ) ht (by decide) rfl rfl cw_RX5_48 ⟨Nat.le_of_ble_eq_true rfl, Nat.le_of_ble_eq_true rfl⟩ (fun _ => Nat.le_of_ble_eq_true rfl) (fun r1 => ?_)
  refine aw_aload_n (n := 5) dX5_gainByJoining_4 rfl rfl ?_
  refine aw_iload_n (n := 6) dX5_gainByJoining_5 rfl rfl ?_
  refine aw_callVi (n := 9) (as := [.int a0]) (st := []) (RX5, TX5, 12) 5 dX5_gainByJoining_6 rfl rfl (m_X5_marksOf l F t ht a0 r1) ht (by decide) rfl rfl cw_RX5_51 ⟨Nat.le_of_ble_eq_true rfl, Nat.le_of_ble_eq_true rfl⟩ (fun _ => Nat.le_of_ble_eq_true rfl) (fun r2 => ?_)
  refine aw_aload_n (n := 10) dX5_gainByJoining_9 rfl rfl ?_
  refine aw_iload_n (n := 11) dX5_gainByJoining_10 rfl rfl ?_
  refine aw_callVi (n := 14) (as := [.int a1]) (st := [.int r2.1]) (RX5, TX5, 12) 5 dX5_gainByJoining_11 rfl rfl (m_X5_marksOf l F t ht a1 r2.2) ht (by decide) rfl rfl cw_RX5_51 ⟨Nat.le_of_ble_eq_true rfl, Nat.le_of_ble_eq_true rfl⟩ (fun _ => Nat.le_of_ble_eq_true rfl) (fun r3 => ?_)
  refine aw_iadd (n := 15) dX5_gainByJoining_14 rfl ?_
  refine aw_nmI (fun v4 => ?_)
  refine aw_istore_n (n := 16) [some (.ref t), some (.int a0), some (.int a1), some (.int v4)] dX5_gainByJoining_15 rfl rfl (Nat.le_of_ble_eq_true rfl) (Nat.le_of_ble_eq_true rfl) rfl ?_
  refine aw_aload_n (n := 17) dX5_gainByJoining_16 rfl rfl ?_
  refine aw_iload_n (n := 18) dX5_gainByJoining_17 rfl rfl ?_
  refine aw_iload_n (n := 19) dX5_gainByJoining_18 rfl rfl ?_
  refine aw_aload_n (n := 20) dX5_gainByJoining_19 rfl rfl ?_
  refine aw_getR (n := 23) (RX5, TX5, 12) 5 1 dX5_gainByJoining_20 rfl ht (by decide) fd_RX5_40 ?_
  refine aw_getR (n := 26) (RX2, TX2, 4) 2 1 dX5_gainByJoining_23 rfl (sf_5_1 ht) (by decide) fd_RX5_64 ?_
  refine aw_iload_n (n := 27) dX5_gainByJoining_26 rfl rfl ?_
  refine aw_iaload (n := 28) 9 dX5_gainByJoining_27 rfl (sf_2_1 (sf_5_1 ht)) ?_
  refine aw_aload_n (n := 29) dX5_gainByJoining_28 rfl rfl ?_
  refine aw_getR (n := 32) (RX5, TX5, 12) 5 1 dX5_gainByJoining_29 rfl ht (by decide) fd_RX5_40 ?_
  refine aw_getR (n := 35) (RX2, TX2, 4) 2 2 dX5_gainByJoining_32 rfl (sf_5_1 ht) (by decide) fd_RX5_67 ?_
  refine aw_iload_n (n := 36) dX5_gainByJoining_35 rfl rfl ?_
  refine aw_iaload (n := 37) 9 dX5_gainByJoining_36 rfl (sf_2_2 (sf_5_1 ht)) ?_
  refine aw_aload_n (n := 38) dX5_gainByJoining_37 rfl rfl ?_
  refine aw_getR (n := 41) (RX5, TX5, 12) 5 1 dX5_gainByJoining_38 rfl ht (by decide) fd_RX5_40 ?_
  refine aw_getR (n := 44) (RX2, TX2, 4) 2 3 dX5_gainByJoining_41 rfl (sf_5_1 ht) (by decide) fd_RX5_55 ?_
  refine aw_iload_n (n := 45) dX5_gainByJoining_44 rfl rfl ?_
  refine aw_iaload (n := 46) 9 dX5_gainByJoining_45 rfl (sf_2_3 (sf_5_1 ht)) ?_
  refine aw_callVv (n := 49) (as := [.int a0, .int a0, .int (r3.2.1 (aw_rf (aw_rf t 1) 1) a1.toNatClampNeg), .int (r3.2.1 (aw_rf (aw_rf t 1) 2) a1.toNatClampNeg), .int (r3.2.1 (aw_rf (aw_rf t 1) 3) a1.toNatClampNeg)]) (st := []) (RX5, TX5, 12) 5 dX5_gainByJoining_46 rfl rfl (m_X5_play l F t ht a0 a0 (r3.2.1 (aw_rf (aw_rf t 1) 1) a1.toNatClampNeg) (r3.2.1 (aw_rf (aw_rf t 1) 2) a1.toNatClampNeg) (r3.2.1 (aw_rf (aw_rf t 1) 3) a1.toNatClampNeg) r3.2) ht (by decide) rfl rfl cw_RX5_60 ⟨Nat.le_of_ble_eq_true rfl, Nat.le_of_ble_eq_true rfl⟩ (fun _ => Nat.le_of_ble_eq_true rfl) (fun r5 => ?_)
  refine aw_aload_n (n := 50) dX5_gainByJoining_49 rfl rfl ?_
  refine aw_iload_n (n := 51) dX5_gainByJoining_50 rfl rfl ?_
  refine aw_callVi (n := 54) (as := [.int a0]) (st := []) (RX5, TX5, 12) 5 dX5_gainByJoining_51 rfl rfl (m_X5_marksOf l F t ht a0 r5) ht (by decide) rfl rfl cw_RX5_51 ⟨Nat.le_of_ble_eq_true rfl, Nat.le_of_ble_eq_true rfl⟩ (fun _ => Nat.le_of_ble_eq_true rfl) (fun r6 => ?_)
  refine aw_aload_n (n := 55) dX5_gainByJoining_54 rfl rfl ?_
  refine aw_iload_n (n := 56) dX5_gainByJoining_55 rfl rfl ?_
  refine aw_callVi (n := 59) (as := [.int a1]) (st := [.int r6.1]) (RX5, TX5, 12) 5 dX5_gainByJoining_56 rfl rfl (m_X5_marksOf l F t ht a1 r6.2) ht (by decide) rfl rfl cw_RX5_51 ⟨Nat.le_of_ble_eq_true rfl, Nat.le_of_ble_eq_true rfl⟩ (fun _ => Nat.le_of_ble_eq_true rfl) (fun r7 => ?_)
  refine aw_iadd (n := 60) dX5_gainByJoining_59 rfl ?_
  refine aw_iload_n (n := 61) dX5_gainByJoining_60 rfl rfl ?_
  refine aw_isub (n := 62) dX5_gainByJoining_61 rfl ?_
  exact aw_ireturn dX5_gainByJoining_62 rfl rfl
abbrev k_X5_haveSpots : aw_K := (RX5, cX5_haveSpots, 3, (some .boolean), 1, 120)
def f_X5_haveSpots_54 (F : Nat) (t : Nat) (k20 : Int32 × Int32 × aw_M → Option (Bool × aw_M)) (x1 : Int32) (x2 : Int32) (μ : aw_M) : Option (Bool × aw_M) :=
  k20 (x1, (x2 + 1), μ)
theorem c_X5_haveSpots_54 (l : Launch) (F : Nat) (t : Nat) (ht : (aw_sh t).1 = 10) (k20 : Int32 × Int32 × aw_M → Option (Bool × aw_M)) (hk20 : ∀ s : Int32 × Int32 × aw_M, AW l k_X5_haveSpots aw_gz 20 [some (.ref t), some (.int s.1), some (.int s.2.1)] [] s.2.2 (k20 s)) (x1 : Int32) (x2 : Int32) (μ : aw_M) : AW l k_X5_haveSpots aw_gz 54 [some (.ref t), some (.int x1), some (.int x2)] [] μ (f_X5_haveSpots_54 F t k20 x1 x2 μ) := by
  unfold f_X5_haveSpots_54
  refine aw_iinc (n := 57) (x2 + 1) [some (.ref t), some (.int x1), some (.int (x2 + 1))] dX5_haveSpots_54 rfl rfl (by rfl) rfl (Nat.le_of_ble_eq_true rfl) rfl ?_
  refine aw_goto 20 dX5_haveSpots_57 (by decide) ?_
  exact aw_weak (hk20 (x1, (x2 + 1), μ)) (aw_ss (aw_ss (aw_ss aw_s0)))
def f_X5_haveSpots_20 (F : Nat) (t : Nat) (k20 : Int32 × Int32 × aw_M → Option (Bool × aw_M)) (x1 : Int32) (x2 : Int32) (μ : aw_M) : Option (Bool × aw_M) :=
  (if (μ.1 (aw_rf t 0) 3) ≤ x2 then
  some (true, μ)
  else
  (if ((x1 >>> (x2 &&& 31)) &&& 1) = 0 then
  f_X5_haveSpots_54 F t k20 x1 x2 μ
  else
  aw_g (aw_in x2 9) ((if (μ.1 (aw_rf (aw_rf t 0) 9) x2.toNatClampNeg) = (-1) then
  some (false, μ)
  else
  f_X5_haveSpots_54 F t k20 x1 x2 μ))))
theorem c_X5_haveSpots_20 (l : Launch) (F : Nat) (t : Nat) (ht : (aw_sh t).1 = 10) : ∀ (N : Nat) (s : Int32 × Int32 × aw_M), AW l k_X5_haveSpots aw_gz 20 [some (.ref t), some (.int s.1), some (.int s.2.1)] [] s.2.2 (aw_loop (fun k s => f_X5_haveSpots_20 F t k s.1 s.2.1 s.2.2) N s) := by
  refine aw_loop_ok (f := fun k s => f_X5_haveSpots_20 F t k s.1 s.2.1 s.2.2) (Ls := fun s => [some (.ref t), some (.int s.1), some (.int s.2.1)]) (ms := fun s => s.2.2) ?_
  intro k20 hk20 s
  obtain ⟨x1, x2, μ⟩ := s
  show AW l k_X5_haveSpots aw_gz 20 [some (.ref t), some (.int x1), some (.int x2)] [] μ (f_X5_haveSpots_20 F t k20 x1 x2 μ)
  unfold f_X5_haveSpots_20
  refine aw_iload_n (n := 21) dX5_haveSpots_20 rfl rfl ?_
  refine aw_aload_n (n := 22) dX5_haveSpots_21 rfl rfl ?_
  refine aw_getR (n := 25) (RX5, TX5, 12) 5 0 dX5_haveSpots_22 rfl ht (by decide) fd_RX5_36 ?_
  refine aw_getI (n := 28) (RX8, TX8, 20) 8 3 dX5_haveSpots_25 rfl (sf_5_0 ht) (by decide) fd_RX5_70 ?_
  refine aw_icmp_ge (n := 31) 60 dX5_haveSpots_28 (by decide) rfl ?_ ?_
  · refine aw_iconst (n := 61) 1 dX5_haveSpots_60 rfl (by decide) ?_
    exact aw_zreturn (b := true) dX5_haveSpots_61 rfl rfl
  · refine aw_iload_n (n := 32) dX5_haveSpots_31 rfl rfl ?_
    refine aw_iload_n (n := 33) dX5_haveSpots_32 rfl rfl ?_
    refine aw_ishr (n := 34) dX5_haveSpots_33 rfl ?_
    refine aw_iconst (n := 35) 1 dX5_haveSpots_34 rfl (by decide) ?_
    refine aw_iand (n := 36) dX5_haveSpots_35 rfl ?_
    refine aw_if_eq (n := 39) 54 dX5_haveSpots_36 (by decide) rfl ?_ ?_
    · exact aw_weak (c_X5_haveSpots_54 l F t ht k20 hk20 x1 x2 μ) (aw_ss (aw_ss (aw_ss aw_s0)))
    · refine aw_aload_n (n := 40) dX5_haveSpots_39 rfl rfl ?_
      refine aw_getR (n := 43) (RX5, TX5, 12) 5 0 dX5_haveSpots_40 rfl ht (by decide) fd_RX5_36 ?_
      refine aw_getR (n := 46) (RX8, TX8, 20) 8 9 dX5_haveSpots_43 rfl (sf_5_0 ht) (by decide) fd_RX5_76 ?_
      refine aw_iload_n (n := 47) dX5_haveSpots_46 rfl rfl ?_
      refine aw_iaload (n := 48) 9 dX5_haveSpots_47 rfl (sf_8_9 (sf_5_0 ht)) ?_
      refine aw_iconst (n := 49) (-1) dX5_haveSpots_48 rfl (by decide) ?_
      refine aw_icmp_ne (n := 52) 54 dX5_haveSpots_49 (by decide) rfl ?_ ?_
      · exact aw_weak (c_X5_haveSpots_54 l F t ht k20 hk20 x1 x2 μ) (aw_ss (aw_ss (aw_ss aw_s0)))
      · refine aw_iconst (n := 53) 0 dX5_haveSpots_52 rfl (by decide) ?_
        exact aw_zreturn (b := false) dX5_haveSpots_53 rfl rfl
def f_X5_haveSpots (F : Nat) (t : Nat) (a0 : Int32) (μ : aw_M) : Option (Bool × aw_M) :=
  (if a0 < 0 then
  some (false, μ)
  else
  (if (a0 >>> ((μ.1 (aw_rf t 0) 3) &&& 31)) = 0 then
  aw_loop (fun k s => f_X5_haveSpots_20 F t k s.1 s.2.1 s.2.2) F (a0, 0, μ)
  else
  some (false, μ)))
theorem m_X5_haveSpots (l : Launch) (F : Nat) (t : Nat) (ht : (aw_sh t).1 = 10) (a0 : Int32) (μ : aw_M) : AM l yX5_haveSpots cX5_haveSpots 3 (some .boolean) 1 120 aw_gz [.ref t, .int a0] μ (f_X5_haveSpots F t a0 μ) := by
  refine aw_met [some (.ref t), some (.int a0), none] (by decide) (fun _ => rfl) (fun _ => Nat.le_of_ble_eq_true rfl) ?_
  show AW l k_X5_haveSpots aw_gz 0 [some (.ref t), some (.int a0), none] [] μ _
  unfold f_X5_haveSpots
  refine aw_iload_n (n := 1) dX5_haveSpots_0 rfl rfl ?_
  refine aw_if_lt (n := 4) 16 dX5_haveSpots_1 (by decide) rfl ?_ ?_
  · refine aw_iconst (n := 17) 0 dX5_haveSpots_16 rfl (by decide) ?_
    exact aw_zreturn (b := false) dX5_haveSpots_17 rfl rfl
  · refine aw_iload_n (n := 5) dX5_haveSpots_4 rfl rfl ?_
    refine aw_aload_n (n := 6) dX5_haveSpots_5 rfl rfl ?_
    refine aw_getR (n := 9) (RX5, TX5, 12) 5 0 dX5_haveSpots_6 rfl ht (by decide) fd_RX5_36 ?_
    refine aw_getI (n := 12) (RX8, TX8, 20) 8 3 dX5_haveSpots_9 rfl (sf_5_0 ht) (by decide) fd_RX5_70 ?_
    refine aw_ishr (n := 13) dX5_haveSpots_12 rfl ?_
    refine aw_if_eq (n := 16) 18 dX5_haveSpots_13 (by decide) rfl ?_ ?_
    · refine aw_iconst (n := 19) 0 dX5_haveSpots_18 rfl (by decide) ?_
      refine aw_istore_n (n := 20) [some (.ref t), some (.int a0), some (.int 0)] dX5_haveSpots_19 rfl rfl (Nat.le_of_ble_eq_true rfl) (Nat.le_of_ble_eq_true rfl) rfl ?_
      exact aw_weak (c_X5_haveSpots_20 l F t ht F (a0, 0, μ)) (aw_ss (aw_ss (aw_ss aw_s0)))
    · refine aw_iconst (n := 17) 0 dX5_haveSpots_16 rfl (by decide) ?_
      exact aw_zreturn (b := false) dX5_haveSpots_17 rfl rfl
abbrev k_X5_marksStanding : aw_K := (RX5, cX5_marksStanding, 4, (some .int), 5, 224)
def f_X5_marksStanding_33 (F : Nat) (t : Nat) (x1 : Int32) (μ : aw_M) : Option (Int32 × aw_M) :=
  (f_X5_marksOf F t x1 μ).bind fun r5 =>
  some (r5.1, r5.2)
theorem c_X5_marksStanding_33 (l : Launch) (F : Nat) (t : Nat) (ht : (aw_sh t).1 = 10) (x1 : Int32) (μ : aw_M) : AW l k_X5_marksStanding aw_gi 33 [some (.ref t), some (.int x1), none, none] [] μ (f_X5_marksStanding_33 F t x1 μ) := by
  unfold f_X5_marksStanding_33
  refine aw_aload_n (n := 34) dX5_marksStanding_33 rfl rfl ?_
  refine aw_iload_n (n := 35) dX5_marksStanding_34 rfl rfl ?_
  refine aw_callVi (n := 38) (as := [.int x1]) (st := []) (RX5, TX5, 12) 5 dX5_marksStanding_35 rfl rfl (m_X5_marksOf l F t ht x1 μ) ht (by decide) rfl rfl cw_RX5_51 ⟨Nat.le_of_ble_eq_true rfl, Nat.le_of_ble_eq_true rfl⟩ (fun _ => Nat.le_of_ble_eq_true rfl) (fun r5 => ?_)
  exact aw_ireturn dX5_marksStanding_38 rfl rfl
def f_X5_marksStanding_6 (F : Nat) (t : Nat) (k6 : Int32 × Int32 × Int32 × aw_M → Option (Int32 × aw_M)) (x1 : Int32) (x2 : Int32) (x3 : Int32) (μ : aw_M) : Option (Int32 × aw_M) :=
  (if (μ.1 (aw_rf t 0) 3) ≤ x3 then
  f_X5_marksStanding_33 F t x1 μ
  else
  (f_X5_standAt F t x3 ((x2 >>> (x3 &&& 31)) &&& 1) μ).bind fun r6 =>
  k6 (x1, x2, (x3 + 1), r6))
theorem c_X5_marksStanding_6 (l : Launch) (F : Nat) (t : Nat) (ht : (aw_sh t).1 = 10) : ∀ (N : Nat) (s : Int32 × Int32 × Int32 × aw_M), AW l k_X5_marksStanding aw_gi 6 [some (.ref t), some (.int s.1), some (.int s.2.1), some (.int s.2.2.1)] [] s.2.2.2 (aw_loop (fun k s => f_X5_marksStanding_6 F t k s.1 s.2.1 s.2.2.1 s.2.2.2) N s) := by
  refine aw_loop_ok (f := fun k s => f_X5_marksStanding_6 F t k s.1 s.2.1 s.2.2.1 s.2.2.2) (Ls := fun s => [some (.ref t), some (.int s.1), some (.int s.2.1), some (.int s.2.2.1)]) (ms := fun s => s.2.2.2) ?_
  intro k6 hk6 s
  obtain ⟨x1, x2, x3, μ⟩ := s
  show AW l k_X5_marksStanding aw_gi 6 [some (.ref t), some (.int x1), some (.int x2), some (.int x3)] [] μ (f_X5_marksStanding_6 F t k6 x1 x2 x3 μ)
  unfold f_X5_marksStanding_6
  refine aw_iload_n (n := 7) dX5_marksStanding_6 rfl rfl ?_
  refine aw_aload_n (n := 8) dX5_marksStanding_7 rfl rfl ?_
  refine aw_getR (n := 11) (RX5, TX5, 12) 5 0 dX5_marksStanding_8 rfl ht (by decide) fd_RX5_36 ?_
  refine aw_getI (n := 14) (RX8, TX8, 20) 8 3 dX5_marksStanding_11 rfl (sf_5_0 ht) (by decide) fd_RX5_70 ?_
  refine aw_icmp_ge (n := 17) 33 dX5_marksStanding_14 (by decide) rfl ?_ ?_
  · exact aw_weak (c_X5_marksStanding_33 l F t ht x1 μ) (aw_ss (aw_ss (aw_sn (aw_sn aw_s0))))
  · refine aw_aload_n (n := 18) dX5_marksStanding_17 rfl rfl ?_
    refine aw_iload_n (n := 19) dX5_marksStanding_18 rfl rfl ?_
    refine aw_iload_n (n := 20) dX5_marksStanding_19 rfl rfl ?_
    refine aw_iload_n (n := 21) dX5_marksStanding_20 rfl rfl ?_
    refine aw_ishr (n := 22) dX5_marksStanding_21 rfl ?_
    refine aw_iconst (n := 23) 1 dX5_marksStanding_22 rfl (by decide) ?_
    refine aw_iand (n := 24) dX5_marksStanding_23 rfl ?_
    refine aw_callVv (n := 27) (as := [.int x3, .int ((x2 >>> (x3 &&& 31)) &&& 1)]) (st := []) (RX5, TX5, 12) 5 dX5_marksStanding_24 rfl rfl (m_X5_standAt l F t ht x3 ((x2 >>> (x3 &&& 31)) &&& 1) μ) ht (by decide) rfl rfl cw_RX5_79 ⟨Nat.le_of_ble_eq_true rfl, Nat.le_of_ble_eq_true rfl⟩ (fun _ => Nat.le_of_ble_eq_true rfl) (fun r6 => ?_)
    refine aw_iinc (n := 30) (x3 + 1) [some (.ref t), some (.int x1), some (.int x2), some (.int (x3 + 1))] dX5_marksStanding_27 rfl rfl (by rfl) rfl (Nat.le_of_ble_eq_true rfl) rfl ?_
    refine aw_goto 6 dX5_marksStanding_30 (by decide) ?_
    exact aw_weak (hk6 (x1, x2, (x3 + 1), r6)) (aw_ss (aw_ss (aw_ss (aw_ss aw_s0))))
def f_X5_marksStanding (F : Nat) (t : Nat) (a0 : Int32) (a1 : Int32) (μ : aw_M) : Option (Int32 × aw_M) :=
  (f_X5_playAll F t μ).bind fun r4 =>
  aw_loop (fun k s => f_X5_marksStanding_6 F t k s.1 s.2.1 s.2.2.1 s.2.2.2) F (a0, a1, 0, r4)
theorem m_X5_marksStanding (l : Launch) (F : Nat) (t : Nat) (ht : (aw_sh t).1 = 10) (a0 : Int32) (a1 : Int32) (μ : aw_M) : AM l yX5_marksStanding cX5_marksStanding 4 (some .int) 5 224 aw_gi [.ref t, .int a0, .int a1] μ (f_X5_marksStanding F t a0 a1 μ) := by
  refine aw_met [some (.ref t), some (.int a0), some (.int a1), none] (by decide) (fun _ => rfl) (fun _ => Nat.le_of_ble_eq_true rfl) ?_
  show AW l k_X5_marksStanding aw_gi 0 [some (.ref t), some (.int a0), some (.int a1), none] [] μ _
  unfold f_X5_marksStanding
  refine aw_aload_n (n := 1) dX5_marksStanding_0 rfl rfl ?_
  refine aw_callVv (n := 4) (as := []) (st := []) (RX5, TX5, 12) 5 dX5_marksStanding_1 rfl rfl (m_X5_playAll l F t ht μ) ht (by decide) rfl rfl cw_RX5_48 ⟨Nat.le_of_ble_eq_true rfl, Nat.le_of_ble_eq_true rfl⟩ (fun _ => Nat.le_of_ble_eq_true rfl) (fun r4 => ?_)
  refine aw_iconst (n := 5) 0 dX5_marksStanding_4 rfl (by decide) ?_
  refine aw_istore_n (n := 6) [some (.ref t), some (.int a0), some (.int a1), some (.int 0)] dX5_marksStanding_5 rfl rfl (Nat.le_of_ble_eq_true rfl) (Nat.le_of_ble_eq_true rfl) rfl ?_
  exact aw_weak (c_X5_marksStanding_6 l F t ht F (a0, a1, 0, r4)) (aw_ss (aw_ss (aw_ss (aw_ss aw_s0))))
abbrev k_X5_fillHas : aw_K := (RX5, cX5_fillHas, 4, none, 5, 224)
def f_X5_fillHas_75 (F : Nat) (t : Nat) (k6 : Int32 × Int32 × aw_M → Option (aw_M)) (x1 : Int32) (x2 : Int32) (μ : aw_M) : Option (aw_M) :=
  k6 (x1, (x2 + 1), μ)
theorem c_X5_fillHas_75 (l : Launch) (F : Nat) (t : Nat) (ht : (aw_sh t).1 = 10) (k6 : Int32 × Int32 × aw_M → Option (aw_M)) (hk6 : ∀ s : Int32 × Int32 × aw_M, AW l k_X5_fillHas aw_gv 6 [some (.ref t), some (.int s.1), some (.int s.2.1), none] [] s.2.2 (k6 s)) (x1 : Int32) (x2 : Int32) (μ : aw_M) : AW l k_X5_fillHas aw_gv 75 [some (.ref t), some (.int x1), some (.int x2), none] [] μ (f_X5_fillHas_75 F t k6 x1 x2 μ) := by
  unfold f_X5_fillHas_75
  refine aw_iinc (n := 78) (x2 + 1) [some (.ref t), some (.int x1), some (.int (x2 + 1)), none] dX5_fillHas_75 rfl rfl (by rfl) rfl (Nat.le_of_ble_eq_true rfl) rfl ?_
  refine aw_goto 6 dX5_fillHas_78 (by decide) ?_
  exact aw_weak (hk6 (x1, (x2 + 1), μ)) (aw_ss (aw_ss (aw_ss (aw_sn aw_s0))))
def f_X5_fillHas_43 (F : Nat) (t : Nat) (k43 : Int32 × Int32 × Int32 × aw_M → Option (aw_M)) (k6 : Int32 × Int32 × aw_M → Option (aw_M)) (x1 : Int32) (x2 : Int32) (x3 : Int32) (μ : aw_M) : Option (aw_M) :=
  (if x1 ≤ x3 then
  f_X5_fillHas_75 F t k6 x1 x2 μ
  else
  aw_g (aw_in x3 6) ((f_X5_marksOf F t (μ.1 (aw_rf t 8) x3.toNatClampNeg) μ).bind fun r10 =>
  aw_g (aw_in ((x2 * 6) + x3) 384) (aw_let (aw_wI r10.2 (aw_rf t 9) ((x2 * 6) + x3).toNatClampNeg r10.1) fun μ11 =>
  k43 (x1, x2, (x3 + 1), μ11))))
theorem c_X5_fillHas_43 (l : Launch) (F : Nat) (t : Nat) (ht : (aw_sh t).1 = 10) (k6 : Int32 × Int32 × aw_M → Option (aw_M)) (hk6 : ∀ s : Int32 × Int32 × aw_M, AW l k_X5_fillHas aw_gv 6 [some (.ref t), some (.int s.1), some (.int s.2.1), none] [] s.2.2 (k6 s)) : ∀ (N : Nat) (s : Int32 × Int32 × Int32 × aw_M), AW l k_X5_fillHas aw_gv 43 [some (.ref t), some (.int s.1), some (.int s.2.1), some (.int s.2.2.1)] [] s.2.2.2 (aw_loop (fun k s => f_X5_fillHas_43 F t k k6 s.1 s.2.1 s.2.2.1 s.2.2.2) N s) := by
  refine aw_loop_ok (f := fun k s => f_X5_fillHas_43 F t k k6 s.1 s.2.1 s.2.2.1 s.2.2.2) (Ls := fun s => [some (.ref t), some (.int s.1), some (.int s.2.1), some (.int s.2.2.1)]) (ms := fun s => s.2.2.2) ?_
  intro k43 hk43 s
  obtain ⟨x1, x2, x3, μ⟩ := s
  show AW l k_X5_fillHas aw_gv 43 [some (.ref t), some (.int x1), some (.int x2), some (.int x3)] [] μ (f_X5_fillHas_43 F t k43 k6 x1 x2 x3 μ)
  unfold f_X5_fillHas_43
  refine aw_iload_n (n := 44) dX5_fillHas_43 rfl rfl ?_
  refine aw_iload_n (n := 45) dX5_fillHas_44 rfl rfl ?_
  refine aw_icmp_ge (n := 48) 75 dX5_fillHas_45 (by decide) rfl ?_ ?_
  · exact aw_weak (c_X5_fillHas_75 l F t ht k6 hk6 x1 x2 μ) (aw_ss (aw_ss (aw_ss (aw_sn aw_s0))))
  · refine aw_aload_n (n := 49) dX5_fillHas_48 rfl rfl ?_
    refine aw_getR (n := 52) (RX5, TX5, 12) 5 9 dX5_fillHas_49 rfl ht (by decide) fd_RX5_30 ?_
    refine aw_iload_n (n := 53) dX5_fillHas_52 rfl rfl ?_
    refine aw_bipush (n := 55) 6 dX5_fillHas_53 rfl (by decide) ?_
    refine aw_imul (n := 56) dX5_fillHas_55 rfl ?_
    refine aw_iload_n (n := 57) dX5_fillHas_56 rfl rfl ?_
    refine aw_iadd (n := 58) dX5_fillHas_57 rfl ?_
    refine aw_aload_n (n := 59) dX5_fillHas_58 rfl rfl ?_
    refine aw_aload_n (n := 60) dX5_fillHas_59 rfl rfl ?_
    refine aw_getR (n := 63) (RX5, TX5, 12) 5 8 dX5_fillHas_60 rfl ht (by decide) fd_RX5_27 ?_
    refine aw_iload_n (n := 64) dX5_fillHas_63 rfl rfl ?_
    refine aw_iaload (n := 65) 6 dX5_fillHas_64 rfl (sf_5_8 ht) ?_
    refine aw_callVi (n := 68) (as := [.int (μ.1 (aw_rf t 8) x3.toNatClampNeg)]) (st := [.int ((x2 * 6) + x3), .ref (aw_rf t 9)]) (RX5, TX5, 12) 5 dX5_fillHas_65 rfl rfl (m_X5_marksOf l F t ht (μ.1 (aw_rf t 8) x3.toNatClampNeg) μ) ht (by decide) rfl rfl cw_RX5_51 ⟨Nat.le_of_ble_eq_true rfl, Nat.le_of_ble_eq_true rfl⟩ (fun _ => Nat.le_of_ble_eq_true rfl) (fun r10 => ?_)
    refine aw_iastore (n := 69) 384 dX5_fillHas_68 rfl (sf_5_9 ht) (fun μ11 => ?_)
    refine aw_iinc (n := 72) (x3 + 1) [some (.ref t), some (.int x1), some (.int x2), some (.int (x3 + 1))] dX5_fillHas_69 rfl rfl (by rfl) rfl (Nat.le_of_ble_eq_true rfl) rfl ?_
    refine aw_goto 43 dX5_fillHas_72 (by decide) ?_
    exact aw_weak (hk43 (x1, x2, (x3 + 1), μ11)) (aw_ss (aw_ss (aw_ss (aw_ss aw_s0))))
def f_X5_fillHas_41 (F : Nat) (t : Nat) (k6 : Int32 × Int32 × aw_M → Option (aw_M)) (x1 : Int32) (x2 : Int32) (μ : aw_M) : Option (aw_M) :=
  aw_loop (fun k s => f_X5_fillHas_43 F t k k6 s.1 s.2.1 s.2.2.1 s.2.2.2) F (x1, x2, 0, μ)
theorem c_X5_fillHas_41 (l : Launch) (F : Nat) (t : Nat) (ht : (aw_sh t).1 = 10) (k6 : Int32 × Int32 × aw_M → Option (aw_M)) (hk6 : ∀ s : Int32 × Int32 × aw_M, AW l k_X5_fillHas aw_gv 6 [some (.ref t), some (.int s.1), some (.int s.2.1), none] [] s.2.2 (k6 s)) (x1 : Int32) (x2 : Int32) (μ : aw_M) : AW l k_X5_fillHas aw_gv 41 [some (.ref t), some (.int x1), some (.int x2), none] [] μ (f_X5_fillHas_41 F t k6 x1 x2 μ) := by
  unfold f_X5_fillHas_41
  refine aw_iconst (n := 42) 0 dX5_fillHas_41 rfl (by decide) ?_
  refine aw_istore_n (n := 43) [some (.ref t), some (.int x1), some (.int x2), some (.int 0)] dX5_fillHas_42 rfl rfl (Nat.le_of_ble_eq_true rfl) (Nat.le_of_ble_eq_true rfl) rfl ?_
  exact aw_weak (c_X5_fillHas_43 l F t ht k6 hk6 F (x1, x2, 0, μ)) (aw_ss (aw_ss (aw_ss (aw_ss aw_s0))))
def f_X5_fillHas_15 (F : Nat) (t : Nat) (k15 : Int32 × Int32 × Int32 × aw_M → Option (aw_M)) (k6 : Int32 × Int32 × aw_M → Option (aw_M)) (x1 : Int32) (x2 : Int32) (x3 : Int32) (μ : aw_M) : Option (aw_M) :=
  (if x1 ≤ x3 then
  f_X5_fillHas_41 F t k6 x1 x2 μ
  else
  aw_g (aw_in x3 6) ((f_X5_standAt F t (μ.1 (aw_rf t 8) x3.toNatClampNeg) ((x2 >>> (x3 &&& 31)) &&& 1) μ).bind fun r12 =>
  k15 (x1, x2, (x3 + 1), r12)))
theorem c_X5_fillHas_15 (l : Launch) (F : Nat) (t : Nat) (ht : (aw_sh t).1 = 10) (k6 : Int32 × Int32 × aw_M → Option (aw_M)) (hk6 : ∀ s : Int32 × Int32 × aw_M, AW l k_X5_fillHas aw_gv 6 [some (.ref t), some (.int s.1), some (.int s.2.1), none] [] s.2.2 (k6 s)) : ∀ (N : Nat) (s : Int32 × Int32 × Int32 × aw_M), AW l k_X5_fillHas aw_gv 15 [some (.ref t), some (.int s.1), some (.int s.2.1), some (.int s.2.2.1)] [] s.2.2.2 (aw_loop (fun k s => f_X5_fillHas_15 F t k k6 s.1 s.2.1 s.2.2.1 s.2.2.2) N s) := by
  refine aw_loop_ok (f := fun k s => f_X5_fillHas_15 F t k k6 s.1 s.2.1 s.2.2.1 s.2.2.2) (Ls := fun s => [some (.ref t), some (.int s.1), some (.int s.2.1), some (.int s.2.2.1)]) (ms := fun s => s.2.2.2) ?_
  intro k15 hk15 s
  obtain ⟨x1, x2, x3, μ⟩ := s
  show AW l k_X5_fillHas aw_gv 15 [some (.ref t), some (.int x1), some (.int x2), some (.int x3)] [] μ (f_X5_fillHas_15 F t k15 k6 x1 x2 x3 μ)
  unfold f_X5_fillHas_15
  refine aw_iload_n (n := 16) dX5_fillHas_15 rfl rfl ?_
  refine aw_iload_n (n := 17) dX5_fillHas_16 rfl rfl ?_
  refine aw_icmp_ge (n := 20) 41 dX5_fillHas_17 (by decide) rfl ?_ ?_
  · exact aw_weak (c_X5_fillHas_41 l F t ht k6 hk6 x1 x2 μ) (aw_ss (aw_ss (aw_ss (aw_sn aw_s0))))
  · refine aw_aload_n (n := 21) dX5_fillHas_20 rfl rfl ?_
    refine aw_aload_n (n := 22) dX5_fillHas_21 rfl rfl ?_
    refine aw_getR (n := 25) (RX5, TX5, 12) 5 8 dX5_fillHas_22 rfl ht (by decide) fd_RX5_27 ?_
    refine aw_iload_n (n := 26) dX5_fillHas_25 rfl rfl ?_
    refine aw_iaload (n := 27) 6 dX5_fillHas_26 rfl (sf_5_8 ht) ?_
    refine aw_iload_n (n := 28) dX5_fillHas_27 rfl rfl ?_
    refine aw_iload_n (n := 29) dX5_fillHas_28 rfl rfl ?_
    refine aw_ishr (n := 30) dX5_fillHas_29 rfl ?_
    refine aw_iconst (n := 31) 1 dX5_fillHas_30 rfl (by decide) ?_
    refine aw_iand (n := 32) dX5_fillHas_31 rfl ?_
    refine aw_callVv (n := 35) (as := [.int (μ.1 (aw_rf t 8) x3.toNatClampNeg), .int ((x2 >>> (x3 &&& 31)) &&& 1)]) (st := []) (RX5, TX5, 12) 5 dX5_fillHas_32 rfl rfl (m_X5_standAt l F t ht (μ.1 (aw_rf t 8) x3.toNatClampNeg) ((x2 >>> (x3 &&& 31)) &&& 1) μ) ht (by decide) rfl rfl cw_RX5_79 ⟨Nat.le_of_ble_eq_true rfl, Nat.le_of_ble_eq_true rfl⟩ (fun _ => Nat.le_of_ble_eq_true rfl) (fun r12 => ?_)
    refine aw_iinc (n := 38) (x3 + 1) [some (.ref t), some (.int x1), some (.int x2), some (.int (x3 + 1))] dX5_fillHas_35 rfl rfl (by rfl) rfl (Nat.le_of_ble_eq_true rfl) rfl ?_
    refine aw_goto 15 dX5_fillHas_38 (by decide) ?_
    exact aw_weak (hk15 (x1, x2, (x3 + 1), r12)) (aw_ss (aw_ss (aw_ss (aw_ss aw_s0))))
def f_X5_fillHas_6 (F : Nat) (t : Nat) (k6 : Int32 × Int32 × aw_M → Option (aw_M)) (x1 : Int32) (x2 : Int32) (μ : aw_M) : Option (aw_M) :=
  (if (1 <<< (x1 &&& 31)) ≤ x2 then
  some μ
  else
  aw_loop (fun k s => f_X5_fillHas_15 F t k k6 s.1 s.2.1 s.2.2.1 s.2.2.2) F (x1, x2, 0, μ))
theorem c_X5_fillHas_6 (l : Launch) (F : Nat) (t : Nat) (ht : (aw_sh t).1 = 10) : ∀ (N : Nat) (s : Int32 × Int32 × aw_M), AW l k_X5_fillHas aw_gv 6 [some (.ref t), some (.int s.1), some (.int s.2.1), none] [] s.2.2 (aw_loop (fun k s => f_X5_fillHas_6 F t k s.1 s.2.1 s.2.2) N s) := by
  refine aw_loop_ok (f := fun k s => f_X5_fillHas_6 F t k s.1 s.2.1 s.2.2) (Ls := fun s => [some (.ref t), some (.int s.1), some (.int s.2.1), none]) (ms := fun s => s.2.2) ?_
  intro k6 hk6 s
  obtain ⟨x1, x2, μ⟩ := s
  show AW l k_X5_fillHas aw_gv 6 [some (.ref t), some (.int x1), some (.int x2), none] [] μ (f_X5_fillHas_6 F t k6 x1 x2 μ)
  unfold f_X5_fillHas_6
  refine aw_iload_n (n := 7) dX5_fillHas_6 rfl rfl ?_
  refine aw_iconst (n := 8) 1 dX5_fillHas_7 rfl (by decide) ?_
  refine aw_iload_n (n := 9) dX5_fillHas_8 rfl rfl ?_
  refine aw_ishl (n := 10) dX5_fillHas_9 rfl ?_
  refine aw_icmp_ge (n := 13) 81 dX5_fillHas_10 (by decide) rfl ?_ ?_
  · exact aw_vreturn dX5_fillHas_81 rfl rfl
  · refine aw_iconst (n := 14) 0 dX5_fillHas_13 rfl (by decide) ?_
    refine aw_istore_n (n := 15) [some (.ref t), some (.int x1), some (.int x2), some (.int 0)] dX5_fillHas_14 rfl rfl (Nat.le_of_ble_eq_true rfl) (Nat.le_of_ble_eq_true rfl) rfl ?_
    exact aw_weak (c_X5_fillHas_15 l F t ht k6 hk6 F (x1, x2, 0, μ)) (aw_ss (aw_ss (aw_ss (aw_ss aw_s0))))
def f_X5_fillHas (F : Nat) (t : Nat) (a0 : Int32) (μ : aw_M) : Option (aw_M) :=
  (f_X5_playAll F t μ).bind fun r9 =>
  aw_loop (fun k s => f_X5_fillHas_6 F t k s.1 s.2.1 s.2.2) F (a0, 0, r9)
theorem m_X5_fillHas (l : Launch) (F : Nat) (t : Nat) (ht : (aw_sh t).1 = 10) (a0 : Int32) (μ : aw_M) : AM l yX5_fillHas cX5_fillHas 4 none 5 224 aw_gv [.ref t, .int a0] μ (f_X5_fillHas F t a0 μ) := by
  refine aw_met [some (.ref t), some (.int a0), none, none] (by decide) (fun _ => rfl) (fun _ => Nat.le_of_ble_eq_true rfl) ?_
  show AW l k_X5_fillHas aw_gv 0 [some (.ref t), some (.int a0), none, none] [] μ _
  unfold f_X5_fillHas
  refine aw_aload_n (n := 1) dX5_fillHas_0 rfl rfl ?_
  refine aw_callVv (n := 4) (as := []) (st := []) (RX5, TX5, 12) 5 dX5_fillHas_1 rfl rfl (m_X5_playAll l F t ht μ) ht (by decide) rfl rfl cw_RX5_48 ⟨Nat.le_of_ble_eq_true rfl, Nat.le_of_ble_eq_true rfl⟩ (fun _ => Nat.le_of_ble_eq_true rfl) (fun r9 => ?_)
  refine aw_iconst (n := 5) 0 dX5_fillHas_4 rfl (by decide) ?_
  refine aw_istore_n (n := 6) [some (.ref t), some (.int a0), some (.int 0), none] dX5_fillHas_5 rfl rfl (Nat.le_of_ble_eq_true rfl) (Nat.le_of_ble_eq_true rfl) rfl ?_
  exact aw_weak (c_X5_fillHas_6 l F t ht F (a0, 0, r9)) (aw_ss (aw_ss (aw_ss (aw_sn aw_s0))))
abbrev k_X5_isAtRest : aw_K := (RX5, cX5_isAtRest, 5, (some .boolean), 1, 120)
def f_X5_isAtRest_2 (F : Nat) (t : Nat) (k2 : Int32 × Int32 × Int32 × aw_M → Option (Bool × aw_M)) (x1 : Int32) (x2 : Int32) (x3 : Int32) (μ : aw_M) : Option (Bool × aw_M) :=
  (if x2 ≤ x3 then
  some (true, μ)
  else
  aw_let ((x1 ^^^ (1 <<< (x3 &&& 31)))) fun v2 =>
  aw_g (aw_in ((v2 * 6) + x3) 384) (aw_g (aw_in ((x1 * 6) + x3) 384) ((if (μ.1 (aw_rf t 9) ((v2 * 6) + x3).toNatClampNeg) ≤ (μ.1 (aw_rf t 9) ((x1 * 6) + x3).toNatClampNeg) then
  k2 (x1, x2, (x3 + 1), μ)
  else
  some (false, μ)))))
theorem c_X5_isAtRest_2 (l : Launch) (F : Nat) (t : Nat) (ht : (aw_sh t).1 = 10) : ∀ (N : Nat) (s : Int32 × Int32 × Int32 × aw_M), AW l k_X5_isAtRest aw_gz 2 [some (.ref t), some (.int s.1), some (.int s.2.1), some (.int s.2.2.1), none] [] s.2.2.2 (aw_loop (fun k s => f_X5_isAtRest_2 F t k s.1 s.2.1 s.2.2.1 s.2.2.2) N s) := by
  refine aw_loop_ok (f := fun k s => f_X5_isAtRest_2 F t k s.1 s.2.1 s.2.2.1 s.2.2.2) (Ls := fun s => [some (.ref t), some (.int s.1), some (.int s.2.1), some (.int s.2.2.1), none]) (ms := fun s => s.2.2.2) ?_
  intro k2 hk2 s
  obtain ⟨x1, x2, x3, μ⟩ := s
  show AW l k_X5_isAtRest aw_gz 2 [some (.ref t), some (.int x1), some (.int x2), some (.int x3), none] [] μ (f_X5_isAtRest_2 F t k2 x1 x2 x3 μ)
  unfold f_X5_isAtRest_2
  refine aw_iload_n (n := 3) dX5_isAtRest_2 rfl rfl ?_
  refine aw_iload_n (n := 4) dX5_isAtRest_3 rfl rfl ?_
  refine aw_icmp_ge (n := 7) 48 dX5_isAtRest_4 (by decide) rfl ?_ ?_
  · refine aw_iconst (n := 49) 1 dX5_isAtRest_48 rfl (by decide) ?_
    exact aw_zreturn (b := true) dX5_isAtRest_49 rfl rfl
  · refine aw_iload_n (n := 8) dX5_isAtRest_7 rfl rfl ?_
    refine aw_iconst (n := 9) 1 dX5_isAtRest_8 rfl (by decide) ?_
    refine aw_iload_n (n := 10) dX5_isAtRest_9 rfl rfl ?_
    refine aw_ishl (n := 11) dX5_isAtRest_10 rfl ?_
    refine aw_ixor (n := 12) dX5_isAtRest_11 rfl ?_
    refine aw_nmI (fun v2 => ?_)
    refine aw_istore (n := 14) [some (.ref t), some (.int x1), some (.int x2), some (.int x3), some (.int v2)] dX5_isAtRest_12 rfl rfl (Nat.le_of_ble_eq_true rfl) (Nat.le_of_ble_eq_true rfl) rfl ?_
    refine aw_aload_n (n := 15) dX5_isAtRest_14 rfl rfl ?_
    refine aw_getR (n := 18) (RX5, TX5, 12) 5 9 dX5_isAtRest_15 rfl ht (by decide) fd_RX5_30 ?_
    refine aw_iload (n := 20) dX5_isAtRest_18 rfl rfl ?_
    refine aw_bipush (n := 22) 6 dX5_isAtRest_20 rfl (by decide) ?_
    refine aw_imul (n := 23) dX5_isAtRest_22 rfl ?_
    refine aw_iload_n (n := 24) dX5_isAtRest_23 rfl rfl ?_
    refine aw_iadd (n := 25) dX5_isAtRest_24 rfl ?_
    refine aw_iaload (n := 26) 384 dX5_isAtRest_25 rfl (sf_5_9 ht) ?_
    refine aw_aload_n (n := 27) dX5_isAtRest_26 rfl rfl ?_
    refine aw_getR (n := 30) (RX5, TX5, 12) 5 9 dX5_isAtRest_27 rfl ht (by decide) fd_RX5_30 ?_
    refine aw_iload_n (n := 31) dX5_isAtRest_30 rfl rfl ?_
    refine aw_bipush (n := 33) 6 dX5_isAtRest_31 rfl (by decide) ?_
    refine aw_imul (n := 34) dX5_isAtRest_33 rfl ?_
    refine aw_iload_n (n := 35) dX5_isAtRest_34 rfl rfl ?_
    refine aw_iadd (n := 36) dX5_isAtRest_35 rfl ?_
    refine aw_iaload (n := 37) 384 dX5_isAtRest_36 rfl (sf_5_9 ht) ?_
    refine aw_icmp_le (n := 40) 42 dX5_isAtRest_37 (by decide) rfl ?_ ?_
    · refine aw_iinc (n := 45) (x3 + 1) [some (.ref t), some (.int x1), some (.int x2), some (.int (x3 + 1)), some (.int v2)] dX5_isAtRest_42 rfl rfl (by rfl) rfl (Nat.le_of_ble_eq_true rfl) rfl ?_
      refine aw_goto 2 dX5_isAtRest_45 (by decide) ?_
      exact aw_weak (hk2 (x1, x2, (x3 + 1), μ)) (aw_ss (aw_ss (aw_ss (aw_ss (aw_sn aw_s0)))))
    · refine aw_iconst (n := 41) 0 dX5_isAtRest_40 rfl (by decide) ?_
      exact aw_zreturn (b := false) dX5_isAtRest_41 rfl rfl
def f_X5_isAtRest (F : Nat) (t : Nat) (a0 : Int32) (a1 : Int32) (μ : aw_M) : Option (Bool × aw_M) :=
  aw_loop (fun k s => f_X5_isAtRest_2 F t k s.1 s.2.1 s.2.2.1 s.2.2.2) F (a0, a1, 0, μ)
theorem m_X5_isAtRest (l : Launch) (F : Nat) (t : Nat) (ht : (aw_sh t).1 = 10) (a0 : Int32) (a1 : Int32) (μ : aw_M) : AM l yX5_isAtRest cX5_isAtRest 5 (some .boolean) 1 120 aw_gz [.ref t, .int a0, .int a1] μ (f_X5_isAtRest F t a0 a1 μ) := by
  refine aw_met [some (.ref t), some (.int a0), some (.int a1), none, none] (by decide) (fun _ => rfl) (fun _ => Nat.le_of_ble_eq_true rfl) ?_
  show AW l k_X5_isAtRest aw_gz 0 [some (.ref t), some (.int a0), some (.int a1), none, none] [] μ _
  unfold f_X5_isAtRest
  refine aw_iconst (n := 1) 0 dX5_isAtRest_0 rfl (by decide) ?_
  refine aw_istore_n (n := 2) [some (.ref t), some (.int a0), some (.int a1), some (.int 0), none] dX5_isAtRest_1 rfl rfl (Nat.le_of_ble_eq_true rfl) (Nat.le_of_ble_eq_true rfl) rfl ?_
  exact aw_weak (c_X5_isAtRest_2 l F t ht F (a0, a1, 0, μ)) (aw_ss (aw_ss (aw_ss (aw_ss (aw_sn aw_s0)))))
abbrev k_X5_listSpotted : aw_K := (RX5, cX5_listSpotted, 3, (some .int), 1, 120)
def f_X5_listSpotted_44 (F : Nat) (t : Nat) (k4 : Int32 × Int32 × aw_M → Option (Int32 × aw_M)) (x1 : Int32) (x2 : Int32) (μ : aw_M) : Option (Int32 × aw_M) :=
  k4 (x1, (x2 + 1), μ)
theorem c_X5_listSpotted_44 (l : Launch) (F : Nat) (t : Nat) (ht : (aw_sh t).1 = 10) (k4 : Int32 × Int32 × aw_M → Option (Int32 × aw_M)) (hk4 : ∀ s : Int32 × Int32 × aw_M, AW l k_X5_listSpotted aw_gi 4 [some (.ref t), some (.int s.1), some (.int s.2.1)] [] s.2.2 (k4 s)) (x1 : Int32) (x2 : Int32) (μ : aw_M) : AW l k_X5_listSpotted aw_gi 44 [some (.ref t), some (.int x1), some (.int x2)] [] μ (f_X5_listSpotted_44 F t k4 x1 x2 μ) := by
  unfold f_X5_listSpotted_44
  refine aw_iinc (n := 47) (x2 + 1) [some (.ref t), some (.int x1), some (.int (x2 + 1))] dX5_listSpotted_44 rfl rfl (by rfl) rfl (Nat.le_of_ble_eq_true rfl) rfl ?_
  refine aw_goto 4 dX5_listSpotted_47 (by decide) ?_
  exact aw_weak (hk4 (x1, (x2 + 1), μ)) (aw_ss (aw_ss (aw_ss aw_s0)))
def f_X5_listSpotted_41 (F : Nat) (t : Nat) (k4 : Int32 × Int32 × aw_M → Option (Int32 × aw_M)) (x1 : Int32) (x2 : Int32) (μ : aw_M) : Option (Int32 × aw_M) :=
  f_X5_listSpotted_44 F t k4 (x1 + 1) x2 μ
theorem c_X5_listSpotted_41 (l : Launch) (F : Nat) (t : Nat) (ht : (aw_sh t).1 = 10) (k4 : Int32 × Int32 × aw_M → Option (Int32 × aw_M)) (hk4 : ∀ s : Int32 × Int32 × aw_M, AW l k_X5_listSpotted aw_gi 4 [some (.ref t), some (.int s.1), some (.int s.2.1)] [] s.2.2 (k4 s)) (x1 : Int32) (x2 : Int32) (μ : aw_M) : AW l k_X5_listSpotted aw_gi 41 [some (.ref t), some (.int x1), some (.int x2)] [] μ (f_X5_listSpotted_41 F t k4 x1 x2 μ) := by
  unfold f_X5_listSpotted_41
  refine aw_iinc (n := 44) (x1 + 1) [some (.ref t), some (.int (x1 + 1)), some (.int x2)] dX5_listSpotted_41 rfl rfl (by rfl) rfl (Nat.le_of_ble_eq_true rfl) rfl ?_
  exact aw_weak (c_X5_listSpotted_44 l F t ht k4 hk4 (x1 + 1) x2 μ) (aw_ss (aw_ss (aw_ss aw_s0)))
def f_X5_listSpotted_4 (F : Nat) (t : Nat) (k4 : Int32 × Int32 × aw_M → Option (Int32 × aw_M)) (x1 : Int32) (x2 : Int32) (μ : aw_M) : Option (Int32 × aw_M) :=
  (if (μ.1 (aw_rf t 0) 3) ≤ x2 then
  some (x1, μ)
  else
  aw_g (aw_in x2 9) ((if (μ.1 (aw_rf (aw_rf t 0) 9) x2.toNatClampNeg) = (-1) then
  f_X5_listSpotted_44 F t k4 x1 x2 μ
  else
  (if 6 ≤ x1 then
  f_X5_listSpotted_41 F t k4 x1 x2 μ
  else
  aw_g (aw_in x1 6) (aw_let (aw_wI μ (aw_rf t 8) x1.toNatClampNeg x2) fun μ4 =>
  f_X5_listSpotted_41 F t k4 x1 x2 μ4)))))
theorem c_X5_listSpotted_4 (l : Launch) (F : Nat) (t : Nat) (ht : (aw_sh t).1 = 10) : ∀ (N : Nat) (s : Int32 × Int32 × aw_M), AW l k_X5_listSpotted aw_gi 4 [some (.ref t), some (.int s.1), some (.int s.2.1)] [] s.2.2 (aw_loop (fun k s => f_X5_listSpotted_4 F t k s.1 s.2.1 s.2.2) N s) := by
  refine aw_loop_ok (f := fun k s => f_X5_listSpotted_4 F t k s.1 s.2.1 s.2.2) (Ls := fun s => [some (.ref t), some (.int s.1), some (.int s.2.1)]) (ms := fun s => s.2.2) ?_
  intro k4 hk4 s
  obtain ⟨x1, x2, μ⟩ := s
  show AW l k_X5_listSpotted aw_gi 4 [some (.ref t), some (.int x1), some (.int x2)] [] μ (f_X5_listSpotted_4 F t k4 x1 x2 μ)
  unfold f_X5_listSpotted_4
  refine aw_iload_n (n := 5) dX5_listSpotted_4 rfl rfl ?_
  refine aw_aload_n (n := 6) dX5_listSpotted_5 rfl rfl ?_
  refine aw_getR (n := 9) (RX5, TX5, 12) 5 0 dX5_listSpotted_6 rfl ht (by decide) fd_RX5_36 ?_
  refine aw_getI (n := 12) (RX8, TX8, 20) 8 3 dX5_listSpotted_9 rfl (sf_5_0 ht) (by decide) fd_RX5_70 ?_
  refine aw_icmp_ge (n := 15) 50 dX5_listSpotted_12 (by decide) rfl ?_ ?_
  · refine aw_iload_n (n := 51) dX5_listSpotted_50 rfl rfl ?_
    exact aw_ireturn dX5_listSpotted_51 rfl rfl
  · refine aw_aload_n (n := 16) dX5_listSpotted_15 rfl rfl ?_
    refine aw_getR (n := 19) (RX5, TX5, 12) 5 0 dX5_listSpotted_16 rfl ht (by decide) fd_RX5_36 ?_
    refine aw_getR (n := 22) (RX8, TX8, 20) 8 9 dX5_listSpotted_19 rfl (sf_5_0 ht) (by decide) fd_RX5_76 ?_
    refine aw_iload_n (n := 23) dX5_listSpotted_22 rfl rfl ?_
    refine aw_iaload (n := 24) 9 dX5_listSpotted_23 rfl (sf_8_9 (sf_5_0 ht)) ?_
    refine aw_iconst (n := 25) (-1) dX5_listSpotted_24 rfl (by decide) ?_
    refine aw_icmp_eq (n := 28) 44 dX5_listSpotted_25 (by decide) rfl ?_ ?_
    · exact aw_weak (c_X5_listSpotted_44 l F t ht k4 hk4 x1 x2 μ) (aw_ss (aw_ss (aw_ss aw_s0)))
    · refine aw_iload_n (n := 29) dX5_listSpotted_28 rfl rfl ?_
      refine aw_bipush (n := 31) 6 dX5_listSpotted_29 rfl (by decide) ?_
      refine aw_icmp_ge (n := 34) 41 dX5_listSpotted_31 (by decide) rfl ?_ ?_
      · exact aw_weak (c_X5_listSpotted_41 l F t ht k4 hk4 x1 x2 μ) (aw_ss (aw_ss (aw_ss aw_s0)))
      · refine aw_aload_n (n := 35) dX5_listSpotted_34 rfl rfl ?_
        refine aw_getR (n := 38) (RX5, TX5, 12) 5 8 dX5_listSpotted_35 rfl ht (by decide) fd_RX5_27 ?_
        refine aw_iload_n (n := 39) dX5_listSpotted_38 rfl rfl ?_
        refine aw_iload_n (n := 40) dX5_listSpotted_39 rfl rfl ?_
        refine aw_iastore (n := 41) 6 dX5_listSpotted_40 rfl (sf_5_8 ht) (fun μ4 => ?_)
        exact aw_weak (c_X5_listSpotted_41 l F t ht k4 hk4 x1 x2 μ4) (aw_ss (aw_ss (aw_ss aw_s0)))
def f_X5_listSpotted (F : Nat) (t : Nat) (μ : aw_M) : Option (Int32 × aw_M) :=
  aw_loop (fun k s => f_X5_listSpotted_4 F t k s.1 s.2.1 s.2.2) F (0, 0, μ)
theorem m_X5_listSpotted (l : Launch) (F : Nat) (t : Nat) (ht : (aw_sh t).1 = 10) (μ : aw_M) : AM l yX5_listSpotted cX5_listSpotted 3 (some .int) 1 120 aw_gi [.ref t] μ (f_X5_listSpotted F t μ) := by
  refine aw_met [some (.ref t), none, none] (by decide) (fun _ => rfl) (fun _ => Nat.le_of_ble_eq_true rfl) ?_
  show AW l k_X5_listSpotted aw_gi 0 [some (.ref t), none, none] [] μ _
  unfold f_X5_listSpotted
  refine aw_iconst (n := 1) 0 dX5_listSpotted_0 rfl (by decide) ?_
  refine aw_istore_n (n := 2) [some (.ref t), some (.int 0), none] dX5_listSpotted_1 rfl rfl (Nat.le_of_ble_eq_true rfl) (Nat.le_of_ble_eq_true rfl) rfl ?_
  refine aw_iconst (n := 3) 0 dX5_listSpotted_2 rfl (by decide) ?_
  refine aw_istore_n (n := 4) [some (.ref t), some (.int 0), some (.int 0)] dX5_listSpotted_3 rfl rfl (Nat.le_of_ble_eq_true rfl) (Nat.le_of_ble_eq_true rfl) rfl ?_
  exact aw_weak (c_X5_listSpotted_4 l F t ht F (0, 0, μ)) (aw_ss (aw_ss (aw_ss aw_s0)))
abbrev k_X5_spotsOf : aw_K := (RX5, cX5_spotsOf, 5, (some .int), 1, 120)
def f_X5_spotsOf_5 (F : Nat) (t : Nat) (k5 : Int32 × Int32 × Int32 × Int32 × aw_M → Option (Int32 × aw_M)) (x1 : Int32) (x2 : Int32) (x3 : Int32) (x4 : Int32) (μ : aw_M) : Option (Int32 × aw_M) :=
  (if x2 ≤ x4 then
  some (x3, μ)
  else
  aw_g (aw_in x4 6) (aw_let ((x3 ||| (((x1 >>> (x4 &&& 31)) &&& 1) <<< ((μ.1 (aw_rf t 8) x4.toNatClampNeg) &&& 31)))) fun v2 =>
  k5 (x1, x2, v2, (x4 + 1), μ)))
theorem c_X5_spotsOf_5 (l : Launch) (F : Nat) (t : Nat) (ht : (aw_sh t).1 = 10) : ∀ (N : Nat) (s : Int32 × Int32 × Int32 × Int32 × aw_M), AW l k_X5_spotsOf aw_gi 5 [some (.ref t), some (.int s.1), some (.int s.2.1), some (.int s.2.2.1), some (.int s.2.2.2.1)] [] s.2.2.2.2 (aw_loop (fun k s => f_X5_spotsOf_5 F t k s.1 s.2.1 s.2.2.1 s.2.2.2.1 s.2.2.2.2) N s) := by
  refine aw_loop_ok (f := fun k s => f_X5_spotsOf_5 F t k s.1 s.2.1 s.2.2.1 s.2.2.2.1 s.2.2.2.2) (Ls := fun s => [some (.ref t), some (.int s.1), some (.int s.2.1), some (.int s.2.2.1), some (.int s.2.2.2.1)]) (ms := fun s => s.2.2.2.2) ?_
  intro k5 hk5 s
  obtain ⟨x1, x2, x3, x4, μ⟩ := s
  show AW l k_X5_spotsOf aw_gi 5 [some (.ref t), some (.int x1), some (.int x2), some (.int x3), some (.int x4)] [] μ (f_X5_spotsOf_5 F t k5 x1 x2 x3 x4 μ)
  unfold f_X5_spotsOf_5
  refine aw_iload (n := 7) dX5_spotsOf_5 rfl rfl ?_
  refine aw_iload_n (n := 8) dX5_spotsOf_7 rfl rfl ?_
  refine aw_icmp_ge (n := 11) 34 dX5_spotsOf_8 (by decide) rfl ?_ ?_
  · refine aw_iload_n (n := 35) dX5_spotsOf_34 rfl rfl ?_
    exact aw_ireturn dX5_spotsOf_35 rfl rfl
  · refine aw_iload_n (n := 12) dX5_spotsOf_11 rfl rfl ?_
    refine aw_iload_n (n := 13) dX5_spotsOf_12 rfl rfl ?_
    refine aw_iload (n := 15) dX5_spotsOf_13 rfl rfl ?_
    refine aw_ishr (n := 16) dX5_spotsOf_15 rfl ?_
    refine aw_iconst (n := 17) 1 dX5_spotsOf_16 rfl (by decide) ?_
    refine aw_iand (n := 18) dX5_spotsOf_17 rfl ?_
    refine aw_aload_n (n := 19) dX5_spotsOf_18 rfl rfl ?_
    refine aw_getR (n := 22) (RX5, TX5, 12) 5 8 dX5_spotsOf_19 rfl ht (by decide) fd_RX5_27 ?_
    refine aw_iload (n := 24) dX5_spotsOf_22 rfl rfl ?_
    refine aw_iaload (n := 25) 6 dX5_spotsOf_24 rfl (sf_5_8 ht) ?_
    refine aw_ishl (n := 26) dX5_spotsOf_25 rfl ?_
    refine aw_ior (n := 27) dX5_spotsOf_26 rfl ?_
    refine aw_nmI (fun v2 => ?_)
    refine aw_istore_n (n := 28) [some (.ref t), some (.int x1), some (.int x2), some (.int v2), some (.int x4)] dX5_spotsOf_27 rfl rfl (Nat.le_of_ble_eq_true rfl) (Nat.le_of_ble_eq_true rfl) rfl ?_
    refine aw_iinc (n := 31) (x4 + 1) [some (.ref t), some (.int x1), some (.int x2), some (.int v2), some (.int (x4 + 1))] dX5_spotsOf_28 rfl rfl (by rfl) rfl (Nat.le_of_ble_eq_true rfl) rfl ?_
    refine aw_goto 5 dX5_spotsOf_31 (by decide) ?_
    exact aw_weak (hk5 (x1, x2, v2, (x4 + 1), μ)) (aw_ss (aw_ss (aw_ss (aw_ss (aw_ss aw_s0)))))
def f_X5_spotsOf (F : Nat) (t : Nat) (a0 : Int32) (a1 : Int32) (μ : aw_M) : Option (Int32 × aw_M) :=
  aw_loop (fun k s => f_X5_spotsOf_5 F t k s.1 s.2.1 s.2.2.1 s.2.2.2.1 s.2.2.2.2) F (a0, a1, 0, 0, μ)
theorem m_X5_spotsOf (l : Launch) (F : Nat) (t : Nat) (ht : (aw_sh t).1 = 10) (a0 : Int32) (a1 : Int32) (μ : aw_M) : AM l yX5_spotsOf cX5_spotsOf 5 (some .int) 1 120 aw_gi [.ref t, .int a0, .int a1] μ (f_X5_spotsOf F t a0 a1 μ) := by
  refine aw_met [some (.ref t), some (.int a0), some (.int a1), none, none] (by decide) (fun _ => rfl) (fun _ => Nat.le_of_ble_eq_true rfl) ?_
  show AW l k_X5_spotsOf aw_gi 0 [some (.ref t), some (.int a0), some (.int a1), none, none] [] μ _
  unfold f_X5_spotsOf
  refine aw_iconst (n := 1) 0 dX5_spotsOf_0 rfl (by decide) ?_
  refine aw_istore_n (n := 2) [some (.ref t), some (.int a0), some (.int a1), some (.int 0), none] dX5_spotsOf_1 rfl rfl (Nat.le_of_ble_eq_true rfl) (Nat.le_of_ble_eq_true rfl) rfl ?_
  refine aw_iconst (n := 3) 0 dX5_spotsOf_2 rfl (by decide) ?_
  refine aw_istore (n := 5) [some (.ref t), some (.int a0), some (.int a1), some (.int 0), some (.int 0)] dX5_spotsOf_3 rfl rfl (Nat.le_of_ble_eq_true rfl) (Nat.le_of_ble_eq_true rfl) rfl ?_
  exact aw_weak (c_X5_spotsOf_5 l F t ht F (a0, a1, 0, 0, μ)) (aw_ss (aw_ss (aw_ss (aw_ss (aw_ss aw_s0)))))
abbrev k_X5_restingSpots : aw_K := (RX5, cX5_restingSpots, 5, (some .int), 6, 247)
def f_X5_restingSpots_68 (F : Nat) (t : Nat) (x1 : Int32) (x3 : Int32) (μ : aw_M) : Option (Int32 × aw_M) :=
  (if x1 = (-1) then
  some (x3, μ)
  else
  some ((-1), μ))
theorem c_X5_restingSpots_68 (l : Launch) (F : Nat) (t : Nat) (ht : (aw_sh t).1 = 10) (x1 : Int32) (x3 : Int32) (μ : aw_M) : AW l k_X5_restingSpots aw_gi 68 [none, some (.int x1), none, some (.int x3), none] [] μ (f_X5_restingSpots_68 F t x1 x3 μ) := by
  unfold f_X5_restingSpots_68
  refine aw_iload_n (n := 69) dX5_restingSpots_68 rfl rfl ?_
  refine aw_iconst (n := 70) (-1) dX5_restingSpots_69 rfl (by decide) ?_
  refine aw_icmp_ne (n := 73) 77 dX5_restingSpots_70 (by decide) rfl ?_ ?_
  · refine aw_iconst (n := 78) (-1) dX5_restingSpots_77 rfl (by decide) ?_
    exact aw_ireturn dX5_restingSpots_78 rfl rfl
  · refine aw_iload_n (n := 74) dX5_restingSpots_73 rfl rfl ?_
    refine aw_goto 78 dX5_restingSpots_74 (by decide) ?_
    exact aw_ireturn dX5_restingSpots_78 rfl rfl
def f_X5_restingSpots_62 (F : Nat) (t : Nat) (k28 : Int32 × Int32 × Int32 × Int32 × aw_M → Option (Int32 × aw_M)) (x1 : Int32) (x2 : Int32) (x3 : Int32) (x4 : Int32) (μ : aw_M) : Option (Int32 × aw_M) :=
  k28 (x1, x2, x3, (x4 + 1), μ)
theorem c_X5_restingSpots_62 (l : Launch) (F : Nat) (t : Nat) (ht : (aw_sh t).1 = 10) (k28 : Int32 × Int32 × Int32 × Int32 × aw_M → Option (Int32 × aw_M)) (hk28 : ∀ s : Int32 × Int32 × Int32 × Int32 × aw_M, AW l k_X5_restingSpots aw_gi 28 [some (.ref t), some (.int s.1), some (.int s.2.1), some (.int s.2.2.1), some (.int s.2.2.2.1)] [] s.2.2.2.2 (k28 s)) (x1 : Int32) (x2 : Int32) (x3 : Int32) (x4 : Int32) (μ : aw_M) : AW l k_X5_restingSpots aw_gi 62 [some (.ref t), some (.int x1), some (.int x2), some (.int x3), some (.int x4)] [] μ (f_X5_restingSpots_62 F t k28 x1 x2 x3 x4 μ) := by
  unfold f_X5_restingSpots_62
  refine aw_iinc (n := 65) (x4 + 1) [some (.ref t), some (.int x1), some (.int x2), some (.int x3), some (.int (x4 + 1))] dX5_restingSpots_62 rfl rfl (by rfl) rfl (Nat.le_of_ble_eq_true rfl) rfl ?_
  refine aw_goto 28 dX5_restingSpots_65 (by decide) ?_
  exact aw_weak (hk28 (x1, x2, x3, (x4 + 1), μ)) (aw_ss (aw_ss (aw_ss (aw_ss (aw_ss aw_s0)))))
def f_X5_restingSpots_51 (F : Nat) (t : Nat) (x2 : Int32) (x4 : Int32) (μ : aw_M) : Option (Int32 × aw_M) :=
  (f_X5_spotsOf F t x4 x2 μ).bind fun r16 =>
  some (r16.1, r16.2)
theorem c_X5_restingSpots_51 (l : Launch) (F : Nat) (t : Nat) (ht : (aw_sh t).1 = 10) (x2 : Int32) (x4 : Int32) (μ : aw_M) : AW l k_X5_restingSpots aw_gi 51 [some (.ref t), none, some (.int x2), none, some (.int x4)] [] μ (f_X5_restingSpots_51 F t x2 x4 μ) := by
  unfold f_X5_restingSpots_51
  refine aw_aload_n (n := 52) dX5_restingSpots_51 rfl rfl ?_
  refine aw_iload (n := 54) dX5_restingSpots_52 rfl rfl ?_
  refine aw_iload_n (n := 55) dX5_restingSpots_54 rfl rfl ?_
  refine aw_callVi (n := 58) (as := [.int x4, .int x2]) (st := []) (RX5, TX5, 12) 5 dX5_restingSpots_55 rfl rfl (m_X5_spotsOf l F t ht x4 x2 μ) ht (by decide) rfl rfl cw_RX5_95 ⟨Nat.le_of_ble_eq_true rfl, Nat.le_of_ble_eq_true rfl⟩ (fun _ => Nat.le_of_ble_eq_true rfl) (fun r16 => ?_)
  exact aw_ireturn dX5_restingSpots_58 rfl rfl
def f_X5_restingSpots_28 (F : Nat) (t : Nat) (k28 : Int32 × Int32 × Int32 × Int32 × aw_M → Option (Int32 × aw_M)) (x1 : Int32) (x2 : Int32) (x3 : Int32) (x4 : Int32) (μ : aw_M) : Option (Int32 × aw_M) :=
  (if (1 <<< (x2 &&& 31)) ≤ x4 then
  f_X5_restingSpots_68 F t x1 x3 μ
  else
  (f_X5_isAtRest F t x4 x2 μ).bind fun r15 =>
  (if r15.1 = true then
  (if x3 = x1 then
  f_X5_restingSpots_51 F t x2 x4 r15.2
  else
  f_X5_restingSpots_62 F t k28 x1 x2 (x3 + 1) x4 r15.2)
  else
  f_X5_restingSpots_62 F t k28 x1 x2 x3 x4 r15.2))
theorem c_X5_restingSpots_28 (l : Launch) (F : Nat) (t : Nat) (ht : (aw_sh t).1 = 10) : ∀ (N : Nat) (s : Int32 × Int32 × Int32 × Int32 × aw_M), AW l k_X5_restingSpots aw_gi 28 [some (.ref t), some (.int s.1), some (.int s.2.1), some (.int s.2.2.1), some (.int s.2.2.2.1)] [] s.2.2.2.2 (aw_loop (fun k s => f_X5_restingSpots_28 F t k s.1 s.2.1 s.2.2.1 s.2.2.2.1 s.2.2.2.2) N s) := by
  refine aw_loop_ok (f := fun k s => f_X5_restingSpots_28 F t k s.1 s.2.1 s.2.2.1 s.2.2.2.1 s.2.2.2.2) (Ls := fun s => [some (.ref t), some (.int s.1), some (.int s.2.1), some (.int s.2.2.1), some (.int s.2.2.2.1)]) (ms := fun s => s.2.2.2.2) ?_
  intro k28 hk28 s
  obtain ⟨x1, x2, x3, x4, μ⟩ := s
  show AW l k_X5_restingSpots aw_gi 28 [some (.ref t), some (.int x1), some (.int x2), some (.int x3), some (.int x4)] [] μ (f_X5_restingSpots_28 F t k28 x1 x2 x3 x4 μ)
  unfold f_X5_restingSpots_28
  refine aw_iload (n := 30) dX5_restingSpots_28 rfl rfl ?_
  refine aw_iconst (n := 31) 1 dX5_restingSpots_30 rfl (by decide) ?_
  refine aw_iload_n (n := 32) dX5_restingSpots_31 rfl rfl ?_
  refine aw_ishl (n := 33) dX5_restingSpots_32 rfl ?_
  refine aw_icmp_ge (n := 36) 68 dX5_restingSpots_33 (by decide) rfl ?_ ?_
  · exact aw_weak (c_X5_restingSpots_68 l F t ht x1 x3 μ) (aw_sn (aw_ss (aw_sn (aw_ss (aw_sn aw_s0)))))
  · refine aw_aload_n (n := 37) dX5_restingSpots_36 rfl rfl ?_
    refine aw_iload (n := 39) dX5_restingSpots_37 rfl rfl ?_
    refine aw_iload_n (n := 40) dX5_restingSpots_39 rfl rfl ?_
    refine aw_callVz (n := 43) (as := [.int x4, .int x2]) (st := []) (RX5, TX5, 12) 5 dX5_restingSpots_40 rfl rfl (m_X5_isAtRest l F t ht x4 x2 μ) ht (by decide) rfl rfl cw_RX5_91 ⟨Nat.le_of_ble_eq_true rfl, Nat.le_of_ble_eq_true rfl⟩ (fun _ => Nat.le_of_ble_eq_true rfl) (fun r15 => ?_)
    refine aw_ifb_eq (n := 46) 62 dX5_restingSpots_43 (by decide) rfl ?_ ?_
    · exact aw_weak (c_X5_restingSpots_62 l F t ht k28 hk28 x1 x2 x3 x4 r15.2) (aw_ss (aw_ss (aw_ss (aw_ss (aw_ss aw_s0)))))
    · refine aw_iload_n (n := 47) dX5_restingSpots_46 rfl rfl ?_
      refine aw_iload_n (n := 48) dX5_restingSpots_47 rfl rfl ?_
      refine aw_icmp_ne (n := 51) 59 dX5_restingSpots_48 (by decide) rfl ?_ ?_
      · refine aw_iinc (n := 62) (x3 + 1) [some (.ref t), some (.int x1), some (.int x2), some (.int (x3 + 1)), some (.int x4)] dX5_restingSpots_59 rfl rfl (by rfl) rfl (Nat.le_of_ble_eq_true rfl) rfl ?_
        exact aw_weak (c_X5_restingSpots_62 l F t ht k28 hk28 x1 x2 (x3 + 1) x4 r15.2) (aw_ss (aw_ss (aw_ss (aw_ss (aw_ss aw_s0)))))
      · exact aw_weak (c_X5_restingSpots_51 l F t ht x2 x4 r15.2) (aw_ss (aw_sn (aw_ss (aw_sn (aw_ss aw_s0)))))
def f_X5_restingSpots (F : Nat) (t : Nat) (a0 : Int32) (μ : aw_M) : Option (Int32 × aw_M) :=
  (f_X5_listSpotted F t μ).bind fun r13 =>
  (if a0 < (-1) then
  some ((-1), r13.2)
  else
  (if r13.1 ≤ 6 then
  (f_X5_fillHas F t r13.1 r13.2).bind fun r14 =>
  aw_loop (fun k s => f_X5_restingSpots_28 F t k s.1 s.2.1 s.2.2.1 s.2.2.2.1 s.2.2.2.2) F (a0, r13.1, 0, 0, r14)
  else
  some ((-1), r13.2)))
theorem m_X5_restingSpots (l : Launch) (F : Nat) (t : Nat) (ht : (aw_sh t).1 = 10) (a0 : Int32) (μ : aw_M) : AM l yX5_restingSpots cX5_restingSpots 5 (some .int) 6 247 aw_gi [.ref t, .int a0] μ (f_X5_restingSpots F t a0 μ) := by
  refine aw_met [some (.ref t), some (.int a0), none, none, none] (by decide) (fun _ => rfl) (fun _ => Nat.le_of_ble_eq_true rfl) ?_
  show AW l k_X5_restingSpots aw_gi 0 [some (.ref t), some (.int a0), none, none, none] [] μ _
  unfold f_X5_restingSpots
  refine aw_aload_n (n := 1) dX5_restingSpots_0 rfl rfl ?_
  refine aw_callVi (n := 4) (as := []) (st := []) (RX5, TX5, 12) 5 dX5_restingSpots_1 rfl rfl (m_X5_listSpotted l F t ht μ) ht (by decide) rfl rfl cw_RX5_83 ⟨Nat.le_of_ble_eq_true rfl, Nat.le_of_ble_eq_true rfl⟩ (fun _ => Nat.le_of_ble_eq_true rfl) (fun r13 => ?_)
  refine aw_istore_n (n := 5) [some (.ref t), some (.int a0), some (.int r13.1), none, none] dX5_restingSpots_4 rfl rfl (Nat.le_of_ble_eq_true rfl) (Nat.le_of_ble_eq_true rfl) rfl ?_
  refine aw_iload_n (n := 6) dX5_restingSpots_5 rfl rfl ?_
  refine aw_iconst (n := 7) (-1) dX5_restingSpots_6 rfl (by decide) ?_
  refine aw_icmp_lt (n := 10) 16 dX5_restingSpots_7 (by decide) rfl ?_ ?_
  · refine aw_iconst (n := 17) (-1) dX5_restingSpots_16 rfl (by decide) ?_
    exact aw_ireturn dX5_restingSpots_17 rfl rfl
  · refine aw_iload_n (n := 11) dX5_restingSpots_10 rfl rfl ?_
    refine aw_bipush (n := 13) 6 dX5_restingSpots_11 rfl (by decide) ?_
    refine aw_icmp_le (n := 16) 18 dX5_restingSpots_13 (by decide) rfl ?_ ?_
    · refine aw_aload_n (n := 19) dX5_restingSpots_18 rfl rfl ?_
      refine aw_iload_n (n := 20) dX5_restingSpots_19 rfl rfl ?_
      refine aw_callVv (n := 23) (as := [.int r13.1]) (st := []) (RX5, TX5, 12) 5 dX5_restingSpots_20 rfl rfl (m_X5_fillHas l F t ht r13.1 r13.2) ht (by decide) rfl rfl cw_RX5_87 ⟨Nat.le_of_ble_eq_true rfl, Nat.le_of_ble_eq_true rfl⟩ (fun _ => Nat.le_of_ble_eq_true rfl) (fun r14 => ?_)
      refine aw_iconst (n := 24) 0 dX5_restingSpots_23 rfl (by decide) ?_
      refine aw_istore_n (n := 25) [some (.ref t), some (.int a0), some (.int r13.1), some (.int 0), none] dX5_restingSpots_24 rfl rfl (Nat.le_of_ble_eq_true rfl) (Nat.le_of_ble_eq_true rfl) rfl ?_
      refine aw_iconst (n := 26) 0 dX5_restingSpots_25 rfl (by decide) ?_
      refine aw_istore (n := 28) [some (.ref t), some (.int a0), some (.int r13.1), some (.int 0), some (.int 0)] dX5_restingSpots_26 rfl rfl (Nat.le_of_ble_eq_true rfl) (Nat.le_of_ble_eq_true rfl) rfl ?_
      exact aw_weak (c_X5_restingSpots_28 l F t ht F (a0, r13.1, 0, 0, r14)) (aw_ss (aw_ss (aw_ss (aw_ss (aw_ss aw_s0)))))
    · refine aw_iconst (n := 17) (-1) dX5_restingSpots_16 rfl (by decide) ?_
      exact aw_ireturn dX5_restingSpots_17 rfl rfl
abbrev k_X5_isTable : aw_K := (RX5, cX5_isTable, 3, (some .boolean), 2, 141)
def f_X5_isTable_41 (F : Nat) (t a0 : Nat) (k41 : Int32 × aw_M → Option (Bool × aw_M)) (x2 : Int32) (μ : aw_M) : Option (Bool × aw_M) :=
  (if (μ.1 a0 1) ≤ x2 then
  some (true, μ)
  else
  aw_g (aw_in x2 940) (aw_g (aw_in (x2 + 1) 940) ((f_X10_isPlan F (μ.1 (aw_rf a0 0) x2.toNatClampNeg) (μ.1 (aw_rf a0 0) (x2 + 1).toNatClampNeg) μ).bind fun r2 =>
  (if r2.1 = true then
  k41 ((x2 + 2), r2.2)
  else
  some (false, r2.2)))))
theorem c_X5_isTable_41 (l : Launch) (F : Nat) (t : Nat) (ht : (aw_sh t).1 = 10) (a0 : Nat) (ha0 : (aw_sh a0).1 = 11) : ∀ (N : Nat) (s : Int32 × aw_M), AW l k_X5_isTable aw_gz 41 [none, some (.ref a0), some (.int s.1)] [] s.2 (aw_loop (fun k s => f_X5_isTable_41 F t a0 k s.1 s.2) N s) := by
  refine aw_loop_ok (f := fun k s => f_X5_isTable_41 F t a0 k s.1 s.2) (Ls := fun s => [none, some (.ref a0), some (.int s.1)]) (ms := fun s => s.2) ?_
  intro k41 hk41 s
  obtain ⟨x2, μ⟩ := s
  show AW l k_X5_isTable aw_gz 41 [none, some (.ref a0), some (.int x2)] [] μ (f_X5_isTable_41 F t a0 k41 x2 μ)
  unfold f_X5_isTable_41
  refine aw_iload_n (n := 42) dX5_isTable_41 rfl rfl ?_
  refine aw_aload_n (n := 43) dX5_isTable_42 rfl rfl ?_
  refine aw_getI (n := 46) (RX6, TX6, 13) 6 1 dX5_isTable_43 rfl ha0 (by decide) fd_RX5_103 ?_
  refine aw_icmp_ge (n := 49) 77 dX5_isTable_46 (by decide) rfl ?_ ?_
  · refine aw_iconst (n := 78) 1 dX5_isTable_77 rfl (by decide) ?_
    exact aw_zreturn (b := true) dX5_isTable_78 rfl rfl
  · refine aw_aload_n (n := 50) dX5_isTable_49 rfl rfl ?_
    refine aw_getR (n := 53) (RX6, TX6, 13) 6 0 dX5_isTable_50 rfl ha0 (by decide) fd_RX5_111 ?_
    refine aw_iload_n (n := 54) dX5_isTable_53 rfl rfl ?_
    refine aw_iaload (n := 55) 940 dX5_isTable_54 rfl (sf_6_0 ha0) ?_
    refine aw_aload_n (n := 56) dX5_isTable_55 rfl rfl ?_
    refine aw_getR (n := 59) (RX6, TX6, 13) 6 0 dX5_isTable_56 rfl ha0 (by decide) fd_RX5_111 ?_
    refine aw_iload_n (n := 60) dX5_isTable_59 rfl rfl ?_
    refine aw_iconst (n := 61) 1 dX5_isTable_60 rfl (by decide) ?_
    refine aw_iadd (n := 62) dX5_isTable_61 rfl ?_
    refine aw_iaload (n := 63) 940 dX5_isTable_62 rfl (sf_6_0 ha0) ?_
    refine aw_callNz (n := 66) (as := [.int (μ.1 (aw_rf a0 0) x2.toNatClampNeg), .int (μ.1 (aw_rf a0 0) (x2 + 1).toNatClampNeg)]) (st := []) RX10 dX5_isTable_63 rfl rfl (m_X10_isPlan l F (μ.1 (aw_rf a0 0) x2.toNatClampNeg) (μ.1 (aw_rf a0 0) (x2 + 1).toNatClampNeg) μ) cw_RX5_114 ⟨Nat.le_of_ble_eq_true rfl, Nat.le_of_ble_eq_true rfl⟩ (fun _ => Nat.le_of_ble_eq_true rfl) (fun r2 => ?_)
    refine aw_ifb_ne (n := 69) 71 dX5_isTable_66 (by decide) rfl ?_ ?_
    · refine aw_iinc (n := 74) (x2 + 2) [none, some (.ref a0), some (.int (x2 + 2))] dX5_isTable_71 rfl rfl (by rfl) rfl (Nat.le_of_ble_eq_true rfl) rfl ?_
      refine aw_goto 41 dX5_isTable_74 (by decide) ?_
      exact aw_weak (hk41 ((x2 + 2), r2.2)) (aw_sn (aw_ss (aw_ss aw_s0)))
    · refine aw_iconst (n := 70) 0 dX5_isTable_69 rfl (by decide) ?_
      exact aw_zreturn (b := false) dX5_isTable_70 rfl rfl
def f_X5_isTable (F : Nat) (t a0 : Nat) (μ : aw_M) : Option (Bool × aw_M) :=
  (if (μ.1 (aw_rf t 0) 3) < 2 then
  some (false, μ)
  else
  (if (μ.1 a0 1) < 2 then
  some (false, μ)
  else
  (if 12 < (μ.1 a0 1) then
  some (false, μ)
  else
  (if ((μ.1 a0 1) - (μ.1 a0 1) / 2 * 2) = 0 then
  aw_loop (fun k s => f_X5_isTable_41 F t a0 k s.1 s.2) F (0, μ)
  else
  some (false, μ)))))
theorem m_X5_isTable (l : Launch) (F : Nat) (t : Nat) (ht : (aw_sh t).1 = 10) (a0 : Nat) (ha0 : (aw_sh a0).1 = 11) (μ : aw_M) : AM l yX5_isTable cX5_isTable 3 (some .boolean) 2 141 aw_gz [.ref t, .ref a0] μ (f_X5_isTable F t a0 μ) := by
  refine aw_met [some (.ref t), some (.ref a0), none] (by decide) (fun _ => rfl) (fun _ => Nat.le_of_ble_eq_true rfl) ?_
  show AW l k_X5_isTable aw_gz 0 [some (.ref t), some (.ref a0), none] [] μ _
  unfold f_X5_isTable
  refine aw_aload_n (n := 1) dX5_isTable_0 rfl rfl ?_
  refine aw_getR (n := 4) (RX5, TX5, 12) 5 0 dX5_isTable_1 rfl ht (by decide) fd_RX5_36 ?_
  refine aw_getI (n := 7) (RX8, TX8, 20) 8 3 dX5_isTable_4 rfl (sf_5_0 ht) (by decide) fd_RX5_70 ?_
  refine aw_iconst (n := 8) 2 dX5_isTable_7 rfl (by decide) ?_
  refine aw_icmp_lt (n := 11) 37 dX5_isTable_8 (by decide) rfl ?_ ?_
  · refine aw_iconst (n := 38) 0 dX5_isTable_37 rfl (by decide) ?_
    exact aw_zreturn (b := false) dX5_isTable_38 rfl rfl
  · refine aw_aload_n (n := 12) dX5_isTable_11 rfl rfl ?_
    refine aw_getI (n := 15) (RX6, TX6, 13) 6 1 dX5_isTable_12 rfl ha0 (by decide) fd_RX5_103 ?_
    refine aw_iconst (n := 16) 2 dX5_isTable_15 rfl (by decide) ?_
    refine aw_icmp_lt (n := 19) 37 dX5_isTable_16 (by decide) rfl ?_ ?_
    · refine aw_iconst (n := 38) 0 dX5_isTable_37 rfl (by decide) ?_
      exact aw_zreturn (b := false) dX5_isTable_38 rfl rfl
    · refine aw_aload_n (n := 20) dX5_isTable_19 rfl rfl ?_
      refine aw_getI (n := 23) (RX6, TX6, 13) 6 1 dX5_isTable_20 rfl ha0 (by decide) fd_RX5_103 ?_
      refine aw_bipush (n := 25) 12 dX5_isTable_23 rfl (by decide) ?_
      refine aw_icmp_gt (n := 28) 37 dX5_isTable_25 (by decide) rfl ?_ ?_
      · refine aw_iconst (n := 38) 0 dX5_isTable_37 rfl (by decide) ?_
        exact aw_zreturn (b := false) dX5_isTable_38 rfl rfl
      · refine aw_aload_n (n := 29) dX5_isTable_28 rfl rfl ?_
        refine aw_getI (n := 32) (RX6, TX6, 13) 6 1 dX5_isTable_29 rfl ha0 (by decide) fd_RX5_103 ?_
        refine aw_iconst (n := 33) 2 dX5_isTable_32 rfl (by decide) ?_
        refine aw_iremK (n := 34) dX5_isTable_33 rfl (by decide) ?_
        refine aw_if_eq (n := 37) 39 dX5_isTable_34 (by decide) rfl ?_ ?_
        · refine aw_iconst (n := 40) 0 dX5_isTable_39 rfl (by decide) ?_
          refine aw_istore_n (n := 41) [some (.ref t), some (.ref a0), some (.int 0)] dX5_isTable_40 rfl rfl (Nat.le_of_ble_eq_true rfl) (Nat.le_of_ble_eq_true rfl) rfl ?_
          exact aw_weak (c_X5_isTable_41 l F t ht a0 ha0 F (0, μ)) (aw_sn (aw_ss (aw_ss aw_s0)))
        · refine aw_iconst (n := 38) 0 dX5_isTable_37 rfl (by decide) ?_
          exact aw_zreturn (b := false) dX5_isTable_38 rfl rfl
abbrev k_X5_tryAll : aw_K := (RX5, cX5_tryAll, 4, (some .int), 5, 224)
def f_X5_tryAll_138 (F : Nat) (t a0 : Nat) (k26 : Int32 × aw_M → Option (Int32 × aw_M)) (x2 : Int32) (μ : aw_M) : Option (Int32 × aw_M) :=
  k26 ((x2 + 1), μ)
theorem c_X5_tryAll_138 (l : Launch) (F : Nat) (t : Nat) (ht : (aw_sh t).1 = 10) (a0 : Nat) (ha0 : (aw_sh a0).1 = 11) (k26 : Int32 × aw_M → Option (Int32 × aw_M)) (hk26 : ∀ s : Int32 × aw_M, AW l k_X5_tryAll aw_gi 26 [some (.ref t), some (.ref a0), some (.int s.1), none] [] s.2 (k26 s)) (x2 : Int32) (μ : aw_M) : AW l k_X5_tryAll aw_gi 138 [some (.ref t), some (.ref a0), some (.int x2), none] [] μ (f_X5_tryAll_138 F t a0 k26 x2 μ) := by
  unfold f_X5_tryAll_138
  refine aw_iinc (n := 141) (x2 + 1) [some (.ref t), some (.ref a0), some (.int (x2 + 1)), none] dX5_tryAll_138 rfl rfl (by rfl) rfl (Nat.le_of_ble_eq_true rfl) rfl ?_
  refine aw_goto 26 dX5_tryAll_141 (by decide) ?_
  exact aw_weak (hk26 ((x2 + 1), μ)) (aw_ss (aw_ss (aw_ss (aw_sn aw_s0))))
def f_X5_tryAll_61 (F : Nat) (t a0 : Nat) (k61 : Int32 × Int32 × aw_M → Option (Int32 × aw_M)) (k26 : Int32 × aw_M → Option (Int32 × aw_M)) (x2 : Int32) (x3 : Int32) (μ : aw_M) : Option (Int32 × aw_M) :=
  (if (μ.1 t 10) ≤ x3 then
  f_X5_tryAll_138 F t a0 k26 x2 μ
  else
  aw_g (aw_in (2 * x3) 940) (aw_g (aw_in ((2 * x3) + 1) 940) ((f_X5_play F t 1 1 (μ.1 (aw_rf a0 0) (2 * x3).toNatClampNeg) (μ.1 (aw_rf a0 0) ((2 * x3) + 1).toNatClampNeg) 0 μ).bind fun r23 =>
  (f_X5_marksOf F t 0 r23).bind fun r24 =>
  aw_g (aw_in (2 * ((x2 * 6) + x3)) 72) (aw_let (aw_wI r24.2 (aw_rf t 11) (2 * ((x2 * 6) + x3)).toNatClampNeg r24.1) fun μ25 =>
  (f_X5_marksOf F t 1 μ25).bind fun r26 =>
  aw_g (aw_in ((2 * ((x2 * 6) + x3)) + 1) 72) (aw_let (aw_wI r26.2 (aw_rf t 11) ((2 * ((x2 * 6) + x3)) + 1).toNatClampNeg r26.1) fun μ27 =>
  k61 (x2, (x3 + 1), μ27))))))
theorem c_X5_tryAll_61 (l : Launch) (F : Nat) (t : Nat) (ht : (aw_sh t).1 = 10) (a0 : Nat) (ha0 : (aw_sh a0).1 = 11) (k26 : Int32 × aw_M → Option (Int32 × aw_M)) (hk26 : ∀ s : Int32 × aw_M, AW l k_X5_tryAll aw_gi 26 [some (.ref t), some (.ref a0), some (.int s.1), none] [] s.2 (k26 s)) : ∀ (N : Nat) (s : Int32 × Int32 × aw_M), AW l k_X5_tryAll aw_gi 61 [some (.ref t), some (.ref a0), some (.int s.1), some (.int s.2.1)] [] s.2.2 (aw_loop (fun k s => f_X5_tryAll_61 F t a0 k k26 s.1 s.2.1 s.2.2) N s) := by
  refine aw_loop_ok (f := fun k s => f_X5_tryAll_61 F t a0 k k26 s.1 s.2.1 s.2.2) (Ls := fun s => [some (.ref t), some (.ref a0), some (.int s.1), some (.int s.2.1)]) (ms := fun s => s.2.2) ?_
  intro k61 hk61 s
  obtain ⟨x2, x3, μ⟩ := s
  show AW l k_X5_tryAll aw_gi 61 [some (.ref t), some (.ref a0), some (.int x2), some (.int x3)] [] μ (f_X5_tryAll_61 F t a0 k61 k26 x2 x3 μ)
  unfold f_X5_tryAll_61
  refine aw_iload_n (n := 62) dX5_tryAll_61 rfl rfl ?_
  refine aw_aload_n (n := 63) dX5_tryAll_62 rfl rfl ?_
  refine aw_getI (n := 66) (RX5, TX5, 12) 5 10 dX5_tryAll_63 rfl ht (by decide) fd_RX5_108 ?_
  refine aw_icmp_ge (n := 69) 138 dX5_tryAll_66 (by decide) rfl ?_ ?_
  · exact aw_weak (c_X5_tryAll_138 l F t ht a0 ha0 k26 hk26 x2 μ) (aw_ss (aw_ss (aw_ss (aw_sn aw_s0))))
  · refine aw_aload_n (n := 70) dX5_tryAll_69 rfl rfl ?_
    refine aw_iconst (n := 71) 1 dX5_tryAll_70 rfl (by decide) ?_
    refine aw_iconst (n := 72) 1 dX5_tryAll_71 rfl (by decide) ?_
    refine aw_aload_n (n := 73) dX5_tryAll_72 rfl rfl ?_
    refine aw_getR (n := 76) (RX6, TX6, 13) 6 0 dX5_tryAll_73 rfl ha0 (by decide) fd_RX5_111 ?_
    refine aw_iconst (n := 77) 2 dX5_tryAll_76 rfl (by decide) ?_
    refine aw_iload_n (n := 78) dX5_tryAll_77 rfl rfl ?_
    refine aw_imul (n := 79) dX5_tryAll_78 rfl ?_
    refine aw_iaload (n := 80) 940 dX5_tryAll_79 rfl (sf_6_0 ha0) ?_
    refine aw_aload_n (n := 81) dX5_tryAll_80 rfl rfl ?_
    refine aw_getR (n := 84) (RX6, TX6, 13) 6 0 dX5_tryAll_81 rfl ha0 (by decide) fd_RX5_111 ?_
    refine aw_iconst (n := 85) 2 dX5_tryAll_84 rfl (by decide) ?_
    refine aw_iload_n (n := 86) dX5_tryAll_85 rfl rfl ?_
    refine aw_imul (n := 87) dX5_tryAll_86 rfl ?_
    refine aw_iconst (n := 88) 1 dX5_tryAll_87 rfl (by decide) ?_
    refine aw_iadd (n := 89) dX5_tryAll_88 rfl ?_
    refine aw_iaload (n := 90) 940 dX5_tryAll_89 rfl (sf_6_0 ha0) ?_
    refine aw_iconst (n := 91) 0 dX5_tryAll_90 rfl (by decide) ?_
    refine aw_callVv (n := 94) (as := [.int 1, .int 1, .int (μ.1 (aw_rf a0 0) (2 * x3).toNatClampNeg), .int (μ.1 (aw_rf a0 0) ((2 * x3) + 1).toNatClampNeg), .int 0]) (st := []) (RX5, TX5, 12) 5 dX5_tryAll_91 rfl rfl (m_X5_play l F t ht 1 1 (μ.1 (aw_rf a0 0) (2 * x3).toNatClampNeg) (μ.1 (aw_rf a0 0) ((2 * x3) + 1).toNatClampNeg) 0 μ) ht (by decide) rfl rfl cw_RX5_60 ⟨Nat.le_of_ble_eq_true rfl, Nat.le_of_ble_eq_true rfl⟩ (fun _ => Nat.le_of_ble_eq_true rfl) (fun r23 => ?_)
    refine aw_aload_n (n := 95) dX5_tryAll_94 rfl rfl ?_
    refine aw_getR (n := 98) (RX5, TX5, 12) 5 11 dX5_tryAll_95 rfl ht (by decide) fd_RX5_33 ?_
    refine aw_iconst (n := 99) 2 dX5_tryAll_98 rfl (by decide) ?_
    refine aw_iload_n (n := 100) dX5_tryAll_99 rfl rfl ?_
    refine aw_bipush (n := 102) 6 dX5_tryAll_100 rfl (by decide) ?_
    refine aw_imul (n := 103) dX5_tryAll_102 rfl ?_
    refine aw_iload_n (n := 104) dX5_tryAll_103 rfl rfl ?_
    refine aw_iadd (n := 105) dX5_tryAll_104 rfl ?_
    refine aw_imul (n := 106) dX5_tryAll_105 rfl ?_
    refine aw_aload_n (n := 107) dX5_tryAll_106 rfl rfl ?_
    refine aw_iconst (n := 108) 0 dX5_tryAll_107 rfl (by decide) ?_
    refine aw_callVi (n := 111) (as := [.int 0]) (st := [.int (2 * ((x2 * 6) + x3)), .ref (aw_rf t 11)]) (RX5, TX5, 12) 5 dX5_tryAll_108 rfl rfl (m_X5_marksOf l F t ht 0 r23) ht (by decide) rfl rfl cw_RX5_51 ⟨Nat.le_of_ble_eq_true rfl, Nat.le_of_ble_eq_true rfl⟩ (fun _ => Nat.le_of_ble_eq_true rfl) (fun r24 => ?_)
    refine aw_iastore (n := 112) 72 dX5_tryAll_111 rfl (sf_5_11 ht) (fun μ25 => ?_)
    refine aw_aload_n (n := 113) dX5_tryAll_112 rfl rfl ?_
    refine aw_getR (n := 116) (RX5, TX5, 12) 5 11 dX5_tryAll_113 rfl ht (by decide) fd_RX5_33 ?_
    refine aw_iconst (n := 117) 2 dX5_tryAll_116 rfl (by decide) ?_
    refine aw_iload_n (n := 118) dX5_tryAll_117 rfl rfl ?_
    refine aw_bipush (n := 120) 6 dX5_tryAll_118 rfl (by decide) ?_
    refine aw_imul (n := 121) dX5_tryAll_120 rfl ?_
    refine aw_iload_n (n := 122) dX5_tryAll_121 rfl rfl ?_
    refine aw_iadd (n := 123) dX5_tryAll_122 rfl ?_
    refine aw_imul (n := 124) dX5_tryAll_123 rfl ?_
    refine aw_iconst (n := 125) 1 dX5_tryAll_124 rfl (by decide) ?_
    refine aw_iadd (n := 126) dX5_tryAll_125 rfl ?_
    refine aw_aload_n (n := 127) dX5_tryAll_126 rfl rfl ?_
    refine aw_iconst (n := 128) 1 dX5_tryAll_127 rfl (by decide) ?_
    refine aw_callVi (n := 131) (as := [.int 1]) (st := [.int ((2 * ((x2 * 6) + x3)) + 1), .ref (aw_rf t 11)]) (RX5, TX5, 12) 5 dX5_tryAll_128 rfl rfl (m_X5_marksOf l F t ht 1 μ25) ht (by decide) rfl rfl cw_RX5_51 ⟨Nat.le_of_ble_eq_true rfl, Nat.le_of_ble_eq_true rfl⟩ (fun _ => Nat.le_of_ble_eq_true rfl) (fun r26 => ?_)
    refine aw_iastore (n := 132) 72 dX5_tryAll_131 rfl (sf_5_11 ht) (fun μ27 => ?_)
    refine aw_iinc (n := 135) (x3 + 1) [some (.ref t), some (.ref a0), some (.int x2), some (.int (x3 + 1))] dX5_tryAll_132 rfl rfl (by rfl) rfl (Nat.le_of_ble_eq_true rfl) rfl ?_
    refine aw_goto 61 dX5_tryAll_135 (by decide) ?_
    exact aw_weak (hk61 (x2, (x3 + 1), μ27)) (aw_ss (aw_ss (aw_ss (aw_ss aw_s0))))
def f_X5_tryAll_26 (F : Nat) (t a0 : Nat) (k26 : Int32 × aw_M → Option (Int32 × aw_M)) (x2 : Int32) (μ : aw_M) : Option (Int32 × aw_M) :=
  (if (μ.1 t 10) ≤ x2 then
  some ((μ.1 t 10), μ)
  else
  aw_g (aw_in (2 * x2) 940) (aw_g (aw_in ((2 * x2) + 1) 940) ((f_X5_play F t 0 0 (μ.1 (aw_rf a0 0) (2 * x2).toNatClampNeg) (μ.1 (aw_rf a0 0) ((2 * x2) + 1).toNatClampNeg) 0 μ).bind fun r22 =>
  aw_loop (fun k s => f_X5_tryAll_61 F t a0 k k26 s.1 s.2.1 s.2.2) F (x2, 0, r22))))
theorem c_X5_tryAll_26 (l : Launch) (F : Nat) (t : Nat) (ht : (aw_sh t).1 = 10) (a0 : Nat) (ha0 : (aw_sh a0).1 = 11) : ∀ (N : Nat) (s : Int32 × aw_M), AW l k_X5_tryAll aw_gi 26 [some (.ref t), some (.ref a0), some (.int s.1), none] [] s.2 (aw_loop (fun k s => f_X5_tryAll_26 F t a0 k s.1 s.2) N s) := by
  refine aw_loop_ok (f := fun k s => f_X5_tryAll_26 F t a0 k s.1 s.2) (Ls := fun s => [some (.ref t), some (.ref a0), some (.int s.1), none]) (ms := fun s => s.2) ?_
  intro k26 hk26 s
  obtain ⟨x2, μ⟩ := s
  show AW l k_X5_tryAll aw_gi 26 [some (.ref t), some (.ref a0), some (.int x2), none] [] μ (f_X5_tryAll_26 F t a0 k26 x2 μ)
  unfold f_X5_tryAll_26
  refine aw_iload_n (n := 27) dX5_tryAll_26 rfl rfl ?_
  refine aw_aload_n (n := 28) dX5_tryAll_27 rfl rfl ?_
  refine aw_getI (n := 31) (RX5, TX5, 12) 5 10 dX5_tryAll_28 rfl ht (by decide) fd_RX5_108 ?_
  refine aw_icmp_ge (n := 34) 144 dX5_tryAll_31 (by decide) rfl ?_ ?_
  · refine aw_aload_n (n := 145) dX5_tryAll_144 rfl rfl ?_
    refine aw_getI (n := 148) (RX5, TX5, 12) 5 10 dX5_tryAll_145 rfl ht (by decide) fd_RX5_108 ?_
    exact aw_ireturn dX5_tryAll_148 rfl rfl
  · refine aw_aload_n (n := 35) dX5_tryAll_34 rfl rfl ?_
    refine aw_iconst (n := 36) 0 dX5_tryAll_35 rfl (by decide) ?_
    refine aw_iconst (n := 37) 0 dX5_tryAll_36 rfl (by decide) ?_
    refine aw_aload_n (n := 38) dX5_tryAll_37 rfl rfl ?_
    refine aw_getR (n := 41) (RX6, TX6, 13) 6 0 dX5_tryAll_38 rfl ha0 (by decide) fd_RX5_111 ?_
    refine aw_iconst (n := 42) 2 dX5_tryAll_41 rfl (by decide) ?_
    refine aw_iload_n (n := 43) dX5_tryAll_42 rfl rfl ?_
    refine aw_imul (n := 44) dX5_tryAll_43 rfl ?_
    refine aw_iaload (n := 45) 940 dX5_tryAll_44 rfl (sf_6_0 ha0) ?_
    refine aw_aload_n (n := 46) dX5_tryAll_45 rfl rfl ?_
    refine aw_getR (n := 49) (RX6, TX6, 13) 6 0 dX5_tryAll_46 rfl ha0 (by decide) fd_RX5_111 ?_
    refine aw_iconst (n := 50) 2 dX5_tryAll_49 rfl (by decide) ?_
    refine aw_iload_n (n := 51) dX5_tryAll_50 rfl rfl ?_
    refine aw_imul (n := 52) dX5_tryAll_51 rfl ?_
    refine aw_iconst (n := 53) 1 dX5_tryAll_52 rfl (by decide) ?_
    refine aw_iadd (n := 54) dX5_tryAll_53 rfl ?_
    refine aw_iaload (n := 55) 940 dX5_tryAll_54 rfl (sf_6_0 ha0) ?_
    refine aw_iconst (n := 56) 0 dX5_tryAll_55 rfl (by decide) ?_
    refine aw_callVv (n := 59) (as := [.int 0, .int 0, .int (μ.1 (aw_rf a0 0) (2 * x2).toNatClampNeg), .int (μ.1 (aw_rf a0 0) ((2 * x2) + 1).toNatClampNeg), .int 0]) (st := []) (RX5, TX5, 12) 5 dX5_tryAll_56 rfl rfl (m_X5_play l F t ht 0 0 (μ.1 (aw_rf a0 0) (2 * x2).toNatClampNeg) (μ.1 (aw_rf a0 0) ((2 * x2) + 1).toNatClampNeg) 0 μ) ht (by decide) rfl rfl cw_RX5_60 ⟨Nat.le_of_ble_eq_true rfl, Nat.le_of_ble_eq_true rfl⟩ (fun _ => Nat.le_of_ble_eq_true rfl) (fun r22 => ?_)
    refine aw_iconst (n := 60) 0 dX5_tryAll_59 rfl (by decide) ?_
    refine aw_istore_n (n := 61) [some (.ref t), some (.ref a0), some (.int x2), some (.int 0)] dX5_tryAll_60 rfl rfl (Nat.le_of_ble_eq_true rfl) (Nat.le_of_ble_eq_true rfl) rfl ?_
    exact aw_weak (c_X5_tryAll_61 l F t ht a0 ha0 k26 hk26 F (x2, 0, r22)) (aw_ss (aw_ss (aw_ss (aw_ss aw_s0))))
def f_X5_tryAll (F : Nat) (t a0 : Nat) (μ : aw_M) : Option (Int32 × aw_M) :=
  (f_X5_isTable F t a0 μ).bind fun r19 =>
  (if r19.1 = true then
  aw_let (aw_wI r19.2 t 10 ((r19.2.1 a0 1) / 2)) fun μ20 =>
  (f_X5_playAll F t μ20).bind fun r21 =>
  aw_loop (fun k s => f_X5_tryAll_26 F t a0 k s.1 s.2) F (0, r21)
  else
  some ((-1), r19.2))
theorem m_X5_tryAll (l : Launch) (F : Nat) (t : Nat) (ht : (aw_sh t).1 = 10) (a0 : Nat) (ha0 : (aw_sh a0).1 = 11) (μ : aw_M) : AM l yX5_tryAll cX5_tryAll 4 (some .int) 5 224 aw_gi [.ref t, .ref a0] μ (f_X5_tryAll F t a0 μ) := by
  refine aw_met [some (.ref t), some (.ref a0), none, none] (by decide) (fun _ => rfl) (fun _ => Nat.le_of_ble_eq_true rfl) ?_
  show AW l k_X5_tryAll aw_gi 0 [some (.ref t), some (.ref a0), none, none] [] μ _
  unfold f_X5_tryAll
  refine aw_aload_n (n := 1) dX5_tryAll_0 rfl rfl ?_
  refine aw_aload_n (n := 2) dX5_tryAll_1 rfl rfl ?_
  refine aw_callVz (n := 5) (as := [.ref a0]) (st := []) (RX5, TX5, 12) 5 dX5_tryAll_2 rfl rfl (m_X5_isTable l F t ht a0 ha0 μ) ht (by decide) rfl rfl cw_RX5_99 ⟨Nat.le_of_ble_eq_true rfl, Nat.le_of_ble_eq_true rfl⟩ (fun _ => Nat.le_of_ble_eq_true rfl) (fun r19 => ?_)
  refine aw_ifb_ne (n := 8) 10 dX5_tryAll_5 (by decide) rfl ?_ ?_
  · refine aw_aload_n (n := 11) dX5_tryAll_10 rfl rfl ?_
    refine aw_aload_n (n := 12) dX5_tryAll_11 rfl rfl ?_
    refine aw_getI (n := 15) (RX6, TX6, 13) 6 1 dX5_tryAll_12 rfl ha0 (by decide) fd_RX5_103 ?_
    refine aw_iconst (n := 16) 2 dX5_tryAll_15 rfl (by decide) ?_
    refine aw_idivK (n := 17) dX5_tryAll_16 rfl (by decide) ?_
    refine aw_putI (n := 20) (RX5, TX5, 12) 5 10 dX5_tryAll_17 rfl ht (by decide) fp_RX5_108 (fun μ20 => ?_)
    refine aw_aload_n (n := 21) dX5_tryAll_20 rfl rfl ?_
    refine aw_callVv (n := 24) (as := []) (st := []) (RX5, TX5, 12) 5 dX5_tryAll_21 rfl rfl (m_X5_playAll l F t ht μ20) ht (by decide) rfl rfl cw_RX5_48 ⟨Nat.le_of_ble_eq_true rfl, Nat.le_of_ble_eq_true rfl⟩ (fun _ => Nat.le_of_ble_eq_true rfl) (fun r21 => ?_)
    refine aw_iconst (n := 25) 0 dX5_tryAll_24 rfl (by decide) ?_
    refine aw_istore_n (n := 26) [some (.ref t), some (.ref a0), some (.int 0), none] dX5_tryAll_25 rfl rfl (Nat.le_of_ble_eq_true rfl) (Nat.le_of_ble_eq_true rfl) rfl ?_
    exact aw_weak (c_X5_tryAll_26 l F t ht a0 ha0 F (0, r21)) (aw_ss (aw_ss (aw_ss (aw_sn aw_s0))))
  · refine aw_iconst (n := 9) (-1) dX5_tryAll_8 rfl (by decide) ?_
    exact aw_ireturn dX5_tryAll_9 rfl rfl
abbrev k_X5_metMarks : aw_K := (RX5, cX5_metMarks, 4, (some .int), 1, 120)
def f_X5_metMarks (F : Nat) (t : Nat) (a0 : Int32) (a1 : Int32) (a2 : Int32) (μ : aw_M) : Option (Int32 × aw_M) :=
  (if a0 < 0 then
  some ((-10001), μ)
  else
  (if (μ.1 t 10) ≤ a0 then
  some ((-10001), μ)
  else
  (if a1 < 0 then
  some ((-10001), μ)
  else
  (if a1 < (μ.1 t 10) then
  aw_g (aw_in ((2 * ((a0 * 6) + a1)) + a2) 72) (some ((μ.1 (aw_rf t 11) ((2 * ((a0 * 6) + a1)) + a2).toNatClampNeg), μ))
  else
  some ((-10001), μ)))))
theorem m_X5_metMarks (l : Launch) (F : Nat) (t : Nat) (ht : (aw_sh t).1 = 10) (a0 : Int32) (a1 : Int32) (a2 : Int32) (μ : aw_M) : AM l yX5_metMarks cX5_metMarks 4 (some .int) 1 120 aw_gi [.ref t, .int a0, .int a1, .int a2] μ (f_X5_metMarks F t a0 a1 a2 μ) := by
  refine aw_met [some (.ref t), some (.int a0), some (.int a1), some (.int a2)] (by decide) (fun _ => rfl) (fun _ => Nat.le_of_ble_eq_true rfl) ?_
  show AW l k_X5_metMarks aw_gi 0 [some (.ref t), some (.int a0), some (.int a1), some (.int a2)] [] μ _
  unfold f_X5_metMarks
  refine aw_iload_n (n := 1) dX5_metMarks_0 rfl rfl ?_
  refine aw_if_lt (n := 4) 24 dX5_metMarks_1 (by decide) rfl ?_ ?_
  · refine aw_sipush (n := 27) (-10001) dX5_metMarks_24 rfl (by decide) ?_
    exact aw_ireturn dX5_metMarks_27 rfl rfl
  · refine aw_iload_n (n := 5) dX5_metMarks_4 rfl rfl ?_
    refine aw_aload_n (n := 6) dX5_metMarks_5 rfl rfl ?_
    refine aw_getI (n := 9) (RX5, TX5, 12) 5 10 dX5_metMarks_6 rfl ht (by decide) fd_RX5_108 ?_
    refine aw_icmp_ge (n := 12) 24 dX5_metMarks_9 (by decide) rfl ?_ ?_
    · refine aw_sipush (n := 27) (-10001) dX5_metMarks_24 rfl (by decide) ?_
      exact aw_ireturn dX5_metMarks_27 rfl rfl
    · refine aw_iload_n (n := 13) dX5_metMarks_12 rfl rfl ?_
      refine aw_if_lt (n := 16) 24 dX5_metMarks_13 (by decide) rfl ?_ ?_
      · refine aw_sipush (n := 27) (-10001) dX5_metMarks_24 rfl (by decide) ?_
        exact aw_ireturn dX5_metMarks_27 rfl rfl
      · refine aw_iload_n (n := 17) dX5_metMarks_16 rfl rfl ?_
        refine aw_aload_n (n := 18) dX5_metMarks_17 rfl rfl ?_
        refine aw_getI (n := 21) (RX5, TX5, 12) 5 10 dX5_metMarks_18 rfl ht (by decide) fd_RX5_108 ?_
        refine aw_icmp_lt (n := 24) 28 dX5_metMarks_21 (by decide) rfl ?_ ?_
        · refine aw_aload_n (n := 29) dX5_metMarks_28 rfl rfl ?_
          refine aw_getR (n := 32) (RX5, TX5, 12) 5 11 dX5_metMarks_29 rfl ht (by decide) fd_RX5_33 ?_
          refine aw_iconst (n := 33) 2 dX5_metMarks_32 rfl (by decide) ?_
          refine aw_iload_n (n := 34) dX5_metMarks_33 rfl rfl ?_
          refine aw_bipush (n := 36) 6 dX5_metMarks_34 rfl (by decide) ?_
          refine aw_imul (n := 37) dX5_metMarks_36 rfl ?_
          refine aw_iload_n (n := 38) dX5_metMarks_37 rfl rfl ?_
          refine aw_iadd (n := 39) dX5_metMarks_38 rfl ?_
          refine aw_imul (n := 40) dX5_metMarks_39 rfl ?_
          refine aw_iload_n (n := 41) dX5_metMarks_40 rfl rfl ?_
          refine aw_iadd (n := 42) dX5_metMarks_41 rfl ?_
          refine aw_iaload (n := 43) 72 dX5_metMarks_42 rfl (sf_5_11 ht) ?_
          exact aw_ireturn dX5_metMarks_43 rfl rfl
        · refine aw_sipush (n := 27) (-10001) dX5_metMarks_24 rfl (by decide) ?_
          exact aw_ireturn dX5_metMarks_27 rfl rfl
abbrev k_X5_bestReply : aw_K := (RX5, cX5_bestReply, 4, (some .int), 2, 143)
def f_X5_bestReply_48 (F : Nat) (t : Nat) (k4 : Int32 × Int32 × Int32 × aw_M → Option (Int32 × aw_M)) (x1 : Int32) (x2 : Int32) (x3 : Int32) (μ : aw_M) : Option (Int32 × aw_M) :=
  k4 (x1, x2, (x3 + 1), μ)
theorem c_X5_bestReply_48 (l : Launch) (F : Nat) (t : Nat) (ht : (aw_sh t).1 = 10) (k4 : Int32 × Int32 × Int32 × aw_M → Option (Int32 × aw_M)) (hk4 : ∀ s : Int32 × Int32 × Int32 × aw_M, AW l k_X5_bestReply aw_gi 4 [some (.ref t), some (.int s.1), some (.int s.2.1), some (.int s.2.2.1)] [] s.2.2.2 (k4 s)) (x1 : Int32) (x2 : Int32) (x3 : Int32) (μ : aw_M) : AW l k_X5_bestReply aw_gi 48 [some (.ref t), some (.int x1), some (.int x2), some (.int x3)] [] μ (f_X5_bestReply_48 F t k4 x1 x2 x3 μ) := by
  unfold f_X5_bestReply_48
  refine aw_iinc (n := 51) (x3 + 1) [some (.ref t), some (.int x1), some (.int x2), some (.int (x3 + 1))] dX5_bestReply_48 rfl rfl (by rfl) rfl (Nat.le_of_ble_eq_true rfl) rfl ?_
  refine aw_goto 4 dX5_bestReply_51 (by decide) ?_
  exact aw_weak (hk4 (x1, x2, (x3 + 1), μ)) (aw_ss (aw_ss (aw_ss (aw_ss aw_s0))))
def f_X5_bestReply_46 (F : Nat) (t : Nat) (k4 : Int32 × Int32 × Int32 × aw_M → Option (Int32 × aw_M)) (x1 : Int32) (x3 : Int32) (μ : aw_M) : Option (Int32 × aw_M) :=
  f_X5_bestReply_48 F t k4 x1 x3 x3 μ
theorem c_X5_bestReply_46 (l : Launch) (F : Nat) (t : Nat) (ht : (aw_sh t).1 = 10) (k4 : Int32 × Int32 × Int32 × aw_M → Option (Int32 × aw_M)) (hk4 : ∀ s : Int32 × Int32 × Int32 × aw_M, AW l k_X5_bestReply aw_gi 4 [some (.ref t), some (.int s.1), some (.int s.2.1), some (.int s.2.2.1)] [] s.2.2.2 (k4 s)) (x1 : Int32) (x3 : Int32) (μ : aw_M) : AW l k_X5_bestReply aw_gi 46 [some (.ref t), some (.int x1), none, some (.int x3)] [] μ (f_X5_bestReply_46 F t k4 x1 x3 μ) := by
  unfold f_X5_bestReply_46
  refine aw_iload_n (n := 47) dX5_bestReply_46 rfl rfl ?_
  refine aw_istore_n (n := 48) [some (.ref t), some (.int x1), some (.int x3), some (.int x3)] dX5_bestReply_47 rfl rfl (Nat.le_of_ble_eq_true rfl) (Nat.le_of_ble_eq_true rfl) rfl ?_
  exact aw_weak (c_X5_bestReply_48 l F t ht k4 hk4 x1 x3 x3 μ) (aw_ss (aw_ss (aw_ss (aw_ss aw_s0))))
def f_X5_bestReply_4 (F : Nat) (t : Nat) (k4 : Int32 × Int32 × Int32 × aw_M → Option (Int32 × aw_M)) (x1 : Int32) (x2 : Int32) (x3 : Int32) (μ : aw_M) : Option (Int32 × aw_M) :=
  (if (μ.1 t 10) ≤ x3 then
  some (x2, μ)
  else
  (if x1 < 0 then
  some (x2, μ)
  else
  (if (μ.1 t 10) ≤ x1 then
  some (x2, μ)
  else
  (if x2 = (-1) then
  f_X5_bestReply_46 F t k4 x1 x3 μ
  else
  (f_X5_metMarks F t x3 x1 0 μ).bind fun r5 =>
  (f_X5_metMarks F t x2 x1 0 r5.2).bind fun r6 =>
  (if r5.1 ≤ r6.1 then
  f_X5_bestReply_48 F t k4 x1 x2 x3 r6.2
  else
  f_X5_bestReply_46 F t k4 x1 x3 r6.2)))))
theorem c_X5_bestReply_4 (l : Launch) (F : Nat) (t : Nat) (ht : (aw_sh t).1 = 10) : ∀ (N : Nat) (s : Int32 × Int32 × Int32 × aw_M), AW l k_X5_bestReply aw_gi 4 [some (.ref t), some (.int s.1), some (.int s.2.1), some (.int s.2.2.1)] [] s.2.2.2 (aw_loop (fun k s => f_X5_bestReply_4 F t k s.1 s.2.1 s.2.2.1 s.2.2.2) N s) := by
  refine aw_loop_ok (f := fun k s => f_X5_bestReply_4 F t k s.1 s.2.1 s.2.2.1 s.2.2.2) (Ls := fun s => [some (.ref t), some (.int s.1), some (.int s.2.1), some (.int s.2.2.1)]) (ms := fun s => s.2.2.2) ?_
  intro k4 hk4 s
  obtain ⟨x1, x2, x3, μ⟩ := s
  show AW l k_X5_bestReply aw_gi 4 [some (.ref t), some (.int x1), some (.int x2), some (.int x3)] [] μ (f_X5_bestReply_4 F t k4 x1 x2 x3 μ)
  unfold f_X5_bestReply_4
  refine aw_iload_n (n := 5) dX5_bestReply_4 rfl rfl ?_
  refine aw_aload_n (n := 6) dX5_bestReply_5 rfl rfl ?_
  refine aw_getI (n := 9) (RX5, TX5, 12) 5 10 dX5_bestReply_6 rfl ht (by decide) fd_RX5_108 ?_
  refine aw_icmp_ge (n := 12) 54 dX5_bestReply_9 (by decide) rfl ?_ ?_
  · refine aw_iload_n (n := 55) dX5_bestReply_54 rfl rfl ?_
    exact aw_ireturn dX5_bestReply_55 rfl rfl
  · refine aw_iload_n (n := 13) dX5_bestReply_12 rfl rfl ?_
    refine aw_if_lt (n := 16) 54 dX5_bestReply_13 (by decide) rfl ?_ ?_
    · refine aw_iload_n (n := 55) dX5_bestReply_54 rfl rfl ?_
      exact aw_ireturn dX5_bestReply_55 rfl rfl
    · refine aw_iload_n (n := 17) dX5_bestReply_16 rfl rfl ?_
      refine aw_aload_n (n := 18) dX5_bestReply_17 rfl rfl ?_
      refine aw_getI (n := 21) (RX5, TX5, 12) 5 10 dX5_bestReply_18 rfl ht (by decide) fd_RX5_108 ?_
      refine aw_icmp_ge (n := 24) 54 dX5_bestReply_21 (by decide) rfl ?_ ?_
      · refine aw_iload_n (n := 55) dX5_bestReply_54 rfl rfl ?_
        exact aw_ireturn dX5_bestReply_55 rfl rfl
      · refine aw_iload_n (n := 25) dX5_bestReply_24 rfl rfl ?_
        refine aw_iconst (n := 26) (-1) dX5_bestReply_25 rfl (by decide) ?_
        refine aw_icmp_eq (n := 29) 46 dX5_bestReply_26 (by decide) rfl ?_ ?_
        · exact aw_weak (c_X5_bestReply_46 l F t ht k4 hk4 x1 x3 μ) (aw_ss (aw_ss (aw_sn (aw_ss aw_s0))))
        · refine aw_aload_n (n := 30) dX5_bestReply_29 rfl rfl ?_
          refine aw_iload_n (n := 31) dX5_bestReply_30 rfl rfl ?_
          refine aw_iload_n (n := 32) dX5_bestReply_31 rfl rfl ?_
          refine aw_iconst (n := 33) 0 dX5_bestReply_32 rfl (by decide) ?_
          refine aw_callVi (n := 36) (as := [.int x3, .int x1, .int 0]) (st := []) (RX5, TX5, 12) 5 dX5_bestReply_33 rfl rfl (m_X5_metMarks l F t ht x3 x1 0 μ) ht (by decide) rfl rfl cw_RX5_117 ⟨Nat.le_of_ble_eq_true rfl, Nat.le_of_ble_eq_true rfl⟩ (fun _ => Nat.le_of_ble_eq_true rfl) (fun r5 => ?_)
          refine aw_aload_n (n := 37) dX5_bestReply_36 rfl rfl ?_
          refine aw_iload_n (n := 38) dX5_bestReply_37 rfl rfl ?_
          refine aw_iload_n (n := 39) dX5_bestReply_38 rfl rfl ?_
          refine aw_iconst (n := 40) 0 dX5_bestReply_39 rfl (by decide) ?_
          refine aw_callVi (n := 43) (as := [.int x2, .int x1, .int 0]) (st := [.int r5.1]) (RX5, TX5, 12) 5 dX5_bestReply_40 rfl rfl (m_X5_metMarks l F t ht x2 x1 0 r5.2) ht (by decide) rfl rfl cw_RX5_117 ⟨Nat.le_of_ble_eq_true rfl, Nat.le_of_ble_eq_true rfl⟩ (fun _ => Nat.le_of_ble_eq_true rfl) (fun r6 => ?_)
          refine aw_icmp_le (n := 46) 48 dX5_bestReply_43 (by decide) rfl ?_ ?_
          · exact aw_weak (c_X5_bestReply_48 l F t ht k4 hk4 x1 x2 x3 r6.2) (aw_ss (aw_ss (aw_ss (aw_ss aw_s0))))
          · exact aw_weak (c_X5_bestReply_46 l F t ht k4 hk4 x1 x3 r6.2) (aw_ss (aw_ss (aw_sn (aw_ss aw_s0))))
def f_X5_bestReply (F : Nat) (t : Nat) (a0 : Int32) (μ : aw_M) : Option (Int32 × aw_M) :=
  aw_loop (fun k s => f_X5_bestReply_4 F t k s.1 s.2.1 s.2.2.1 s.2.2.2) F (a0, (-1), 0, μ)
theorem m_X5_bestReply (l : Launch) (F : Nat) (t : Nat) (ht : (aw_sh t).1 = 10) (a0 : Int32) (μ : aw_M) : AM l yX5_bestReply cX5_bestReply 4 (some .int) 2 143 aw_gi [.ref t, .int a0] μ (f_X5_bestReply F t a0 μ) := by
  refine aw_met [some (.ref t), some (.int a0), none, none] (by decide) (fun _ => rfl) (fun _ => Nat.le_of_ble_eq_true rfl) ?_
  show AW l k_X5_bestReply aw_gi 0 [some (.ref t), some (.int a0), none, none] [] μ _
  unfold f_X5_bestReply
  refine aw_iconst (n := 1) (-1) dX5_bestReply_0 rfl (by decide) ?_
  refine aw_istore_n (n := 2) [some (.ref t), some (.int a0), some (.int (-1)), none] dX5_bestReply_1 rfl rfl (Nat.le_of_ble_eq_true rfl) (Nat.le_of_ble_eq_true rfl) rfl ?_
  refine aw_iconst (n := 3) 0 dX5_bestReply_2 rfl (by decide) ?_
  refine aw_istore_n (n := 4) [some (.ref t), some (.int a0), some (.int (-1)), some (.int 0)] dX5_bestReply_3 rfl rfl (Nat.le_of_ble_eq_true rfl) (Nat.le_of_ble_eq_true rfl) rfl ?_
  exact aw_weak (c_X5_bestReply_4 l F t ht F (a0, (-1), 0, μ)) (aw_ss (aw_ss (aw_ss (aw_ss aw_s0))))
