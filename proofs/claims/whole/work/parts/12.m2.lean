abbrev k_X1_nearestVisit : aw_K := (RX1, cX1_nearestVisit, 11, (some .int), 1, 120)
def f_X1_nearestVisit_86 (F : Nat) (t a4 : Nat) (k16 : Int32 × Int32 × Int32 × Int32 × Int32 × Int32 × Int32 × aw_M → Option (Int32 × aw_M)) (x1 : Int32) (x2 : Int32) (x4 : Int32) (x6 : Int32) (x7 : Int32) (x8 : Int32) (x9 : Int32) (μ : aw_M) : Option (Int32 × aw_M) :=
  k16 (x1, x2, x4, x6, x7, x8, (x9 + 1), μ)
theorem c_X1_nearestVisit_86 (l : Launch) (F : Nat) (t : Nat) (ht : (aw_sh t).1 = 6) (a4 : Nat) (ha4 : aw_sh a4 = (0, (aw_sh a4).2)) (k16 : Int32 × Int32 × Int32 × Int32 × Int32 × Int32 × Int32 × aw_M → Option (Int32 × aw_M)) (hk16 : ∀ s : Int32 × Int32 × Int32 × Int32 × Int32 × Int32 × Int32 × aw_M, AW l k_X1_nearestVisit aw_gi 16 [some (.ref t), some (.int s.1), some (.int s.2.1), none, some (.int s.2.2.1), some (.ref a4), some (.int s.2.2.2.1), some (.int s.2.2.2.2.1), some (.int s.2.2.2.2.2.1), some (.int s.2.2.2.2.2.2.1), none] [] s.2.2.2.2.2.2.2 (k16 s)) (x1 : Int32) (x2 : Int32) (x4 : Int32) (x6 : Int32) (x7 : Int32) (x8 : Int32) (x9 : Int32) (μ : aw_M) : AW l k_X1_nearestVisit aw_gi 86 [some (.ref t), some (.int x1), some (.int x2), none, some (.int x4), some (.ref a4), some (.int x6), some (.int x7), some (.int x8), some (.int x9), none] [] μ (f_X1_nearestVisit_86 F t a4 k16 x1 x2 x4 x6 x7 x8 x9 μ) := by
  unfold f_X1_nearestVisit_86
  refine aw_iinc (n := 89) (x9 + 1) [some (.ref t), some (.int x1), some (.int x2), none, some (.int x4), some (.ref a4), some (.int x6), some (.int x7), some (.int x8), some (.int (x9 + 1)), none] dX1_nearestVisit_86 rfl rfl (by rfl) rfl (Nat.le_of_ble_eq_true rfl) rfl ?_
  refine aw_goto 16 dX1_nearestVisit_89 (by decide) ?_
  exact aw_weak (hk16 (x1, x2, x4, x6, x7, x8, (x9 + 1), μ)) (aw_ss (aw_ss (aw_ss (aw_sn (aw_ss (aw_ss (aw_ss (aw_ss (aw_ss (aw_ss (aw_sn aw_s0)))))))))))
def f_X1_nearestVisit_16 (F : Nat) (t a4 : Nat) (k16 : Int32 × Int32 × Int32 × Int32 × Int32 × Int32 × Int32 × aw_M → Option (Int32 × aw_M)) (x1 : Int32) (x2 : Int32) (x4 : Int32) (x6 : Int32) (x7 : Int32) (x8 : Int32) (x9 : Int32) (μ : aw_M) : Option (Int32 × aw_M) :=
  aw_g (aw_in (x2 + 1) 81) ((if (μ.1 (aw_rf t 10) (x2 + 1).toNatClampNeg) ≤ x9 then
  some (x7, μ)
  else
  aw_g (aw_in x9 80) (aw_let ((μ.1 (aw_rf t 11) x9.toNatClampNeg)) fun v7 =>
  aw_g (aw_in ((x1 * 20) + v7) 360) ((if x8 ≤ (μ.1 (aw_rf t 0) ((x1 * 20) + v7).toNatClampNeg) then
  f_X1_nearestVisit_86 F t a4 k16 x1 x2 x4 x6 x7 x8 x9 μ
  else
  aw_g (aw_in (x6 + v7) ((aw_sh a4).2)) ((if x4 ≤ (μ.1 a4 (x6 + v7).toNatClampNeg) then
  f_X1_nearestVisit_86 F t a4 k16 x1 x2 x4 x6 x7 x8 x9 μ
  else
  aw_g (aw_in ((x1 * 20) + v7) 360) (aw_let ((μ.1 (aw_rf t 0) ((x1 * 20) + v7).toNatClampNeg)) fun v8 =>
  f_X1_nearestVisit_86 F t a4 k16 x1 x2 x4 x6 x9 v8 x9 μ))))))))
theorem c_X1_nearestVisit_16 (l : Launch) (F : Nat) (t : Nat) (ht : (aw_sh t).1 = 6) (a4 : Nat) (ha4 : aw_sh a4 = (0, (aw_sh a4).2)) : ∀ (N : Nat) (s : Int32 × Int32 × Int32 × Int32 × Int32 × Int32 × Int32 × aw_M), AW l k_X1_nearestVisit aw_gi 16 [some (.ref t), some (.int s.1), some (.int s.2.1), none, some (.int s.2.2.1), some (.ref a4), some (.int s.2.2.2.1), some (.int s.2.2.2.2.1), some (.int s.2.2.2.2.2.1), some (.int s.2.2.2.2.2.2.1), none] [] s.2.2.2.2.2.2.2 (aw_loop (fun k s => f_X1_nearestVisit_16 F t a4 k s.1 s.2.1 s.2.2.1 s.2.2.2.1 s.2.2.2.2.1 s.2.2.2.2.2.1 s.2.2.2.2.2.2.1 s.2.2.2.2.2.2.2) N s) := by
  refine aw_loop_ok (f := fun k s => f_X1_nearestVisit_16 F t a4 k s.1 s.2.1 s.2.2.1 s.2.2.2.1 s.2.2.2.2.1 s.2.2.2.2.2.1 s.2.2.2.2.2.2.1 s.2.2.2.2.2.2.2) (Ls := fun s => [some (.ref t), some (.int s.1), some (.int s.2.1), none, some (.int s.2.2.1), some (.ref a4), some (.int s.2.2.2.1), some (.int s.2.2.2.2.1), some (.int s.2.2.2.2.2.1), some (.int s.2.2.2.2.2.2.1), none]) (ms := fun s => s.2.2.2.2.2.2.2) ?_
  intro k16 hk16 s
  obtain ⟨x1, x2, x4, x6, x7, x8, x9, μ⟩ := s
  show AW l k_X1_nearestVisit aw_gi 16 [some (.ref t), some (.int x1), some (.int x2), none, some (.int x4), some (.ref a4), some (.int x6), some (.int x7), some (.int x8), some (.int x9), none] [] μ (f_X1_nearestVisit_16 F t a4 k16 x1 x2 x4 x6 x7 x8 x9 μ)
  unfold f_X1_nearestVisit_16
  refine aw_iload (n := 18) dX1_nearestVisit_16 rfl rfl ?_
  refine aw_aload_n (n := 19) dX1_nearestVisit_18 rfl rfl ?_
  refine aw_getR (n := 22) (RX1, TX1, 12) 1 10 dX1_nearestVisit_19 rfl ht (by decide) fd_RX1_37 ?_
  refine aw_iload_n (n := 23) dX1_nearestVisit_22 rfl rfl ?_
  refine aw_iconst (n := 24) 1 dX1_nearestVisit_23 rfl (by decide) ?_
  refine aw_iadd (n := 25) dX1_nearestVisit_24 rfl ?_
  refine aw_iaload (n := 26) 81 dX1_nearestVisit_25 rfl (sf_1_10 ht) ?_
  refine aw_icmp_ge (n := 29) 92 dX1_nearestVisit_26 (by decide) rfl ?_ ?_
  · refine aw_iload (n := 94) dX1_nearestVisit_92 rfl rfl ?_
    exact aw_ireturn dX1_nearestVisit_94 rfl rfl
  · refine aw_aload_n (n := 30) dX1_nearestVisit_29 rfl rfl ?_
    refine aw_getR (n := 33) (RX1, TX1, 12) 1 11 dX1_nearestVisit_30 rfl ht (by decide) fd_RX1_40 ?_
    refine aw_iload (n := 35) dX1_nearestVisit_33 rfl rfl ?_
    refine aw_iaload (n := 36) 80 dX1_nearestVisit_35 rfl (sf_1_11 ht) ?_
    refine aw_nmI (fun v7 => ?_)
    refine aw_istore (n := 38) [some (.ref t), some (.int x1), some (.int x2), none, some (.int x4), some (.ref a4), some (.int x6), some (.int x7), some (.int x8), some (.int x9), some (.int v7)] dX1_nearestVisit_36 rfl rfl (Nat.le_of_ble_eq_true rfl) (Nat.le_of_ble_eq_true rfl) rfl ?_
    refine aw_aload_n (n := 39) dX1_nearestVisit_38 rfl rfl ?_
    refine aw_getR (n := 42) (RX1, TX1, 12) 1 0 dX1_nearestVisit_39 rfl ht (by decide) fd_RX1_11 ?_
    refine aw_iload_n (n := 43) dX1_nearestVisit_42 rfl rfl ?_
    refine aw_bipush (n := 45) 20 dX1_nearestVisit_43 rfl (by decide) ?_
    refine aw_imul (n := 46) dX1_nearestVisit_45 rfl ?_
    refine aw_iload (n := 48) dX1_nearestVisit_46 rfl rfl ?_
    refine aw_iadd (n := 49) dX1_nearestVisit_48 rfl ?_
    refine aw_iaload (n := 50) 360 dX1_nearestVisit_49 rfl (sf_1_0 ht) ?_
    refine aw_iload (n := 52) dX1_nearestVisit_50 rfl rfl ?_
    refine aw_icmp_ge (n := 55) 86 dX1_nearestVisit_52 (by decide) rfl ?_ ?_
    · exact aw_weak (c_X1_nearestVisit_86 l F t ht a4 ha4 k16 hk16 x1 x2 x4 x6 x7 x8 x9 μ) (aw_ss (aw_ss (aw_ss (aw_sn (aw_ss (aw_ss (aw_ss (aw_ss (aw_ss (aw_ss (aw_sn aw_s0)))))))))))
    · refine aw_aload (n := 57) dX1_nearestVisit_55 rfl rfl ?_
      refine aw_iload (n := 59) dX1_nearestVisit_57 rfl rfl ?_
      refine aw_iload (n := 61) dX1_nearestVisit_59 rfl rfl ?_
      refine aw_iadd (n := 62) dX1_nearestVisit_61 rfl ?_
      refine aw_iaload (n := 63) ((aw_sh a4).2) dX1_nearestVisit_62 rfl ha4 ?_
      refine aw_iload (n := 65) dX1_nearestVisit_63 rfl rfl ?_
      refine aw_icmp_ge (n := 68) 86 dX1_nearestVisit_65 (by decide) rfl ?_ ?_
      · exact aw_weak (c_X1_nearestVisit_86 l F t ht a4 ha4 k16 hk16 x1 x2 x4 x6 x7 x8 x9 μ) (aw_ss (aw_ss (aw_ss (aw_sn (aw_ss (aw_ss (aw_ss (aw_ss (aw_ss (aw_ss (aw_sn aw_s0)))))))))))
      · refine aw_aload_n (n := 69) dX1_nearestVisit_68 rfl rfl ?_
        refine aw_getR (n := 72) (RX1, TX1, 12) 1 0 dX1_nearestVisit_69 rfl ht (by decide) fd_RX1_11 ?_
        refine aw_iload_n (n := 73) dX1_nearestVisit_72 rfl rfl ?_
        refine aw_bipush (n := 75) 20 dX1_nearestVisit_73 rfl (by decide) ?_
        refine aw_imul (n := 76) dX1_nearestVisit_75 rfl ?_
        refine aw_iload (n := 78) dX1_nearestVisit_76 rfl rfl ?_
        refine aw_iadd (n := 79) dX1_nearestVisit_78 rfl ?_
        refine aw_iaload (n := 80) 360 dX1_nearestVisit_79 rfl (sf_1_0 ht) ?_
        refine aw_nmI (fun v8 => ?_)
        refine aw_istore (n := 82) [some (.ref t), some (.int x1), some (.int x2), none, some (.int x4), some (.ref a4), some (.int x6), some (.int x7), some (.int v8), some (.int x9), some (.int v7)] dX1_nearestVisit_80 rfl rfl (Nat.le_of_ble_eq_true rfl) (Nat.le_of_ble_eq_true rfl) rfl ?_
        refine aw_iload (n := 84) dX1_nearestVisit_82 rfl rfl ?_
        refine aw_istore (n := 86) [some (.ref t), some (.int x1), some (.int x2), none, some (.int x4), some (.ref a4), some (.int x6), some (.int x9), some (.int v8), some (.int x9), some (.int v7)] dX1_nearestVisit_84 rfl rfl (Nat.le_of_ble_eq_true rfl) (Nat.le_of_ble_eq_true rfl) rfl ?_
        exact aw_weak (c_X1_nearestVisit_86 l F t ht a4 ha4 k16 hk16 x1 x2 x4 x6 x9 v8 x9 μ) (aw_ss (aw_ss (aw_ss (aw_sn (aw_ss (aw_ss (aw_ss (aw_ss (aw_ss (aw_ss (aw_sn aw_s0)))))))))))
def f_X1_nearestVisit (F : Nat) (t a4 : Nat) (a0 : Int32) (a1 : Int32) (a2 : Int32) (a3 : Int32) (a5 : Int32) (μ : aw_M) : Option (Int32 × aw_M) :=
  aw_let ((a2 + 1)) fun v5 =>
  aw_g (aw_in a1 81) (aw_let ((μ.1 (aw_rf t 10) a1.toNatClampNeg)) fun v6 =>
  aw_loop (fun k s => f_X1_nearestVisit_16 F t a4 k s.1 s.2.1 s.2.2.1 s.2.2.2.1 s.2.2.2.2.1 s.2.2.2.2.2.1 s.2.2.2.2.2.2.1 s.2.2.2.2.2.2.2) F (a0, a1, a3, a5, (-1), v5, v6, μ))
theorem m_X1_nearestVisit (l : Launch) (F : Nat) (t : Nat) (ht : (aw_sh t).1 = 6) (a4 : Nat) (ha4 : aw_sh a4 = (0, (aw_sh a4).2)) (a0 : Int32) (a1 : Int32) (a2 : Int32) (a3 : Int32) (a5 : Int32) (μ : aw_M) : AM l yX1_nearestVisit cX1_nearestVisit 11 (some .int) 1 120 aw_gi [.ref t, .int a0, .int a1, .int a2, .int a3, .ref a4, .int a5] μ (f_X1_nearestVisit F t a4 a0 a1 a2 a3 a5 μ) := by
  refine aw_met [some (.ref t), some (.int a0), some (.int a1), some (.int a2), some (.int a3), some (.ref a4), some (.int a5), none, none, none, none] (by decide) (fun _ => rfl) (fun _ => Nat.le_of_ble_eq_true rfl) ?_
  show AW l k_X1_nearestVisit aw_gi 0 [some (.ref t), some (.int a0), some (.int a1), some (.int a2), some (.int a3), some (.ref a4), some (.int a5), none, none, none, none] [] μ _
  unfold f_X1_nearestVisit
  refine aw_iconst (n := 1) (-1) dX1_nearestVisit_0 rfl (by decide) ?_
  refine aw_istore (n := 3) [some (.ref t), some (.int a0), some (.int a1), some (.int a2), some (.int a3), some (.ref a4), some (.int a5), some (.int (-1)), none, none, none] dX1_nearestVisit_1 rfl rfl (Nat.le_of_ble_eq_true rfl) (Nat.le_of_ble_eq_true rfl) rfl ?_
  refine aw_iload_n (n := 4) dX1_nearestVisit_3 rfl rfl ?_
  refine aw_iconst (n := 5) 1 dX1_nearestVisit_4 rfl (by decide) ?_
  refine aw_iadd (n := 6) dX1_nearestVisit_5 rfl ?_
  refine aw_nmI (fun v5 => ?_)
  refine aw_istore (n := 8) [some (.ref t), some (.int a0), some (.int a1), some (.int a2), some (.int a3), some (.ref a4), some (.int a5), some (.int (-1)), some (.int v5), none, none] dX1_nearestVisit_6 rfl rfl (Nat.le_of_ble_eq_true rfl) (Nat.le_of_ble_eq_true rfl) rfl ?_
  refine aw_aload_n (n := 9) dX1_nearestVisit_8 rfl rfl ?_
  refine aw_getR (n := 12) (RX1, TX1, 12) 1 10 dX1_nearestVisit_9 rfl ht (by decide) fd_RX1_37 ?_
  refine aw_iload_n (n := 13) dX1_nearestVisit_12 rfl rfl ?_
  refine aw_iaload (n := 14) 81 dX1_nearestVisit_13 rfl (sf_1_10 ht) ?_
  refine aw_nmI (fun v6 => ?_)
  refine aw_istore (n := 16) [some (.ref t), some (.int a0), some (.int a1), some (.int a2), some (.int a3), some (.ref a4), some (.int a5), some (.int (-1)), some (.int v5), some (.int v6), none] dX1_nearestVisit_14 rfl rfl (Nat.le_of_ble_eq_true rfl) (Nat.le_of_ble_eq_true rfl) rfl ?_
  exact aw_weak (c_X1_nearestVisit_16 l F t ht a4 ha4 F (a0, a1, a3, a5, (-1), v5, v6, μ)) (aw_ss (aw_ss (aw_ss (aw_sn (aw_ss (aw_ss (aw_ss (aw_ss (aw_ss (aw_ss (aw_sn aw_s0)))))))))))
abbrev k_X2_hasPlan : aw_K := (RX2, cX2_hasPlan, 2, (some .boolean), 1, 120)
def f_X2_hasPlan (F : Nat) (t : Nat) (a0 : Int32) (μ : aw_M) : Option (Bool × aw_M) :=
  (if a0 < 0 then
  some (false, μ)
  else
  (if 9 ≤ a0 then
  some (false, μ)
  else
  aw_g (aw_in a0 9) ((if (μ.1 (aw_rf t 1) a0.toNatClampNeg) = (-1) then
  some (false, μ)
  else
  some (true, μ)))))
theorem m_X2_hasPlan (l : Launch) (F : Nat) (t : Nat) (ht : (aw_sh t).1 = 7) (a0 : Int32) (μ : aw_M) : AM l yX2_hasPlan cX2_hasPlan 2 (some .boolean) 1 120 aw_gz [.ref t, .int a0] μ (f_X2_hasPlan F t a0 μ) := by
  refine aw_met [some (.ref t), some (.int a0)] (by decide) (fun _ => rfl) (fun _ => Nat.le_of_ble_eq_true rfl) ?_
  show AW l k_X2_hasPlan aw_gz 0 [some (.ref t), some (.int a0)] [] μ _
  unfold f_X2_hasPlan
  refine aw_iload_n (n := 1) dX2_hasPlan_0 rfl rfl ?_
  refine aw_if_lt (n := 4) 24 dX2_hasPlan_1 (by decide) rfl ?_ ?_
  · refine aw_iconst (n := 25) 0 dX2_hasPlan_24 rfl (by decide) ?_
    exact aw_zreturn (b := false) dX2_hasPlan_25 rfl rfl
  · refine aw_iload_n (n := 5) dX2_hasPlan_4 rfl rfl ?_
    refine aw_bipush (n := 7) 9 dX2_hasPlan_5 rfl (by decide) ?_
    refine aw_icmp_ge (n := 10) 24 dX2_hasPlan_7 (by decide) rfl ?_ ?_
    · refine aw_iconst (n := 25) 0 dX2_hasPlan_24 rfl (by decide) ?_
      exact aw_zreturn (b := false) dX2_hasPlan_25 rfl rfl
    · refine aw_aload_n (n := 11) dX2_hasPlan_10 rfl rfl ?_
      refine aw_getR (n := 14) (RX2, TX2, 4) 2 1 dX2_hasPlan_11 rfl ht (by decide) fd_RX2_9 ?_
      refine aw_iload_n (n := 15) dX2_hasPlan_14 rfl rfl ?_
      refine aw_iaload (n := 16) 9 dX2_hasPlan_15 rfl (sf_2_1 ht) ?_
      refine aw_iconst (n := 17) (-1) dX2_hasPlan_16 rfl (by decide) ?_
      refine aw_icmp_eq (n := 20) 24 dX2_hasPlan_17 (by decide) rfl ?_ ?_
      · refine aw_iconst (n := 25) 0 dX2_hasPlan_24 rfl (by decide) ?_
        exact aw_zreturn (b := false) dX2_hasPlan_25 rfl rfl
      · refine aw_iconst (n := 21) 1 dX2_hasPlan_20 rfl (by decide) ?_
        refine aw_goto 25 dX2_hasPlan_21 (by decide) ?_
        exact aw_zreturn (b := true) dX2_hasPlan_25 rfl rfl
abbrev k_X1_bars : aw_K := (RX1, cX1_bars, 3, (some .boolean), 1, 120)
def f_X1_bars (F : Nat) (t : Nat) (a0 : Int32) (a1 : Int32) (μ : aw_M) : Option (Bool × aw_M) :=
  aw_g (aw_in a0 20) ((if (μ.1 (aw_rf t 2) a0.toNatClampNeg) = 0 then
  some (false, μ)
  else
  (if a1 ≤ 2 then
  some (false, μ)
  else
  some (true, μ))))
theorem m_X1_bars (l : Launch) (F : Nat) (t : Nat) (ht : (aw_sh t).1 = 6) (a0 : Int32) (a1 : Int32) (μ : aw_M) : AM l yX1_bars cX1_bars 3 (some .boolean) 1 120 aw_gz [.ref t, .int a0, .int a1] μ (f_X1_bars F t a0 a1 μ) := by
  refine aw_met [some (.ref t), some (.int a0), some (.int a1)] (by decide) (fun _ => rfl) (fun _ => Nat.le_of_ble_eq_true rfl) ?_
  show AW l k_X1_bars aw_gz 0 [some (.ref t), some (.int a0), some (.int a1)] [] μ _
  unfold f_X1_bars
  refine aw_aload_n (n := 1) dX1_bars_0 rfl rfl ?_
  refine aw_getR (n := 4) (RX1, TX1, 12) 1 2 dX1_bars_1 rfl ht (by decide) fd_RX1_18 ?_
  refine aw_iload_n (n := 5) dX1_bars_4 rfl rfl ?_
  refine aw_zaload (n := 6) 20 dX1_bars_5 rfl (sf_1_2 ht) ?_
  refine aw_if_eq (n := 9) 18 dX1_bars_6 (by decide) rfl ?_ ?_
  · refine aw_iconst (n := 19) 0 dX1_bars_18 rfl (by decide) ?_
    exact aw_zreturn (b := false) dX1_bars_19 rfl rfl
  · refine aw_iload_n (n := 10) dX1_bars_9 rfl rfl ?_
    refine aw_iconst (n := 11) 2 dX1_bars_10 rfl (by decide) ?_
    refine aw_icmp_le (n := 14) 18 dX1_bars_11 (by decide) rfl ?_ ?_
    · refine aw_iconst (n := 19) 0 dX1_bars_18 rfl (by decide) ?_
      exact aw_zreturn (b := false) dX1_bars_19 rfl rfl
    · refine aw_iconst (n := 15) 1 dX1_bars_14 rfl (by decide) ?_
      refine aw_goto 19 dX1_bars_15 (by decide) ?_
      exact aw_zreturn (b := true) dX1_bars_19 rfl rfl
abbrev k_X1_idleFrom : aw_K := (RX1, cX1_idleFrom, 4, (some .int), 1, 120)
def f_X1_idleFrom_2 (F : Nat) (t : Nat) (k2 : Int32 × Int32 × Int32 × aw_M → Option (Int32 × aw_M)) (x1 : Int32) (x2 : Int32) (x3 : Int32) (μ : aw_M) : Option (Int32 × aw_M) :=
  (if x2 ≤ x3 then
  some (x3, μ)
  else
  (if 240 ≤ (x1 + x3) then
  some (x3, μ)
  else
  aw_g (aw_in (x1 + x3) 240) ((if (μ.1 (aw_rf t 8) (x1 + x3).toNatClampNeg) = (-1) then
  k2 (x1, x2, (x3 + 1), μ)
  else
  some (x3, μ)))))
theorem c_X1_idleFrom_2 (l : Launch) (F : Nat) (t : Nat) (ht : (aw_sh t).1 = 6) : ∀ (N : Nat) (s : Int32 × Int32 × Int32 × aw_M), AW l k_X1_idleFrom aw_gi 2 [some (.ref t), some (.int s.1), some (.int s.2.1), some (.int s.2.2.1)] [] s.2.2.2 (aw_loop (fun k s => f_X1_idleFrom_2 F t k s.1 s.2.1 s.2.2.1 s.2.2.2) N s) := by
  refine aw_loop_ok (f := fun k s => f_X1_idleFrom_2 F t k s.1 s.2.1 s.2.2.1 s.2.2.2) (Ls := fun s => [some (.ref t), some (.int s.1), some (.int s.2.1), some (.int s.2.2.1)]) (ms := fun s => s.2.2.2) ?_
  intro k2 hk2 s
  obtain ⟨x1, x2, x3, μ⟩ := s
  show AW l k_X1_idleFrom aw_gi 2 [some (.ref t), some (.int x1), some (.int x2), some (.int x3)] [] μ (f_X1_idleFrom_2 F t k2 x1 x2 x3 μ)
  unfold f_X1_idleFrom_2
  refine aw_iload_n (n := 3) dX1_idleFrom_2 rfl rfl ?_
  refine aw_iload_n (n := 4) dX1_idleFrom_3 rfl rfl ?_
  refine aw_icmp_ge (n := 7) 34 dX1_idleFrom_4 (by decide) rfl ?_ ?_
  · refine aw_iload_n (n := 35) dX1_idleFrom_34 rfl rfl ?_
    exact aw_ireturn dX1_idleFrom_35 rfl rfl
  · refine aw_iload_n (n := 8) dX1_idleFrom_7 rfl rfl ?_
    refine aw_iload_n (n := 9) dX1_idleFrom_8 rfl rfl ?_
    refine aw_iadd (n := 10) dX1_idleFrom_9 rfl ?_
    refine aw_sipush (n := 13) 240 dX1_idleFrom_10 rfl (by decide) ?_
    refine aw_icmp_ge (n := 16) 34 dX1_idleFrom_13 (by decide) rfl ?_ ?_
    · refine aw_iload_n (n := 35) dX1_idleFrom_34 rfl rfl ?_
      exact aw_ireturn dX1_idleFrom_35 rfl rfl
    · refine aw_aload_n (n := 17) dX1_idleFrom_16 rfl rfl ?_
      refine aw_getR (n := 20) (RX1, TX1, 12) 1 8 dX1_idleFrom_17 rfl ht (by decide) fd_RX1_31 ?_
      refine aw_iload_n (n := 21) dX1_idleFrom_20 rfl rfl ?_
      refine aw_iload_n (n := 22) dX1_idleFrom_21 rfl rfl ?_
      refine aw_iadd (n := 23) dX1_idleFrom_22 rfl ?_
      refine aw_iaload (n := 24) 240 dX1_idleFrom_23 rfl (sf_1_8 ht) ?_
      refine aw_iconst (n := 25) (-1) dX1_idleFrom_24 rfl (by decide) ?_
      refine aw_icmp_ne (n := 28) 34 dX1_idleFrom_25 (by decide) rfl ?_ ?_
      · refine aw_iload_n (n := 35) dX1_idleFrom_34 rfl rfl ?_
        exact aw_ireturn dX1_idleFrom_35 rfl rfl
      · refine aw_iinc (n := 31) (x3 + 1) [some (.ref t), some (.int x1), some (.int x2), some (.int (x3 + 1))] dX1_idleFrom_28 rfl rfl (by rfl) rfl (Nat.le_of_ble_eq_true rfl) rfl ?_
        refine aw_goto 2 dX1_idleFrom_31 (by decide) ?_
        exact aw_weak (hk2 (x1, x2, (x3 + 1), μ)) (aw_ss (aw_ss (aw_ss (aw_ss aw_s0))))
def f_X1_idleFrom (F : Nat) (t : Nat) (a0 : Int32) (a1 : Int32) (μ : aw_M) : Option (Int32 × aw_M) :=
  aw_loop (fun k s => f_X1_idleFrom_2 F t k s.1 s.2.1 s.2.2.1 s.2.2.2) F (a0, a1, 0, μ)
theorem m_X1_idleFrom (l : Launch) (F : Nat) (t : Nat) (ht : (aw_sh t).1 = 6) (a0 : Int32) (a1 : Int32) (μ : aw_M) : AM l yX1_idleFrom cX1_idleFrom 4 (some .int) 1 120 aw_gi [.ref t, .int a0, .int a1] μ (f_X1_idleFrom F t a0 a1 μ) := by
  refine aw_met [some (.ref t), some (.int a0), some (.int a1), none] (by decide) (fun _ => rfl) (fun _ => Nat.le_of_ble_eq_true rfl) ?_
  show AW l k_X1_idleFrom aw_gi 0 [some (.ref t), some (.int a0), some (.int a1), none] [] μ _
  unfold f_X1_idleFrom
  refine aw_iconst (n := 1) 0 dX1_idleFrom_0 rfl (by decide) ?_
  refine aw_istore_n (n := 2) [some (.ref t), some (.int a0), some (.int a1), some (.int 0)] dX1_idleFrom_1 rfl rfl (Nat.le_of_ble_eq_true rfl) (Nat.le_of_ble_eq_true rfl) rfl ?_
  exact aw_weak (c_X1_idleFrom_2 l F t ht F (a0, a1, 0, μ)) (aw_ss (aw_ss (aw_ss (aw_ss aw_s0))))
abbrev k_X1_deriveDrains : aw_K := (RX1, cX1_deriveDrains, 4, none, 2, 144)
def f_X1_deriveDrains_106 (F : Nat) (t a0 : Nat) (k7 : Int32 × aw_M → Option (aw_M)) (x2 : Int32) (μ : aw_M) : Option (aw_M) :=
  k7 ((x2 + 1), μ)
theorem c_X1_deriveDrains_106 (l : Launch) (F : Nat) (t : Nat) (ht : (aw_sh t).1 = 6) (a0 : Nat) (ha0 : (aw_sh a0).1 = 13) (k7 : Int32 × aw_M → Option (aw_M)) (hk7 : ∀ s : Int32 × aw_M, AW l k_X1_deriveDrains aw_gv 7 [some (.ref t), some (.ref a0), some (.int s.1), none] [] s.2 (k7 s)) (x2 : Int32) (μ : aw_M) : AW l k_X1_deriveDrains aw_gv 106 [some (.ref t), some (.ref a0), some (.int x2), none] [] μ (f_X1_deriveDrains_106 F t a0 k7 x2 μ) := by
  unfold f_X1_deriveDrains_106
  refine aw_iinc (n := 109) (x2 + 1) [some (.ref t), some (.ref a0), some (.int (x2 + 1)), none] dX1_deriveDrains_106 rfl rfl (by rfl) rfl (Nat.le_of_ble_eq_true rfl) rfl ?_
  refine aw_goto 7 dX1_deriveDrains_109 (by decide) ?_
  exact aw_weak (hk7 ((x2 + 1), μ)) (aw_ss (aw_ss (aw_ss (aw_sn aw_s0))))
def f_X1_deriveDrains_65 (F : Nat) (t a0 : Nat) (k7 : Int32 × aw_M → Option (aw_M)) (x2 : Int32) (μ : aw_M) : Option (aw_M) :=
  aw_g (aw_in x2 100) ((if (μ.1 (aw_rf t 6) x2.toNatClampNeg) ≤ 0 then
  f_X1_deriveDrains_106 F t a0 k7 x2 μ
  else
  (if 60 ≤ (μ.1 t 4) then
  f_X1_deriveDrains_106 F t a0 k7 x2 μ
  else
  aw_g (aw_in (μ.1 t 4) 60) (aw_let (aw_wI μ (aw_rf t 5) (μ.1 t 4).toNatClampNeg x2) fun μ19 =>
  aw_let (aw_wI μ19 t 4 ((μ19.1 t 4) + 1)) fun μ20 =>
  f_X1_deriveDrains_106 F t a0 k7 x2 μ20))))
theorem c_X1_deriveDrains_65 (l : Launch) (F : Nat) (t : Nat) (ht : (aw_sh t).1 = 6) (a0 : Nat) (ha0 : (aw_sh a0).1 = 13) (k7 : Int32 × aw_M → Option (aw_M)) (hk7 : ∀ s : Int32 × aw_M, AW l k_X1_deriveDrains aw_gv 7 [some (.ref t), some (.ref a0), some (.int s.1), none] [] s.2 (k7 s)) (x2 : Int32) (μ : aw_M) : AW l k_X1_deriveDrains aw_gv 65 [some (.ref t), some (.ref a0), some (.int x2), none] [] μ (f_X1_deriveDrains_65 F t a0 k7 x2 μ) := by
  unfold f_X1_deriveDrains_65
  refine aw_aload_n (n := 66) dX1_deriveDrains_65 rfl rfl ?_
  refine aw_getR (n := 69) (RX1, TX1, 12) 1 6 dX1_deriveDrains_66 rfl ht (by decide) fd_RX1_28 ?_
  refine aw_iload_n (n := 70) dX1_deriveDrains_69 rfl rfl ?_
  refine aw_iaload (n := 71) 100 dX1_deriveDrains_70 rfl (sf_1_6 ht) ?_
  refine aw_if_le (n := 74) 106 dX1_deriveDrains_71 (by decide) rfl ?_ ?_
  · exact aw_weak (c_X1_deriveDrains_106 l F t ht a0 ha0 k7 hk7 x2 μ) (aw_ss (aw_ss (aw_ss (aw_sn aw_s0))))
  · refine aw_aload_n (n := 75) dX1_deriveDrains_74 rfl rfl ?_
    refine aw_getI (n := 78) (RX1, TX1, 12) 1 4 dX1_deriveDrains_75 rfl ht (by decide) fd_RX1_97 ?_
    refine aw_aload_n (n := 79) dX1_deriveDrains_78 rfl rfl ?_
    refine aw_getR (n := 82) (RX1, TX1, 12) 1 5 dX1_deriveDrains_79 rfl ht (by decide) fd_RX1_25 ?_
    refine aw_alen (n := 83) 60 dX1_deriveDrains_82 rfl (congrArg Prod.fst (sf_1_5 ht)) (by rw [(sf_1_5 ht)]; rfl) ?_
    refine aw_icmp_ge (n := 86) 106 dX1_deriveDrains_83 (by decide) rfl ?_ ?_
    · exact aw_weak (c_X1_deriveDrains_106 l F t ht a0 ha0 k7 hk7 x2 μ) (aw_ss (aw_ss (aw_ss (aw_sn aw_s0))))
    · refine aw_aload_n (n := 87) dX1_deriveDrains_86 rfl rfl ?_
      refine aw_getR (n := 90) (RX1, TX1, 12) 1 5 dX1_deriveDrains_87 rfl ht (by decide) fd_RX1_25 ?_
      refine aw_aload_n (n := 91) dX1_deriveDrains_90 rfl rfl ?_
      refine aw_getI (n := 94) (RX1, TX1, 12) 1 4 dX1_deriveDrains_91 rfl ht (by decide) fd_RX1_97 ?_
      refine aw_iload_n (n := 95) dX1_deriveDrains_94 rfl rfl ?_
      refine aw_iastore (n := 96) 60 dX1_deriveDrains_95 rfl (sf_1_5 ht) (fun μ19 => ?_)
      refine aw_aload_n (n := 97) dX1_deriveDrains_96 rfl rfl ?_
      refine aw_dup (n := 98) dX1_deriveDrains_97 rfl (fun _ => rfl) ?_
      refine aw_getI (n := 101) (RX1, TX1, 12) 1 4 dX1_deriveDrains_98 rfl ht (by decide) fd_RX1_97 ?_
      refine aw_iconst (n := 102) 1 dX1_deriveDrains_101 rfl (by decide) ?_
      refine aw_iadd (n := 103) dX1_deriveDrains_102 rfl ?_
      refine aw_putI (n := 106) (RX1, TX1, 12) 1 4 dX1_deriveDrains_103 rfl ht (by decide) fp_RX1_97 (fun μ20 => ?_)
      exact aw_weak (c_X1_deriveDrains_106 l F t ht a0 ha0 k7 hk7 x2 μ20) (aw_ss (aw_ss (aw_ss (aw_sn aw_s0))))
def f_X1_deriveDrains_59 (F : Nat) (t a0 : Nat) (k7 : Int32 × aw_M → Option (aw_M)) (k22 : Int32 × Int32 × aw_M → Option (aw_M)) (x2 : Int32) (x3 : Int32) (μ : aw_M) : Option (aw_M) :=
  k22 (x2, (x3 + 1), μ)
theorem c_X1_deriveDrains_59 (l : Launch) (F : Nat) (t : Nat) (ht : (aw_sh t).1 = 6) (a0 : Nat) (ha0 : (aw_sh a0).1 = 13) (k7 : Int32 × aw_M → Option (aw_M)) (hk7 : ∀ s : Int32 × aw_M, AW l k_X1_deriveDrains aw_gv 7 [some (.ref t), some (.ref a0), some (.int s.1), none] [] s.2 (k7 s)) (k22 : Int32 × Int32 × aw_M → Option (aw_M)) (hk22 : ∀ s : Int32 × Int32 × aw_M, AW l k_X1_deriveDrains aw_gv 22 [some (.ref t), some (.ref a0), some (.int s.1), some (.int s.2.1)] [] s.2.2 (k22 s)) (x2 : Int32) (x3 : Int32) (μ : aw_M) : AW l k_X1_deriveDrains aw_gv 59 [some (.ref t), some (.ref a0), some (.int x2), some (.int x3)] [] μ (f_X1_deriveDrains_59 F t a0 k7 k22 x2 x3 μ) := by
  unfold f_X1_deriveDrains_59
  refine aw_iinc (n := 62) (x3 + 1) [some (.ref t), some (.ref a0), some (.int x2), some (.int (x3 + 1))] dX1_deriveDrains_59 rfl rfl (by rfl) rfl (Nat.le_of_ble_eq_true rfl) rfl ?_
  refine aw_goto 22 dX1_deriveDrains_62 (by decide) ?_
  exact aw_weak (hk22 (x2, (x3 + 1), μ)) (aw_ss (aw_ss (aw_ss (aw_ss aw_s0))))
def f_X1_deriveDrains_22 (F : Nat) (t a0 : Nat) (k22 : Int32 × Int32 × aw_M → Option (aw_M)) (k7 : Int32 × aw_M → Option (aw_M)) (x2 : Int32) (x3 : Int32) (μ : aw_M) : Option (aw_M) :=
  (if 5 ≤ x3 then
  f_X1_deriveDrains_65 F t a0 k7 x2 μ
  else
  (f_X8_hasCell F a0 x2 μ).bind fun r21 =>
  (if r21.1 = true then
  (f_X8_sideOf F a0 x2 x3 r21.2).bind fun r22 =>
  (f_X8_hasOn F a0 1 r22.1 r22.2).bind fun r23 =>
  (if r23.1 = true then
  aw_g (aw_in x2 100) (aw_g (aw_in x2 100) (aw_let (aw_wI r23.2 (aw_rf t 6) x2.toNatClampNeg ((r23.2.1 (aw_rf t 6) x2.toNatClampNeg) + 1)) fun μ24 =>
  f_X1_deriveDrains_59 F t a0 k7 k22 x2 x3 μ24))
  else
  f_X1_deriveDrains_59 F t a0 k7 k22 x2 x3 r23.2)
  else
  f_X1_deriveDrains_59 F t a0 k7 k22 x2 x3 r21.2))
theorem c_X1_deriveDrains_22 (l : Launch) (F : Nat) (t : Nat) (ht : (aw_sh t).1 = 6) (a0 : Nat) (ha0 : (aw_sh a0).1 = 13) (k7 : Int32 × aw_M → Option (aw_M)) (hk7 : ∀ s : Int32 × aw_M, AW l k_X1_deriveDrains aw_gv 7 [some (.ref t), some (.ref a0), some (.int s.1), none] [] s.2 (k7 s)) : ∀ (N : Nat) (s : Int32 × Int32 × aw_M), AW l k_X1_deriveDrains aw_gv 22 [some (.ref t), some (.ref a0), some (.int s.1), some (.int s.2.1)] [] s.2.2 (aw_loop (fun k s => f_X1_deriveDrains_22 F t a0 k k7 s.1 s.2.1 s.2.2) N s) := by
  refine aw_loop_ok (f := fun k s => f_X1_deriveDrains_22 F t a0 k k7 s.1 s.2.1 s.2.2) (Ls := fun s => [some (.ref t), some (.ref a0), some (.int s.1), some (.int s.2.1)]) (ms := fun s => s.2.2) ?_
  intro k22 hk22 s
  obtain ⟨x2, x3, μ⟩ := s
  show AW l k_X1_deriveDrains aw_gv 22 [some (.ref t), some (.ref a0), some (.int x2), some (.int x3)] [] μ (f_X1_deriveDrains_22 F t a0 k22 k7 x2 x3 μ)
  unfold f_X1_deriveDrains_22
  refine aw_iload_n (n := 23) dX1_deriveDrains_22 rfl rfl ?_
  refine aw_iconst (n := 24) 5 dX1_deriveDrains_23 rfl (by decide) ?_
  refine aw_icmp_ge (n := 27) 65 dX1_deriveDrains_24 (by decide) rfl ?_ ?_
  · exact aw_weak (c_X1_deriveDrains_65 l F t ht a0 ha0 k7 hk7 x2 μ) (aw_ss (aw_ss (aw_ss (aw_sn aw_s0))))
  · refine aw_aload_n (n := 28) dX1_deriveDrains_27 rfl rfl ?_
    refine aw_iload_n (n := 29) dX1_deriveDrains_28 rfl rfl ?_
    refine aw_callVz (n := 32) (as := [.int x2]) (st := []) (RX8, TX8, 20) 8 dX1_deriveDrains_29 rfl rfl (m_X8_hasCell l F a0 ha0 x2 μ) ha0 (by decide) rfl rfl cw_RX1_100 ⟨Nat.le_of_ble_eq_true rfl, Nat.le_of_ble_eq_true rfl⟩ (fun _ => Nat.le_of_ble_eq_true rfl) (fun r21 => ?_)
    refine aw_ifb_eq (n := 35) 59 dX1_deriveDrains_32 (by decide) rfl ?_ ?_
    · exact aw_weak (c_X1_deriveDrains_59 l F t ht a0 ha0 k7 hk7 k22 hk22 x2 x3 r21.2) (aw_ss (aw_ss (aw_ss (aw_ss aw_s0))))
    · refine aw_aload_n (n := 36) dX1_deriveDrains_35 rfl rfl ?_
      refine aw_iconst (n := 37) 1 dX1_deriveDrains_36 rfl (by decide) ?_
      refine aw_aload_n (n := 38) dX1_deriveDrains_37 rfl rfl ?_
      refine aw_iload_n (n := 39) dX1_deriveDrains_38 rfl rfl ?_
      refine aw_iload_n (n := 40) dX1_deriveDrains_39 rfl rfl ?_
      refine aw_callVi (n := 43) (as := [.int x2, .int x3]) (st := [.int 1, .ref a0]) (RX8, TX8, 20) 8 dX1_deriveDrains_40 rfl rfl (m_X8_sideOf l F a0 ha0 x2 x3 r21.2) ha0 (by decide) rfl rfl cw_RX1_94 ⟨Nat.le_of_ble_eq_true rfl, Nat.le_of_ble_eq_true rfl⟩ (fun _ => Nat.le_of_ble_eq_true rfl) (fun r22 => ?_)
      refine aw_callVz (n := 46) (as := [.int 1, .int r22.1]) (st := []) (RX8, TX8, 20) 8 dX1_deriveDrains_43 rfl rfl (m_X8_hasOn l F a0 ha0 1 r22.1 r22.2) ha0 (by decide) rfl rfl cw_RX1_90 ⟨Nat.le_of_ble_eq_true rfl, Nat.le_of_ble_eq_true rfl⟩ (fun _ => Nat.le_of_ble_eq_true rfl) (fun r23 => ?_)
      refine aw_ifb_eq (n := 49) 59 dX1_deriveDrains_46 (by decide) rfl ?_ ?_
      · exact aw_weak (c_X1_deriveDrains_59 l F t ht a0 ha0 k7 hk7 k22 hk22 x2 x3 r23.2) (aw_ss (aw_ss (aw_ss (aw_ss aw_s0))))
      · refine aw_aload_n (n := 50) dX1_deriveDrains_49 rfl rfl ?_
        refine aw_getR (n := 53) (RX1, TX1, 12) 1 6 dX1_deriveDrains_50 rfl ht (by decide) fd_RX1_28 ?_
        refine aw_iload_n (n := 54) dX1_deriveDrains_53 rfl rfl ?_
        refine aw_dup2 (n := 55) dX1_deriveDrains_54 rfl (fun _ => rfl) (fun _ => rfl) ?_
        refine aw_iaload (n := 56) 100 dX1_deriveDrains_55 rfl (sf_1_6 ht) ?_
        refine aw_iconst (n := 57) 1 dX1_deriveDrains_56 rfl (by decide) ?_
        refine aw_iadd (n := 58) dX1_deriveDrains_57 rfl ?_
        refine aw_iastore (n := 59) 100 dX1_deriveDrains_58 rfl (sf_1_6 ht) (fun μ24 => ?_)
        exact aw_weak (c_X1_deriveDrains_59 l F t ht a0 ha0 k7 hk7 k22 hk22 x2 x3 μ24) (aw_ss (aw_ss (aw_ss (aw_ss aw_s0))))
def f_X1_deriveDrains_7 (F : Nat) (t a0 : Nat) (k7 : Int32 × aw_M → Option (aw_M)) (x2 : Int32) (μ : aw_M) : Option (aw_M) :=
  (if 100 ≤ x2 then
  some μ
  else
  aw_g (aw_in x2 100) (aw_let (aw_wI μ (aw_rf t 6) x2.toNatClampNeg 0) fun μ18 =>
  aw_loop (fun k s => f_X1_deriveDrains_22 F t a0 k k7 s.1 s.2.1 s.2.2) F (x2, 0, μ18)))
theorem c_X1_deriveDrains_7 (l : Launch) (F : Nat) (t : Nat) (ht : (aw_sh t).1 = 6) (a0 : Nat) (ha0 : (aw_sh a0).1 = 13) : ∀ (N : Nat) (s : Int32 × aw_M), AW l k_X1_deriveDrains aw_gv 7 [some (.ref t), some (.ref a0), some (.int s.1), none] [] s.2 (aw_loop (fun k s => f_X1_deriveDrains_7 F t a0 k s.1 s.2) N s) := by
  refine aw_loop_ok (f := fun k s => f_X1_deriveDrains_7 F t a0 k s.1 s.2) (Ls := fun s => [some (.ref t), some (.ref a0), some (.int s.1), none]) (ms := fun s => s.2) ?_
  intro k7 hk7 s
  obtain ⟨x2, μ⟩ := s
  show AW l k_X1_deriveDrains aw_gv 7 [some (.ref t), some (.ref a0), some (.int x2), none] [] μ (f_X1_deriveDrains_7 F t a0 k7 x2 μ)
  unfold f_X1_deriveDrains_7
  refine aw_iload_n (n := 8) dX1_deriveDrains_7 rfl rfl ?_
  refine aw_bipush (n := 10) 100 dX1_deriveDrains_8 rfl (by decide) ?_
  refine aw_icmp_ge (n := 13) 112 dX1_deriveDrains_10 (by decide) rfl ?_ ?_
  · exact aw_vreturn dX1_deriveDrains_112 rfl rfl
  · refine aw_aload_n (n := 14) dX1_deriveDrains_13 rfl rfl ?_
    refine aw_getR (n := 17) (RX1, TX1, 12) 1 6 dX1_deriveDrains_14 rfl ht (by decide) fd_RX1_28 ?_
    refine aw_iload_n (n := 18) dX1_deriveDrains_17 rfl rfl ?_
    refine aw_iconst (n := 19) 0 dX1_deriveDrains_18 rfl (by decide) ?_
    refine aw_iastore (n := 20) 100 dX1_deriveDrains_19 rfl (sf_1_6 ht) (fun μ18 => ?_)
    refine aw_iconst (n := 21) 0 dX1_deriveDrains_20 rfl (by decide) ?_
    refine aw_istore_n (n := 22) [some (.ref t), some (.ref a0), some (.int x2), some (.int 0)] dX1_deriveDrains_21 rfl rfl (Nat.le_of_ble_eq_true rfl) (Nat.le_of_ble_eq_true rfl) rfl ?_
    exact aw_weak (c_X1_deriveDrains_22 l F t ht a0 ha0 k7 hk7 F (x2, 0, μ18)) (aw_ss (aw_ss (aw_ss (aw_ss aw_s0))))
def f_X1_deriveDrains (F : Nat) (t a0 : Nat) (μ : aw_M) : Option (aw_M) :=
  aw_let (aw_wI μ t 4 0) fun μ17 =>
  aw_loop (fun k s => f_X1_deriveDrains_7 F t a0 k s.1 s.2) F (0, μ17)
theorem m_X1_deriveDrains (l : Launch) (F : Nat) (t : Nat) (ht : (aw_sh t).1 = 6) (a0 : Nat) (ha0 : (aw_sh a0).1 = 13) (μ : aw_M) : AM l yX1_deriveDrains cX1_deriveDrains 4 none 2 144 aw_gv [.ref t, .ref a0] μ (f_X1_deriveDrains F t a0 μ) := by
  refine aw_met [some (.ref t), some (.ref a0), none, none] (by decide) (fun _ => rfl) (fun _ => Nat.le_of_ble_eq_true rfl) ?_
  show AW l k_X1_deriveDrains aw_gv 0 [some (.ref t), some (.ref a0), none, none] [] μ _
  unfold f_X1_deriveDrains
  refine aw_aload_n (n := 1) dX1_deriveDrains_0 rfl rfl ?_
  refine aw_iconst (n := 2) 0 dX1_deriveDrains_1 rfl (by decide) ?_
  refine aw_putI (n := 5) (RX1, TX1, 12) 1 4 dX1_deriveDrains_2 rfl ht (by decide) fp_RX1_97 (fun μ17 => ?_)
  refine aw_iconst (n := 6) 0 dX1_deriveDrains_5 rfl (by decide) ?_
  refine aw_istore_n (n := 7) [some (.ref t), some (.ref a0), some (.int 0), none] dX1_deriveDrains_6 rfl rfl (Nat.le_of_ble_eq_true rfl) (Nat.le_of_ble_eq_true rfl) rfl ?_
  exact aw_weak (c_X1_deriveDrains_7 l F t ht a0 ha0 F (0, μ17)) (aw_ss (aw_ss (aw_ss (aw_sn aw_s0))))
abbrev k_X1_isThere : aw_K := (RX1, cX1_isThere, 3, (some .boolean), 1, 120)
def f_X1_isThere (F : Nat) (t : Nat) (a0 : Int32) (a1 : Int32) (μ : aw_M) : Option (Bool × aw_M) :=
  (if a1 < a0 then
  some (false, μ)
  else
  (if (a0 + 4) ≤ a1 then
  some (false, μ)
  else
  (if 240 ≤ a1 then
  some (false, μ)
  else
  some (true, μ))))
theorem m_X1_isThere (l : Launch) (F : Nat) (t : Nat) (ht : (aw_sh t).1 = 6) (a0 : Int32) (a1 : Int32) (μ : aw_M) : AM l yX1_isThere cX1_isThere 3 (some .boolean) 1 120 aw_gz [.ref t, .int a0, .int a1] μ (f_X1_isThere F t a0 a1 μ) := by
  refine aw_met [some (.ref t), some (.int a0), some (.int a1)] (by decide) (fun _ => rfl) (fun _ => Nat.le_of_ble_eq_true rfl) ?_
  show AW l k_X1_isThere aw_gz 0 [some (.ref t), some (.int a0), some (.int a1)] [] μ _
  unfold f_X1_isThere
  refine aw_iload_n (n := 1) dX1_isThere_0 rfl rfl ?_
  refine aw_iload_n (n := 2) dX1_isThere_1 rfl rfl ?_
  refine aw_icmp_gt (n := 5) 23 dX1_isThere_2 (by decide) rfl ?_ ?_
  · refine aw_iconst (n := 24) 0 dX1_isThere_23 rfl (by decide) ?_
    exact aw_zreturn (b := false) dX1_isThere_24 rfl rfl
  · refine aw_iload_n (n := 6) dX1_isThere_5 rfl rfl ?_
    refine aw_iload_n (n := 7) dX1_isThere_6 rfl rfl ?_
    refine aw_iconst (n := 8) 4 dX1_isThere_7 rfl (by decide) ?_
    refine aw_iadd (n := 9) dX1_isThere_8 rfl ?_
    refine aw_icmp_ge (n := 12) 23 dX1_isThere_9 (by decide) rfl ?_ ?_
    · refine aw_iconst (n := 24) 0 dX1_isThere_23 rfl (by decide) ?_
      exact aw_zreturn (b := false) dX1_isThere_24 rfl rfl
    · refine aw_iload_n (n := 13) dX1_isThere_12 rfl rfl ?_
      refine aw_sipush (n := 16) 240 dX1_isThere_13 rfl (by decide) ?_
      refine aw_icmp_ge (n := 19) 23 dX1_isThere_16 (by decide) rfl ?_ ?_
      · refine aw_iconst (n := 24) 0 dX1_isThere_23 rfl (by decide) ?_
        exact aw_zreturn (b := false) dX1_isThere_24 rfl rfl
      · refine aw_iconst (n := 20) 1 dX1_isThere_19 rfl (by decide) ?_
        refine aw_goto 24 dX1_isThere_20 (by decide) ?_
        exact aw_zreturn (b := true) dX1_isThere_24 rfl rfl
abbrev k_X1_deriveVisits : aw_K := (RX1, cX1_deriveVisits, 6, none, 2, 142)
def f_X1_deriveVisits_142 (F : Nat) (t a0 : Nat) (k9 : Int32 × Int32 × aw_M → Option (aw_M)) (x2 : Int32) (x3 : Int32) (μ : aw_M) : Option (aw_M) :=
  k9 (x2, (x3 + 1), μ)
theorem c_X1_deriveVisits_142 (l : Launch) (F : Nat) (t : Nat) (ht : (aw_sh t).1 = 6) (a0 : Nat) (ha0 : (aw_sh a0).1 = 13) (k9 : Int32 × Int32 × aw_M → Option (aw_M)) (hk9 : ∀ s : Int32 × Int32 × aw_M, AW l k_X1_deriveVisits aw_gv 9 [some (.ref t), some (.ref a0), some (.int s.1), some (.int s.2.1), none, none] [] s.2.2 (k9 s)) (x2 : Int32) (x3 : Int32) (μ : aw_M) : AW l k_X1_deriveVisits aw_gv 142 [some (.ref t), some (.ref a0), some (.int x2), some (.int x3), none, none] [] μ (f_X1_deriveVisits_142 F t a0 k9 x2 x3 μ) := by
  unfold f_X1_deriveVisits_142
  refine aw_iinc (n := 145) (x3 + 1) [some (.ref t), some (.ref a0), some (.int x2), some (.int (x3 + 1)), none, none] dX1_deriveVisits_142 rfl rfl (by rfl) rfl (Nat.le_of_ble_eq_true rfl) rfl ?_
  refine aw_goto 9 dX1_deriveVisits_145 (by decide) ?_
  exact aw_weak (hk9 (x2, (x3 + 1), μ)) (aw_ss (aw_ss (aw_ss (aw_ss (aw_sn (aw_sn aw_s0))))))
def f_X1_deriveVisits_69 (F : Nat) (t a0 : Nat) (k9 : Int32 × Int32 × aw_M → Option (aw_M)) (x2 : Int32) (x3 : Int32) (x4 : Int32) (μ : aw_M) : Option (aw_M) :=
  aw_g (aw_in x3 240) (aw_let (aw_wI μ (aw_rf t 8) x3.toNatClampNeg (-1)) fun μ38 =>
  (if x2 ≤ x4 then
  f_X1_deriveVisits_142 F t a0 k9 x2 x3 μ38
  else
  (if 80 ≤ (μ38.1 t 7) then
  f_X1_deriveVisits_142 F t a0 k9 x2 x3 μ38
  else
  aw_g (aw_in x3 240) (aw_let (aw_wI μ38 (aw_rf t 8) x3.toNatClampNeg (μ38.1 t 7)) fun μ39 =>
  aw_g (aw_in (μ39.1 t 7) 80) (aw_let (aw_wI μ39 (aw_rf t 9) (μ39.1 t 7).toNatClampNeg x3) fun μ40 =>
  aw_g (aw_in (μ40.1 t 7) 81) (aw_let (aw_wI μ40 (aw_rf t 10) (μ40.1 t 7).toNatClampNeg x4) fun μ41 =>
  aw_let (aw_wI μ41 t 7 ((μ41.1 t 7) + 1)) fun μ42 =>
  aw_g (aw_in (μ42.1 t 7) 81) (aw_let (aw_wI μ42 (aw_rf t 10) (μ42.1 t 7).toNatClampNeg x2) fun μ43 =>
  f_X1_deriveVisits_142 F t a0 k9 x2 x3 μ43)))))))
theorem c_X1_deriveVisits_69 (l : Launch) (F : Nat) (t : Nat) (ht : (aw_sh t).1 = 6) (a0 : Nat) (ha0 : (aw_sh a0).1 = 13) (k9 : Int32 × Int32 × aw_M → Option (aw_M)) (hk9 : ∀ s : Int32 × Int32 × aw_M, AW l k_X1_deriveVisits aw_gv 9 [some (.ref t), some (.ref a0), some (.int s.1), some (.int s.2.1), none, none] [] s.2.2 (k9 s)) (x2 : Int32) (x3 : Int32) (x4 : Int32) (μ : aw_M) : AW l k_X1_deriveVisits aw_gv 69 [some (.ref t), some (.ref a0), some (.int x2), some (.int x3), some (.int x4), none] [] μ (f_X1_deriveVisits_69 F t a0 k9 x2 x3 x4 μ) := by
  unfold f_X1_deriveVisits_69
  refine aw_aload_n (n := 70) dX1_deriveVisits_69 rfl rfl ?_
  refine aw_getR (n := 73) (RX1, TX1, 12) 1 8 dX1_deriveVisits_70 rfl ht (by decide) fd_RX1_31 ?_
  refine aw_iload_n (n := 74) dX1_deriveVisits_73 rfl rfl ?_
  refine aw_iconst (n := 75) (-1) dX1_deriveVisits_74 rfl (by decide) ?_
  refine aw_iastore (n := 76) 240 dX1_deriveVisits_75 rfl (sf_1_8 ht) (fun μ38 => ?_)
  refine aw_iload_n (n := 77) dX1_deriveVisits_76 rfl rfl ?_
  refine aw_iload (n := 79) dX1_deriveVisits_77 rfl rfl ?_
  refine aw_icmp_le (n := 82) 142 dX1_deriveVisits_79 (by decide) rfl ?_ ?_
  · exact aw_weak (c_X1_deriveVisits_142 l F t ht a0 ha0 k9 hk9 x2 x3 μ38) (aw_ss (aw_ss (aw_ss (aw_ss (aw_sn (aw_sn aw_s0))))))
  · refine aw_aload_n (n := 83) dX1_deriveVisits_82 rfl rfl ?_
    refine aw_getI (n := 86) (RX1, TX1, 12) 1 7 dX1_deriveVisits_83 rfl ht (by decide) fd_RX1_104 ?_
    refine aw_bipush (n := 88) 80 dX1_deriveVisits_86 rfl (by decide) ?_
    refine aw_icmp_ge (n := 91) 142 dX1_deriveVisits_88 (by decide) rfl ?_ ?_
    · exact aw_weak (c_X1_deriveVisits_142 l F t ht a0 ha0 k9 hk9 x2 x3 μ38) (aw_ss (aw_ss (aw_ss (aw_ss (aw_sn (aw_sn aw_s0))))))
    · refine aw_aload_n (n := 92) dX1_deriveVisits_91 rfl rfl ?_
      refine aw_getR (n := 95) (RX1, TX1, 12) 1 8 dX1_deriveVisits_92 rfl ht (by decide) fd_RX1_31 ?_
      refine aw_iload_n (n := 96) dX1_deriveVisits_95 rfl rfl ?_
      refine aw_aload_n (n := 97) dX1_deriveVisits_96 rfl rfl ?_
      refine aw_getI (n := 100) (RX1, TX1, 12) 1 7 dX1_deriveVisits_97 rfl ht (by decide) fd_RX1_104 ?_
      refine aw_iastore (n := 101) 240 dX1_deriveVisits_100 rfl (sf_1_8 ht) (fun μ39 => ?_)
      refine aw_aload_n (n := 102) dX1_deriveVisits_101 rfl rfl ?_
      refine aw_getR (n := 105) (RX1, TX1, 12) 1 9 dX1_deriveVisits_102 rfl ht (by decide) fd_RX1_34 ?_
      refine aw_aload_n (n := 106) dX1_deriveVisits_105 rfl rfl ?_
      refine aw_getI (n := 109) (RX1, TX1, 12) 1 7 dX1_deriveVisits_106 rfl ht (by decide) fd_RX1_104 ?_
      refine aw_iload_n (n := 110) dX1_deriveVisits_109 rfl rfl ?_
      refine aw_iastore (n := 111) 80 dX1_deriveVisits_110 rfl (sf_1_9 ht) (fun μ40 => ?_)
      refine aw_aload_n (n := 112) dX1_deriveVisits_111 rfl rfl ?_
      refine aw_getR (n := 115) (RX1, TX1, 12) 1 10 dX1_deriveVisits_112 rfl ht (by decide) fd_RX1_37 ?_
      refine aw_aload_n (n := 116) dX1_deriveVisits_115 rfl rfl ?_
      refine aw_getI (n := 119) (RX1, TX1, 12) 1 7 dX1_deriveVisits_116 rfl ht (by decide) fd_RX1_104 ?_
      refine aw_iload (n := 121) dX1_deriveVisits_119 rfl rfl ?_
      refine aw_iastore (n := 122) 81 dX1_deriveVisits_121 rfl (sf_1_10 ht) (fun μ41 => ?_)
      refine aw_aload_n (n := 123) dX1_deriveVisits_122 rfl rfl ?_
      refine aw_dup (n := 124) dX1_deriveVisits_123 rfl (fun _ => rfl) ?_
      refine aw_getI (n := 127) (RX1, TX1, 12) 1 7 dX1_deriveVisits_124 rfl ht (by decide) fd_RX1_104 ?_
      refine aw_iconst (n := 128) 1 dX1_deriveVisits_127 rfl (by decide) ?_
      refine aw_iadd (n := 129) dX1_deriveVisits_128 rfl ?_
      refine aw_putI (n := 132) (RX1, TX1, 12) 1 7 dX1_deriveVisits_129 rfl ht (by decide) fp_RX1_104 (fun μ42 => ?_)
      refine aw_aload_n (n := 133) dX1_deriveVisits_132 rfl rfl ?_
      refine aw_getR (n := 136) (RX1, TX1, 12) 1 10 dX1_deriveVisits_133 rfl ht (by decide) fd_RX1_37 ?_
      refine aw_aload_n (n := 137) dX1_deriveVisits_136 rfl rfl ?_
      refine aw_getI (n := 140) (RX1, TX1, 12) 1 7 dX1_deriveVisits_137 rfl ht (by decide) fd_RX1_104 ?_
      refine aw_iload_n (n := 141) dX1_deriveVisits_140 rfl rfl ?_
      refine aw_iastore (n := 142) 81 dX1_deriveVisits_141 rfl (sf_1_10 ht) (fun μ43 => ?_)
      exact aw_weak (c_X1_deriveVisits_142 l F t ht a0 ha0 k9 hk9 x2 x3 μ43) (aw_ss (aw_ss (aw_ss (aw_ss (aw_sn (aw_sn aw_s0))))))
def f_X1_deriveVisits_63 (F : Nat) (t a0 : Nat) (k9 : Int32 × Int32 × aw_M → Option (aw_M)) (k22 : Int32 × Int32 × Int32 × Int32 × aw_M → Option (aw_M)) (x2 : Int32) (x3 : Int32) (x4 : Int32) (x5 : Int32) (μ : aw_M) : Option (aw_M) :=
  k22 (x2, x3, x4, (x5 + 1), μ)
theorem c_X1_deriveVisits_63 (l : Launch) (F : Nat) (t : Nat) (ht : (aw_sh t).1 = 6) (a0 : Nat) (ha0 : (aw_sh a0).1 = 13) (k9 : Int32 × Int32 × aw_M → Option (aw_M)) (hk9 : ∀ s : Int32 × Int32 × aw_M, AW l k_X1_deriveVisits aw_gv 9 [some (.ref t), some (.ref a0), some (.int s.1), some (.int s.2.1), none, none] [] s.2.2 (k9 s)) (k22 : Int32 × Int32 × Int32 × Int32 × aw_M → Option (aw_M)) (hk22 : ∀ s : Int32 × Int32 × Int32 × Int32 × aw_M, AW l k_X1_deriveVisits aw_gv 22 [some (.ref t), some (.ref a0), some (.int s.1), some (.int s.2.1), some (.int s.2.2.1), some (.int s.2.2.2.1)] [] s.2.2.2.2 (k22 s)) (x2 : Int32) (x3 : Int32) (x4 : Int32) (x5 : Int32) (μ : aw_M) : AW l k_X1_deriveVisits aw_gv 63 [some (.ref t), some (.ref a0), some (.int x2), some (.int x3), some (.int x4), some (.int x5)] [] μ (f_X1_deriveVisits_63 F t a0 k9 k22 x2 x3 x4 x5 μ) := by
  unfold f_X1_deriveVisits_63
  refine aw_iinc (n := 66) (x5 + 1) [some (.ref t), some (.ref a0), some (.int x2), some (.int x3), some (.int x4), some (.int (x5 + 1))] dX1_deriveVisits_63 rfl rfl (by rfl) rfl (Nat.le_of_ble_eq_true rfl) rfl ?_
  refine aw_goto 22 dX1_deriveVisits_66 (by decide) ?_
  exact aw_weak (hk22 (x2, x3, x4, (x5 + 1), μ)) (aw_ss (aw_ss (aw_ss (aw_ss (aw_ss (aw_ss aw_s0))))))
def f_X1_deriveVisits_22 (F : Nat) (t a0 : Nat) (k22 : Int32 × Int32 × Int32 × Int32 × aw_M → Option (aw_M)) (k9 : Int32 × Int32 × aw_M → Option (aw_M)) (x2 : Int32) (x3 : Int32) (x4 : Int32) (x5 : Int32) (μ : aw_M) : Option (aw_M) :=
  (if (μ.1 a0 4) ≤ x5 then
  f_X1_deriveVisits_69 F t a0 k9 x2 x3 x4 μ
  else
  aw_g (aw_in x5 20) ((f_X1_isThere F t (μ.1 (aw_rf a0 10) x5.toNatClampNeg) x3 μ).bind fun r44 =>
  (if r44.1 = true then
  (if 80 ≤ x2 then
  f_X1_deriveVisits_63 F t a0 k9 k22 x2 x3 x4 x5 r44.2
  else
  aw_g (aw_in x2 80) (aw_let (aw_wI r44.2 (aw_rf t 11) x2.toNatClampNeg x5) fun μ45 =>
  f_X1_deriveVisits_63 F t a0 k9 k22 (x2 + 1) x3 x4 x5 μ45))
  else
  f_X1_deriveVisits_63 F t a0 k9 k22 x2 x3 x4 x5 r44.2)))
theorem c_X1_deriveVisits_22 (l : Launch) (F : Nat) (t : Nat) (ht : (aw_sh t).1 = 6) (a0 : Nat) (ha0 : (aw_sh a0).1 = 13) (k9 : Int32 × Int32 × aw_M → Option (aw_M)) (hk9 : ∀ s : Int32 × Int32 × aw_M, AW l k_X1_deriveVisits aw_gv 9 [some (.ref t), some (.ref a0), some (.int s.1), some (.int s.2.1), none, none] [] s.2.2 (k9 s)) : ∀ (N : Nat) (s : Int32 × Int32 × Int32 × Int32 × aw_M), AW l k_X1_deriveVisits aw_gv 22 [some (.ref t), some (.ref a0), some (.int s.1), some (.int s.2.1), some (.int s.2.2.1), some (.int s.2.2.2.1)] [] s.2.2.2.2 (aw_loop (fun k s => f_X1_deriveVisits_22 F t a0 k k9 s.1 s.2.1 s.2.2.1 s.2.2.2.1 s.2.2.2.2) N s) := by
  refine aw_loop_ok (f := fun k s => f_X1_deriveVisits_22 F t a0 k k9 s.1 s.2.1 s.2.2.1 s.2.2.2.1 s.2.2.2.2) (Ls := fun s => [some (.ref t), some (.ref a0), some (.int s.1), some (.int s.2.1), some (.int s.2.2.1), some (.int s.2.2.2.1)]) (ms := fun s => s.2.2.2.2) ?_
  intro k22 hk22 s
  obtain ⟨x2, x3, x4, x5, μ⟩ := s
  show AW l k_X1_deriveVisits aw_gv 22 [some (.ref t), some (.ref a0), some (.int x2), some (.int x3), some (.int x4), some (.int x5)] [] μ (f_X1_deriveVisits_22 F t a0 k22 k9 x2 x3 x4 x5 μ)
  unfold f_X1_deriveVisits_22
  refine aw_iload (n := 24) dX1_deriveVisits_22 rfl rfl ?_
  refine aw_aload_n (n := 25) dX1_deriveVisits_24 rfl rfl ?_
  refine aw_getI (n := 28) (RX8, TX8, 20) 8 4 dX1_deriveVisits_25 rfl ha0 (by decide) fd_RX1_65 ?_
  refine aw_icmp_ge (n := 31) 69 dX1_deriveVisits_28 (by decide) rfl ?_ ?_
  · exact aw_weak (c_X1_deriveVisits_69 l F t ht a0 ha0 k9 hk9 x2 x3 x4 μ) (aw_ss (aw_ss (aw_ss (aw_ss (aw_ss (aw_sn aw_s0))))))
  · refine aw_aload_n (n := 32) dX1_deriveVisits_31 rfl rfl ?_
    refine aw_aload_n (n := 33) dX1_deriveVisits_32 rfl rfl ?_
    refine aw_getR (n := 36) (RX8, TX8, 20) 8 10 dX1_deriveVisits_33 rfl ha0 (by decide) fd_RX1_107 ?_
    refine aw_iload (n := 38) dX1_deriveVisits_36 rfl rfl ?_
    refine aw_iaload (n := 39) 20 dX1_deriveVisits_38 rfl (sf_8_10 ha0) ?_
    refine aw_iload_n (n := 40) dX1_deriveVisits_39 rfl rfl ?_
    refine aw_callVz (n := 43) (as := [.int (μ.1 (aw_rf a0 10) x5.toNatClampNeg), .int x3]) (st := []) (RX1, TX1, 12) 1 dX1_deriveVisits_40 rfl rfl (m_X1_isThere l F t ht (μ.1 (aw_rf a0 10) x5.toNatClampNeg) x3 μ) ht (by decide) rfl rfl cw_RX1_110 ⟨Nat.le_of_ble_eq_true rfl, Nat.le_of_ble_eq_true rfl⟩ (fun _ => Nat.le_of_ble_eq_true rfl) (fun r44 => ?_)
    refine aw_ifb_eq (n := 46) 63 dX1_deriveVisits_43 (by decide) rfl ?_ ?_
    · exact aw_weak (c_X1_deriveVisits_63 l F t ht a0 ha0 k9 hk9 k22 hk22 x2 x3 x4 x5 r44.2) (aw_ss (aw_ss (aw_ss (aw_ss (aw_ss (aw_ss aw_s0))))))
    · refine aw_iload_n (n := 47) dX1_deriveVisits_46 rfl rfl ?_
      refine aw_bipush (n := 49) 80 dX1_deriveVisits_47 rfl (by decide) ?_
      refine aw_icmp_ge (n := 52) 63 dX1_deriveVisits_49 (by decide) rfl ?_ ?_
      · exact aw_weak (c_X1_deriveVisits_63 l F t ht a0 ha0 k9 hk9 k22 hk22 x2 x3 x4 x5 r44.2) (aw_ss (aw_ss (aw_ss (aw_ss (aw_ss (aw_ss aw_s0))))))
      · refine aw_aload_n (n := 53) dX1_deriveVisits_52 rfl rfl ?_
        refine aw_getR (n := 56) (RX1, TX1, 12) 1 11 dX1_deriveVisits_53 rfl ht (by decide) fd_RX1_40 ?_
        refine aw_iload_n (n := 57) dX1_deriveVisits_56 rfl rfl ?_
        refine aw_iload (n := 59) dX1_deriveVisits_57 rfl rfl ?_
        refine aw_iastore (n := 60) 80 dX1_deriveVisits_59 rfl (sf_1_11 ht) (fun μ45 => ?_)
        refine aw_iinc (n := 63) (x2 + 1) [some (.ref t), some (.ref a0), some (.int (x2 + 1)), some (.int x3), some (.int x4), some (.int x5)] dX1_deriveVisits_60 rfl rfl (by rfl) rfl (Nat.le_of_ble_eq_true rfl) rfl ?_
        exact aw_weak (c_X1_deriveVisits_63 l F t ht a0 ha0 k9 hk9 k22 hk22 (x2 + 1) x3 x4 x5 μ45) (aw_ss (aw_ss (aw_ss (aw_ss (aw_ss (aw_ss aw_s0))))))
def f_X1_deriveVisits_9 (F : Nat) (t a0 : Nat) (k9 : Int32 × Int32 × aw_M → Option (aw_M)) (x2 : Int32) (x3 : Int32) (μ : aw_M) : Option (aw_M) :=
  (if 240 ≤ x3 then
  some μ
  else
  aw_loop (fun k s => f_X1_deriveVisits_22 F t a0 k k9 s.1 s.2.1 s.2.2.1 s.2.2.2.1 s.2.2.2.2) F (x2, x3, x2, 0, μ))
theorem c_X1_deriveVisits_9 (l : Launch) (F : Nat) (t : Nat) (ht : (aw_sh t).1 = 6) (a0 : Nat) (ha0 : (aw_sh a0).1 = 13) : ∀ (N : Nat) (s : Int32 × Int32 × aw_M), AW l k_X1_deriveVisits aw_gv 9 [some (.ref t), some (.ref a0), some (.int s.1), some (.int s.2.1), none, none] [] s.2.2 (aw_loop (fun k s => f_X1_deriveVisits_9 F t a0 k s.1 s.2.1 s.2.2) N s) := by
  refine aw_loop_ok (f := fun k s => f_X1_deriveVisits_9 F t a0 k s.1 s.2.1 s.2.2) (Ls := fun s => [some (.ref t), some (.ref a0), some (.int s.1), some (.int s.2.1), none, none]) (ms := fun s => s.2.2) ?_
  intro k9 hk9 s
  obtain ⟨x2, x3, μ⟩ := s
  show AW l k_X1_deriveVisits aw_gv 9 [some (.ref t), some (.ref a0), some (.int x2), some (.int x3), none, none] [] μ (f_X1_deriveVisits_9 F t a0 k9 x2 x3 μ)
  unfold f_X1_deriveVisits_9
  refine aw_iload_n (n := 10) dX1_deriveVisits_9 rfl rfl ?_
  refine aw_sipush (n := 13) 240 dX1_deriveVisits_10 rfl (by decide) ?_
  refine aw_icmp_ge (n := 16) 148 dX1_deriveVisits_13 (by decide) rfl ?_ ?_
  · exact aw_vreturn dX1_deriveVisits_148 rfl rfl
  · refine aw_iload_n (n := 17) dX1_deriveVisits_16 rfl rfl ?_
    refine aw_istore (n := 19) [some (.ref t), some (.ref a0), some (.int x2), some (.int x3), some (.int x2), none] dX1_deriveVisits_17 rfl rfl (Nat.le_of_ble_eq_true rfl) (Nat.le_of_ble_eq_true rfl) rfl ?_
    refine aw_iconst (n := 20) 0 dX1_deriveVisits_19 rfl (by decide) ?_
    refine aw_istore (n := 22) [some (.ref t), some (.ref a0), some (.int x2), some (.int x3), some (.int x2), some (.int 0)] dX1_deriveVisits_20 rfl rfl (Nat.le_of_ble_eq_true rfl) (Nat.le_of_ble_eq_true rfl) rfl ?_
    exact aw_weak (c_X1_deriveVisits_22 l F t ht a0 ha0 k9 hk9 F (x2, x3, x2, 0, μ)) (aw_ss (aw_ss (aw_ss (aw_ss (aw_ss (aw_ss aw_s0))))))
def f_X1_deriveVisits (F : Nat) (t a0 : Nat) (μ : aw_M) : Option (aw_M) :=
  aw_let (aw_wI μ t 7 0) fun μ37 =>
  aw_loop (fun k s => f_X1_deriveVisits_9 F t a0 k s.1 s.2.1 s.2.2) F (0, 0, μ37)
theorem m_X1_deriveVisits (l : Launch) (F : Nat) (t : Nat) (ht : (aw_sh t).1 = 6) (a0 : Nat) (ha0 : (aw_sh a0).1 = 13) (μ : aw_M) : AM l yX1_deriveVisits cX1_deriveVisits 6 none 2 142 aw_gv [.ref t, .ref a0] μ (f_X1_deriveVisits F t a0 μ) := by
  refine aw_met [some (.ref t), some (.ref a0), none, none, none, none] (by decide) (fun _ => rfl) (fun _ => Nat.le_of_ble_eq_true rfl) ?_
  show AW l k_X1_deriveVisits aw_gv 0 [some (.ref t), some (.ref a0), none, none, none, none] [] μ _
  unfold f_X1_deriveVisits
  refine aw_iconst (n := 1) 0 dX1_deriveVisits_0 rfl (by decide) ?_
  refine aw_istore_n (n := 2) [some (.ref t), some (.ref a0), some (.int 0), none, none, none] dX1_deriveVisits_1 rfl rfl (Nat.le_of_ble_eq_true rfl) (Nat.le_of_ble_eq_true rfl) rfl ?_
  refine aw_aload_n (n := 3) dX1_deriveVisits_2 rfl rfl ?_
  refine aw_iconst (n := 4) 0 dX1_deriveVisits_3 rfl (by decide) ?_
  refine aw_putI (n := 7) (RX1, TX1, 12) 1 7 dX1_deriveVisits_4 rfl ht (by decide) fp_RX1_104 (fun μ37 => ?_)
  refine aw_iconst (n := 8) 0 dX1_deriveVisits_7 rfl (by decide) ?_
  refine aw_istore_n (n := 9) [some (.ref t), some (.ref a0), some (.int 0), some (.int 0), none, none] dX1_deriveVisits_8 rfl rfl (Nat.le_of_ble_eq_true rfl) (Nat.le_of_ble_eq_true rfl) rfl ?_
  exact aw_weak (c_X1_deriveVisits_9 l F t ht a0 ha0 F (0, 0, μ37)) (aw_ss (aw_ss (aw_ss (aw_ss (aw_sn (aw_sn aw_s0))))))
abbrev k_X1_measureFrom : aw_K := (RX1, cX1_measureFrom, 5, none, 2, 142)
def f_X1_measureFrom_88 (F : Nat) (t a0 : Nat) (k51 : Int32 × Int32 × Int32 × aw_M → Option (aw_M)) (x2 : Int32) (x3 : Int32) (x4 : Int32) (μ : aw_M) : Option (aw_M) :=
  k51 (x2, x3, (x4 + 1), μ)
theorem c_X1_measureFrom_88 (l : Launch) (F : Nat) (t : Nat) (ht : (aw_sh t).1 = 6) (a0 : Nat) (ha0 : (aw_sh a0).1 = 13) (k51 : Int32 × Int32 × Int32 × aw_M → Option (aw_M)) (hk51 : ∀ s : Int32 × Int32 × Int32 × aw_M, AW l k_X1_measureFrom aw_gv 51 [some (.ref t), some (.ref a0), some (.int s.1), some (.int s.2.1), some (.int s.2.2.1)] [] s.2.2.2 (k51 s)) (x2 : Int32) (x3 : Int32) (x4 : Int32) (μ : aw_M) : AW l k_X1_measureFrom aw_gv 88 [some (.ref t), some (.ref a0), some (.int x2), some (.int x3), some (.int x4)] [] μ (f_X1_measureFrom_88 F t a0 k51 x2 x3 x4 μ) := by
  unfold f_X1_measureFrom_88
  refine aw_iinc (n := 91) (x4 + 1) [some (.ref t), some (.ref a0), some (.int x2), some (.int x3), some (.int (x4 + 1))] dX1_measureFrom_88 rfl rfl (by rfl) rfl (Nat.le_of_ble_eq_true rfl) rfl ?_
  refine aw_goto 51 dX1_measureFrom_91 (by decide) ?_
  exact aw_weak (hk51 (x2, x3, (x4 + 1), μ)) (aw_ss (aw_ss (aw_ss (aw_ss (aw_ss aw_s0)))))
def f_X1_measureFrom_51 (F : Nat) (t a0 : Nat) (k51 : Int32 × Int32 × Int32 × aw_M → Option (aw_M)) (x2 : Int32) (x3 : Int32) (x4 : Int32) (μ : aw_M) : Option (aw_M) :=
  (if 100 ≤ x4 then
  some μ
  else
  (f_X8_hasOn F a0 2 x4 μ).bind fun r14 =>
  (if r14.1 = true then
  (f_X8_distance F x3 x4 r14.2).bind fun r15 =>
  (if 4 < r15.1 then
  f_X1_measureFrom_88 F t a0 k51 x2 x3 x4 r15.2
  else
  aw_g (aw_in x2 18) (aw_g (aw_in x2 18) (aw_let (aw_wI r15.2 (aw_rf t 1) x2.toNatClampNeg ((r15.2.1 (aw_rf t 1) x2.toNatClampNeg) + 1)) fun μ16 =>
  f_X1_measureFrom_88 F t a0 k51 x2 x3 x4 μ16)))
  else
  f_X1_measureFrom_88 F t a0 k51 x2 x3 x4 r14.2))
theorem c_X1_measureFrom_51 (l : Launch) (F : Nat) (t : Nat) (ht : (aw_sh t).1 = 6) (a0 : Nat) (ha0 : (aw_sh a0).1 = 13) : ∀ (N : Nat) (s : Int32 × Int32 × Int32 × aw_M), AW l k_X1_measureFrom aw_gv 51 [some (.ref t), some (.ref a0), some (.int s.1), some (.int s.2.1), some (.int s.2.2.1)] [] s.2.2.2 (aw_loop (fun k s => f_X1_measureFrom_51 F t a0 k s.1 s.2.1 s.2.2.1 s.2.2.2) N s) := by
  refine aw_loop_ok (f := fun k s => f_X1_measureFrom_51 F t a0 k s.1 s.2.1 s.2.2.1 s.2.2.2) (Ls := fun s => [some (.ref t), some (.ref a0), some (.int s.1), some (.int s.2.1), some (.int s.2.2.1)]) (ms := fun s => s.2.2.2) ?_
  intro k51 hk51 s
  obtain ⟨x2, x3, x4, μ⟩ := s
  show AW l k_X1_measureFrom aw_gv 51 [some (.ref t), some (.ref a0), some (.int x2), some (.int x3), some (.int x4)] [] μ (f_X1_measureFrom_51 F t a0 k51 x2 x3 x4 μ)
  unfold f_X1_measureFrom_51
  refine aw_iload (n := 53) dX1_measureFrom_51 rfl rfl ?_
  refine aw_bipush (n := 55) 100 dX1_measureFrom_53 rfl (by decide) ?_
  refine aw_icmp_ge (n := 58) 94 dX1_measureFrom_55 (by decide) rfl ?_ ?_
  · exact aw_vreturn dX1_measureFrom_94 rfl rfl
  · refine aw_aload_n (n := 59) dX1_measureFrom_58 rfl rfl ?_
    refine aw_iconst (n := 60) 2 dX1_measureFrom_59 rfl (by decide) ?_
    refine aw_iload (n := 62) dX1_measureFrom_60 rfl rfl ?_
    refine aw_callVz (n := 65) (as := [.int 2, .int x4]) (st := []) (RX8, TX8, 20) 8 dX1_measureFrom_62 rfl rfl (m_X8_hasOn l F a0 ha0 2 x4 μ) ha0 (by decide) rfl rfl cw_RX1_90 ⟨Nat.le_of_ble_eq_true rfl, Nat.le_of_ble_eq_true rfl⟩ (fun _ => Nat.le_of_ble_eq_true rfl) (fun r14 => ?_)
    refine aw_ifb_eq (n := 68) 88 dX1_measureFrom_65 (by decide) rfl ?_ ?_
    · exact aw_weak (c_X1_measureFrom_88 l F t ht a0 ha0 k51 hk51 x2 x3 x4 r14.2) (aw_ss (aw_ss (aw_ss (aw_ss (aw_ss aw_s0)))))
    · refine aw_iload_n (n := 69) dX1_measureFrom_68 rfl rfl ?_
      refine aw_iload (n := 71) dX1_measureFrom_69 rfl rfl ?_
      refine aw_callSi (n := 74) (as := [.int x3, .int x4]) (st := []) dX1_measureFrom_71 rfl rfl (m_X8_distance l F x3 x4 r14.2) cw_RX1_86 ⟨Nat.le_of_ble_eq_true rfl, Nat.le_of_ble_eq_true rfl⟩ (fun _ => Nat.le_of_ble_eq_true rfl) (fun r15 => ?_)
      refine aw_iconst (n := 75) 4 dX1_measureFrom_74 rfl (by decide) ?_
      refine aw_icmp_gt (n := 78) 88 dX1_measureFrom_75 (by decide) rfl ?_ ?_
      · exact aw_weak (c_X1_measureFrom_88 l F t ht a0 ha0 k51 hk51 x2 x3 x4 r15.2) (aw_ss (aw_ss (aw_ss (aw_ss (aw_ss aw_s0)))))
      · refine aw_aload_n (n := 79) dX1_measureFrom_78 rfl rfl ?_
        refine aw_getR (n := 82) (RX1, TX1, 12) 1 1 dX1_measureFrom_79 rfl ht (by decide) fd_RX1_15 ?_
        refine aw_iload_n (n := 83) dX1_measureFrom_82 rfl rfl ?_
        refine aw_dup2 (n := 84) dX1_measureFrom_83 rfl (fun _ => rfl) (fun _ => rfl) ?_
        refine aw_iaload (n := 85) 18 dX1_measureFrom_84 rfl (sf_1_1 ht) ?_
        refine aw_iconst (n := 86) 1 dX1_measureFrom_85 rfl (by decide) ?_
        refine aw_iadd (n := 87) dX1_measureFrom_86 rfl ?_
        refine aw_iastore (n := 88) 18 dX1_measureFrom_87 rfl (sf_1_1 ht) (fun μ16 => ?_)
        exact aw_weak (c_X1_measureFrom_88 l F t ht a0 ha0 k51 hk51 x2 x3 x4 μ16) (aw_ss (aw_ss (aw_ss (aw_ss (aw_ss aw_s0)))))
def f_X1_measureFrom_41 (F : Nat) (t a0 : Nat) (x2 : Int32) (x3 : Int32) (μ : aw_M) : Option (aw_M) :=
  aw_g (aw_in x2 18) (aw_let (aw_wI μ (aw_rf t 1) x2.toNatClampNeg 0) fun μ13 =>
  aw_loop (fun k s => f_X1_measureFrom_51 F t a0 k s.1 s.2.1 s.2.2.1 s.2.2.2) F (x2, x3, 0, μ13))
theorem c_X1_measureFrom_41 (l : Launch) (F : Nat) (t : Nat) (ht : (aw_sh t).1 = 6) (a0 : Nat) (ha0 : (aw_sh a0).1 = 13) (x2 : Int32) (x3 : Int32) (μ : aw_M) : AW l k_X1_measureFrom aw_gv 41 [some (.ref t), some (.ref a0), some (.int x2), some (.int x3), none] [] μ (f_X1_measureFrom_41 F t a0 x2 x3 μ) := by
  unfold f_X1_measureFrom_41
  refine aw_aload_n (n := 42) dX1_measureFrom_41 rfl rfl ?_
  refine aw_getR (n := 45) (RX1, TX1, 12) 1 1 dX1_measureFrom_42 rfl ht (by decide) fd_RX1_15 ?_
  refine aw_iload_n (n := 46) dX1_measureFrom_45 rfl rfl ?_
  refine aw_iconst (n := 47) 0 dX1_measureFrom_46 rfl (by decide) ?_
  refine aw_iastore (n := 48) 18 dX1_measureFrom_47 rfl (sf_1_1 ht) (fun μ13 => ?_)
  refine aw_iconst (n := 49) 0 dX1_measureFrom_48 rfl (by decide) ?_
  refine aw_istore (n := 51) [some (.ref t), some (.ref a0), some (.int x2), some (.int x3), some (.int 0)] dX1_measureFrom_49 rfl rfl (Nat.le_of_ble_eq_true rfl) (Nat.le_of_ble_eq_true rfl) rfl ?_
  exact aw_weak (c_X1_measureFrom_51 l F t ht a0 ha0 F (x2, x3, 0, μ13)) (aw_ss (aw_ss (aw_ss (aw_ss (aw_ss aw_s0)))))
def f_X1_measureFrom_3 (F : Nat) (t a0 : Nat) (k3 : Int32 × Int32 × Int32 × aw_M → Option (aw_M)) (x2 : Int32) (x3 : Int32) (x4 : Int32) (μ : aw_M) : Option (aw_M) :=
  (if (μ.1 a0 4) ≤ x4 then
  f_X1_measureFrom_41 F t a0 x2 x3 μ
  else
  aw_g (aw_in x4 20) ((f_X8_distance F x3 (μ.1 (aw_rf a0 11) x4.toNatClampNeg) μ).bind fun r17 =>
  aw_g (aw_in ((x2 * 20) + x4) 360) (aw_let (aw_wI r17.2 (aw_rf t 0) ((x2 * 20) + x4).toNatClampNeg r17.1) fun μ18 =>
  k3 (x2, x3, (x4 + 1), μ18))))
theorem c_X1_measureFrom_3 (l : Launch) (F : Nat) (t : Nat) (ht : (aw_sh t).1 = 6) (a0 : Nat) (ha0 : (aw_sh a0).1 = 13) : ∀ (N : Nat) (s : Int32 × Int32 × Int32 × aw_M), AW l k_X1_measureFrom aw_gv 3 [some (.ref t), some (.ref a0), some (.int s.1), some (.int s.2.1), some (.int s.2.2.1)] [] s.2.2.2 (aw_loop (fun k s => f_X1_measureFrom_3 F t a0 k s.1 s.2.1 s.2.2.1 s.2.2.2) N s) := by
  refine aw_loop_ok (f := fun k s => f_X1_measureFrom_3 F t a0 k s.1 s.2.1 s.2.2.1 s.2.2.2) (Ls := fun s => [some (.ref t), some (.ref a0), some (.int s.1), some (.int s.2.1), some (.int s.2.2.1)]) (ms := fun s => s.2.2.2) ?_
  intro k3 hk3 s
  obtain ⟨x2, x3, x4, μ⟩ := s
  show AW l k_X1_measureFrom aw_gv 3 [some (.ref t), some (.ref a0), some (.int x2), some (.int x3), some (.int x4)] [] μ (f_X1_measureFrom_3 F t a0 k3 x2 x3 x4 μ)
  unfold f_X1_measureFrom_3
  refine aw_iload (n := 5) dX1_measureFrom_3 rfl rfl ?_
  refine aw_aload_n (n := 6) dX1_measureFrom_5 rfl rfl ?_
  refine aw_getI (n := 9) (RX8, TX8, 20) 8 4 dX1_measureFrom_6 rfl ha0 (by decide) fd_RX1_65 ?_
  refine aw_icmp_ge (n := 12) 41 dX1_measureFrom_9 (by decide) rfl ?_ ?_
  · exact aw_weak (c_X1_measureFrom_41 l F t ht a0 ha0 x2 x3 μ) (aw_ss (aw_ss (aw_ss (aw_ss (aw_sn aw_s0)))))
  · refine aw_aload_n (n := 13) dX1_measureFrom_12 rfl rfl ?_
    refine aw_getR (n := 16) (RX1, TX1, 12) 1 0 dX1_measureFrom_13 rfl ht (by decide) fd_RX1_11 ?_
    refine aw_iload_n (n := 17) dX1_measureFrom_16 rfl rfl ?_
    refine aw_bipush (n := 19) 20 dX1_measureFrom_17 rfl (by decide) ?_
    refine aw_imul (n := 20) dX1_measureFrom_19 rfl ?_
    refine aw_iload (n := 22) dX1_measureFrom_20 rfl rfl ?_
    refine aw_iadd (n := 23) dX1_measureFrom_22 rfl ?_
    refine aw_iload_n (n := 24) dX1_measureFrom_23 rfl rfl ?_
    refine aw_aload_n (n := 25) dX1_measureFrom_24 rfl rfl ?_
    refine aw_getR (n := 28) (RX8, TX8, 20) 8 11 dX1_measureFrom_25 rfl ha0 (by decide) fd_RX1_68 ?_
    refine aw_iload (n := 30) dX1_measureFrom_28 rfl rfl ?_
    refine aw_iaload (n := 31) 20 dX1_measureFrom_30 rfl (sf_8_11 ha0) ?_
    refine aw_callSi (n := 34) (as := [.int x3, .int (μ.1 (aw_rf a0 11) x4.toNatClampNeg)]) (st := [.int ((x2 * 20) + x4), .ref (aw_rf t 0)]) dX1_measureFrom_31 rfl rfl (m_X8_distance l F x3 (μ.1 (aw_rf a0 11) x4.toNatClampNeg) μ) cw_RX1_86 ⟨Nat.le_of_ble_eq_true rfl, Nat.le_of_ble_eq_true rfl⟩ (fun _ => Nat.le_of_ble_eq_true rfl) (fun r17 => ?_)
    refine aw_iastore (n := 35) 360 dX1_measureFrom_34 rfl (sf_1_0 ht) (fun μ18 => ?_)
    refine aw_iinc (n := 38) (x4 + 1) [some (.ref t), some (.ref a0), some (.int x2), some (.int x3), some (.int (x4 + 1))] dX1_measureFrom_35 rfl rfl (by rfl) rfl (Nat.le_of_ble_eq_true rfl) rfl ?_
    refine aw_goto 3 dX1_measureFrom_38 (by decide) ?_
    exact aw_weak (hk3 (x2, x3, (x4 + 1), μ18)) (aw_ss (aw_ss (aw_ss (aw_ss (aw_ss aw_s0)))))
def f_X1_measureFrom (F : Nat) (t a0 : Nat) (a1 : Int32) (a2 : Int32) (μ : aw_M) : Option (aw_M) :=
  aw_loop (fun k s => f_X1_measureFrom_3 F t a0 k s.1 s.2.1 s.2.2.1 s.2.2.2) F (a1, a2, 0, μ)
theorem m_X1_measureFrom (l : Launch) (F : Nat) (t : Nat) (ht : (aw_sh t).1 = 6) (a0 : Nat) (ha0 : (aw_sh a0).1 = 13) (a1 : Int32) (a2 : Int32) (μ : aw_M) : AM l yX1_measureFrom cX1_measureFrom 5 none 2 142 aw_gv [.ref t, .ref a0, .int a1, .int a2] μ (f_X1_measureFrom F t a0 a1 a2 μ) := by
  refine aw_met [some (.ref t), some (.ref a0), some (.int a1), some (.int a2), none] (by decide) (fun _ => rfl) (fun _ => Nat.le_of_ble_eq_true rfl) ?_
  show AW l k_X1_measureFrom aw_gv 0 [some (.ref t), some (.ref a0), some (.int a1), some (.int a2), none] [] μ _
  unfold f_X1_measureFrom
  refine aw_iconst (n := 1) 0 dX1_measureFrom_0 rfl (by decide) ?_
  refine aw_istore (n := 3) [some (.ref t), some (.ref a0), some (.int a1), some (.int a2), some (.int 0)] dX1_measureFrom_1 rfl rfl (Nat.le_of_ble_eq_true rfl) (Nat.le_of_ble_eq_true rfl) rfl ?_
  exact aw_weak (c_X1_measureFrom_3 l F t ht a0 ha0 F (a1, a2, 0, μ)) (aw_ss (aw_ss (aw_ss (aw_ss (aw_ss aw_s0)))))
abbrev k_X1_nearCap : aw_K := (RX1, cX1_nearCap, 3, (some .boolean), 2, 144)
def f_X1_nearCap_2 (F : Nat) (a0 : Nat) (k2 : Int32 × Int32 × aw_M → Option (Bool × aw_M)) (x1 : Int32) (x2 : Int32) (μ : aw_M) : Option (Bool × aw_M) :=
  (if 5 ≤ x2 then
  some (false, μ)
  else
  (f_X8_sideOf F a0 x1 x2 μ).bind fun r3 =>
  (f_X8_hasOn F a0 0 r3.1 r3.2).bind fun r4 =>
  (if r4.1 = true then
  some (true, r4.2)
  else
  k2 (x1, (x2 + 1), r4.2)))
theorem c_X1_nearCap_2 (l : Launch) (F : Nat) (a0 : Nat) (ha0 : (aw_sh a0).1 = 13) : ∀ (N : Nat) (s : Int32 × Int32 × aw_M), AW l k_X1_nearCap aw_gz 2 [some (.ref a0), some (.int s.1), some (.int s.2.1)] [] s.2.2 (aw_loop (fun k s => f_X1_nearCap_2 F a0 k s.1 s.2.1 s.2.2) N s) := by
  refine aw_loop_ok (f := fun k s => f_X1_nearCap_2 F a0 k s.1 s.2.1 s.2.2) (Ls := fun s => [some (.ref a0), some (.int s.1), some (.int s.2.1)]) (ms := fun s => s.2.2) ?_
  intro k2 hk2 s
  obtain ⟨x1, x2, μ⟩ := s
  show AW l k_X1_nearCap aw_gz 2 [some (.ref a0), some (.int x1), some (.int x2)] [] μ (f_X1_nearCap_2 F a0 k2 x1 x2 μ)
  unfold f_X1_nearCap_2
  refine aw_iload_n (n := 3) dX1_nearCap_2 rfl rfl ?_
  refine aw_iconst (n := 4) 5 dX1_nearCap_3 rfl (by decide) ?_
  refine aw_icmp_ge (n := 7) 29 dX1_nearCap_4 (by decide) rfl ?_ ?_
  · refine aw_iconst (n := 30) 0 dX1_nearCap_29 rfl (by decide) ?_
    exact aw_zreturn (b := false) dX1_nearCap_30 rfl rfl
  · refine aw_aload_n (n := 8) dX1_nearCap_7 rfl rfl ?_
    refine aw_iconst (n := 9) 0 dX1_nearCap_8 rfl (by decide) ?_
    refine aw_aload_n (n := 10) dX1_nearCap_9 rfl rfl ?_
    refine aw_iload_n (n := 11) dX1_nearCap_10 rfl rfl ?_
    refine aw_iload_n (n := 12) dX1_nearCap_11 rfl rfl ?_
    refine aw_callVi (n := 15) (as := [.int x1, .int x2]) (st := [.int 0, .ref a0]) (RX8, TX8, 20) 8 dX1_nearCap_12 rfl rfl (m_X8_sideOf l F a0 ha0 x1 x2 μ) ha0 (by decide) rfl rfl cw_RX1_94 ⟨Nat.le_of_ble_eq_true rfl, Nat.le_of_ble_eq_true rfl⟩ (fun _ => Nat.le_of_ble_eq_true rfl) (fun r3 => ?_)
    refine aw_callVz (n := 18) (as := [.int 0, .int r3.1]) (st := []) (RX8, TX8, 20) 8 dX1_nearCap_15 rfl rfl (m_X8_hasOn l F a0 ha0 0 r3.1 r3.2) ha0 (by decide) rfl rfl cw_RX1_90 ⟨Nat.le_of_ble_eq_true rfl, Nat.le_of_ble_eq_true rfl⟩ (fun _ => Nat.le_of_ble_eq_true rfl) (fun r4 => ?_)
    refine aw_ifb_eq (n := 21) 23 dX1_nearCap_18 (by decide) rfl ?_ ?_
    · refine aw_iinc (n := 26) (x2 + 1) [some (.ref a0), some (.int x1), some (.int (x2 + 1))] dX1_nearCap_23 rfl rfl (by rfl) rfl (Nat.le_of_ble_eq_true rfl) rfl ?_
      refine aw_goto 2 dX1_nearCap_26 (by decide) ?_
      exact aw_weak (hk2 (x1, (x2 + 1), r4.2)) (aw_ss (aw_ss (aw_ss aw_s0)))
    · refine aw_iconst (n := 22) 1 dX1_nearCap_21 rfl (by decide) ?_
      exact aw_zreturn (b := true) dX1_nearCap_22 rfl rfl
def f_X1_nearCap (F : Nat) (a0 : Nat) (a1 : Int32) (μ : aw_M) : Option (Bool × aw_M) :=
  aw_loop (fun k s => f_X1_nearCap_2 F a0 k s.1 s.2.1 s.2.2) F (a1, 0, μ)
theorem m_X1_nearCap (l : Launch) (F : Nat) (a0 : Nat) (ha0 : (aw_sh a0).1 = 13) (a1 : Int32) (μ : aw_M) : AM l yX1_nearCap cX1_nearCap 3 (some .boolean) 2 144 aw_gz [.ref a0, .int a1] μ (f_X1_nearCap F a0 a1 μ) := by
  refine aw_met [some (.ref a0), some (.int a1), none] (by decide) (fun _ => rfl) (fun _ => Nat.le_of_ble_eq_true rfl) ?_
  show AW l k_X1_nearCap aw_gz 0 [some (.ref a0), some (.int a1), none] [] μ _
  unfold f_X1_nearCap
  refine aw_iconst (n := 1) 0 dX1_nearCap_0 rfl (by decide) ?_
  refine aw_istore_n (n := 2) [some (.ref a0), some (.int a1), some (.int 0)] dX1_nearCap_1 rfl rfl (Nat.le_of_ble_eq_true rfl) (Nat.le_of_ble_eq_true rfl) rfl ?_
  exact aw_weak (c_X1_nearCap_2 l F a0 ha0 F (a1, 0, μ)) (aw_ss (aw_ss (aw_ss aw_s0)))
abbrev k_X1_preyOf : aw_K := (RX1, cX1_preyOf, 6, (some .int), 1, 120)
def f_X1_preyOf_52 (F : Nat) (t a0 : Nat) (k9 : Int32 × Int32 × Int32 × Int32 × aw_M → Option (Int32 × aw_M)) (x2 : Int32) (x3 : Int32) (x4 : Int32) (x5 : Int32) (μ : aw_M) : Option (Int32 × aw_M) :=
  k9 (x2, x3, x4, (x5 + 1), μ)
theorem c_X1_preyOf_52 (l : Launch) (F : Nat) (t : Nat) (ht : (aw_sh t).1 = 6) (a0 : Nat) (ha0 : (aw_sh a0).1 = 13) (k9 : Int32 × Int32 × Int32 × Int32 × aw_M → Option (Int32 × aw_M)) (hk9 : ∀ s : Int32 × Int32 × Int32 × Int32 × aw_M, AW l k_X1_preyOf aw_gi 9 [some (.ref t), some (.ref a0), some (.int s.1), some (.int s.2.1), some (.int s.2.2.1), some (.int s.2.2.2.1)] [] s.2.2.2.2 (k9 s)) (x2 : Int32) (x3 : Int32) (x4 : Int32) (x5 : Int32) (μ : aw_M) : AW l k_X1_preyOf aw_gi 52 [some (.ref t), some (.ref a0), some (.int x2), some (.int x3), some (.int x4), some (.int x5)] [] μ (f_X1_preyOf_52 F t a0 k9 x2 x3 x4 x5 μ) := by
  unfold f_X1_preyOf_52
  refine aw_iinc (n := 55) (x5 + 1) [some (.ref t), some (.ref a0), some (.int x2), some (.int x3), some (.int x4), some (.int (x5 + 1))] dX1_preyOf_52 rfl rfl (by rfl) rfl (Nat.le_of_ble_eq_true rfl) rfl ?_
  refine aw_goto 9 dX1_preyOf_55 (by decide) ?_
  exact aw_weak (hk9 (x2, x3, x4, (x5 + 1), μ)) (aw_ss (aw_ss (aw_ss (aw_ss (aw_ss (aw_ss aw_s0))))))
def f_X1_preyOf_9 (F : Nat) (t a0 : Nat) (k9 : Int32 × Int32 × Int32 × Int32 × aw_M → Option (Int32 × aw_M)) (x2 : Int32) (x3 : Int32) (x4 : Int32) (x5 : Int32) (μ : aw_M) : Option (Int32 × aw_M) :=
  (if (μ.1 a0 3) ≤ x5 then
  some (x3, μ)
  else
  aw_g (aw_in ((x5 * 20) + x2) 360) ((if x4 ≤ (μ.1 (aw_rf t 0) ((x5 * 20) + x2).toNatClampNeg) then
  f_X1_preyOf_52 F t a0 k9 x2 x3 x4 x5 μ
  else
  aw_g (aw_in ((x5 * 20) + x2) 360) (aw_let ((μ.1 (aw_rf t 0) ((x5 * 20) + x2).toNatClampNeg)) fun v3 =>
  f_X1_preyOf_52 F t a0 k9 x2 x5 v3 x5 μ))))
theorem c_X1_preyOf_9 (l : Launch) (F : Nat) (t : Nat) (ht : (aw_sh t).1 = 6) (a0 : Nat) (ha0 : (aw_sh a0).1 = 13) : ∀ (N : Nat) (s : Int32 × Int32 × Int32 × Int32 × aw_M), AW l k_X1_preyOf aw_gi 9 [some (.ref t), some (.ref a0), some (.int s.1), some (.int s.2.1), some (.int s.2.2.1), some (.int s.2.2.2.1)] [] s.2.2.2.2 (aw_loop (fun k s => f_X1_preyOf_9 F t a0 k s.1 s.2.1 s.2.2.1 s.2.2.2.1 s.2.2.2.2) N s) := by
  refine aw_loop_ok (f := fun k s => f_X1_preyOf_9 F t a0 k s.1 s.2.1 s.2.2.1 s.2.2.2.1 s.2.2.2.2) (Ls := fun s => [some (.ref t), some (.ref a0), some (.int s.1), some (.int s.2.1), some (.int s.2.2.1), some (.int s.2.2.2.1)]) (ms := fun s => s.2.2.2.2) ?_
  intro k9 hk9 s
  obtain ⟨x2, x3, x4, x5, μ⟩ := s
  show AW l k_X1_preyOf aw_gi 9 [some (.ref t), some (.ref a0), some (.int x2), some (.int x3), some (.int x4), some (.int x5)] [] μ (f_X1_preyOf_9 F t a0 k9 x2 x3 x4 x5 μ)
  unfold f_X1_preyOf_9
  refine aw_iload (n := 11) dX1_preyOf_9 rfl rfl ?_
  refine aw_aload_n (n := 12) dX1_preyOf_11 rfl rfl ?_
  refine aw_getI (n := 15) (RX8, TX8, 20) 8 3 dX1_preyOf_12 rfl ha0 (by decide) fd_RX1_49 ?_
  refine aw_icmp_ge (n := 18) 58 dX1_preyOf_15 (by decide) rfl ?_ ?_
  · refine aw_iload_n (n := 59) dX1_preyOf_58 rfl rfl ?_
    exact aw_ireturn dX1_preyOf_59 rfl rfl
  · refine aw_aload_n (n := 19) dX1_preyOf_18 rfl rfl ?_
    refine aw_getR (n := 22) (RX1, TX1, 12) 1 0 dX1_preyOf_19 rfl ht (by decide) fd_RX1_11 ?_
    refine aw_iload (n := 24) dX1_preyOf_22 rfl rfl ?_
    refine aw_bipush (n := 26) 20 dX1_preyOf_24 rfl (by decide) ?_
    refine aw_imul (n := 27) dX1_preyOf_26 rfl ?_
    refine aw_iload_n (n := 28) dX1_preyOf_27 rfl rfl ?_
    refine aw_iadd (n := 29) dX1_preyOf_28 rfl ?_
    refine aw_iaload (n := 30) 360 dX1_preyOf_29 rfl (sf_1_0 ht) ?_
    refine aw_iload (n := 32) dX1_preyOf_30 rfl rfl ?_
    refine aw_icmp_ge (n := 35) 52 dX1_preyOf_32 (by decide) rfl ?_ ?_
    · exact aw_weak (c_X1_preyOf_52 l F t ht a0 ha0 k9 hk9 x2 x3 x4 x5 μ) (aw_ss (aw_ss (aw_ss (aw_ss (aw_ss (aw_ss aw_s0))))))
    · refine aw_aload_n (n := 36) dX1_preyOf_35 rfl rfl ?_
      refine aw_getR (n := 39) (RX1, TX1, 12) 1 0 dX1_preyOf_36 rfl ht (by decide) fd_RX1_11 ?_
      refine aw_iload (n := 41) dX1_preyOf_39 rfl rfl ?_
      refine aw_bipush (n := 43) 20 dX1_preyOf_41 rfl (by decide) ?_
      refine aw_imul (n := 44) dX1_preyOf_43 rfl ?_
      refine aw_iload_n (n := 45) dX1_preyOf_44 rfl rfl ?_
      refine aw_iadd (n := 46) dX1_preyOf_45 rfl ?_
      refine aw_iaload (n := 47) 360 dX1_preyOf_46 rfl (sf_1_0 ht) ?_
      refine aw_nmI (fun v3 => ?_)
      refine aw_istore (n := 49) [some (.ref t), some (.ref a0), some (.int x2), some (.int x3), some (.int v3), some (.int x5)] dX1_preyOf_47 rfl rfl (Nat.le_of_ble_eq_true rfl) (Nat.le_of_ble_eq_true rfl) rfl ?_
      refine aw_iload (n := 51) dX1_preyOf_49 rfl rfl ?_
      refine aw_istore_n (n := 52) [some (.ref t), some (.ref a0), some (.int x2), some (.int x5), some (.int v3), some (.int x5)] dX1_preyOf_51 rfl rfl (Nat.le_of_ble_eq_true rfl) (Nat.le_of_ble_eq_true rfl) rfl ?_
      exact aw_weak (c_X1_preyOf_52 l F t ht a0 ha0 k9 hk9 x2 x5 v3 x5 μ) (aw_ss (aw_ss (aw_ss (aw_ss (aw_ss (aw_ss aw_s0))))))
def f_X1_preyOf (F : Nat) (t a0 : Nat) (a1 : Int32) (μ : aw_M) : Option (Int32 × aw_M) :=
  aw_loop (fun k s => f_X1_preyOf_9 F t a0 k s.1 s.2.1 s.2.2.1 s.2.2.2.1 s.2.2.2.2) F (a1, (-1), 7, 0, μ)
theorem m_X1_preyOf (l : Launch) (F : Nat) (t : Nat) (ht : (aw_sh t).1 = 6) (a0 : Nat) (ha0 : (aw_sh a0).1 = 13) (a1 : Int32) (μ : aw_M) : AM l yX1_preyOf cX1_preyOf 6 (some .int) 1 120 aw_gi [.ref t, .ref a0, .int a1] μ (f_X1_preyOf F t a0 a1 μ) := by
  refine aw_met [some (.ref t), some (.ref a0), some (.int a1), none, none, none] (by decide) (fun _ => rfl) (fun _ => Nat.le_of_ble_eq_true rfl) ?_
  show AW l k_X1_preyOf aw_gi 0 [some (.ref t), some (.ref a0), some (.int a1), none, none, none] [] μ _
  unfold f_X1_preyOf
  refine aw_iconst (n := 1) (-1) dX1_preyOf_0 rfl (by decide) ?_
  refine aw_istore_n (n := 2) [some (.ref t), some (.ref a0), some (.int a1), some (.int (-1)), none, none] dX1_preyOf_1 rfl rfl (Nat.le_of_ble_eq_true rfl) (Nat.le_of_ble_eq_true rfl) rfl ?_
  refine aw_bipush (n := 4) 7 dX1_preyOf_2 rfl (by decide) ?_
  refine aw_istore (n := 6) [some (.ref t), some (.ref a0), some (.int a1), some (.int (-1)), some (.int 7), none] dX1_preyOf_4 rfl rfl (Nat.le_of_ble_eq_true rfl) (Nat.le_of_ble_eq_true rfl) rfl ?_
  refine aw_iconst (n := 7) 0 dX1_preyOf_6 rfl (by decide) ?_
  refine aw_istore (n := 9) [some (.ref t), some (.ref a0), some (.int a1), some (.int (-1)), some (.int 7), some (.int 0)] dX1_preyOf_7 rfl rfl (Nat.le_of_ble_eq_true rfl) (Nat.le_of_ble_eq_true rfl) rfl ?_
  exact aw_weak (c_X1_preyOf_9 l F t ht a0 ha0 F (a1, (-1), 7, 0, μ)) (aw_ss (aw_ss (aw_ss (aw_ss (aw_ss (aw_ss aw_s0))))))
abbrev k_X1_derive : aw_K := (RX1, cX1_derive, 3, none, 3, 167)
def f_X1_derive_106 (F : Nat) (t a0 : Nat) (μ : aw_M) : Option (aw_M) :=
  (f_X1_deriveDrains F t a0 μ).bind fun r17 =>
  (f_X1_deriveVisits F t a0 r17).bind fun r18 =>
  some r18
theorem c_X1_derive_106 (l : Launch) (F : Nat) (t : Nat) (ht : (aw_sh t).1 = 6) (a0 : Nat) (ha0 : (aw_sh a0).1 = 13) (μ : aw_M) : AW l k_X1_derive aw_gv 106 [some (.ref t), some (.ref a0), none] [] μ (f_X1_derive_106 F t a0 μ) := by
  unfold f_X1_derive_106
  refine aw_aload_n (n := 107) dX1_derive_106 rfl rfl ?_
  refine aw_aload_n (n := 108) dX1_derive_107 rfl rfl ?_
  refine aw_callVv (n := 111) (as := [.ref a0]) (st := []) (RX1, TX1, 12) 1 dX1_derive_108 rfl rfl (m_X1_deriveDrains l F t ht a0 ha0 μ) ht (by decide) rfl rfl cw_RX1_79 ⟨Nat.le_of_ble_eq_true rfl, Nat.le_of_ble_eq_true rfl⟩ (fun _ => Nat.le_of_ble_eq_true rfl) (fun r17 => ?_)
  refine aw_aload_n (n := 112) dX1_derive_111 rfl rfl ?_
  refine aw_aload_n (n := 113) dX1_derive_112 rfl rfl ?_
  refine aw_callVv (n := 116) (as := [.ref a0]) (st := []) (RX1, TX1, 12) 1 dX1_derive_113 rfl rfl (m_X1_deriveVisits l F t ht a0 ha0 r17) ht (by decide) rfl rfl cw_RX1_83 ⟨Nat.le_of_ble_eq_true rfl, Nat.le_of_ble_eq_true rfl⟩ (fun _ => Nat.le_of_ble_eq_true rfl) (fun r18 => ?_)
  exact aw_vreturn dX1_derive_116 rfl rfl
def f_X1_derive_64 (F : Nat) (t a0 : Nat) (k64 : Int32 × aw_M → Option (aw_M)) (x2 : Int32) (μ : aw_M) : Option (aw_M) :=
  (if (μ.1 a0 4) ≤ x2 then
  f_X1_derive_106 F t a0 μ
  else
  aw_g (aw_in x2 20) ((f_X1_nearCap F a0 (μ.1 (aw_rf a0 11) x2.toNatClampNeg) μ).bind fun r19 =>
  aw_g (aw_in x2 20) (aw_let (aw_wI r19.2 (aw_rf t 2) x2.toNatClampNeg (vp_nar .boolean (aw_b r19.1))) fun μ20 =>
  (f_X1_preyOf F t a0 x2 μ20).bind fun r21 =>
  aw_g (aw_in x2 20) (aw_let (aw_wI r21.2 (aw_rf t 3) x2.toNatClampNeg r21.1) fun μ22 =>
  k64 ((x2 + 1), μ22)))))
theorem c_X1_derive_64 (l : Launch) (F : Nat) (t : Nat) (ht : (aw_sh t).1 = 6) (a0 : Nat) (ha0 : (aw_sh a0).1 = 13) : ∀ (N : Nat) (s : Int32 × aw_M), AW l k_X1_derive aw_gv 64 [some (.ref t), some (.ref a0), some (.int s.1)] [] s.2 (aw_loop (fun k s => f_X1_derive_64 F t a0 k s.1 s.2) N s) := by
  refine aw_loop_ok (f := fun k s => f_X1_derive_64 F t a0 k s.1 s.2) (Ls := fun s => [some (.ref t), some (.ref a0), some (.int s.1)]) (ms := fun s => s.2) ?_
  intro k64 hk64 s
  obtain ⟨x2, μ⟩ := s
  show AW l k_X1_derive aw_gv 64 [some (.ref t), some (.ref a0), some (.int x2)] [] μ (f_X1_derive_64 F t a0 k64 x2 μ)
  unfold f_X1_derive_64
  refine aw_iload_n (n := 65) dX1_derive_64 rfl rfl ?_
  refine aw_aload_n (n := 66) dX1_derive_65 rfl rfl ?_
  refine aw_getI (n := 69) (RX8, TX8, 20) 8 4 dX1_derive_66 rfl ha0 (by decide) fd_RX1_65 ?_
  refine aw_icmp_ge (n := 72) 106 dX1_derive_69 (by decide) rfl ?_ ?_
  · exact aw_weak (c_X1_derive_106 l F t ht a0 ha0 μ) (aw_ss (aw_ss (aw_sn aw_s0)))
  · refine aw_aload_n (n := 73) dX1_derive_72 rfl rfl ?_
    refine aw_getR (n := 76) (RX1, TX1, 12) 1 2 dX1_derive_73 rfl ht (by decide) fd_RX1_18 ?_
    refine aw_iload_n (n := 77) dX1_derive_76 rfl rfl ?_
    refine aw_aload_n (n := 78) dX1_derive_77 rfl rfl ?_
    refine aw_aload_n (n := 79) dX1_derive_78 rfl rfl ?_
    refine aw_getR (n := 82) (RX8, TX8, 20) 8 11 dX1_derive_79 rfl ha0 (by decide) fd_RX1_68 ?_
    refine aw_iload_n (n := 83) dX1_derive_82 rfl rfl ?_
    refine aw_iaload (n := 84) 20 dX1_derive_83 rfl (sf_8_11 ha0) ?_
    refine aw_callSz (n := 87) (as := [.ref a0, .int (μ.1 (aw_rf a0 11) x2.toNatClampNeg)]) (st := [.int x2, .ref (aw_rf t 2)]) dX1_derive_84 rfl rfl (m_X1_nearCap l F a0 ha0 (μ.1 (aw_rf a0 11) x2.toNatClampNeg) μ) cw_RX1_71 ⟨Nat.le_of_ble_eq_true rfl, Nat.le_of_ble_eq_true rfl⟩ (fun _ => Nat.le_of_ble_eq_true rfl) (fun r19 => ?_)
    refine aw_zastore (n := 88) 20 dX1_derive_87 rfl (sf_1_2 ht) (fun μ20 => ?_)
    refine aw_aload_n (n := 89) dX1_derive_88 rfl rfl ?_
    refine aw_getR (n := 92) (RX1, TX1, 12) 1 3 dX1_derive_89 rfl ht (by decide) fd_RX1_22 ?_
    refine aw_iload_n (n := 93) dX1_derive_92 rfl rfl ?_
    refine aw_aload_n (n := 94) dX1_derive_93 rfl rfl ?_
    refine aw_aload_n (n := 95) dX1_derive_94 rfl rfl ?_
    refine aw_iload_n (n := 96) dX1_derive_95 rfl rfl ?_
    refine aw_callVi (n := 99) (as := [.ref a0, .int x2]) (st := [.int x2, .ref (aw_rf t 3)]) (RX1, TX1, 12) 1 dX1_derive_96 rfl rfl (m_X1_preyOf l F t ht a0 ha0 x2 μ20) ht (by decide) rfl rfl cw_RX1_75 ⟨Nat.le_of_ble_eq_true rfl, Nat.le_of_ble_eq_true rfl⟩ (fun _ => Nat.le_of_ble_eq_true rfl) (fun r21 => ?_)
    refine aw_iastore (n := 100) 20 dX1_derive_99 rfl (sf_1_3 ht) (fun μ22 => ?_)
    refine aw_iinc (n := 103) (x2 + 1) [some (.ref t), some (.ref a0), some (.int (x2 + 1))] dX1_derive_100 rfl rfl (by rfl) rfl (Nat.le_of_ble_eq_true rfl) rfl ?_
    refine aw_goto 64 dX1_derive_103 (by decide) ?_
    exact aw_weak (hk64 ((x2 + 1), μ22)) (aw_ss (aw_ss (aw_ss aw_s0)))
def f_X1_derive_62 (F : Nat) (t a0 : Nat) (μ : aw_M) : Option (aw_M) :=
  aw_loop (fun k s => f_X1_derive_64 F t a0 k s.1 s.2) F (0, μ)
theorem c_X1_derive_62 (l : Launch) (F : Nat) (t : Nat) (ht : (aw_sh t).1 = 6) (a0 : Nat) (ha0 : (aw_sh a0).1 = 13) (μ : aw_M) : AW l k_X1_derive aw_gv 62 [some (.ref t), some (.ref a0), none] [] μ (f_X1_derive_62 F t a0 μ) := by
  unfold f_X1_derive_62
  refine aw_iconst (n := 63) 0 dX1_derive_62 rfl (by decide) ?_
  refine aw_istore_n (n := 64) [some (.ref t), some (.ref a0), some (.int 0)] dX1_derive_63 rfl rfl (Nat.le_of_ble_eq_true rfl) (Nat.le_of_ble_eq_true rfl) rfl ?_
  exact aw_weak (c_X1_derive_64 l F t ht a0 ha0 F (0, μ)) (aw_ss (aw_ss (aw_ss aw_s0)))
def f_X1_derive_53 (F : Nat) (t a0 : Nat) (k2 : Int32 × aw_M → Option (aw_M)) (x2 : Int32) (z0 : Int32) (z1 : Int32) (μ : aw_M) : Option (aw_M) :=
  (f_X1_measureFrom F t a0 z1 z0 μ).bind fun r24 =>
  k2 ((x2 + 1), r24)
theorem c_X1_derive_53 (l : Launch) (F : Nat) (t : Nat) (ht : (aw_sh t).1 = 6) (a0 : Nat) (ha0 : (aw_sh a0).1 = 13) (k2 : Int32 × aw_M → Option (aw_M)) (hk2 : ∀ s : Int32 × aw_M, AW l k_X1_derive aw_gv 2 [some (.ref t), some (.ref a0), some (.int s.1)] [] s.2 (k2 s)) (x2 : Int32) (z0 : Int32) (z1 : Int32) (μ : aw_M) : AW l k_X1_derive aw_gv 53 [some (.ref t), some (.ref a0), some (.int x2)] [.int z0, .int z1, .ref a0, .ref t] μ (f_X1_derive_53 F t a0 k2 x2 z0 z1 μ) := by
  unfold f_X1_derive_53
  refine aw_callVv (n := 56) (as := [.ref a0, .int z1, .int z0]) (st := []) (RX1, TX1, 12) 1 dX1_derive_53 rfl rfl (m_X1_measureFrom l F t ht a0 ha0 z1 z0 μ) ht (by decide) rfl rfl cw_RX1_58 ⟨Nat.le_of_ble_eq_true rfl, Nat.le_of_ble_eq_true rfl⟩ (fun _ => Nat.le_of_ble_eq_true rfl) (fun r24 => ?_)
  refine aw_iinc (n := 59) (x2 + 1) [some (.ref t), some (.ref a0), some (.int (x2 + 1))] dX1_derive_56 rfl rfl (by rfl) rfl (Nat.le_of_ble_eq_true rfl) rfl ?_
  refine aw_goto 2 dX1_derive_59 (by decide) ?_
  exact aw_weak (hk2 ((x2 + 1), r24)) (aw_ss (aw_ss (aw_ss aw_s0)))
def f_X1_derive_2 (F : Nat) (t a0 : Nat) (k2 : Int32 × aw_M → Option (aw_M)) (x2 : Int32) (μ : aw_M) : Option (aw_M) :=
  (if (μ.1 a0 3) ≤ x2 then
  f_X1_derive_62 F t a0 μ
  else
  aw_g (aw_in x2 9) ((f_X1_measureFrom F t a0 x2 (μ.1 (aw_rf a0 6) x2.toNatClampNeg) μ).bind fun r23 =>
  aw_g (aw_in x2 9) ((if (r23.1 (aw_rf a0 9) x2.toNatClampNeg) = (-1) then
  aw_g (aw_in x2 9) (f_X1_derive_53 F t a0 k2 x2 (r23.1 (aw_rf a0 6) x2.toNatClampNeg) (9 + x2) r23)
  else
  aw_g (aw_in x2 9) (f_X1_derive_53 F t a0 k2 x2 (r23.1 (aw_rf a0 9) x2.toNatClampNeg) (9 + x2) r23)))))
theorem c_X1_derive_2 (l : Launch) (F : Nat) (t : Nat) (ht : (aw_sh t).1 = 6) (a0 : Nat) (ha0 : (aw_sh a0).1 = 13) : ∀ (N : Nat) (s : Int32 × aw_M), AW l k_X1_derive aw_gv 2 [some (.ref t), some (.ref a0), some (.int s.1)] [] s.2 (aw_loop (fun k s => f_X1_derive_2 F t a0 k s.1 s.2) N s) := by
  refine aw_loop_ok (f := fun k s => f_X1_derive_2 F t a0 k s.1 s.2) (Ls := fun s => [some (.ref t), some (.ref a0), some (.int s.1)]) (ms := fun s => s.2) ?_
  intro k2 hk2 s
  obtain ⟨x2, μ⟩ := s
  show AW l k_X1_derive aw_gv 2 [some (.ref t), some (.ref a0), some (.int x2)] [] μ (f_X1_derive_2 F t a0 k2 x2 μ)
  unfold f_X1_derive_2
  refine aw_iload_n (n := 3) dX1_derive_2 rfl rfl ?_
  refine aw_aload_n (n := 4) dX1_derive_3 rfl rfl ?_
  refine aw_getI (n := 7) (RX8, TX8, 20) 8 3 dX1_derive_4 rfl ha0 (by decide) fd_RX1_49 ?_
  refine aw_icmp_ge (n := 10) 62 dX1_derive_7 (by decide) rfl ?_ ?_
  · exact aw_weak (c_X1_derive_62 l F t ht a0 ha0 μ) (aw_ss (aw_ss (aw_sn aw_s0)))
  · refine aw_aload_n (n := 11) dX1_derive_10 rfl rfl ?_
    refine aw_aload_n (n := 12) dX1_derive_11 rfl rfl ?_
    refine aw_iload_n (n := 13) dX1_derive_12 rfl rfl ?_
    refine aw_aload_n (n := 14) dX1_derive_13 rfl rfl ?_
    refine aw_getR (n := 17) (RX8, TX8, 20) 8 6 dX1_derive_14 rfl ha0 (by decide) fd_RX1_55 ?_
    refine aw_iload_n (n := 18) dX1_derive_17 rfl rfl ?_
    refine aw_iaload (n := 19) 9 dX1_derive_18 rfl (sf_8_6 ha0) ?_
    refine aw_callVv (n := 22) (as := [.ref a0, .int x2, .int (μ.1 (aw_rf a0 6) x2.toNatClampNeg)]) (st := []) (RX1, TX1, 12) 1 dX1_derive_19 rfl rfl (m_X1_measureFrom l F t ht a0 ha0 x2 (μ.1 (aw_rf a0 6) x2.toNatClampNeg) μ) ht (by decide) rfl rfl cw_RX1_58 ⟨Nat.le_of_ble_eq_true rfl, Nat.le_of_ble_eq_true rfl⟩ (fun _ => Nat.le_of_ble_eq_true rfl) (fun r23 => ?_)
    refine aw_aload_n (n := 23) dX1_derive_22 rfl rfl ?_
    refine aw_aload_n (n := 24) dX1_derive_23 rfl rfl ?_
    refine aw_bipush (n := 26) 9 dX1_derive_24 rfl (by decide) ?_
    refine aw_iload_n (n := 27) dX1_derive_26 rfl rfl ?_
    refine aw_iadd (n := 28) dX1_derive_27 rfl ?_
    refine aw_aload_n (n := 29) dX1_derive_28 rfl rfl ?_
    refine aw_getR (n := 32) (RX8, TX8, 20) 8 9 dX1_derive_29 rfl ha0 (by decide) fd_RX1_62 ?_
    refine aw_iload_n (n := 33) dX1_derive_32 rfl rfl ?_
    refine aw_iaload (n := 34) 9 dX1_derive_33 rfl (sf_8_9 ha0) ?_
    refine aw_iconst (n := 35) (-1) dX1_derive_34 rfl (by decide) ?_
    refine aw_icmp_ne (n := 38) 47 dX1_derive_35 (by decide) rfl ?_ ?_
    · refine aw_aload_n (n := 48) dX1_derive_47 rfl rfl ?_
      refine aw_getR (n := 51) (RX8, TX8, 20) 8 9 dX1_derive_48 rfl ha0 (by decide) fd_RX1_62 ?_
      refine aw_iload_n (n := 52) dX1_derive_51 rfl rfl ?_
      refine aw_iaload (n := 53) 9 dX1_derive_52 rfl (sf_8_9 ha0) ?_
      exact aw_weak (c_X1_derive_53 l F t ht a0 ha0 k2 hk2 x2 (r23.1 (aw_rf a0 9) x2.toNatClampNeg) (9 + x2) r23) (aw_ss (aw_ss (aw_ss aw_s0)))
    · refine aw_aload_n (n := 39) dX1_derive_38 rfl rfl ?_
      refine aw_getR (n := 42) (RX8, TX8, 20) 8 6 dX1_derive_39 rfl ha0 (by decide) fd_RX1_55 ?_
      refine aw_iload_n (n := 43) dX1_derive_42 rfl rfl ?_
      refine aw_iaload (n := 44) 9 dX1_derive_43 rfl (sf_8_6 ha0) ?_
      refine aw_goto 53 dX1_derive_44 (by decide) ?_
      exact aw_weak (c_X1_derive_53 l F t ht a0 ha0 k2 hk2 x2 (r23.1 (aw_rf a0 6) x2.toNatClampNeg) (9 + x2) r23) (aw_ss (aw_ss (aw_ss aw_s0)))
def f_X1_derive (F : Nat) (t a0 : Nat) (μ : aw_M) : Option (aw_M) :=
  aw_loop (fun k s => f_X1_derive_2 F t a0 k s.1 s.2) F (0, μ)
theorem m_X1_derive (l : Launch) (F : Nat) (t : Nat) (ht : (aw_sh t).1 = 6) (a0 : Nat) (ha0 : (aw_sh a0).1 = 13) (μ : aw_M) : AM l yX1_derive cX1_derive 3 none 3 167 aw_gv [.ref t, .ref a0] μ (f_X1_derive F t a0 μ) := by
  refine aw_met [some (.ref t), some (.ref a0), none] (by decide) (fun _ => rfl) (fun _ => Nat.le_of_ble_eq_true rfl) ?_
  show AW l k_X1_derive aw_gv 0 [some (.ref t), some (.ref a0), none] [] μ _
  unfold f_X1_derive
  refine aw_iconst (n := 1) 0 dX1_derive_0 rfl (by decide) ?_
  refine aw_istore_n (n := 2) [some (.ref t), some (.ref a0), some (.int 0)] dX1_derive_1 rfl rfl (Nat.le_of_ble_eq_true rfl) (Nat.le_of_ble_eq_true rfl) rfl ?_
  exact aw_weak (c_X1_derive_2 l F t ht a0 ha0 F (0, μ)) (aw_ss (aw_ss (aw_ss aw_s0)))
abbrev k_X2_empty : aw_K := (RX2, cX2_empty, 1, none, 2, 143)
def f_X2_empty (F : Nat) (t : Nat) (μ : aw_M) : Option (aw_M) :=
  aw_let (aw_wI μ t 0 0) fun μ1 =>
  (f_J7_fill_53178 F (aw_rf t 1) (-1) μ1).bind fun r2 =>
  (f_J7_fill_53178 F (aw_rf t 2) (-1) r2).bind fun r3 =>
  (f_J7_fill_53178 F (aw_rf t 3) (-1) r3).bind fun r4 =>
  some r4
theorem m_X2_empty (l : Launch) (F : Nat) (t : Nat) (ht : (aw_sh t).1 = 7) (μ : aw_M) : AM l yX2_empty cX2_empty 1 none 2 143 aw_gv [.ref t] μ (f_X2_empty F t μ) := by
  refine aw_met [some (.ref t)] (by decide) (fun _ => rfl) (fun _ => Nat.le_of_ble_eq_true rfl) ?_
  show AW l k_X2_empty aw_gv 0 [some (.ref t)] [] μ _
  unfold f_X2_empty
  refine aw_aload_n (n := 1) dX2_empty_0 rfl rfl ?_
  refine aw_iconst (n := 2) 0 dX2_empty_1 rfl (by decide) ?_
  refine aw_putI (n := 5) (RX2, TX2, 4) 2 0 dX2_empty_2 rfl ht (by decide) fp_RX2_24 (fun μ1 => ?_)
  refine aw_aload_n (n := 6) dX2_empty_5 rfl rfl ?_
  refine aw_getR (n := 9) (RX2, TX2, 4) 2 1 dX2_empty_6 rfl ht (by decide) fd_RX2_9 ?_
  refine aw_iconst (n := 10) (-1) dX2_empty_9 rfl (by decide) ?_
  refine aw_callSv (n := 13) (as := [.ref (aw_rf t 1), .int (-1)]) (st := []) dX2_empty_10 rfl rfl (m_J7_fill_53178 l F (aw_rf t 1) (aw_arr (sf_2_1 ht)) (-1) μ1) cw_RX2_28 ⟨Nat.le_of_ble_eq_true rfl, Nat.le_of_ble_eq_true rfl⟩ (fun _ => Nat.le_of_ble_eq_true rfl) (fun r2 => ?_)
  refine aw_aload_n (n := 14) dX2_empty_13 rfl rfl ?_
  refine aw_getR (n := 17) (RX2, TX2, 4) 2 2 dX2_empty_14 rfl ht (by decide) fd_RX2_15 ?_
  refine aw_iconst (n := 18) (-1) dX2_empty_17 rfl (by decide) ?_
  refine aw_callSv (n := 21) (as := [.ref (aw_rf t 2), .int (-1)]) (st := []) dX2_empty_18 rfl rfl (m_J7_fill_53178 l F (aw_rf t 2) (aw_arr (sf_2_2 ht)) (-1) r2) cw_RX2_28 ⟨Nat.le_of_ble_eq_true rfl, Nat.le_of_ble_eq_true rfl⟩ (fun _ => Nat.le_of_ble_eq_true rfl) (fun r3 => ?_)
  refine aw_aload_n (n := 22) dX2_empty_21 rfl rfl ?_
  refine aw_getR (n := 25) (RX2, TX2, 4) 2 3 dX2_empty_22 rfl ht (by decide) fd_RX2_18 ?_
  refine aw_iconst (n := 26) (-1) dX2_empty_25 rfl (by decide) ?_
  refine aw_callSv (n := 29) (as := [.ref (aw_rf t 3), .int (-1)]) (st := []) dX2_empty_26 rfl rfl (m_J7_fill_53178 l F (aw_rf t 3) (aw_arr (sf_2_3 ht)) (-1) r3) cw_RX2_28 ⟨Nat.le_of_ble_eq_true rfl, Nat.le_of_ble_eq_true rfl⟩ (fun _ => Nat.le_of_ble_eq_true rfl) (fun r4 => ?_)
  exact aw_vreturn dX2_empty_29 rfl rfl
abbrev k_X2_forget : aw_K := (RX2, cX2_forget, 1, none, 3, 163)
def f_X2_forget (F : Nat) (t : Nat) (μ : aw_M) : Option (aw_M) :=
  (f_X2_empty F t μ).bind fun r1 =>
  some r1
theorem m_X2_forget (l : Launch) (F : Nat) (t : Nat) (ht : (aw_sh t).1 = 7) (μ : aw_M) : AM l yX2_forget cX2_forget 1 none 3 163 aw_gv [.ref t] μ (f_X2_forget F t μ) := by
  refine aw_met [some (.ref t)] (by decide) (fun _ => rfl) (fun _ => Nat.le_of_ble_eq_true rfl) ?_
  show AW l k_X2_forget aw_gv 0 [some (.ref t)] [] μ _
  unfold f_X2_forget
  refine aw_aload_n (n := 1) dX2_forget_0 rfl rfl ?_
  refine aw_callVv (n := 4) (as := []) (st := []) (RX2, TX2, 4) 2 dX2_forget_1 rfl rfl (m_X2_empty l F t ht μ) ht (by decide) rfl rfl cw_RX2_21 ⟨Nat.le_of_ble_eq_true rfl, Nat.le_of_ble_eq_true rfl⟩ (fun _ => Nat.le_of_ble_eq_true rfl) (fun r1 => ?_)
  exact aw_vreturn dX2_forget_4 rfl rfl
abbrev k_X2_takeFrom : aw_K := (RX2, cX2_takeFrom, 2, none, 2, 141)
def f_X2_takeFrom (F : Nat) (t a0 : Nat) (μ : aw_M) : Option (aw_M) :=
  aw_let (aw_wI μ t 0 (μ.1 a0 0)) fun μ1 =>
  (f_X10_copyRow F (aw_rf a0 1) (aw_rf t 1) μ1).bind fun r2 =>
  (f_X10_copyRow F (aw_rf a0 2) (aw_rf t 2) r2).bind fun r3 =>
  (f_X10_copyRow F (aw_rf a0 3) (aw_rf t 3) r3).bind fun r4 =>
  some r4
theorem m_X2_takeFrom (l : Launch) (F : Nat) (t : Nat) (ht : (aw_sh t).1 = 7) (a0 : Nat) (ha0 : (aw_sh a0).1 = 7) (μ : aw_M) : AM l yX2_takeFrom cX2_takeFrom 2 none 2 141 aw_gv [.ref t, .ref a0] μ (f_X2_takeFrom F t a0 μ) := by
  refine aw_met [some (.ref t), some (.ref a0)] (by decide) (fun _ => rfl) (fun _ => Nat.le_of_ble_eq_true rfl) ?_
  show AW l k_X2_takeFrom aw_gv 0 [some (.ref t), some (.ref a0)] [] μ _
  unfold f_X2_takeFrom
  refine aw_aload_n (n := 1) dX2_takeFrom_0 rfl rfl ?_
  refine aw_aload_n (n := 2) dX2_takeFrom_1 rfl rfl ?_
  refine aw_getI (n := 5) (RX2, TX2, 4) 2 0 dX2_takeFrom_2 rfl ha0 (by decide) fd_RX2_24 ?_
  refine aw_putI (n := 8) (RX2, TX2, 4) 2 0 dX2_takeFrom_5 rfl ht (by decide) fp_RX2_24 (fun μ1 => ?_)
  refine aw_aload_n (n := 9) dX2_takeFrom_8 rfl rfl ?_
  refine aw_getR (n := 12) (RX2, TX2, 4) 2 1 dX2_takeFrom_9 rfl ha0 (by decide) fd_RX2_9 ?_
  refine aw_aload_n (n := 13) dX2_takeFrom_12 rfl rfl ?_
  refine aw_getR (n := 16) (RX2, TX2, 4) 2 1 dX2_takeFrom_13 rfl ht (by decide) fd_RX2_9 ?_
  refine aw_callNv (n := 19) (as := [.ref (aw_rf a0 1), .ref (aw_rf t 1)]) (st := []) RX10 dX2_takeFrom_16 rfl rfl (m_X10_copyRow l F (aw_rf a0 1) (aw_arr (sf_2_1 ha0)) (aw_rf t 1) (aw_arr (sf_2_1 ht)) μ1) cw_RX2_34 ⟨Nat.le_of_ble_eq_true rfl, Nat.le_of_ble_eq_true rfl⟩ (fun _ => Nat.le_of_ble_eq_true rfl) (fun r2 => ?_)
  refine aw_aload_n (n := 20) dX2_takeFrom_19 rfl rfl ?_
  refine aw_getR (n := 23) (RX2, TX2, 4) 2 2 dX2_takeFrom_20 rfl ha0 (by decide) fd_RX2_15 ?_
  refine aw_aload_n (n := 24) dX2_takeFrom_23 rfl rfl ?_
  refine aw_getR (n := 27) (RX2, TX2, 4) 2 2 dX2_takeFrom_24 rfl ht (by decide) fd_RX2_15 ?_
  refine aw_callNv (n := 30) (as := [.ref (aw_rf a0 2), .ref (aw_rf t 2)]) (st := []) RX10 dX2_takeFrom_27 rfl rfl (m_X10_copyRow l F (aw_rf a0 2) (aw_arr (sf_2_2 ha0)) (aw_rf t 2) (aw_arr (sf_2_2 ht)) r2) cw_RX2_34 ⟨Nat.le_of_ble_eq_true rfl, Nat.le_of_ble_eq_true rfl⟩ (fun _ => Nat.le_of_ble_eq_true rfl) (fun r3 => ?_)
  refine aw_aload_n (n := 31) dX2_takeFrom_30 rfl rfl ?_
  refine aw_getR (n := 34) (RX2, TX2, 4) 2 3 dX2_takeFrom_31 rfl ha0 (by decide) fd_RX2_18 ?_
  refine aw_aload_n (n := 35) dX2_takeFrom_34 rfl rfl ?_
  refine aw_getR (n := 38) (RX2, TX2, 4) 2 3 dX2_takeFrom_35 rfl ht (by decide) fd_RX2_18 ?_
  refine aw_callNv (n := 41) (as := [.ref (aw_rf a0 3), .ref (aw_rf t 3)]) (st := []) RX10 dX2_takeFrom_38 rfl rfl (m_X10_copyRow l F (aw_rf a0 3) (aw_arr (sf_2_3 ha0)) (aw_rf t 3) (aw_arr (sf_2_3 ht)) r3) cw_RX2_34 ⟨Nat.le_of_ble_eq_true rfl, Nat.le_of_ble_eq_true rfl⟩ (fun _ => Nat.le_of_ble_eq_true rfl) (fun r4 => ?_)
  exact aw_vreturn dX2_takeFrom_41 rfl rfl
abbrev k_X2_readPlan : aw_K := (RX2, cX2_readPlan, 4, (some .boolean), 4, 187)
def f_X2_readPlan_35 (F : Nat) (t a0 a1 : Nat) (μ : aw_M) : Option (Bool × aw_M) :=
  (f_X6_fail F a0 3 μ).bind fun r14 =>
  some (r14.1, r14.2)
theorem c_X2_readPlan_35 (l : Launch) (F : Nat) (t : Nat) (ht : (aw_sh t).1 = 7) (a0 : Nat) (ha0 : (aw_sh a0).1 = 11) (a1 : Nat) (ha1 : (aw_sh a1).1 = 13) (μ : aw_M) : AW l k_X2_readPlan aw_gz 35 [none, some (.ref a0), none, none] [] μ (f_X2_readPlan_35 F t a0 a1 μ) := by
  unfold f_X2_readPlan_35
  refine aw_aload_n (n := 36) dX2_readPlan_35 rfl rfl ?_
  refine aw_iconst (n := 37) 3 dX2_readPlan_36 rfl (by decide) ?_
  refine aw_callVz (n := 40) (as := [.int 3]) (st := []) (RX6, TX6, 13) 6 dX2_readPlan_37 rfl rfl (m_X6_fail l F a0 ha0 3 μ) ha0 (by decide) rfl rfl cw_RX2_59 ⟨Nat.le_of_ble_eq_true rfl, Nat.le_of_ble_eq_true rfl⟩ (fun _ => Nat.le_of_ble_eq_true rfl) (fun r14 => ?_)
  exact aw_zreturn (b := r14.1) dX2_readPlan_40 rfl rfl
def f_X2_readPlan_96 (F : Nat) (t a0 a1 : Nat) (x3 : Int32) (z0 : Bool) (z1 : Int32) (μ : aw_M) : Option (Bool × aw_M) :=
  aw_g (aw_in z1 9) (aw_let (aw_wI μ (aw_rf t 3) z1.toNatClampNeg (aw_b z0)) fun μ20 =>
  aw_g (aw_in x3 9) ((if (μ20.1 (aw_rf t 3) x3.toNatClampNeg) = 1 then
  (f_X6_step F a0 μ20).bind fun r21 =>
  some (true, r21)
  else
  some (true, μ20))))
theorem c_X2_readPlan_96 (l : Launch) (F : Nat) (t : Nat) (ht : (aw_sh t).1 = 7) (a0 : Nat) (ha0 : (aw_sh a0).1 = 11) (a1 : Nat) (ha1 : (aw_sh a1).1 = 13) (x3 : Int32) (z0 : Bool) (z1 : Int32) (μ : aw_M) : AW l k_X2_readPlan aw_gz 96 [some (.ref t), some (.ref a0), none, some (.int x3)] [.int (aw_b z0), .int z1, .ref (aw_rf t 3)] μ (f_X2_readPlan_96 F t a0 a1 x3 z0 z1 μ) := by
  unfold f_X2_readPlan_96
  refine aw_iastore (n := 97) 9 dX2_readPlan_96 rfl (sf_2_3 ht) (fun μ20 => ?_)
  refine aw_aload_n (n := 98) dX2_readPlan_97 rfl rfl ?_
  refine aw_getR (n := 101) (RX2, TX2, 4) 2 3 dX2_readPlan_98 rfl ht (by decide) fd_RX2_18 ?_
  refine aw_iload_n (n := 102) dX2_readPlan_101 rfl rfl ?_
  refine aw_iaload (n := 103) 9 dX2_readPlan_102 rfl (sf_2_3 ht) ?_
  refine aw_iconst (n := 104) 1 dX2_readPlan_103 rfl (by decide) ?_
  refine aw_icmp_ne (n := 107) 111 dX2_readPlan_104 (by decide) rfl ?_ ?_
  · refine aw_iconst (n := 112) 1 dX2_readPlan_111 rfl (by decide) ?_
    exact aw_zreturn (b := true) dX2_readPlan_112 rfl rfl
  · refine aw_aload_n (n := 108) dX2_readPlan_107 rfl rfl ?_
    refine aw_callVv (n := 111) (as := []) (st := []) (RX6, TX6, 13) 6 dX2_readPlan_108 rfl rfl (m_X6_step l F a0 ha0 μ20) ha0 (by decide) rfl rfl cw_RX2_75 ⟨Nat.le_of_ble_eq_true rfl, Nat.le_of_ble_eq_true rfl⟩ (fun _ => Nat.le_of_ble_eq_true rfl) (fun r21 => ?_)
    refine aw_iconst (n := 112) 1 dX2_readPlan_111 rfl (by decide) ?_
    exact aw_zreturn (b := true) dX2_readPlan_112 rfl rfl
def f_X2_readPlan (F : Nat) (t a0 a1 : Nat) (μ : aw_M) : Option (Bool × aw_M) :=
  (f_X6_atName F a0 μ).bind fun r12 =>
  (if r12.1 = true then
  (f_X8_quarterNamed F a1 (r12.2.2 a0 8) r12.2).bind fun r13 =>
  (if r13.1 = (-1) then
  f_X2_readPlan_35 F t a0 a1 r13.2
  else
  (f_X2_hasPlan F t r13.1 r13.2).bind fun r15 =>
  (if r15.1 = true then
  f_X2_readPlan_35 F t a0 a1 r15.2
  else
  (f_X6_step F a0 r15.2).bind fun r16 =>
  (f_X6_passNumber F a0 (aw_rf t 1) 0 18 r13.1 r16).bind fun r17 =>
  (if r17.1 = true then
  (f_X6_passNumber F a0 (aw_rf t 2) 0 99 r13.1 r17.2).bind fun r18 =>
  (if r18.1 = true then
  (f_X6_atKey F a0 8 r18.2).bind fun r19 =>
  (if r19.1 = true then
  f_X2_readPlan_96 F t a0 a1 r13.1 true r13.1 r19.2
  else
  f_X2_readPlan_96 F t a0 a1 r13.1 false r13.1 r19.2)
  else
  some (false, r18.2))
  else
  some (false, r17.2))))
  else
  (f_X6_fail F a0 1 r12.2).bind fun r22 =>
  some (r22.1, r22.2))
theorem m_X2_readPlan (l : Launch) (F : Nat) (t : Nat) (ht : (aw_sh t).1 = 7) (a0 : Nat) (ha0 : (aw_sh a0).1 = 11) (a1 : Nat) (ha1 : (aw_sh a1).1 = 13) (μ : aw_M) : AM l yX2_readPlan cX2_readPlan 4 (some .boolean) (4) (187) aw_gz [.ref t, .ref a0, .ref a1] μ (f_X2_readPlan F t a0 a1 μ) := by
  refine aw_met [some (.ref t), some (.ref a0), some (.ref a1), none] (by decide) (fun _ => rfl) (fun _ => Nat.le_of_ble_eq_true rfl) ?_
  show AW l k_X2_readPlan aw_gz 0 [some (.ref t), some (.ref a0), some (.ref a1), none] [] μ _
  unfold f_X2_readPlan
  refine aw_aload_n (n := 1) dX2_readPlan_0 rfl rfl ?_
  refine aw_callVz (n := 4) (as := []) (st := []) (RX6, TX6, 13) 6 dX2_readPlan_1 rfl rfl (m_X6_atName l F a0 ha0 μ) ha0 (by decide) rfl rfl cw_RX2_55 ⟨Nat.le_of_ble_eq_true rfl, Nat.le_of_ble_eq_true rfl⟩ (fun _ => Nat.le_of_ble_eq_true rfl) (fun r12 => ?_)
  refine aw_ifb_ne (n := 7) 13 dX2_readPlan_4 (by decide) rfl ?_ ?_
  · refine aw_aload_n (n := 14) dX2_readPlan_13 rfl rfl ?_
    refine aw_aload_n (n := 15) dX2_readPlan_14 rfl rfl ?_
    refine aw_getL (n := 18) (RX6, TX6, 13) 6 8 dX2_readPlan_15 rfl ha0 (by decide) fd_RX2_62 ?_
    refine aw_callVi (n := 21) (as := [.long (r12.2.2 a0 8)]) (st := []) (RX8, TX8, 20) 8 dX2_readPlan_18 rfl rfl (m_X8_quarterNamed l F a1 ha1 (r12.2.2 a0 8) r12.2) ha1 (by decide) rfl rfl cw_RX2_66 ⟨Nat.le_of_ble_eq_true rfl, Nat.le_of_ble_eq_true rfl⟩ (fun _ => Nat.le_of_ble_eq_true rfl) (fun r13 => ?_)
    refine aw_istore_n (n := 22) [some (.ref t), some (.ref a0), some (.ref a1), some (.int r13.1)] dX2_readPlan_21 rfl rfl (Nat.le_of_ble_eq_true rfl) (Nat.le_of_ble_eq_true rfl) rfl ?_
    refine aw_iload_n (n := 23) dX2_readPlan_22 rfl rfl ?_
    refine aw_iconst (n := 24) (-1) dX2_readPlan_23 rfl (by decide) ?_
    refine aw_icmp_eq (n := 27) 35 dX2_readPlan_24 (by decide) rfl ?_ ?_
    · exact aw_weak (c_X2_readPlan_35 l F t ht a0 ha0 a1 ha1 r13.2) (aw_sn (aw_ss (aw_sn (aw_sn aw_s0))))
    · refine aw_aload_n (n := 28) dX2_readPlan_27 rfl rfl ?_
      refine aw_iload_n (n := 29) dX2_readPlan_28 rfl rfl ?_
      refine aw_callVz (n := 32) (as := [.int r13.1]) (st := []) (RX2, TX2, 4) 2 dX2_readPlan_29 rfl rfl (m_X2_hasPlan l F t ht r13.1 r13.2) ht (by decide) rfl rfl cw_RX2_72 ⟨Nat.le_of_ble_eq_true rfl, Nat.le_of_ble_eq_true rfl⟩ (fun _ => Nat.le_of_ble_eq_true rfl) (fun r15 => ?_)
      refine aw_ifb_eq (n := 35) 41 dX2_readPlan_32 (by decide) rfl ?_ ?_
      · refine aw_aload_n (n := 42) dX2_readPlan_41 rfl rfl ?_
        refine aw_callVv (n := 45) (as := []) (st := []) (RX6, TX6, 13) 6 dX2_readPlan_42 rfl rfl (m_X6_step l F a0 ha0 r15.2) ha0 (by decide) rfl rfl cw_RX2_75 ⟨Nat.le_of_ble_eq_true rfl, Nat.le_of_ble_eq_true rfl⟩ (fun _ => Nat.le_of_ble_eq_true rfl) (fun r16 => ?_)
        refine aw_aload_n (n := 46) dX2_readPlan_45 rfl rfl ?_
        refine aw_iconst (n := 47) 0 dX2_readPlan_46 rfl (by decide) ?_
        refine aw_bipush (n := 49) 18 dX2_readPlan_47 rfl (by decide) ?_
        refine aw_aload_n (n := 50) dX2_readPlan_49 rfl rfl ?_
        refine aw_getR (n := 53) (RX2, TX2, 4) 2 1 dX2_readPlan_50 rfl ht (by decide) fd_RX2_9 ?_
        refine aw_iload_n (n := 54) dX2_readPlan_53 rfl rfl ?_
        refine aw_callVz (n := 57) (as := [.int 0, .int 18, .ref (aw_rf t 1), .int r13.1]) (st := []) (RX6, TX6, 13) 6 dX2_readPlan_54 rfl rfl (m_X6_passNumber l F a0 ha0 (aw_rf t 1) (aw_arr (sf_2_1 ht)) 0 18 r13.1 r16) ha0 (by decide) rfl rfl cw_RX2_78 ⟨Nat.le_of_ble_eq_true rfl, Nat.le_of_ble_eq_true rfl⟩ (fun _ => Nat.le_of_ble_eq_true rfl) (fun r17 => ?_)
        refine aw_ifb_eq (n := 60) 75 dX2_readPlan_57 (by decide) rfl ?_ ?_
        · refine aw_iconst (n := 76) 0 dX2_readPlan_75 rfl (by decide) ?_
          exact aw_zreturn (b := false) dX2_readPlan_76 rfl rfl
        · refine aw_aload_n (n := 61) dX2_readPlan_60 rfl rfl ?_
          refine aw_iconst (n := 62) 0 dX2_readPlan_61 rfl (by decide) ?_
          refine aw_bipush (n := 64) 99 dX2_readPlan_62 rfl (by decide) ?_
          refine aw_aload_n (n := 65) dX2_readPlan_64 rfl rfl ?_
          refine aw_getR (n := 68) (RX2, TX2, 4) 2 2 dX2_readPlan_65 rfl ht (by decide) fd_RX2_15 ?_
          refine aw_iload_n (n := 69) dX2_readPlan_68 rfl rfl ?_
          refine aw_callVz (n := 72) (as := [.int 0, .int 99, .ref (aw_rf t 2), .int r13.1]) (st := []) (RX6, TX6, 13) 6 dX2_readPlan_69 rfl rfl (m_X6_passNumber l F a0 ha0 (aw_rf t 2) (aw_arr (sf_2_2 ht)) 0 99 r13.1 r17.2) ha0 (by decide) rfl rfl cw_RX2_78 ⟨Nat.le_of_ble_eq_true rfl, Nat.le_of_ble_eq_true rfl⟩ (fun _ => Nat.le_of_ble_eq_true rfl) (fun r18 => ?_)
          refine aw_ifb_ne (n := 75) 77 dX2_readPlan_72 (by decide) rfl ?_ ?_
          · refine aw_aload_n (n := 78) dX2_readPlan_77 rfl rfl ?_
            refine aw_getR (n := 81) (RX2, TX2, 4) 2 3 dX2_readPlan_78 rfl ht (by decide) fd_RX2_18 ?_
            refine aw_iload_n (n := 82) dX2_readPlan_81 rfl rfl ?_
            refine aw_aload_n (n := 83) dX2_readPlan_82 rfl rfl ?_
            refine aw_bipush (n := 85) 8 dX2_readPlan_83 rfl (by decide) ?_
            refine aw_callVz (n := 88) (as := [.int 8]) (st := [.int r13.1, .ref (aw_rf t 3)]) (RX6, TX6, 13) 6 dX2_readPlan_85 rfl rfl (m_X6_atKey l F a0 ha0 8 r18.2) ha0 (by decide) rfl rfl cw_RX2_82 ⟨Nat.le_of_ble_eq_true rfl, Nat.le_of_ble_eq_true rfl⟩ (fun _ => Nat.le_of_ble_eq_true rfl) (fun r19 => ?_)
            refine aw_ifb_eq (n := 91) 95 dX2_readPlan_88 (by decide) rfl ?_ ?_
            · refine aw_iconst (n := 96) 0 dX2_readPlan_95 rfl (by decide) ?_
              exact aw_weak (c_X2_readPlan_96 l F t ht a0 ha0 a1 ha1 r13.1 false r13.1 r19.2) (aw_ss (aw_ss (aw_sn (aw_ss aw_s0))))
            · refine aw_iconst (n := 92) 1 dX2_readPlan_91 rfl (by decide) ?_
              refine aw_goto 96 dX2_readPlan_92 (by decide) ?_
              exact aw_weak (c_X2_readPlan_96 l F t ht a0 ha0 a1 ha1 r13.1 true r13.1 r19.2) (aw_ss (aw_ss (aw_sn (aw_ss aw_s0))))
          · refine aw_iconst (n := 76) 0 dX2_readPlan_75 rfl (by decide) ?_
            exact aw_zreturn (b := false) dX2_readPlan_76 rfl rfl
      · exact aw_weak (c_X2_readPlan_35 l F t ht a0 ha0 a1 ha1 r15.2) (aw_sn (aw_ss (aw_sn (aw_sn aw_s0))))
  · refine aw_aload_n (n := 8) dX2_readPlan_7 rfl rfl ?_
    refine aw_iconst (n := 9) 1 dX2_readPlan_8 rfl (by decide) ?_
    refine aw_callVz (n := 12) (as := [.int 1]) (st := []) (RX6, TX6, 13) 6 dX2_readPlan_9 rfl rfl (m_X6_fail l F a0 ha0 1 r12.2) ha0 (by decide) rfl rfl cw_RX2_59 ⟨Nat.le_of_ble_eq_true rfl, Nat.le_of_ble_eq_true rfl⟩ (fun _ => Nat.le_of_ble_eq_true rfl) (fun r22 => ?_)
    exact aw_zreturn (b := r22.1) dX2_readPlan_12 rfl rfl
abbrev k_X2_readFrom : aw_K := (RX2, cX2_readFrom, 4, (some .boolean), 5, 210)
def f_X2_readFrom_13 (F : Nat) (t a0 a1 : Nat) (k13 : Int32 × aw_M → Option (Bool × aw_M)) (x3 : Int32) (μ : aw_M) : Option (Bool × aw_M) :=
  (if 400 ≤ x3 then
  some (true, μ)
  else
  (if (μ.1 a0 6) = 4 then
  some (true, μ)
  else
  (f_X2_readPlan F t a0 a1 μ).bind fun r8 =>
  (if r8.1 = true then
  (f_X6_passSign F a0 59 r8.2).bind fun r9 =>
  (if r9.1 = true then
  aw_let (aw_wI r9.2 t 0 ((r9.2.1 t 0) + 1)) fun μ10 =>
  k13 ((x3 + 1), μ10)
  else
  some (false, r9.2))
  else
  some (false, r8.2))))
theorem c_X2_readFrom_13 (l : Launch) (F : Nat) (t : Nat) (ht : (aw_sh t).1 = 7) (a0 : Nat) (ha0 : (aw_sh a0).1 = 11) (a1 : Nat) (ha1 : (aw_sh a1).1 = 13) : ∀ (N : Nat) (s : Int32 × aw_M), AW l k_X2_readFrom aw_gz 13 [some (.ref t), some (.ref a0), some (.ref a1), some (.int s.1)] [] s.2 (aw_loop (fun k s => f_X2_readFrom_13 F t a0 a1 k s.1 s.2) N s) := by
  refine aw_loop_ok (f := fun k s => f_X2_readFrom_13 F t a0 a1 k s.1 s.2) (Ls := fun s => [some (.ref t), some (.ref a0), some (.ref a1), some (.int s.1)]) (ms := fun s => s.2) ?_
  intro k13 hk13 s
  obtain ⟨x3, μ⟩ := s
  show AW l k_X2_readFrom aw_gz 13 [some (.ref t), some (.ref a0), some (.ref a1), some (.int x3)] [] μ (f_X2_readFrom_13 F t a0 a1 k13 x3 μ)
  unfold f_X2_readFrom_13
  refine aw_iload_n (n := 14) dX2_readFrom_13 rfl rfl ?_
  refine aw_sipush (n := 17) 400 dX2_readFrom_14 rfl (by decide) ?_
  refine aw_icmp_ge (n := 20) 64 dX2_readFrom_17 (by decide) rfl ?_ ?_
  · refine aw_iconst (n := 65) 1 dX2_readFrom_64 rfl (by decide) ?_
    exact aw_zreturn (b := true) dX2_readFrom_65 rfl rfl
  · refine aw_aload_n (n := 21) dX2_readFrom_20 rfl rfl ?_
    refine aw_getI (n := 24) (RX6, TX6, 13) 6 6 dX2_readFrom_21 rfl ha0 (by decide) fd_RX2_44 ?_
    refine aw_iconst (n := 25) 4 dX2_readFrom_24 rfl (by decide) ?_
    refine aw_icmp_eq (n := 28) 64 dX2_readFrom_25 (by decide) rfl ?_ ?_
    · refine aw_iconst (n := 65) 1 dX2_readFrom_64 rfl (by decide) ?_
      exact aw_zreturn (b := true) dX2_readFrom_65 rfl rfl
    · refine aw_aload_n (n := 29) dX2_readFrom_28 rfl rfl ?_
      refine aw_aload_n (n := 30) dX2_readFrom_29 rfl rfl ?_
      refine aw_aload_n (n := 31) dX2_readFrom_30 rfl rfl ?_
      refine aw_callVz (n := 34) (as := [.ref a0, .ref a1]) (st := []) (RX2, TX2, 4) 2 dX2_readFrom_31 rfl rfl (m_X2_readPlan l F t ht a0 ha0 a1 ha1 μ) ht (by decide) rfl rfl cw_RX2_47 ⟨Nat.le_of_ble_eq_true rfl, Nat.le_of_ble_eq_true rfl⟩ (fun _ => Nat.le_of_ble_eq_true rfl) (fun r8 => ?_)
      refine aw_ifb_eq (n := 37) 46 dX2_readFrom_34 (by decide) rfl ?_ ?_
      · refine aw_iconst (n := 47) 0 dX2_readFrom_46 rfl (by decide) ?_
        exact aw_zreturn (b := false) dX2_readFrom_47 rfl rfl
      · refine aw_aload_n (n := 38) dX2_readFrom_37 rfl rfl ?_
        refine aw_bipush (n := 40) 59 dX2_readFrom_38 rfl (by decide) ?_
        refine aw_callVz (n := 43) (as := [.int 59]) (st := []) (RX6, TX6, 13) 6 dX2_readFrom_40 rfl rfl (m_X6_passSign l F a0 ha0 59 r8.2) ha0 (by decide) rfl rfl cw_RX2_51 ⟨Nat.le_of_ble_eq_true rfl, Nat.le_of_ble_eq_true rfl⟩ (fun _ => Nat.le_of_ble_eq_true rfl) (fun r9 => ?_)
        refine aw_ifb_ne (n := 46) 48 dX2_readFrom_43 (by decide) rfl ?_ ?_
        · refine aw_aload_n (n := 49) dX2_readFrom_48 rfl rfl ?_
          refine aw_dup (n := 50) dX2_readFrom_49 rfl (fun _ => rfl) ?_
          refine aw_getI (n := 53) (RX2, TX2, 4) 2 0 dX2_readFrom_50 rfl ht (by decide) fd_RX2_24 ?_
          refine aw_iconst (n := 54) 1 dX2_readFrom_53 rfl (by decide) ?_
          refine aw_iadd (n := 55) dX2_readFrom_54 rfl ?_
          refine aw_putI (n := 58) (RX2, TX2, 4) 2 0 dX2_readFrom_55 rfl ht (by decide) fp_RX2_24 (fun μ10 => ?_)
          refine aw_iinc (n := 61) (x3 + 1) [some (.ref t), some (.ref a0), some (.ref a1), some (.int (x3 + 1))] dX2_readFrom_58 rfl rfl (by rfl) rfl (Nat.le_of_ble_eq_true rfl) rfl ?_
          refine aw_goto 13 dX2_readFrom_61 (by decide) ?_
          exact aw_weak (hk13 ((x3 + 1), μ10)) (aw_ss (aw_ss (aw_ss (aw_ss aw_s0))))
        · refine aw_iconst (n := 47) 0 dX2_readFrom_46 rfl (by decide) ?_
          exact aw_zreturn (b := false) dX2_readFrom_47 rfl rfl
def f_X2_readFrom (F : Nat) (t a0 a1 : Nat) (μ : aw_M) : Option (Bool × aw_M) :=
  (f_X2_empty F t μ).bind fun r6 =>
  (f_X6_open F a0 400 r6).bind fun r7 =>
  aw_loop (fun k s => f_X2_readFrom_13 F t a0 a1 k s.1 s.2) F (0, r7)
theorem m_X2_readFrom (l : Launch) (F : Nat) (t : Nat) (ht : (aw_sh t).1 = 7) (a0 : Nat) (ha0 : (aw_sh a0).1 = 11) (a1 : Nat) (ha1 : (aw_sh a1).1 = 13) (μ : aw_M) : AM l yX2_readFrom cX2_readFrom 4 (some .boolean) (5) (210) aw_gz [.ref t, .ref a0, .ref a1] μ (f_X2_readFrom F t a0 a1 μ) := by
  refine aw_met [some (.ref t), some (.ref a0), some (.ref a1), none] (by decide) (fun _ => rfl) (fun _ => Nat.le_of_ble_eq_true rfl) ?_
  show AW l k_X2_readFrom aw_gz 0 [some (.ref t), some (.ref a0), some (.ref a1), none] [] μ _
  unfold f_X2_readFrom
  refine aw_aload_n (n := 1) dX2_readFrom_0 rfl rfl ?_
  refine aw_callVv (n := 4) (as := []) (st := []) (RX2, TX2, 4) 2 dX2_readFrom_1 rfl rfl (m_X2_empty l F t ht μ) ht (by decide) rfl rfl cw_RX2_21 ⟨Nat.le_of_ble_eq_true rfl, Nat.le_of_ble_eq_true rfl⟩ (fun _ => Nat.le_of_ble_eq_true rfl) (fun r6 => ?_)
  refine aw_aload_n (n := 5) dX2_readFrom_4 rfl rfl ?_
  refine aw_sipush (n := 8) 400 dX2_readFrom_5 rfl (by decide) ?_
  refine aw_callVv (n := 11) (as := [.int 400]) (st := []) (RX6, TX6, 13) 6 dX2_readFrom_8 rfl rfl (m_X6_open l F a0 ha0 400 r6) ha0 (by decide) rfl rfl cw_RX2_38 ⟨Nat.le_of_ble_eq_true rfl, Nat.le_of_ble_eq_true rfl⟩ (fun _ => Nat.le_of_ble_eq_true rfl) (fun r7 => ?_)
  refine aw_iconst (n := 12) 0 dX2_readFrom_11 rfl (by decide) ?_
  refine aw_istore_n (n := 13) [some (.ref t), some (.ref a0), some (.ref a1), some (.int 0)] dX2_readFrom_12 rfl rfl (Nat.le_of_ble_eq_true rfl) (Nat.le_of_ble_eq_true rfl) rfl ?_
  exact aw_weak (c_X2_readFrom_13 l F t ht a0 ha0 a1 ha1 F (0, r7)) (aw_ss (aw_ss (aw_ss (aw_ss aw_s0))))
