abbrev k_X11_against : aw_K := (RX11, cX11_against, 4, (some .int), 2, 142)
def f_X11_against (F : Nat) (t : Nat) (a0 : Int32) (a1 : Int32) (a2 : Int32) (μ : aw_M) : Option (Int32 × aw_M) :=
  aw_let (aw_wI μ t 0 0) fun μ1 =>
  (f_X11_isIn F a0 0 ((μ1.1 t 41) - 1) μ1).bind fun r2 =>
  (if r2.1 = true then
  (f_X11_isIn F a1 0 ((r2.2.1 t 41) - 1) r2.2).bind fun r3 =>
  (if r3.1 = true then
  (f_X11_isIn F a2 0 1 r3.2).bind fun r4 =>
  (if r4.1 = true then
  aw_g (aw_in (((12 * a0) + (2 * a1)) + a2) 72) (some ((r4.2.1 (aw_rf t 39) (((12 * a0) + (2 * a1)) + a2).toNatClampNeg), r4.2))
  else
  some ((-10001), r4.2))
  else
  some ((-10001), r3.2))
  else
  some ((-10001), r2.2))
theorem m_X11_against (l : Launch) (F : Nat) (t : Nat) (ht : (aw_sh t).1 = 16) (a0 : Int32) (a1 : Int32) (a2 : Int32) (μ : aw_M) : AM l yX11_against cX11_against 4 (some .int) 2 142 aw_gi [.ref t, .int a0, .int a1, .int a2] μ (f_X11_against F t a0 a1 a2 μ) := by
  refine aw_met [some (.ref t), some (.int a0), some (.int a1), some (.int a2)] (by decide) (fun _ => rfl) (fun _ => Nat.le_of_ble_eq_true rfl) ?_
  show AW l k_X11_against aw_gi 0 [some (.ref t), some (.int a0), some (.int a1), some (.int a2)] [] μ _
  unfold f_X11_against
  refine aw_aload_n (n := 1) dX11_against_0 rfl rfl ?_
  refine aw_iconst (n := 2) 0 dX11_against_1 rfl (by decide) ?_
  refine aw_putI (n := 5) (RX11, TX11, 52) 11 0 dX11_against_2 rfl ht (by decide) fp_RX11_1 (fun μ1 => ?_)
  refine aw_iload_n (n := 6) dX11_against_5 rfl rfl ?_
  refine aw_iconst (n := 7) 0 dX11_against_6 rfl (by decide) ?_
  refine aw_aload_n (n := 8) dX11_against_7 rfl rfl ?_
  refine aw_getI (n := 11) (RX11, TX11, 52) 11 41 dX11_against_8 rfl ht (by decide) fd_RX11_374 ?_
  refine aw_iconst (n := 12) 1 dX11_against_11 rfl (by decide) ?_
  refine aw_isub (n := 13) dX11_against_12 rfl ?_
  refine aw_callSz (n := 16) (as := [.int a0, .int 0, .int ((μ1.1 t 41) - 1)]) (st := []) dX11_against_13 rfl rfl (m_X11_isIn l F a0 0 ((μ1.1 t 41) - 1) μ1) cw_RX11_194 ⟨Nat.le_of_ble_eq_true rfl, Nat.le_of_ble_eq_true rfl⟩ (fun _ => Nat.le_of_ble_eq_true rfl) (fun r2 => ?_)
  refine aw_ifb_eq (n := 19) 60 dX11_against_16 (by decide) rfl ?_ ?_
  · refine aw_sipush (n := 63) (-10001) dX11_against_60 rfl (by decide) ?_
    exact aw_ireturn dX11_against_63 rfl rfl
  · refine aw_iload_n (n := 20) dX11_against_19 rfl rfl ?_
    refine aw_iconst (n := 21) 0 dX11_against_20 rfl (by decide) ?_
    refine aw_aload_n (n := 22) dX11_against_21 rfl rfl ?_
    refine aw_getI (n := 25) (RX11, TX11, 52) 11 41 dX11_against_22 rfl ht (by decide) fd_RX11_374 ?_
    refine aw_iconst (n := 26) 1 dX11_against_25 rfl (by decide) ?_
    refine aw_isub (n := 27) dX11_against_26 rfl ?_
    refine aw_callSz (n := 30) (as := [.int a1, .int 0, .int ((r2.2.1 t 41) - 1)]) (st := []) dX11_against_27 rfl rfl (m_X11_isIn l F a1 0 ((r2.2.1 t 41) - 1) r2.2) cw_RX11_194 ⟨Nat.le_of_ble_eq_true rfl, Nat.le_of_ble_eq_true rfl⟩ (fun _ => Nat.le_of_ble_eq_true rfl) (fun r3 => ?_)
    refine aw_ifb_eq (n := 33) 60 dX11_against_30 (by decide) rfl ?_ ?_
    · refine aw_sipush (n := 63) (-10001) dX11_against_60 rfl (by decide) ?_
      exact aw_ireturn dX11_against_63 rfl rfl
    · refine aw_iload_n (n := 34) dX11_against_33 rfl rfl ?_
      refine aw_iconst (n := 35) 0 dX11_against_34 rfl (by decide) ?_
      refine aw_iconst (n := 36) 1 dX11_against_35 rfl (by decide) ?_
      refine aw_callSz (n := 39) (as := [.int a2, .int 0, .int 1]) (st := []) dX11_against_36 rfl rfl (m_X11_isIn l F a2 0 1 r3.2) cw_RX11_194 ⟨Nat.le_of_ble_eq_true rfl, Nat.le_of_ble_eq_true rfl⟩ (fun _ => Nat.le_of_ble_eq_true rfl) (fun r4 => ?_)
      refine aw_ifb_eq (n := 42) 60 dX11_against_39 (by decide) rfl ?_ ?_
      · refine aw_sipush (n := 63) (-10001) dX11_against_60 rfl (by decide) ?_
        exact aw_ireturn dX11_against_63 rfl rfl
      · refine aw_aload_n (n := 43) dX11_against_42 rfl rfl ?_
        refine aw_getR (n := 46) (RX11, TX11, 52) 11 39 dX11_against_43 rfl ht (by decide) fd_RX11_90 ?_
        refine aw_bipush (n := 48) 12 dX11_against_46 rfl (by decide) ?_
        refine aw_iload_n (n := 49) dX11_against_48 rfl rfl ?_
        refine aw_imul (n := 50) dX11_against_49 rfl ?_
        refine aw_iconst (n := 51) 2 dX11_against_50 rfl (by decide) ?_
        refine aw_iload_n (n := 52) dX11_against_51 rfl rfl ?_
        refine aw_imul (n := 53) dX11_against_52 rfl ?_
        refine aw_iadd (n := 54) dX11_against_53 rfl ?_
        refine aw_iload_n (n := 55) dX11_against_54 rfl rfl ?_
        refine aw_iadd (n := 56) dX11_against_55 rfl ?_
        refine aw_iaload (n := 57) 72 dX11_against_56 rfl (sf_11_39 ht) ?_
        refine aw_goto 63 dX11_against_57 (by decide) ?_
        exact aw_ireturn dX11_against_63 rfl rfl
abbrev k_X11_reply : aw_K := (RX11, cX11_reply, 4, (some .int), 2, 142)
def f_X11_reply_64 (F : Nat) (t : Nat) (k25 : Int32 × Int32 × Int32 × aw_M → Option (Int32 × aw_M)) (x1 : Int32) (x2 : Int32) (x3 : Int32) (μ : aw_M) : Option (Int32 × aw_M) :=
  k25 (x1, x2, (x3 + 1), μ)
theorem c_X11_reply_64 (l : Launch) (F : Nat) (t : Nat) (ht : (aw_sh t).1 = 16) (k25 : Int32 × Int32 × Int32 × aw_M → Option (Int32 × aw_M)) (hk25 : ∀ s : Int32 × Int32 × Int32 × aw_M, AW l k_X11_reply aw_gi 25 [some (.ref t), some (.int s.1), some (.int s.2.1), some (.int s.2.2.1)] [] s.2.2.2 (k25 s)) (x1 : Int32) (x2 : Int32) (x3 : Int32) (μ : aw_M) : AW l k_X11_reply aw_gi 64 [some (.ref t), some (.int x1), some (.int x2), some (.int x3)] [] μ (f_X11_reply_64 F t k25 x1 x2 x3 μ) := by
  unfold f_X11_reply_64
  refine aw_iinc (n := 67) (x3 + 1) [some (.ref t), some (.int x1), some (.int x2), some (.int (x3 + 1))] dX11_reply_64 rfl rfl (by rfl) rfl (Nat.le_of_ble_eq_true rfl) rfl ?_
  refine aw_goto 25 dX11_reply_67 (by decide) ?_
  exact aw_weak (hk25 (x1, x2, (x3 + 1), μ)) (aw_ss (aw_ss (aw_ss (aw_ss aw_s0))))
def f_X11_reply_25 (F : Nat) (t : Nat) (k25 : Int32 × Int32 × Int32 × aw_M → Option (Int32 × aw_M)) (x1 : Int32) (x2 : Int32) (x3 : Int32) (μ : aw_M) : Option (Int32 × aw_M) :=
  (if (μ.1 t 41) ≤ x3 then
  some (x2, μ)
  else
  aw_g (aw_in ((12 * x3) + (2 * x1)) 72) (aw_g (aw_in ((12 * x2) + (2 * x1)) 72) ((if (μ.1 (aw_rf t 39) ((12 * x3) + (2 * x1)).toNatClampNeg) ≤ (μ.1 (aw_rf t 39) ((12 * x2) + (2 * x1)).toNatClampNeg) then
  f_X11_reply_64 F t k25 x1 x2 x3 μ
  else
  f_X11_reply_64 F t k25 x1 x3 x3 μ))))
theorem c_X11_reply_25 (l : Launch) (F : Nat) (t : Nat) (ht : (aw_sh t).1 = 16) : ∀ (N : Nat) (s : Int32 × Int32 × Int32 × aw_M), AW l k_X11_reply aw_gi 25 [some (.ref t), some (.int s.1), some (.int s.2.1), some (.int s.2.2.1)] [] s.2.2.2 (aw_loop (fun k s => f_X11_reply_25 F t k s.1 s.2.1 s.2.2.1 s.2.2.2) N s) := by
  refine aw_loop_ok (f := fun k s => f_X11_reply_25 F t k s.1 s.2.1 s.2.2.1 s.2.2.2) (Ls := fun s => [some (.ref t), some (.int s.1), some (.int s.2.1), some (.int s.2.2.1)]) (ms := fun s => s.2.2.2) ?_
  intro k25 hk25 s
  obtain ⟨x1, x2, x3, μ⟩ := s
  show AW l k_X11_reply aw_gi 25 [some (.ref t), some (.int x1), some (.int x2), some (.int x3)] [] μ (f_X11_reply_25 F t k25 x1 x2 x3 μ)
  unfold f_X11_reply_25
  refine aw_iload_n (n := 26) dX11_reply_25 rfl rfl ?_
  refine aw_aload_n (n := 27) dX11_reply_26 rfl rfl ?_
  refine aw_getI (n := 30) (RX11, TX11, 52) 11 41 dX11_reply_27 rfl ht (by decide) fd_RX11_374 ?_
  refine aw_icmp_ge (n := 33) 70 dX11_reply_30 (by decide) rfl ?_ ?_
  · refine aw_iload_n (n := 71) dX11_reply_70 rfl rfl ?_
    exact aw_ireturn dX11_reply_71 rfl rfl
  · refine aw_aload_n (n := 34) dX11_reply_33 rfl rfl ?_
    refine aw_getR (n := 37) (RX11, TX11, 52) 11 39 dX11_reply_34 rfl ht (by decide) fd_RX11_90 ?_
    refine aw_bipush (n := 39) 12 dX11_reply_37 rfl (by decide) ?_
    refine aw_iload_n (n := 40) dX11_reply_39 rfl rfl ?_
    refine aw_imul (n := 41) dX11_reply_40 rfl ?_
    refine aw_iconst (n := 42) 2 dX11_reply_41 rfl (by decide) ?_
    refine aw_iload_n (n := 43) dX11_reply_42 rfl rfl ?_
    refine aw_imul (n := 44) dX11_reply_43 rfl ?_
    refine aw_iadd (n := 45) dX11_reply_44 rfl ?_
    refine aw_iaload (n := 46) 72 dX11_reply_45 rfl (sf_11_39 ht) ?_
    refine aw_aload_n (n := 47) dX11_reply_46 rfl rfl ?_
    refine aw_getR (n := 50) (RX11, TX11, 52) 11 39 dX11_reply_47 rfl ht (by decide) fd_RX11_90 ?_
    refine aw_bipush (n := 52) 12 dX11_reply_50 rfl (by decide) ?_
    refine aw_iload_n (n := 53) dX11_reply_52 rfl rfl ?_
    refine aw_imul (n := 54) dX11_reply_53 rfl ?_
    refine aw_iconst (n := 55) 2 dX11_reply_54 rfl (by decide) ?_
    refine aw_iload_n (n := 56) dX11_reply_55 rfl rfl ?_
    refine aw_imul (n := 57) dX11_reply_56 rfl ?_
    refine aw_iadd (n := 58) dX11_reply_57 rfl ?_
    refine aw_iaload (n := 59) 72 dX11_reply_58 rfl (sf_11_39 ht) ?_
    refine aw_icmp_le (n := 62) 64 dX11_reply_59 (by decide) rfl ?_ ?_
    · exact aw_weak (c_X11_reply_64 l F t ht k25 hk25 x1 x2 x3 μ) (aw_ss (aw_ss (aw_ss (aw_ss aw_s0))))
    · refine aw_iload_n (n := 63) dX11_reply_62 rfl rfl ?_
      refine aw_istore_n (n := 64) [some (.ref t), some (.int x1), some (.int x3), some (.int x3)] dX11_reply_63 rfl rfl (Nat.le_of_ble_eq_true rfl) (Nat.le_of_ble_eq_true rfl) rfl ?_
      exact aw_weak (c_X11_reply_64 l F t ht k25 hk25 x1 x3 x3 μ) (aw_ss (aw_ss (aw_ss (aw_ss aw_s0))))
def f_X11_reply (F : Nat) (t : Nat) (a0 : Int32) (μ : aw_M) : Option (Int32 × aw_M) :=
  aw_let (aw_wI μ t 0 0) fun μ7 =>
  (f_X11_isIn F a0 0 ((μ7.1 t 41) - 1) μ7).bind fun r8 =>
  (if r8.1 = true then
  aw_loop (fun k s => f_X11_reply_25 F t k s.1 s.2.1 s.2.2.1 s.2.2.2) F (a0, 0, 1, r8.2)
  else
  some ((-1), r8.2))
theorem m_X11_reply (l : Launch) (F : Nat) (t : Nat) (ht : (aw_sh t).1 = 16) (a0 : Int32) (μ : aw_M) : AM l yX11_reply cX11_reply 4 (some .int) 2 142 aw_gi [.ref t, .int a0] μ (f_X11_reply F t a0 μ) := by
  refine aw_met [some (.ref t), some (.int a0), none, none] (by decide) (fun _ => rfl) (fun _ => Nat.le_of_ble_eq_true rfl) ?_
  show AW l k_X11_reply aw_gi 0 [some (.ref t), some (.int a0), none, none] [] μ _
  unfold f_X11_reply
  refine aw_aload_n (n := 1) dX11_reply_0 rfl rfl ?_
  refine aw_iconst (n := 2) 0 dX11_reply_1 rfl (by decide) ?_
  refine aw_putI (n := 5) (RX11, TX11, 52) 11 0 dX11_reply_2 rfl ht (by decide) fp_RX11_1 (fun μ7 => ?_)
  refine aw_iload_n (n := 6) dX11_reply_5 rfl rfl ?_
  refine aw_iconst (n := 7) 0 dX11_reply_6 rfl (by decide) ?_
  refine aw_aload_n (n := 8) dX11_reply_7 rfl rfl ?_
  refine aw_getI (n := 11) (RX11, TX11, 52) 11 41 dX11_reply_8 rfl ht (by decide) fd_RX11_374 ?_
  refine aw_iconst (n := 12) 1 dX11_reply_11 rfl (by decide) ?_
  refine aw_isub (n := 13) dX11_reply_12 rfl ?_
  refine aw_callSz (n := 16) (as := [.int a0, .int 0, .int ((μ7.1 t 41) - 1)]) (st := []) dX11_reply_13 rfl rfl (m_X11_isIn l F a0 0 ((μ7.1 t 41) - 1) μ7) cw_RX11_194 ⟨Nat.le_of_ble_eq_true rfl, Nat.le_of_ble_eq_true rfl⟩ (fun _ => Nat.le_of_ble_eq_true rfl) (fun r8 => ?_)
  refine aw_ifb_ne (n := 19) 21 dX11_reply_16 (by decide) rfl ?_ ?_
  · refine aw_iconst (n := 22) 0 dX11_reply_21 rfl (by decide) ?_
    refine aw_istore_n (n := 23) [some (.ref t), some (.int a0), some (.int 0), none] dX11_reply_22 rfl rfl (Nat.le_of_ble_eq_true rfl) (Nat.le_of_ble_eq_true rfl) rfl ?_
    refine aw_iconst (n := 24) 1 dX11_reply_23 rfl (by decide) ?_
    refine aw_istore_n (n := 25) [some (.ref t), some (.int a0), some (.int 0), some (.int 1)] dX11_reply_24 rfl rfl (Nat.le_of_ble_eq_true rfl) (Nat.le_of_ble_eq_true rfl) rfl ?_
    exact aw_weak (c_X11_reply_25 l F t ht F (a0, 0, 1, r8.2)) (aw_ss (aw_ss (aw_ss (aw_ss aw_s0))))
  · refine aw_iconst (n := 20) (-1) dX11_reply_19 rfl (by decide) ?_
    exact aw_ireturn dX11_reply_20 rfl rfl
abbrev k_X11_who : aw_K := (RX11, cX11_who, 5, (some .int), 4, 191)
def f_X11_who_75 (F : Nat) (t : Nat) (k20 : Int32 × Int32 × Int32 × Int32 × aw_M → Option (Int32 × aw_M)) (x1 : Int32) (x2 : Int32) (x4 : Int32) (z0 : Int32) (z1 : Int32) (μ : aw_M) : Option (Int32 × aw_M) :=
  aw_let ((z1 ||| z0)) fun v13 =>
  k20 (x1, x2, v13, (x4 + 1), μ)
theorem c_X11_who_75 (l : Launch) (F : Nat) (t : Nat) (ht : (aw_sh t).1 = 16) (k20 : Int32 × Int32 × Int32 × Int32 × aw_M → Option (Int32 × aw_M)) (hk20 : ∀ s : Int32 × Int32 × Int32 × Int32 × aw_M, AW l k_X11_who aw_gi 20 [some (.ref t), some (.int s.1), some (.int s.2.1), some (.int s.2.2.1), some (.int s.2.2.2.1)] [] s.2.2.2.2 (k20 s)) (x1 : Int32) (x2 : Int32) (x4 : Int32) (z0 : Int32) (z1 : Int32) (μ : aw_M) : AW l k_X11_who aw_gi 75 [some (.ref t), some (.int x1), some (.int x2), none, some (.int x4)] [.int z0, .int z1] μ (f_X11_who_75 F t k20 x1 x2 x4 z0 z1 μ) := by
  unfold f_X11_who_75
  refine aw_ior (n := 76) dX11_who_75 rfl ?_
  refine aw_nmI (fun v13 => ?_)
  refine aw_istore_n (n := 77) [some (.ref t), some (.int x1), some (.int x2), some (.int v13), some (.int x4)] dX11_who_76 rfl rfl (Nat.le_of_ble_eq_true rfl) (Nat.le_of_ble_eq_true rfl) rfl ?_
  refine aw_iinc (n := 80) (x4 + 1) [some (.ref t), some (.int x1), some (.int x2), some (.int v13), some (.int (x4 + 1))] dX11_who_77 rfl rfl (by rfl) rfl (Nat.le_of_ble_eq_true rfl) rfl ?_
  refine aw_goto 20 dX11_who_80 (by decide) ?_
  exact aw_weak (hk20 (x1, x2, v13, (x4 + 1), μ)) (aw_ss (aw_ss (aw_ss (aw_ss (aw_ss aw_s0)))))
def f_X11_who_74 (F : Nat) (t : Nat) (k20 : Int32 × Int32 × Int32 × Int32 × aw_M → Option (Int32 × aw_M)) (x1 : Int32) (x2 : Int32) (x4 : Int32) (z0 : Int32) (μ : aw_M) : Option (Int32 × aw_M) :=
  f_X11_who_75 F t k20 x1 x2 x4 0 z0 μ
theorem c_X11_who_74 (l : Launch) (F : Nat) (t : Nat) (ht : (aw_sh t).1 = 16) (k20 : Int32 × Int32 × Int32 × Int32 × aw_M → Option (Int32 × aw_M)) (hk20 : ∀ s : Int32 × Int32 × Int32 × Int32 × aw_M, AW l k_X11_who aw_gi 20 [some (.ref t), some (.int s.1), some (.int s.2.1), some (.int s.2.2.1), some (.int s.2.2.2.1)] [] s.2.2.2.2 (k20 s)) (x1 : Int32) (x2 : Int32) (x4 : Int32) (z0 : Int32) (μ : aw_M) : AW l k_X11_who aw_gi 74 [some (.ref t), some (.int x1), some (.int x2), none, some (.int x4)] [.int z0] μ (f_X11_who_74 F t k20 x1 x2 x4 z0 μ) := by
  unfold f_X11_who_74
  refine aw_iconst (n := 75) 0 dX11_who_74 rfl (by decide) ?_
  exact aw_weak (c_X11_who_75 l F t ht k20 hk20 x1 x2 x4 0 z0 μ) (aw_ss (aw_ss (aw_ss (aw_sn (aw_ss aw_s0)))))
def f_X11_who_20 (F : Nat) (t : Nat) (k20 : Int32 × Int32 × Int32 × Int32 × aw_M → Option (Int32 × aw_M)) (x1 : Int32) (x2 : Int32) (x3 : Int32) (x4 : Int32) (μ : aw_M) : Option (Int32 × aw_M) :=
  aw_g (aw_in 2 1155) ((if (μ.1 (aw_rf t 6) (2 : Int32).toNatClampNeg) ≤ x4 then
  some (x3, μ)
  else
  aw_g (aw_in (458 + x4) 1155) ((if (μ.1 (aw_rf t 6) (458 + x4).toNatClampNeg) ≤ 0 then
  f_X11_who_74 F t k20 x1 x2 x4 x3 μ
  else
  (f_X11_isBarred F t x4 x1 μ).bind fun r14 =>
  (if r14.1 = true then
  f_X11_who_74 F t k20 x1 x2 x4 x3 r14.2
  else
  (f_X11_hitOf F t x4 x1 r14.2).bind fun r15 =>
  (if r15.1 = x2 then
  f_X11_who_75 F t k20 x1 x2 x4 (1 <<< (x4 &&& 31)) x3 r15.2
  else
  f_X11_who_74 F t k20 x1 x2 x4 x3 r15.2))))))
theorem c_X11_who_20 (l : Launch) (F : Nat) (t : Nat) (ht : (aw_sh t).1 = 16) : ∀ (N : Nat) (s : Int32 × Int32 × Int32 × Int32 × aw_M), AW l k_X11_who aw_gi 20 [some (.ref t), some (.int s.1), some (.int s.2.1), some (.int s.2.2.1), some (.int s.2.2.2.1)] [] s.2.2.2.2 (aw_loop (fun k s => f_X11_who_20 F t k s.1 s.2.1 s.2.2.1 s.2.2.2.1 s.2.2.2.2) N s) := by
  refine aw_loop_ok (f := fun k s => f_X11_who_20 F t k s.1 s.2.1 s.2.2.1 s.2.2.2.1 s.2.2.2.2) (Ls := fun s => [some (.ref t), some (.int s.1), some (.int s.2.1), some (.int s.2.2.1), some (.int s.2.2.2.1)]) (ms := fun s => s.2.2.2.2) ?_
  intro k20 hk20 s
  obtain ⟨x1, x2, x3, x4, μ⟩ := s
  show AW l k_X11_who aw_gi 20 [some (.ref t), some (.int x1), some (.int x2), some (.int x3), some (.int x4)] [] μ (f_X11_who_20 F t k20 x1 x2 x3 x4 μ)
  unfold f_X11_who_20
  refine aw_iload (n := 22) dX11_who_20 rfl rfl ?_
  refine aw_aload_n (n := 23) dX11_who_22 rfl rfl ?_
  refine aw_getR (n := 26) (RX11, TX11, 52) 11 6 dX11_who_23 rfl ht (by decide) fd_RX11_33 ?_
  refine aw_iconst (n := 27) 2 dX11_who_26 rfl (by decide) ?_
  refine aw_iaload (n := 28) 1155 dX11_who_27 rfl (sf_11_6 ht) ?_
  refine aw_icmp_ge (n := 31) 83 dX11_who_28 (by decide) rfl ?_ ?_
  · refine aw_iload_n (n := 84) dX11_who_83 rfl rfl ?_
    exact aw_ireturn dX11_who_84 rfl rfl
  · refine aw_iload_n (n := 32) dX11_who_31 rfl rfl ?_
    refine aw_aload_n (n := 33) dX11_who_32 rfl rfl ?_
    refine aw_getR (n := 36) (RX11, TX11, 52) 11 6 dX11_who_33 rfl ht (by decide) fd_RX11_33 ?_
    refine aw_sipush (n := 39) 458 dX11_who_36 rfl (by decide) ?_
    refine aw_iload (n := 41) dX11_who_39 rfl rfl ?_
    refine aw_iadd (n := 42) dX11_who_41 rfl ?_
    refine aw_iaload (n := 43) 1155 dX11_who_42 rfl (sf_11_6 ht) ?_
    refine aw_if_le (n := 46) 74 dX11_who_43 (by decide) rfl ?_ ?_
    · exact aw_weak (c_X11_who_74 l F t ht k20 hk20 x1 x2 x4 x3 μ) (aw_ss (aw_ss (aw_ss (aw_sn (aw_ss aw_s0)))))
    · refine aw_aload_n (n := 47) dX11_who_46 rfl rfl ?_
      refine aw_iload (n := 49) dX11_who_47 rfl rfl ?_
      refine aw_iload_n (n := 50) dX11_who_49 rfl rfl ?_
      refine aw_callVz (n := 53) (as := [.int x4, .int x1]) (st := [.int x3]) (RX11, TX11, 52) 11 dX11_who_50 rfl rfl (m_X11_isBarred l F t ht x4 x1 μ) ht (by decide) rfl rfl cw_RX11_284 ⟨Nat.le_of_ble_eq_true rfl, Nat.le_of_ble_eq_true rfl⟩ (fun _ => Nat.le_of_ble_eq_true rfl) (fun r14 => ?_)
      refine aw_ifb_ne (n := 56) 74 dX11_who_53 (by decide) rfl ?_ ?_
      · exact aw_weak (c_X11_who_74 l F t ht k20 hk20 x1 x2 x4 x3 r14.2) (aw_ss (aw_ss (aw_ss (aw_sn (aw_ss aw_s0)))))
      · refine aw_aload_n (n := 57) dX11_who_56 rfl rfl ?_
        refine aw_iload (n := 59) dX11_who_57 rfl rfl ?_
        refine aw_iload_n (n := 60) dX11_who_59 rfl rfl ?_
        refine aw_callVi (n := 63) (as := [.int x4, .int x1]) (st := [.int x3]) (RX11, TX11, 52) 11 dX11_who_60 rfl rfl (m_X11_hitOf l F t ht x4 x1 r14.2) ht (by decide) rfl rfl cw_RX11_294 ⟨Nat.le_of_ble_eq_true rfl, Nat.le_of_ble_eq_true rfl⟩ (fun _ => Nat.le_of_ble_eq_true rfl) (fun r15 => ?_)
        refine aw_iload_n (n := 64) dX11_who_63 rfl rfl ?_
        refine aw_icmp_ne (n := 67) 74 dX11_who_64 (by decide) rfl ?_ ?_
        · exact aw_weak (c_X11_who_74 l F t ht k20 hk20 x1 x2 x4 x3 r15.2) (aw_ss (aw_ss (aw_ss (aw_sn (aw_ss aw_s0)))))
        · refine aw_iconst (n := 68) 1 dX11_who_67 rfl (by decide) ?_
          refine aw_iload (n := 70) dX11_who_68 rfl rfl ?_
          refine aw_ishl (n := 71) dX11_who_70 rfl ?_
          refine aw_goto 75 dX11_who_71 (by decide) ?_
          exact aw_weak (c_X11_who_75 l F t ht k20 hk20 x1 x2 x4 (1 <<< (x4 &&& 31)) x3 r15.2) (aw_ss (aw_ss (aw_ss (aw_sn (aw_ss aw_s0)))))
def f_X11_who (F : Nat) (t : Nat) (a0 : Int32) (a1 : Int32) (μ : aw_M) : Option (Int32 × aw_M) :=
  aw_let (aw_wI μ t 0 0) fun μ11 =>
  (f_X11_isCart F t a0 μ11).bind fun r12 =>
  (if r12.1 = true then
  aw_loop (fun k s => f_X11_who_20 F t k s.1 s.2.1 s.2.2.1 s.2.2.2.1 s.2.2.2.2) F (a0, a1, 0, 0, r12.2)
  else
  some ((-1), r12.2))
theorem m_X11_who (l : Launch) (F : Nat) (t : Nat) (ht : (aw_sh t).1 = 16) (a0 : Int32) (a1 : Int32) (μ : aw_M) : AM l yX11_who cX11_who 5 (some .int) 4 191 aw_gi [.ref t, .int a0, .int a1] μ (f_X11_who F t a0 a1 μ) := by
  refine aw_met [some (.ref t), some (.int a0), some (.int a1), none, none] (by decide) (fun _ => rfl) (fun _ => Nat.le_of_ble_eq_true rfl) ?_
  show AW l k_X11_who aw_gi 0 [some (.ref t), some (.int a0), some (.int a1), none, none] [] μ _
  unfold f_X11_who
  refine aw_aload_n (n := 1) dX11_who_0 rfl rfl ?_
  refine aw_iconst (n := 2) 0 dX11_who_1 rfl (by decide) ?_
  refine aw_putI (n := 5) (RX11, TX11, 52) 11 0 dX11_who_2 rfl ht (by decide) fp_RX11_1 (fun μ11 => ?_)
  refine aw_aload_n (n := 6) dX11_who_5 rfl rfl ?_
  refine aw_iload_n (n := 7) dX11_who_6 rfl rfl ?_
  refine aw_callVz (n := 10) (as := [.int a0]) (st := []) (RX11, TX11, 52) 11 dX11_who_7 rfl rfl (m_X11_isCart l F t ht a0 μ11) ht (by decide) rfl rfl cw_RX11_265 ⟨Nat.le_of_ble_eq_true rfl, Nat.le_of_ble_eq_true rfl⟩ (fun _ => Nat.le_of_ble_eq_true rfl) (fun r12 => ?_)
  refine aw_ifb_ne (n := 13) 15 dX11_who_10 (by decide) rfl ?_ ?_
  · refine aw_iconst (n := 16) 0 dX11_who_15 rfl (by decide) ?_
    refine aw_istore_n (n := 17) [some (.ref t), some (.int a0), some (.int a1), some (.int 0), none] dX11_who_16 rfl rfl (Nat.le_of_ble_eq_true rfl) (Nat.le_of_ble_eq_true rfl) rfl ?_
    refine aw_iconst (n := 18) 0 dX11_who_17 rfl (by decide) ?_
    refine aw_istore (n := 20) [some (.ref t), some (.int a0), some (.int a1), some (.int 0), some (.int 0)] dX11_who_18 rfl rfl (Nat.le_of_ble_eq_true rfl) (Nat.le_of_ble_eq_true rfl) rfl ?_
    exact aw_weak (c_X11_who_20 l F t ht F (a0, a1, 0, 0, r12.2)) (aw_ss (aw_ss (aw_ss (aw_ss (aw_ss aw_s0)))))
  · refine aw_iconst (n := 14) (-1) dX11_who_13 rfl (by decide) ?_
    exact aw_ireturn dX11_who_14 rfl rfl
abbrev k_X11_odds : aw_K := (RX11, cX11_odds, 7, (some .int), 7, 263)
def f_X11_odds_111 (F : Nat) (t : Nat) (x5 : Int32) (μ : aw_M) : Option (Int32 × aw_M) :=
  (f_X11_back F t μ).bind fun r27 =>
  some (x5, r27)
theorem c_X11_odds_111 (l : Launch) (F : Nat) (t : Nat) (ht : (aw_sh t).1 = 16) (x5 : Int32) (μ : aw_M) : AW l k_X11_odds aw_gi 111 [some (.ref t), none, none, none, none, some (.int x5), none] [] μ (f_X11_odds_111 F t x5 μ) := by
  unfold f_X11_odds_111
  refine aw_aload_n (n := 112) dX11_odds_111 rfl rfl ?_
  refine aw_callVv (n := 115) (as := []) (st := []) (RX11, TX11, 52) 11 dX11_odds_112 rfl rfl (m_X11_back l F t ht μ) ht (by decide) rfl rfl cw_RX11_320 ⟨Nat.le_of_ble_eq_true rfl, Nat.le_of_ble_eq_true rfl⟩ (fun _ => Nat.le_of_ble_eq_true rfl) (fun r27 => ?_)
  refine aw_iload (n := 117) dX11_odds_115 rfl rfl ?_
  exact aw_ireturn dX11_odds_117 rfl rfl
def f_X11_odds_102 (F : Nat) (t : Nat) (k47 : Int32 × Int32 × Int32 × Int32 × Int32 × Int32 × aw_M → Option (Int32 × aw_M)) (x1 : Int32) (x2 : Int32) (x3 : Int32) (x4 : Int32) (x6 : Int32) (z0 : Bool) (z1 : Int32) (μ : aw_M) : Option (Int32 × aw_M) :=
  aw_let ((z1 + (aw_b z0))) fun v29 =>
  k47 (x1, x2, x3, x4, v29, (x6 + 1), μ)
theorem c_X11_odds_102 (l : Launch) (F : Nat) (t : Nat) (ht : (aw_sh t).1 = 16) (k47 : Int32 × Int32 × Int32 × Int32 × Int32 × Int32 × aw_M → Option (Int32 × aw_M)) (hk47 : ∀ s : Int32 × Int32 × Int32 × Int32 × Int32 × Int32 × aw_M, AW l k_X11_odds aw_gi 47 [some (.ref t), some (.int s.1), some (.int s.2.1), some (.int s.2.2.1), some (.int s.2.2.2.1), some (.int s.2.2.2.2.1), some (.int s.2.2.2.2.2.1)] [] s.2.2.2.2.2.2 (k47 s)) (x1 : Int32) (x2 : Int32) (x3 : Int32) (x4 : Int32) (x6 : Int32) (z0 : Bool) (z1 : Int32) (μ : aw_M) : AW l k_X11_odds aw_gi 102 [some (.ref t), some (.int x1), some (.int x2), some (.int x3), some (.int x4), none, some (.int x6)] [.int (aw_b z0), .int z1] μ (f_X11_odds_102 F t k47 x1 x2 x3 x4 x6 z0 z1 μ) := by
  unfold f_X11_odds_102
  refine aw_iadd (n := 103) dX11_odds_102 rfl ?_
  refine aw_nmI (fun v29 => ?_)
  refine aw_istore (n := 105) [some (.ref t), some (.int x1), some (.int x2), some (.int x3), some (.int x4), some (.int v29), some (.int x6)] dX11_odds_103 rfl rfl (Nat.le_of_ble_eq_true rfl) (Nat.le_of_ble_eq_true rfl) rfl ?_
  refine aw_iinc (n := 108) (x6 + 1) [some (.ref t), some (.int x1), some (.int x2), some (.int x3), some (.int x4), some (.int v29), some (.int (x6 + 1))] dX11_odds_105 rfl rfl (by rfl) rfl (Nat.le_of_ble_eq_true rfl) rfl ?_
  refine aw_goto 47 dX11_odds_108 (by decide) ?_
  exact aw_weak (hk47 (x1, x2, x3, x4, v29, (x6 + 1), μ)) (aw_ss (aw_ss (aw_ss (aw_ss (aw_ss (aw_ss (aw_ss aw_s0)))))))
def f_X11_odds_80 (F : Nat) (t : Nat) (k47 : Int32 × Int32 × Int32 × Int32 × Int32 × Int32 × aw_M → Option (Int32 × aw_M)) (x1 : Int32) (x2 : Int32) (x3 : Int32) (x4 : Int32) (x5 : Int32) (x6 : Int32) (μ : aw_M) : Option (Int32 × aw_M) :=
  aw_g (aw_in (467 + x1) 1155) ((if (μ.1 (aw_rf t 6) (467 + x1).toNatClampNeg) ≤ x4 then
  f_X11_odds_102 F t k47 x1 x2 x3 x4 x6 false x5 μ
  else
  f_X11_odds_102 F t k47 x1 x2 x3 x4 x6 true x5 μ))
theorem c_X11_odds_80 (l : Launch) (F : Nat) (t : Nat) (ht : (aw_sh t).1 = 16) (k47 : Int32 × Int32 × Int32 × Int32 × Int32 × Int32 × aw_M → Option (Int32 × aw_M)) (hk47 : ∀ s : Int32 × Int32 × Int32 × Int32 × Int32 × Int32 × aw_M, AW l k_X11_odds aw_gi 47 [some (.ref t), some (.int s.1), some (.int s.2.1), some (.int s.2.2.1), some (.int s.2.2.2.1), some (.int s.2.2.2.2.1), some (.int s.2.2.2.2.2.1)] [] s.2.2.2.2.2.2 (k47 s)) (x1 : Int32) (x2 : Int32) (x3 : Int32) (x4 : Int32) (x5 : Int32) (x6 : Int32) (μ : aw_M) : AW l k_X11_odds aw_gi 80 [some (.ref t), some (.int x1), some (.int x2), some (.int x3), some (.int x4), some (.int x5), some (.int x6)] [] μ (f_X11_odds_80 F t k47 x1 x2 x3 x4 x5 x6 μ) := by
  unfold f_X11_odds_80
  refine aw_iload (n := 82) dX11_odds_80 rfl rfl ?_
  refine aw_aload_n (n := 83) dX11_odds_82 rfl rfl ?_
  refine aw_getR (n := 86) (RX11, TX11, 52) 11 6 dX11_odds_83 rfl ht (by decide) fd_RX11_33 ?_
  refine aw_sipush (n := 89) 467 dX11_odds_86 rfl (by decide) ?_
  refine aw_iload_n (n := 90) dX11_odds_89 rfl rfl ?_
  refine aw_iadd (n := 91) dX11_odds_90 rfl ?_
  refine aw_iaload (n := 92) 1155 dX11_odds_91 rfl (sf_11_6 ht) ?_
  refine aw_iload (n := 94) dX11_odds_92 rfl rfl ?_
  refine aw_icmp_le (n := 97) 101 dX11_odds_94 (by decide) rfl ?_ ?_
  · refine aw_iconst (n := 102) 0 dX11_odds_101 rfl (by decide) ?_
    exact aw_weak (c_X11_odds_102 l F t ht k47 hk47 x1 x2 x3 x4 x6 false x5 μ) (aw_ss (aw_ss (aw_ss (aw_ss (aw_ss (aw_sn (aw_ss aw_s0)))))))
  · refine aw_iconst (n := 98) 1 dX11_odds_97 rfl (by decide) ?_
    refine aw_goto 102 dX11_odds_98 (by decide) ?_
    exact aw_weak (c_X11_odds_102 l F t ht k47 hk47 x1 x2 x3 x4 x6 true x5 μ) (aw_ss (aw_ss (aw_ss (aw_ss (aw_ss (aw_sn (aw_ss aw_s0)))))))
def f_X11_odds_61 (F : Nat) (t : Nat) (k61 : Int32 × Int32 × Int32 × Int32 × Int32 × Int32 × aw_M → Option (Int32 × aw_M)) (k47 : Int32 × Int32 × Int32 × Int32 × Int32 × Int32 × aw_M → Option (Int32 × aw_M)) (x1 : Int32) (x2 : Int32) (x3 : Int32) (x4 : Int32) (x5 : Int32) (x6 : Int32) (μ : aw_M) : Option (Int32 × aw_M) :=
  aw_g (aw_in 455 1155) ((if (μ.1 (aw_rf t 6) (455 : Int32).toNatClampNeg) = 0 then
  (f_X11_minute F t 0 μ).bind fun r30 =>
  k61 (x1, x2, x3, x4, x5, x6, r30)
  else
  f_X11_odds_80 F t k47 x1 x2 x3 x4 x5 x6 μ))
theorem c_X11_odds_61 (l : Launch) (F : Nat) (t : Nat) (ht : (aw_sh t).1 = 16) (k47 : Int32 × Int32 × Int32 × Int32 × Int32 × Int32 × aw_M → Option (Int32 × aw_M)) (hk47 : ∀ s : Int32 × Int32 × Int32 × Int32 × Int32 × Int32 × aw_M, AW l k_X11_odds aw_gi 47 [some (.ref t), some (.int s.1), some (.int s.2.1), some (.int s.2.2.1), some (.int s.2.2.2.1), some (.int s.2.2.2.2.1), some (.int s.2.2.2.2.2.1)] [] s.2.2.2.2.2.2 (k47 s)) : ∀ (N : Nat) (s : Int32 × Int32 × Int32 × Int32 × Int32 × Int32 × aw_M), AW l k_X11_odds aw_gi 61 [some (.ref t), some (.int s.1), some (.int s.2.1), some (.int s.2.2.1), some (.int s.2.2.2.1), some (.int s.2.2.2.2.1), some (.int s.2.2.2.2.2.1)] [] s.2.2.2.2.2.2 (aw_loop (fun k s => f_X11_odds_61 F t k k47 s.1 s.2.1 s.2.2.1 s.2.2.2.1 s.2.2.2.2.1 s.2.2.2.2.2.1 s.2.2.2.2.2.2) N s) := by
  refine aw_loop_ok (f := fun k s => f_X11_odds_61 F t k k47 s.1 s.2.1 s.2.2.1 s.2.2.2.1 s.2.2.2.2.1 s.2.2.2.2.2.1 s.2.2.2.2.2.2) (Ls := fun s => [some (.ref t), some (.int s.1), some (.int s.2.1), some (.int s.2.2.1), some (.int s.2.2.2.1), some (.int s.2.2.2.2.1), some (.int s.2.2.2.2.2.1)]) (ms := fun s => s.2.2.2.2.2.2) ?_
  intro k61 hk61 s
  obtain ⟨x1, x2, x3, x4, x5, x6, μ⟩ := s
  show AW l k_X11_odds aw_gi 61 [some (.ref t), some (.int x1), some (.int x2), some (.int x3), some (.int x4), some (.int x5), some (.int x6)] [] μ (f_X11_odds_61 F t k61 k47 x1 x2 x3 x4 x5 x6 μ)
  unfold f_X11_odds_61
  refine aw_aload_n (n := 62) dX11_odds_61 rfl rfl ?_
  refine aw_getR (n := 65) (RX11, TX11, 52) 11 6 dX11_odds_62 rfl ht (by decide) fd_RX11_33 ?_
  refine aw_sipush (n := 68) 455 dX11_odds_65 rfl (by decide) ?_
  refine aw_iaload (n := 69) 1155 dX11_odds_68 rfl (sf_11_6 ht) ?_
  refine aw_if_ne (n := 72) 80 dX11_odds_69 (by decide) rfl ?_ ?_
  · exact aw_weak (c_X11_odds_80 l F t ht k47 hk47 x1 x2 x3 x4 x5 x6 μ) (aw_ss (aw_ss (aw_ss (aw_ss (aw_ss (aw_ss (aw_ss aw_s0)))))))
  · refine aw_aload_n (n := 73) dX11_odds_72 rfl rfl ?_
    refine aw_iconst (n := 74) 0 dX11_odds_73 rfl (by decide) ?_
    refine aw_callVv (n := 77) (as := [.int 0]) (st := []) (RX11, TX11, 52) 11 dX11_odds_74 rfl rfl (m_X11_minute l F t ht 0 μ) ht (by decide) rfl rfl cw_RX11_313 ⟨Nat.le_of_ble_eq_true rfl, Nat.le_of_ble_eq_true rfl⟩ (fun _ => Nat.le_of_ble_eq_true rfl) (fun r30 => ?_)
    refine aw_goto 61 dX11_odds_77 (by decide) ?_
    exact aw_weak (hk61 (x1, x2, x3, x4, x5, x6, r30)) (aw_ss (aw_ss (aw_ss (aw_ss (aw_ss (aw_ss (aw_ss aw_s0)))))))
def f_X11_odds_47 (F : Nat) (t : Nat) (k47 : Int32 × Int32 × Int32 × Int32 × Int32 × Int32 × aw_M → Option (Int32 × aw_M)) (x1 : Int32) (x2 : Int32) (x3 : Int32) (x4 : Int32) (x5 : Int32) (x6 : Int32) (μ : aw_M) : Option (Int32 × aw_M) :=
  (if x2 ≤ x6 then
  f_X11_odds_111 F t x5 μ
  else
  (f_X11_begins F t (x3 + x6) μ).bind fun r28 =>
  aw_loop (fun k s => f_X11_odds_61 F t k k47 s.1 s.2.1 s.2.2.1 s.2.2.2.1 s.2.2.2.2.1 s.2.2.2.2.2.1 s.2.2.2.2.2.2) F (x1, x2, x3, x4, x5, x6, r28))
theorem c_X11_odds_47 (l : Launch) (F : Nat) (t : Nat) (ht : (aw_sh t).1 = 16) : ∀ (N : Nat) (s : Int32 × Int32 × Int32 × Int32 × Int32 × Int32 × aw_M), AW l k_X11_odds aw_gi 47 [some (.ref t), some (.int s.1), some (.int s.2.1), some (.int s.2.2.1), some (.int s.2.2.2.1), some (.int s.2.2.2.2.1), some (.int s.2.2.2.2.2.1)] [] s.2.2.2.2.2.2 (aw_loop (fun k s => f_X11_odds_47 F t k s.1 s.2.1 s.2.2.1 s.2.2.2.1 s.2.2.2.2.1 s.2.2.2.2.2.1 s.2.2.2.2.2.2) N s) := by
  refine aw_loop_ok (f := fun k s => f_X11_odds_47 F t k s.1 s.2.1 s.2.2.1 s.2.2.2.1 s.2.2.2.2.1 s.2.2.2.2.2.1 s.2.2.2.2.2.2) (Ls := fun s => [some (.ref t), some (.int s.1), some (.int s.2.1), some (.int s.2.2.1), some (.int s.2.2.2.1), some (.int s.2.2.2.2.1), some (.int s.2.2.2.2.2.1)]) (ms := fun s => s.2.2.2.2.2.2) ?_
  intro k47 hk47 s
  obtain ⟨x1, x2, x3, x4, x5, x6, μ⟩ := s
  show AW l k_X11_odds aw_gi 47 [some (.ref t), some (.int x1), some (.int x2), some (.int x3), some (.int x4), some (.int x5), some (.int x6)] [] μ (f_X11_odds_47 F t k47 x1 x2 x3 x4 x5 x6 μ)
  unfold f_X11_odds_47
  refine aw_iload (n := 49) dX11_odds_47 rfl rfl ?_
  refine aw_iload_n (n := 50) dX11_odds_49 rfl rfl ?_
  refine aw_icmp_ge (n := 53) 111 dX11_odds_50 (by decide) rfl ?_ ?_
  · exact aw_weak (c_X11_odds_111 l F t ht x5 μ) (aw_ss (aw_sn (aw_sn (aw_sn (aw_sn (aw_ss (aw_sn aw_s0)))))))
  · refine aw_aload_n (n := 54) dX11_odds_53 rfl rfl ?_
    refine aw_iload_n (n := 55) dX11_odds_54 rfl rfl ?_
    refine aw_iload (n := 57) dX11_odds_55 rfl rfl ?_
    refine aw_iadd (n := 58) dX11_odds_57 rfl ?_
    refine aw_callVv (n := 61) (as := [.int (x3 + x6)]) (st := []) (RX11, TX11, 52) 11 dX11_odds_58 rfl rfl (m_X11_begins l F t ht (x3 + x6) μ) ht (by decide) rfl rfl cw_RX11_248 ⟨Nat.le_of_ble_eq_true rfl, Nat.le_of_ble_eq_true rfl⟩ (fun _ => Nat.le_of_ble_eq_true rfl) (fun r28 => ?_)
    exact aw_weak (c_X11_odds_61 l F t ht k47 hk47 F (x1, x2, x3, x4, x5, x6, r28)) (aw_ss (aw_ss (aw_ss (aw_ss (aw_ss (aw_ss (aw_ss aw_s0)))))))
def f_X11_odds (F : Nat) (t : Nat) (a0 : Int32) (a1 : Int32) (a2 : Int32) (μ : aw_M) : Option (Int32 × aw_M) :=
  aw_let (aw_wI μ t 0 0) fun μ21 =>
  (f_X11_isQuarter F t a0 μ21).bind fun r22 =>
  (if r22.1 = true then
  (f_X11_isIn F a1 1 60 r22.2).bind fun r23 =>
  (if r23.1 = true then
  (f_X11_sureDay F t r23.2).bind fun r24 =>
  aw_g (aw_in a0 9) (aw_let ((r24.1 (aw_rf t 23) a0.toNatClampNeg)) fun v25 =>
  (f_X11_tries F t r24).bind fun r26 =>
  aw_loop (fun k s => f_X11_odds_47 F t k s.1 s.2.1 s.2.2.1 s.2.2.2.1 s.2.2.2.2.1 s.2.2.2.2.2.1 s.2.2.2.2.2.2) F (a0, a1, a2, v25, 0, 0, r26))
  else
  some ((-1), r23.2))
  else
  some ((-1), r22.2))
theorem m_X11_odds (l : Launch) (F : Nat) (t : Nat) (ht : (aw_sh t).1 = 16) (a0 : Int32) (a1 : Int32) (a2 : Int32) (μ : aw_M) : AM l yX11_odds cX11_odds 7 (some .int) 7 263 aw_gi [.ref t, .int a0, .int a1, .int a2] μ (f_X11_odds F t a0 a1 a2 μ) := by
  refine aw_met [some (.ref t), some (.int a0), some (.int a1), some (.int a2), none, none, none] (by decide) (fun _ => rfl) (fun _ => Nat.le_of_ble_eq_true rfl) ?_
  show AW l k_X11_odds aw_gi 0 [some (.ref t), some (.int a0), some (.int a1), some (.int a2), none, none, none] [] μ _
  unfold f_X11_odds
  refine aw_aload_n (n := 1) dX11_odds_0 rfl rfl ?_
  refine aw_iconst (n := 2) 0 dX11_odds_1 rfl (by decide) ?_
  refine aw_putI (n := 5) (RX11, TX11, 52) 11 0 dX11_odds_2 rfl ht (by decide) fp_RX11_1 (fun μ21 => ?_)
  refine aw_aload_n (n := 6) dX11_odds_5 rfl rfl ?_
  refine aw_iload_n (n := 7) dX11_odds_6 rfl rfl ?_
  refine aw_callVz (n := 10) (as := [.int a0]) (st := []) (RX11, TX11, 52) 11 dX11_odds_7 rfl rfl (m_X11_isQuarter l F t ht a0 μ21) ht (by decide) rfl rfl cw_RX11_258 ⟨Nat.le_of_ble_eq_true rfl, Nat.le_of_ble_eq_true rfl⟩ (fun _ => Nat.le_of_ble_eq_true rfl) (fun r22 => ?_)
  refine aw_ifb_eq (n := 13) 23 dX11_odds_10 (by decide) rfl ?_ ?_
  · refine aw_iconst (n := 24) (-1) dX11_odds_23 rfl (by decide) ?_
    exact aw_ireturn dX11_odds_24 rfl rfl
  · refine aw_iload_n (n := 14) dX11_odds_13 rfl rfl ?_
    refine aw_iconst (n := 15) 1 dX11_odds_14 rfl (by decide) ?_
    refine aw_bipush (n := 17) 60 dX11_odds_15 rfl (by decide) ?_
    refine aw_callSz (n := 20) (as := [.int a1, .int 1, .int 60]) (st := []) dX11_odds_17 rfl rfl (m_X11_isIn l F a1 1 60 r22.2) cw_RX11_194 ⟨Nat.le_of_ble_eq_true rfl, Nat.le_of_ble_eq_true rfl⟩ (fun _ => Nat.le_of_ble_eq_true rfl) (fun r23 => ?_)
    refine aw_ifb_ne (n := 23) 25 dX11_odds_20 (by decide) rfl ?_ ?_
    · refine aw_aload_n (n := 26) dX11_odds_25 rfl rfl ?_
      refine aw_callVv (n := 29) (as := []) (st := []) (RX11, TX11, 52) 11 dX11_odds_26 rfl rfl (m_X11_sureDay l F t ht r23.2) ht (by decide) rfl rfl cw_RX11_323 ⟨Nat.le_of_ble_eq_true rfl, Nat.le_of_ble_eq_true rfl⟩ (fun _ => Nat.le_of_ble_eq_true rfl) (fun r24 => ?_)
      refine aw_aload_n (n := 30) dX11_odds_29 rfl rfl ?_
      refine aw_getR (n := 33) (RX11, TX11, 52) 11 23 dX11_odds_30 rfl ht (by decide) fd_RX11_53 ?_
      refine aw_iload_n (n := 34) dX11_odds_33 rfl rfl ?_
      refine aw_iaload (n := 35) 9 dX11_odds_34 rfl (sf_11_23 ht) ?_
      refine aw_nmI (fun v25 => ?_)
      refine aw_istore (n := 37) [some (.ref t), some (.int a0), some (.int a1), some (.int a2), some (.int v25), none, none] dX11_odds_35 rfl rfl (Nat.le_of_ble_eq_true rfl) (Nat.le_of_ble_eq_true rfl) rfl ?_
      refine aw_aload_n (n := 38) dX11_odds_37 rfl rfl ?_
      refine aw_callVv (n := 41) (as := []) (st := []) (RX11, TX11, 52) 11 dX11_odds_38 rfl rfl (m_X11_tries l F t ht r24) ht (by decide) rfl rfl cw_RX11_317 ⟨Nat.le_of_ble_eq_true rfl, Nat.le_of_ble_eq_true rfl⟩ (fun _ => Nat.le_of_ble_eq_true rfl) (fun r26 => ?_)
      refine aw_iconst (n := 42) 0 dX11_odds_41 rfl (by decide) ?_
      refine aw_istore (n := 44) [some (.ref t), some (.int a0), some (.int a1), some (.int a2), some (.int v25), some (.int 0), none] dX11_odds_42 rfl rfl (Nat.le_of_ble_eq_true rfl) (Nat.le_of_ble_eq_true rfl) rfl ?_
      refine aw_iconst (n := 45) 0 dX11_odds_44 rfl (by decide) ?_
      refine aw_istore (n := 47) [some (.ref t), some (.int a0), some (.int a1), some (.int a2), some (.int v25), some (.int 0), some (.int 0)] dX11_odds_45 rfl rfl (Nat.le_of_ble_eq_true rfl) (Nat.le_of_ble_eq_true rfl) rfl ?_
      exact aw_weak (c_X11_odds_47 l F t ht F (a0, a1, a2, v25, 0, 0, r26)) (aw_ss (aw_ss (aw_ss (aw_ss (aw_ss (aw_ss (aw_ss aw_s0)))))))
    · refine aw_iconst (n := 24) (-1) dX11_odds_23 rfl (by decide) ?_
      exact aw_ireturn dX11_odds_24 rfl rfl
abbrev k_X11_code : aw_K := (RX11, cX11_code, 4, none, 1, 120)
def f_X11_code (F : Nat) (t : Nat) (a0 : Int32) (a1 : Int32) (a2 : Int32) (μ : aw_M) : Option (aw_M) :=
  aw_g (aw_in (3 * (μ.1 t 43)) 135) (aw_let (aw_wI μ (aw_rf t 8) (3 * (μ.1 t 43)).toNatClampNeg a0) fun μ1 =>
  aw_g (aw_in ((3 * (μ1.1 t 43)) + 1) 135) (aw_let (aw_wI μ1 (aw_rf t 8) ((3 * (μ1.1 t 43)) + 1).toNatClampNeg a1) fun μ2 =>
  aw_g (aw_in ((3 * (μ2.1 t 43)) + 2) 135) (aw_let (aw_wI μ2 (aw_rf t 8) ((3 * (μ2.1 t 43)) + 2).toNatClampNeg a2) fun μ3 =>
  aw_let (aw_wI μ3 t 43 ((μ3.1 t 43) + 1)) fun μ4 =>
  some μ4)))
theorem m_X11_code (l : Launch) (F : Nat) (t : Nat) (ht : (aw_sh t).1 = 16) (a0 : Int32) (a1 : Int32) (a2 : Int32) (μ : aw_M) : AM l yX11_code cX11_code 4 none 1 120 aw_gv [.ref t, .int a0, .int a1, .int a2] μ (f_X11_code F t a0 a1 a2 μ) := by
  refine aw_met [some (.ref t), some (.int a0), some (.int a1), some (.int a2)] (by decide) (fun _ => rfl) (fun _ => Nat.le_of_ble_eq_true rfl) ?_
  show AW l k_X11_code aw_gv 0 [some (.ref t), some (.int a0), some (.int a1), some (.int a2)] [] μ _
  unfold f_X11_code
  refine aw_aload_n (n := 1) dX11_code_0 rfl rfl ?_
  refine aw_getR (n := 4) (RX11, TX11, 52) 11 8 dX11_code_1 rfl ht (by decide) fd_RX11_40 ?_
  refine aw_iconst (n := 5) 3 dX11_code_4 rfl (by decide) ?_
  refine aw_aload_n (n := 6) dX11_code_5 rfl rfl ?_
  refine aw_getI (n := 9) (RX11, TX11, 52) 11 43 dX11_code_6 rfl ht (by decide) fd_RX11_377 ?_
  refine aw_imul (n := 10) dX11_code_9 rfl ?_
  refine aw_iload_n (n := 11) dX11_code_10 rfl rfl ?_
  refine aw_iastore (n := 12) 135 dX11_code_11 rfl (sf_11_8 ht) (fun μ1 => ?_)
  refine aw_aload_n (n := 13) dX11_code_12 rfl rfl ?_
  refine aw_getR (n := 16) (RX11, TX11, 52) 11 8 dX11_code_13 rfl ht (by decide) fd_RX11_40 ?_
  refine aw_iconst (n := 17) 3 dX11_code_16 rfl (by decide) ?_
  refine aw_aload_n (n := 18) dX11_code_17 rfl rfl ?_
  refine aw_getI (n := 21) (RX11, TX11, 52) 11 43 dX11_code_18 rfl ht (by decide) fd_RX11_377 ?_
  refine aw_imul (n := 22) dX11_code_21 rfl ?_
  refine aw_iconst (n := 23) 1 dX11_code_22 rfl (by decide) ?_
  refine aw_iadd (n := 24) dX11_code_23 rfl ?_
  refine aw_iload_n (n := 25) dX11_code_24 rfl rfl ?_
  refine aw_iastore (n := 26) 135 dX11_code_25 rfl (sf_11_8 ht) (fun μ2 => ?_)
  refine aw_aload_n (n := 27) dX11_code_26 rfl rfl ?_
  refine aw_getR (n := 30) (RX11, TX11, 52) 11 8 dX11_code_27 rfl ht (by decide) fd_RX11_40 ?_
  refine aw_iconst (n := 31) 3 dX11_code_30 rfl (by decide) ?_
  refine aw_aload_n (n := 32) dX11_code_31 rfl rfl ?_
  refine aw_getI (n := 35) (RX11, TX11, 52) 11 43 dX11_code_32 rfl ht (by decide) fd_RX11_377 ?_
  refine aw_imul (n := 36) dX11_code_35 rfl ?_
  refine aw_iconst (n := 37) 2 dX11_code_36 rfl (by decide) ?_
  refine aw_iadd (n := 38) dX11_code_37 rfl ?_
  refine aw_iload_n (n := 39) dX11_code_38 rfl rfl ?_
  refine aw_iastore (n := 40) 135 dX11_code_39 rfl (sf_11_8 ht) (fun μ3 => ?_)
  refine aw_aload_n (n := 41) dX11_code_40 rfl rfl ?_
  refine aw_dup (n := 42) dX11_code_41 rfl (fun _ => rfl) ?_
  refine aw_getI (n := 45) (RX11, TX11, 52) 11 43 dX11_code_42 rfl ht (by decide) fd_RX11_377 ?_
  refine aw_iconst (n := 46) 1 dX11_code_45 rfl (by decide) ?_
  refine aw_iadd (n := 47) dX11_code_46 rfl ?_
  refine aw_putI (n := 50) (RX11, TX11, 52) 11 43 dX11_code_47 rfl ht (by decide) fp_RX11_377 (fun μ4 => ?_)
  exact aw_vreturn dX11_code_50 rfl rfl
abbrev k_X11_joins : aw_K := (RX11, cX11_joins, 2, none, 2, 143)
def f_X11_joins_45 (F : Nat) (t : Nat) (k0 : Int32 × aw_M → Option (aw_M)) (x1 : Int32) (μ : aw_M) : Option (aw_M) :=
  aw_let (aw_wI μ t 45 ((μ.1 t 45) - 1)) fun μ3 =>
  aw_g (aw_in (μ3.1 t 45) 45) ((f_X11_code F t (μ3.1 (aw_rf t 42) (μ3.1 t 45).toNatClampNeg) 0 0 μ3).bind fun r4 =>
  k0 (x1, r4))
theorem c_X11_joins_45 (l : Launch) (F : Nat) (t : Nat) (ht : (aw_sh t).1 = 16) (k0 : Int32 × aw_M → Option (aw_M)) (hk0 : ∀ s : Int32 × aw_M, AW l k_X11_joins aw_gv 0 [some (.ref t), some (.int s.1)] [] s.2 (k0 s)) (x1 : Int32) (μ : aw_M) : AW l k_X11_joins aw_gv 45 [some (.ref t), some (.int x1)] [] μ (f_X11_joins_45 F t k0 x1 μ) := by
  unfold f_X11_joins_45
  refine aw_aload_n (n := 46) dX11_joins_45 rfl rfl ?_
  refine aw_dup (n := 47) dX11_joins_46 rfl (fun _ => rfl) ?_
  refine aw_getI (n := 50) (RX11, TX11, 52) 11 45 dX11_joins_47 rfl ht (by decide) fd_RX11_380 ?_
  refine aw_iconst (n := 51) 1 dX11_joins_50 rfl (by decide) ?_
  refine aw_isub (n := 52) dX11_joins_51 rfl ?_
  refine aw_putI (n := 55) (RX11, TX11, 52) 11 45 dX11_joins_52 rfl ht (by decide) fp_RX11_380 (fun μ3 => ?_)
  refine aw_aload_n (n := 56) dX11_joins_55 rfl rfl ?_
  refine aw_aload_n (n := 57) dX11_joins_56 rfl rfl ?_
  refine aw_getR (n := 60) (RX11, TX11, 52) 11 42 dX11_joins_57 rfl ht (by decide) fd_RX11_96 ?_
  refine aw_aload_n (n := 61) dX11_joins_60 rfl rfl ?_
  refine aw_getI (n := 64) (RX11, TX11, 52) 11 45 dX11_joins_61 rfl ht (by decide) fd_RX11_380 ?_
  refine aw_iaload (n := 65) 45 dX11_joins_64 rfl (sf_11_42 ht) ?_
  refine aw_iconst (n := 66) 0 dX11_joins_65 rfl (by decide) ?_
  refine aw_iconst (n := 67) 0 dX11_joins_66 rfl (by decide) ?_
  refine aw_callVv (n := 70) (as := [.int (μ3.1 (aw_rf t 42) (μ3.1 t 45).toNatClampNeg), .int 0, .int 0]) (st := []) (RX11, TX11, 52) 11 dX11_joins_67 rfl rfl (m_X11_code l F t ht (μ3.1 (aw_rf t 42) (μ3.1 t 45).toNatClampNeg) 0 0 μ3) ht (by decide) rfl rfl cw_RX11_383 ⟨Nat.le_of_ble_eq_true rfl, Nat.le_of_ble_eq_true rfl⟩ (fun _ => Nat.le_of_ble_eq_true rfl) (fun r4 => ?_)
  refine aw_goto 0 dX11_joins_70 (by decide) ?_
  exact aw_weak (hk0 (x1, r4)) (aw_ss (aw_ss aw_s0))
def f_X11_joins_0 (F : Nat) (t : Nat) (k0 : Int32 × aw_M → Option (aw_M)) (x1 : Int32) (μ : aw_M) : Option (aw_M) :=
  (if (μ.1 t 45) ≤ 0 then
  some μ
  else
  aw_g (aw_in ((μ.1 t 45) - 1) 45) ((if (μ.1 (aw_rf t 42) ((μ.1 t 45) - 1).toNatClampNeg) = 11 then
  f_X11_joins_45 F t k0 x1 μ
  else
  aw_g (aw_in ((μ.1 t 45) - 1) 45) ((if (μ.1 (aw_rf t 42) ((μ.1 t 45) - 1).toNatClampNeg) = 12 then
  (if x1 = 12 then
  f_X11_joins_45 F t k0 x1 μ
  else
  some μ)
  else
  some μ)))))
theorem c_X11_joins_0 (l : Launch) (F : Nat) (t : Nat) (ht : (aw_sh t).1 = 16) : ∀ (N : Nat) (s : Int32 × aw_M), AW l k_X11_joins aw_gv 0 [some (.ref t), some (.int s.1)] [] s.2 (aw_loop (fun k s => f_X11_joins_0 F t k s.1 s.2) N s) := by
  refine aw_loop_ok (f := fun k s => f_X11_joins_0 F t k s.1 s.2) (Ls := fun s => [some (.ref t), some (.int s.1)]) (ms := fun s => s.2) ?_
  intro k0 hk0 s
  obtain ⟨x1, μ⟩ := s
  show AW l k_X11_joins aw_gv 0 [some (.ref t), some (.int x1)] [] μ (f_X11_joins_0 F t k0 x1 μ)
  unfold f_X11_joins_0
  refine aw_aload_n (n := 1) dX11_joins_0 rfl rfl ?_
  refine aw_getI (n := 4) (RX11, TX11, 52) 11 45 dX11_joins_1 rfl ht (by decide) fd_RX11_380 ?_
  refine aw_if_le (n := 7) 73 dX11_joins_4 (by decide) rfl ?_ ?_
  · exact aw_vreturn dX11_joins_73 rfl rfl
  · refine aw_aload_n (n := 8) dX11_joins_7 rfl rfl ?_
    refine aw_getR (n := 11) (RX11, TX11, 52) 11 42 dX11_joins_8 rfl ht (by decide) fd_RX11_96 ?_
    refine aw_aload_n (n := 12) dX11_joins_11 rfl rfl ?_
    refine aw_getI (n := 15) (RX11, TX11, 52) 11 45 dX11_joins_12 rfl ht (by decide) fd_RX11_380 ?_
    refine aw_iconst (n := 16) 1 dX11_joins_15 rfl (by decide) ?_
    refine aw_isub (n := 17) dX11_joins_16 rfl ?_
    refine aw_iaload (n := 18) 45 dX11_joins_17 rfl (sf_11_42 ht) ?_
    refine aw_bipush (n := 20) 11 dX11_joins_18 rfl (by decide) ?_
    refine aw_icmp_eq (n := 23) 45 dX11_joins_20 (by decide) rfl ?_ ?_
    · exact aw_weak (c_X11_joins_45 l F t ht k0 hk0 x1 μ) (aw_ss (aw_ss aw_s0))
    · refine aw_aload_n (n := 24) dX11_joins_23 rfl rfl ?_
      refine aw_getR (n := 27) (RX11, TX11, 52) 11 42 dX11_joins_24 rfl ht (by decide) fd_RX11_96 ?_
      refine aw_aload_n (n := 28) dX11_joins_27 rfl rfl ?_
      refine aw_getI (n := 31) (RX11, TX11, 52) 11 45 dX11_joins_28 rfl ht (by decide) fd_RX11_380 ?_
      refine aw_iconst (n := 32) 1 dX11_joins_31 rfl (by decide) ?_
      refine aw_isub (n := 33) dX11_joins_32 rfl ?_
      refine aw_iaload (n := 34) 45 dX11_joins_33 rfl (sf_11_42 ht) ?_
      refine aw_bipush (n := 36) 12 dX11_joins_34 rfl (by decide) ?_
      refine aw_icmp_ne (n := 39) 73 dX11_joins_36 (by decide) rfl ?_ ?_
      · exact aw_vreturn dX11_joins_73 rfl rfl
      · refine aw_iload_n (n := 40) dX11_joins_39 rfl rfl ?_
        refine aw_bipush (n := 42) 12 dX11_joins_40 rfl (by decide) ?_
        refine aw_icmp_ne (n := 45) 73 dX11_joins_42 (by decide) rfl ?_ ?_
        · exact aw_vreturn dX11_joins_73 rfl rfl
        · exact aw_weak (c_X11_joins_45 l F t ht k0 hk0 x1 μ) (aw_ss (aw_ss aw_s0))
def f_X11_joins (F : Nat) (t : Nat) (a0 : Int32) (μ : aw_M) : Option (aw_M) :=
  aw_loop (fun k s => f_X11_joins_0 F t k s.1 s.2) F (a0, μ)
theorem m_X11_joins (l : Launch) (F : Nat) (t : Nat) (ht : (aw_sh t).1 = 16) (a0 : Int32) (μ : aw_M) : AM l yX11_joins cX11_joins 2 none 2 143 aw_gv [.ref t, .int a0] μ (f_X11_joins F t a0 μ) := by
  refine aw_met [some (.ref t), some (.int a0)] (by decide) (fun _ => rfl) (fun _ => Nat.le_of_ble_eq_true rfl) ?_
  show AW l k_X11_joins aw_gv 0 [some (.ref t), some (.int a0)] [] μ _
  unfold f_X11_joins
  exact aw_weak (c_X11_joins_0 l F t ht F (a0, μ)) (aw_ss (aw_ss aw_s0))
abbrev k_X11_nots : aw_K := (RX11, cX11_nots, 1, none, 2, 143)
def f_X11_nots_0 (F : Nat) (t : Nat) (k0 : aw_M → Option (aw_M)) (μ : aw_M) : Option (aw_M) :=
  (if (μ.1 t 45) ≤ 0 then
  some μ
  else
  aw_g (aw_in ((μ.1 t 45) - 1) 45) ((if (μ.1 (aw_rf t 42) ((μ.1 t 45) - 1).toNatClampNeg) = 10 then
  aw_let (aw_wI μ t 45 ((μ.1 t 45) - 1)) fun μ4 =>
  aw_let (aw_wI μ4 t 46 ((μ4.1 t 46) - 1)) fun μ5 =>
  (f_X11_code F t 10 0 0 μ5).bind fun r6 =>
  k0 r6
  else
  some μ)))
theorem c_X11_nots_0 (l : Launch) (F : Nat) (t : Nat) (ht : (aw_sh t).1 = 16) : ∀ (N : Nat) (s : aw_M), AW l k_X11_nots aw_gv 0 [some (.ref t)] [] s (aw_loop (fun k s => f_X11_nots_0 F t k s) N s) := by
  refine aw_loop_ok (f := fun k s => f_X11_nots_0 F t k s) (Ls := fun s => [some (.ref t)]) (ms := fun s => s) ?_
  intro k0 hk0 s
  revert s
  intro μ
  show AW l k_X11_nots aw_gv 0 [some (.ref t)] [] μ (f_X11_nots_0 F t k0 μ)
  unfold f_X11_nots_0
  refine aw_aload_n (n := 1) dX11_nots_0 rfl rfl ?_
  refine aw_getI (n := 4) (RX11, TX11, 52) 11 45 dX11_nots_1 rfl ht (by decide) fd_RX11_380 ?_
  refine aw_if_le (n := 7) 54 dX11_nots_4 (by decide) rfl ?_ ?_
  · exact aw_vreturn dX11_nots_54 rfl rfl
  · refine aw_aload_n (n := 8) dX11_nots_7 rfl rfl ?_
    refine aw_getR (n := 11) (RX11, TX11, 52) 11 42 dX11_nots_8 rfl ht (by decide) fd_RX11_96 ?_
    refine aw_aload_n (n := 12) dX11_nots_11 rfl rfl ?_
    refine aw_getI (n := 15) (RX11, TX11, 52) 11 45 dX11_nots_12 rfl ht (by decide) fd_RX11_380 ?_
    refine aw_iconst (n := 16) 1 dX11_nots_15 rfl (by decide) ?_
    refine aw_isub (n := 17) dX11_nots_16 rfl ?_
    refine aw_iaload (n := 18) 45 dX11_nots_17 rfl (sf_11_42 ht) ?_
    refine aw_bipush (n := 20) 10 dX11_nots_18 rfl (by decide) ?_
    refine aw_icmp_ne (n := 23) 54 dX11_nots_20 (by decide) rfl ?_ ?_
    · exact aw_vreturn dX11_nots_54 rfl rfl
    · refine aw_aload_n (n := 24) dX11_nots_23 rfl rfl ?_
      refine aw_dup (n := 25) dX11_nots_24 rfl (fun _ => rfl) ?_
      refine aw_getI (n := 28) (RX11, TX11, 52) 11 45 dX11_nots_25 rfl ht (by decide) fd_RX11_380 ?_
      refine aw_iconst (n := 29) 1 dX11_nots_28 rfl (by decide) ?_
      refine aw_isub (n := 30) dX11_nots_29 rfl ?_
      refine aw_putI (n := 33) (RX11, TX11, 52) 11 45 dX11_nots_30 rfl ht (by decide) fp_RX11_380 (fun μ4 => ?_)
      refine aw_aload_n (n := 34) dX11_nots_33 rfl rfl ?_
      refine aw_dup (n := 35) dX11_nots_34 rfl (fun _ => rfl) ?_
      refine aw_getI (n := 38) (RX11, TX11, 52) 11 46 dX11_nots_35 rfl ht (by decide) fd_RX11_387 ?_
      refine aw_iconst (n := 39) 1 dX11_nots_38 rfl (by decide) ?_
      refine aw_isub (n := 40) dX11_nots_39 rfl ?_
      refine aw_putI (n := 43) (RX11, TX11, 52) 11 46 dX11_nots_40 rfl ht (by decide) fp_RX11_387 (fun μ5 => ?_)
      refine aw_aload_n (n := 44) dX11_nots_43 rfl rfl ?_
      refine aw_bipush (n := 46) 10 dX11_nots_44 rfl (by decide) ?_
      refine aw_iconst (n := 47) 0 dX11_nots_46 rfl (by decide) ?_
      refine aw_iconst (n := 48) 0 dX11_nots_47 rfl (by decide) ?_
      refine aw_callVv (n := 51) (as := [.int 10, .int 0, .int 0]) (st := []) (RX11, TX11, 52) 11 dX11_nots_48 rfl rfl (m_X11_code l F t ht 10 0 0 μ5) ht (by decide) rfl rfl cw_RX11_383 ⟨Nat.le_of_ble_eq_true rfl, Nat.le_of_ble_eq_true rfl⟩ (fun _ => Nat.le_of_ble_eq_true rfl) (fun r6 => ?_)
      refine aw_goto 0 dX11_nots_51 (by decide) ?_
      exact aw_weak (hk0 r6) (aw_ss aw_s0)
def f_X11_nots (F : Nat) (t : Nat) (μ : aw_M) : Option (aw_M) :=
  aw_loop (fun k s => f_X11_nots_0 F t k s) F μ
theorem m_X11_nots (l : Launch) (F : Nat) (t : Nat) (ht : (aw_sh t).1 = 16) (μ : aw_M) : AM l yX11_nots cX11_nots 1 none 2 143 aw_gv [.ref t] μ (f_X11_nots F t μ) := by
  refine aw_met [some (.ref t)] (by decide) (fun _ => rfl) (fun _ => Nat.le_of_ble_eq_true rfl) ?_
  show AW l k_X11_nots aw_gv 0 [some (.ref t)] [] μ _
  unfold f_X11_nots
  exact aw_weak (c_X11_nots_0 l F t ht F μ) (aw_ss aw_s0)
abbrev k_X11_leafOf : aw_K := (RX11, cX11_leafOf, 1, (some .int), 2, 142)
def f_X11_leafOf (F : Nat) (t : Nat) (μ : aw_M) : Option (Int32 × aw_M) :=
  (f_X11_isWord F t 112585746576499 μ).bind fun r1 =>
  (if r1.1 = true then
  some (0, r1.2)
  else
  (f_X11_isWord F t 457135713907 r1.2).bind fun r2 =>
  (if r2.1 = true then
  some (1, r2.2)
  else
  (f_X11_isWord F t 422776956275 r2.2).bind fun r3 =>
  (if r3.1 = true then
  some (2, r3.2)
  else
  (f_X11_isWord F t 469786323827 r3.2).bind fun r4 =>
  (if r4.1 = true then
  some (3, r4.2)
  else
  (f_X11_isWord F t 131320595244147 r4.2).bind fun r5 =>
  (if r5.1 = true then
  some (4, r5.2)
  else
  (f_X11_isWord F t 6383981 r5.2).bind fun r6 =>
  (if r6.1 = true then
  some (5, r6.2)
  else
  (f_X11_isWord F t 1936024947 r6.2).bind fun r7 =>
  (if r7.1 = true then
  some (6, r7.2)
  else
  (f_X11_isWord F t 482854658917 r7.2).bind fun r8 =>
  (if r8.1 = true then
  some (7, r8.2)
  else
  some ((-1), r8.2)))))))))
theorem m_X11_leafOf (l : Launch) (F : Nat) (t : Nat) (ht : (aw_sh t).1 = 16) (μ : aw_M) : AM l yX11_leafOf cX11_leafOf 1 (some .int) 2 142 aw_gi [.ref t] μ (f_X11_leafOf F t μ) := by
  refine aw_met [some (.ref t)] (by decide) (fun _ => rfl) (fun _ => Nat.le_of_ble_eq_true rfl) ?_
  show AW l k_X11_leafOf aw_gi 0 [some (.ref t)] [] μ _
  unfold f_X11_leafOf
  refine aw_aload_n (n := 1) dX11_leafOf_0 rfl rfl ?_
  refine aw_ldc2 (n := 4) dX11_leafOf_1 rfl tb_1474 ?_
  refine aw_callVz (n := 7) (as := [.long 112585746576499]) (st := []) (RX11, TX11, 52) 11 dX11_leafOf_4 rfl rfl (m_X11_isWord l F t ht 112585746576499 μ) ht (by decide) rfl rfl cw_RX11_201 ⟨Nat.le_of_ble_eq_true rfl, Nat.le_of_ble_eq_true rfl⟩ (fun _ => Nat.le_of_ble_eq_true rfl) (fun r1 => ?_)
  refine aw_ifb_eq (n := 10) 14 dX11_leafOf_7 (by decide) rfl ?_ ?_
  · refine aw_aload_n (n := 15) dX11_leafOf_14 rfl rfl ?_
    refine aw_ldc2 (n := 18) dX11_leafOf_15 rfl tb_1475 ?_
    refine aw_callVz (n := 21) (as := [.long 457135713907]) (st := []) (RX11, TX11, 52) 11 dX11_leafOf_18 rfl rfl (m_X11_isWord l F t ht 457135713907 r1.2) ht (by decide) rfl rfl cw_RX11_201 ⟨Nat.le_of_ble_eq_true rfl, Nat.le_of_ble_eq_true rfl⟩ (fun _ => Nat.le_of_ble_eq_true rfl) (fun r2 => ?_)
    refine aw_ifb_eq (n := 24) 28 dX11_leafOf_21 (by decide) rfl ?_ ?_
    · refine aw_aload_n (n := 29) dX11_leafOf_28 rfl rfl ?_
      refine aw_ldc2 (n := 32) dX11_leafOf_29 rfl tb_1476 ?_
      refine aw_callVz (n := 35) (as := [.long 422776956275]) (st := []) (RX11, TX11, 52) 11 dX11_leafOf_32 rfl rfl (m_X11_isWord l F t ht 422776956275 r2.2) ht (by decide) rfl rfl cw_RX11_201 ⟨Nat.le_of_ble_eq_true rfl, Nat.le_of_ble_eq_true rfl⟩ (fun _ => Nat.le_of_ble_eq_true rfl) (fun r3 => ?_)
      refine aw_ifb_eq (n := 38) 42 dX11_leafOf_35 (by decide) rfl ?_ ?_
      · refine aw_aload_n (n := 43) dX11_leafOf_42 rfl rfl ?_
        refine aw_ldc2 (n := 46) dX11_leafOf_43 rfl tb_1477 ?_
        refine aw_callVz (n := 49) (as := [.long 469786323827]) (st := []) (RX11, TX11, 52) 11 dX11_leafOf_46 rfl rfl (m_X11_isWord l F t ht 469786323827 r3.2) ht (by decide) rfl rfl cw_RX11_201 ⟨Nat.le_of_ble_eq_true rfl, Nat.le_of_ble_eq_true rfl⟩ (fun _ => Nat.le_of_ble_eq_true rfl) (fun r4 => ?_)
        refine aw_ifb_eq (n := 52) 56 dX11_leafOf_49 (by decide) rfl ?_ ?_
        · refine aw_aload_n (n := 57) dX11_leafOf_56 rfl rfl ?_
          refine aw_ldc2 (n := 60) dX11_leafOf_57 rfl tb_1478 ?_
          refine aw_callVz (n := 63) (as := [.long 131320595244147]) (st := []) (RX11, TX11, 52) 11 dX11_leafOf_60 rfl rfl (m_X11_isWord l F t ht 131320595244147 r4.2) ht (by decide) rfl rfl cw_RX11_201 ⟨Nat.le_of_ble_eq_true rfl, Nat.le_of_ble_eq_true rfl⟩ (fun _ => Nat.le_of_ble_eq_true rfl) (fun r5 => ?_)
          refine aw_ifb_eq (n := 66) 70 dX11_leafOf_63 (by decide) rfl ?_ ?_
          · refine aw_aload_n (n := 71) dX11_leafOf_70 rfl rfl ?_
            refine aw_ldc2 (n := 74) dX11_leafOf_71 rfl tb_1479 ?_
            refine aw_callVz (n := 77) (as := [.long 6383981]) (st := []) (RX11, TX11, 52) 11 dX11_leafOf_74 rfl rfl (m_X11_isWord l F t ht 6383981 r5.2) ht (by decide) rfl rfl cw_RX11_201 ⟨Nat.le_of_ble_eq_true rfl, Nat.le_of_ble_eq_true rfl⟩ (fun _ => Nat.le_of_ble_eq_true rfl) (fun r6 => ?_)
            refine aw_ifb_eq (n := 80) 84 dX11_leafOf_77 (by decide) rfl ?_ ?_
            · refine aw_aload_n (n := 85) dX11_leafOf_84 rfl rfl ?_
              refine aw_ldc2 (n := 88) dX11_leafOf_85 rfl tb_1480 ?_
              refine aw_callVz (n := 91) (as := [.long 1936024947]) (st := []) (RX11, TX11, 52) 11 dX11_leafOf_88 rfl rfl (m_X11_isWord l F t ht 1936024947 r6.2) ht (by decide) rfl rfl cw_RX11_201 ⟨Nat.le_of_ble_eq_true rfl, Nat.le_of_ble_eq_true rfl⟩ (fun _ => Nat.le_of_ble_eq_true rfl) (fun r7 => ?_)
              refine aw_ifb_eq (n := 94) 99 dX11_leafOf_91 (by decide) rfl ?_ ?_
              · refine aw_aload_n (n := 100) dX11_leafOf_99 rfl rfl ?_
                refine aw_ldc2 (n := 103) dX11_leafOf_100 rfl tb_1481 ?_
                refine aw_callVz (n := 106) (as := [.long 482854658917]) (st := []) (RX11, TX11, 52) 11 dX11_leafOf_103 rfl rfl (m_X11_isWord l F t ht 482854658917 r7.2) ht (by decide) rfl rfl cw_RX11_201 ⟨Nat.le_of_ble_eq_true rfl, Nat.le_of_ble_eq_true rfl⟩ (fun _ => Nat.le_of_ble_eq_true rfl) (fun r8 => ?_)
                refine aw_ifb_eq (n := 109) 114 dX11_leafOf_106 (by decide) rfl ?_ ?_
                · refine aw_iconst (n := 115) (-1) dX11_leafOf_114 rfl (by decide) ?_
                  exact aw_ireturn dX11_leafOf_115 rfl rfl
                · refine aw_bipush (n := 111) 7 dX11_leafOf_109 rfl (by decide) ?_
                  refine aw_goto 115 dX11_leafOf_111 (by decide) ?_
                  exact aw_ireturn dX11_leafOf_115 rfl rfl
              · refine aw_bipush (n := 96) 6 dX11_leafOf_94 rfl (by decide) ?_
                refine aw_goto 115 dX11_leafOf_96 (by decide) ?_
                exact aw_ireturn dX11_leafOf_115 rfl rfl
            · refine aw_iconst (n := 81) 5 dX11_leafOf_80 rfl (by decide) ?_
              refine aw_goto 115 dX11_leafOf_81 (by decide) ?_
              exact aw_ireturn dX11_leafOf_115 rfl rfl
          · refine aw_iconst (n := 67) 4 dX11_leafOf_66 rfl (by decide) ?_
            refine aw_goto 115 dX11_leafOf_67 (by decide) ?_
            exact aw_ireturn dX11_leafOf_115 rfl rfl
        · refine aw_iconst (n := 53) 3 dX11_leafOf_52 rfl (by decide) ?_
          refine aw_goto 115 dX11_leafOf_53 (by decide) ?_
          exact aw_ireturn dX11_leafOf_115 rfl rfl
      · refine aw_iconst (n := 39) 2 dX11_leafOf_38 rfl (by decide) ?_
        refine aw_goto 115 dX11_leafOf_39 (by decide) ?_
        exact aw_ireturn dX11_leafOf_115 rfl rfl
    · refine aw_iconst (n := 25) 1 dX11_leafOf_24 rfl (by decide) ?_
      refine aw_goto 115 dX11_leafOf_25 (by decide) ?_
      exact aw_ireturn dX11_leafOf_115 rfl rfl
  · refine aw_iconst (n := 11) 0 dX11_leafOf_10 rfl (by decide) ?_
    refine aw_goto 115 dX11_leafOf_11 (by decide) ?_
    exact aw_ireturn dX11_leafOf_115 rfl rfl
abbrev k_X11_operand : aw_K := (RX11, cX11_operand, 5, (some .boolean), 3, 163)
def f_X11_operand_56 (F : Nat) (t : Nat) (μ : aw_M) : Option (Bool × aw_M) :=
  (f_X11_bad F t 4 μ).bind fun r28 =>
  some (r28.1, r28.2)
theorem c_X11_operand_56 (l : Launch) (F : Nat) (t : Nat) (ht : (aw_sh t).1 = 16) (μ : aw_M) : AW l k_X11_operand aw_gz 56 [some (.ref t), none, none, none, none] [] μ (f_X11_operand_56 F t μ) := by
  unfold f_X11_operand_56
  refine aw_aload_n (n := 57) dX11_operand_56 rfl rfl ?_
  refine aw_iconst (n := 58) 4 dX11_operand_57 rfl (by decide) ?_
  refine aw_callVz (n := 61) (as := [.int 4]) (st := []) (RX11, TX11, 52) 11 dX11_operand_58 rfl rfl (m_X11_bad l F t ht 4 μ) ht (by decide) rfl rfl cw_RX11_188 ⟨Nat.le_of_ble_eq_true rfl, Nat.le_of_ble_eq_true rfl⟩ (fun _ => Nat.le_of_ble_eq_true rfl) (fun r28 => ?_)
  exact aw_zreturn (b := r28.1) dX11_operand_61 rfl rfl
def f_X11_operand_103 (F : Nat) (t : Nat) (z0 : Int32) (z1 : Int32) (μ : aw_M) : Option (Bool × aw_M) :=
  aw_g (aw_in z1 45) (aw_let (aw_wI μ (aw_rf t 42) z1.toNatClampNeg z0) fun μ31 =>
  aw_let (aw_wI μ31 t 45 ((μ31.1 t 45) + 1)) fun μ32 =>
  aw_let (aw_wI μ32 t 46 ((μ32.1 t 46) + 1)) fun μ33 =>
  some (true, μ33))
theorem c_X11_operand_103 (l : Launch) (F : Nat) (t : Nat) (ht : (aw_sh t).1 = 16) (z0 : Int32) (z1 : Int32) (μ : aw_M) : AW l k_X11_operand aw_gz 103 [some (.ref t), none, none, none, none] [.int z0, .int z1, .ref (aw_rf t 42)] μ (f_X11_operand_103 F t z0 z1 μ) := by
  unfold f_X11_operand_103
  refine aw_iastore (n := 104) 45 dX11_operand_103 rfl (sf_11_42 ht) (fun μ31 => ?_)
  refine aw_aload_n (n := 105) dX11_operand_104 rfl rfl ?_
  refine aw_dup (n := 106) dX11_operand_105 rfl (fun _ => rfl) ?_
  refine aw_getI (n := 109) (RX11, TX11, 52) 11 45 dX11_operand_106 rfl ht (by decide) fd_RX11_380 ?_
  refine aw_iconst (n := 110) 1 dX11_operand_109 rfl (by decide) ?_
  refine aw_iadd (n := 111) dX11_operand_110 rfl ?_
  refine aw_putI (n := 114) (RX11, TX11, 52) 11 45 dX11_operand_111 rfl ht (by decide) fp_RX11_380 (fun μ32 => ?_)
  refine aw_aload_n (n := 115) dX11_operand_114 rfl rfl ?_
  refine aw_dup (n := 116) dX11_operand_115 rfl (fun _ => rfl) ?_
  refine aw_getI (n := 119) (RX11, TX11, 52) 11 46 dX11_operand_116 rfl ht (by decide) fd_RX11_387 ?_
  refine aw_iconst (n := 120) 1 dX11_operand_119 rfl (by decide) ?_
  refine aw_iadd (n := 121) dX11_operand_120 rfl ?_
  refine aw_putI (n := 124) (RX11, TX11, 52) 11 46 dX11_operand_121 rfl ht (by decide) fp_RX11_387 (fun μ33 => ?_)
  refine aw_iconst (n := 125) 1 dX11_operand_124 rfl (by decide) ?_
  exact aw_zreturn (b := true) dX11_operand_125 rfl rfl
def f_X11_operand_84 (F : Nat) (t : Nat) (x1 : Bool) (μ : aw_M) : Option (Bool × aw_M) :=
  (if x1 = true then
  f_X11_operand_103 F t 10 (μ.1 t 45) μ
  else
  f_X11_operand_103 F t 13 (μ.1 t 45) μ)
theorem c_X11_operand_84 (l : Launch) (F : Nat) (t : Nat) (ht : (aw_sh t).1 = 16) (x1 : Bool) (μ : aw_M) : AW l k_X11_operand aw_gz 84 [some (.ref t), some (.int (aw_b x1)), none, none, none] [] μ (f_X11_operand_84 F t x1 μ) := by
  unfold f_X11_operand_84
  refine aw_aload_n (n := 85) dX11_operand_84 rfl rfl ?_
  refine aw_getR (n := 88) (RX11, TX11, 52) 11 42 dX11_operand_85 rfl ht (by decide) fd_RX11_96 ?_
  refine aw_aload_n (n := 89) dX11_operand_88 rfl rfl ?_
  refine aw_getI (n := 92) (RX11, TX11, 52) 11 45 dX11_operand_89 rfl ht (by decide) fd_RX11_380 ?_
  refine aw_iload_n (n := 93) dX11_operand_92 rfl rfl ?_
  refine aw_ifb_eq (n := 96) 101 dX11_operand_93 (by decide) rfl ?_ ?_
  · refine aw_bipush (n := 103) 13 dX11_operand_101 rfl (by decide) ?_
    exact aw_weak (c_X11_operand_103 l F t ht 13 (μ.1 t 45) μ) (aw_ss (aw_sn (aw_sn (aw_sn (aw_sn aw_s0)))))
  · refine aw_bipush (n := 98) 10 dX11_operand_96 rfl (by decide) ?_
    refine aw_goto 103 dX11_operand_98 (by decide) ?_
    exact aw_weak (c_X11_operand_103 l F t ht 10 (μ.1 t 45) μ) (aw_ss (aw_sn (aw_sn (aw_sn (aw_sn aw_s0)))))
def f_X11_operand_226 (F : Nat) (t : Nat) (μ : aw_M) : Option (Bool × aw_M) :=
  (f_X11_bad F t 1 μ).bind fun r35 =>
  some (r35.1, r35.2)
theorem c_X11_operand_226 (l : Launch) (F : Nat) (t : Nat) (ht : (aw_sh t).1 = 16) (μ : aw_M) : AW l k_X11_operand aw_gz 226 [some (.ref t), none, none, none, none] [] μ (f_X11_operand_226 F t μ) := by
  unfold f_X11_operand_226
  refine aw_aload_n (n := 227) dX11_operand_226 rfl rfl ?_
  refine aw_iconst (n := 228) 1 dX11_operand_227 rfl (by decide) ?_
  refine aw_callVz (n := 231) (as := [.int 1]) (st := []) (RX11, TX11, 52) 11 dX11_operand_228 rfl rfl (m_X11_bad l F t ht 1 μ) ht (by decide) rfl rfl cw_RX11_188 ⟨Nat.le_of_ble_eq_true rfl, Nat.le_of_ble_eq_true rfl⟩ (fun _ => Nat.le_of_ble_eq_true rfl) (fun r35 => ?_)
  exact aw_zreturn (b := r35.1) dX11_operand_231 rfl rfl
def f_X11_operand_38 (F : Nat) (t : Nat) (x1 : Bool) (x2 : Bool) (x3 : Int32) (μ : aw_M) : Option (Bool × aw_M) :=
  (if (μ.1 t 44) = 20 then
  f_X11_operand_56 F t μ
  else
  (if (μ.1 t 46) ≤ 8 then
  aw_let (aw_wI μ t 44 ((μ.1 t 44) + 1)) fun μ29 =>
  (f_X11_next F t μ29).bind fun r30 =>
  (if x1 = true then
  f_X11_operand_84 F t x1 r30
  else
  (if x2 = true then
  f_X11_operand_84 F t x1 r30
  else
  aw_let (aw_wI r30 t 47 1) fun μ34 =>
  (if x3 = 0 then
  (f_X11_code F t x3 0 0 μ34).bind fun r47 =>
  some (true, r47)
  else
  (if x3 = 1 then
  (f_X11_isName F t μ34).bind fun r41 =>
  (if r41.1 = true then
  aw_g (aw_in 2 1155) ((f_X11_find F t 0 (r41.2.1 (aw_rf t 6) (2 : Int32).toNatClampNeg) r41.2).bind fun r42 =>
  (if 0 ≤ r42.1 then
  (f_X11_code F t x3 0 r42.1 r42.2).bind fun r43 =>
  (f_X11_next F t r43).bind fun r44 =>
  some (true, r44)
  else
  (f_X11_bad F t 3 r42.2).bind fun r45 =>
  some (r45.1, r45.2)))
  else
  (f_X11_bad F t 1 r41.2).bind fun r46 =>
  some (r46.1, r46.2))
  else
  (if (μ34.1 t 11) = 3 then
  (if (μ34.1 t 14) < 60 then
  f_X11_operand_226 F t μ34
  else
  (if (μ34.1 t 14) ≤ 62 then
  aw_let ((μ34.1 t 14)) fun v36 =>
  (f_X11_next F t μ34).bind fun r37 =>
  (if (r37.1 t 11) = 2 then
  (f_X11_code F t x3 v36 (r37.1 t 14) r37).bind fun r38 =>
  (f_X11_next F t r38).bind fun r39 =>
  some (true, r39)
  else
  (f_X11_bad F t 1 r37).bind fun r40 =>
  some (r40.1, r40.2))
  else
  f_X11_operand_226 F t μ34))
  else
  f_X11_operand_226 F t μ34)))))
  else
  f_X11_operand_56 F t μ))
theorem c_X11_operand_38 (l : Launch) (F : Nat) (t : Nat) (ht : (aw_sh t).1 = 16) (x1 : Bool) (x2 : Bool) (x3 : Int32) (μ : aw_M) : AW l k_X11_operand aw_gz 38 [some (.ref t), some (.int (aw_b x1)), some (.int (aw_b x2)), some (.int x3), none] [] μ (f_X11_operand_38 F t x1 x2 x3 μ) := by
  unfold f_X11_operand_38
  refine aw_aload_n (n := 39) dX11_operand_38 rfl rfl ?_
  refine aw_getI (n := 42) (RX11, TX11, 52) 11 44 dX11_operand_39 rfl ht (by decide) fd_RX11_393 ?_
  refine aw_bipush (n := 44) 20 dX11_operand_42 rfl (by decide) ?_
  refine aw_icmp_eq (n := 47) 56 dX11_operand_44 (by decide) rfl ?_ ?_
  · exact aw_weak (c_X11_operand_56 l F t ht μ) (aw_ss (aw_sn (aw_sn (aw_sn (aw_sn aw_s0)))))
  · refine aw_aload_n (n := 48) dX11_operand_47 rfl rfl ?_
    refine aw_getI (n := 51) (RX11, TX11, 52) 11 46 dX11_operand_48 rfl ht (by decide) fd_RX11_387 ?_
    refine aw_bipush (n := 53) 8 dX11_operand_51 rfl (by decide) ?_
    refine aw_icmp_le (n := 56) 62 dX11_operand_53 (by decide) rfl ?_ ?_
    · refine aw_aload_n (n := 63) dX11_operand_62 rfl rfl ?_
      refine aw_dup (n := 64) dX11_operand_63 rfl (fun _ => rfl) ?_
      refine aw_getI (n := 67) (RX11, TX11, 52) 11 44 dX11_operand_64 rfl ht (by decide) fd_RX11_393 ?_
      refine aw_iconst (n := 68) 1 dX11_operand_67 rfl (by decide) ?_
      refine aw_iadd (n := 69) dX11_operand_68 rfl ?_
      refine aw_putI (n := 72) (RX11, TX11, 52) 11 44 dX11_operand_69 rfl ht (by decide) fp_RX11_393 (fun μ29 => ?_)
      refine aw_aload_n (n := 73) dX11_operand_72 rfl rfl ?_
      refine aw_callVv (n := 76) (as := []) (st := []) (RX11, TX11, 52) 11 dX11_operand_73 rfl rfl (m_X11_next l F t ht μ29) ht (by decide) rfl rfl cw_RX11_191 ⟨Nat.le_of_ble_eq_true rfl, Nat.le_of_ble_eq_true rfl⟩ (fun _ => Nat.le_of_ble_eq_true rfl) (fun r30 => ?_)
      refine aw_iload_n (n := 77) dX11_operand_76 rfl rfl ?_
      refine aw_ifb_ne (n := 80) 84 dX11_operand_77 (by decide) rfl ?_ ?_
      · exact aw_weak (c_X11_operand_84 l F t ht x1 r30) (aw_ss (aw_ss (aw_sn (aw_sn (aw_sn aw_s0)))))
      · refine aw_iload_n (n := 81) dX11_operand_80 rfl rfl ?_
        refine aw_ifb_eq (n := 84) 126 dX11_operand_81 (by decide) rfl ?_ ?_
        · refine aw_aload_n (n := 127) dX11_operand_126 rfl rfl ?_
          refine aw_iconst (n := 128) 1 dX11_operand_127 rfl (by decide) ?_
          refine aw_putZ (n := 131) (RX11, TX11, 52) 11 47 dX11_operand_128 rfl ht (by decide) fp_RX11_396 (Or.inr rfl) (fun μ34 => ?_)
          refine aw_iload_n (n := 132) dX11_operand_131 rfl rfl ?_
          refine aw_if_ne (n := 135) 144 dX11_operand_132 (by decide) rfl ?_ ?_
          · refine aw_iload_n (n := 145) dX11_operand_144 rfl rfl ?_
            refine aw_iconst (n := 146) 1 dX11_operand_145 rfl (by decide) ?_
            refine aw_icmp_ne (n := 149) 200 dX11_operand_146 (by decide) rfl ?_ ?_
            · refine aw_aload_n (n := 201) dX11_operand_200 rfl rfl ?_
              refine aw_getI (n := 204) (RX11, TX11, 52) 11 11 dX11_operand_201 rfl ht (by decide) fd_RX11_162 ?_
              refine aw_iconst (n := 205) 3 dX11_operand_204 rfl (by decide) ?_
              refine aw_icmp_ne (n := 208) 226 dX11_operand_205 (by decide) rfl ?_ ?_
              · exact aw_weak (c_X11_operand_226 l F t ht μ34) (aw_ss (aw_sn (aw_sn (aw_sn (aw_sn aw_s0)))))
              · refine aw_aload_n (n := 209) dX11_operand_208 rfl rfl ?_
                refine aw_getI (n := 212) (RX11, TX11, 52) 11 14 dX11_operand_209 rfl ht (by decide) fd_RX11_172 ?_
                refine aw_bipush (n := 214) 60 dX11_operand_212 rfl (by decide) ?_
                refine aw_icmp_lt (n := 217) 226 dX11_operand_214 (by decide) rfl ?_ ?_
                · exact aw_weak (c_X11_operand_226 l F t ht μ34) (aw_ss (aw_sn (aw_sn (aw_sn (aw_sn aw_s0)))))
                · refine aw_aload_n (n := 218) dX11_operand_217 rfl rfl ?_
                  refine aw_getI (n := 221) (RX11, TX11, 52) 11 14 dX11_operand_218 rfl ht (by decide) fd_RX11_172 ?_
                  refine aw_bipush (n := 223) 62 dX11_operand_221 rfl (by decide) ?_
                  refine aw_icmp_le (n := 226) 232 dX11_operand_223 (by decide) rfl ?_ ?_
                  · refine aw_aload_n (n := 233) dX11_operand_232 rfl rfl ?_
                    refine aw_getI (n := 236) (RX11, TX11, 52) 11 14 dX11_operand_233 rfl ht (by decide) fd_RX11_172 ?_
                    refine aw_nmI (fun v36 => ?_)
                    refine aw_istore (n := 238) [some (.ref t), some (.int (aw_b x1)), some (.int (aw_b x2)), some (.int x3), some (.int v36)] dX11_operand_236 rfl rfl (Nat.le_of_ble_eq_true rfl) (Nat.le_of_ble_eq_true rfl) rfl ?_
                    refine aw_aload_n (n := 239) dX11_operand_238 rfl rfl ?_
                    refine aw_callVv (n := 242) (as := []) (st := []) (RX11, TX11, 52) 11 dX11_operand_239 rfl rfl (m_X11_next l F t ht μ34) ht (by decide) rfl rfl cw_RX11_191 ⟨Nat.le_of_ble_eq_true rfl, Nat.le_of_ble_eq_true rfl⟩ (fun _ => Nat.le_of_ble_eq_true rfl) (fun r37 => ?_)
                    refine aw_aload_n (n := 243) dX11_operand_242 rfl rfl ?_
                    refine aw_getI (n := 246) (RX11, TX11, 52) 11 11 dX11_operand_243 rfl ht (by decide) fd_RX11_162 ?_
                    refine aw_iconst (n := 247) 2 dX11_operand_246 rfl (by decide) ?_
                    refine aw_icmp_eq (n := 250) 256 dX11_operand_247 (by decide) rfl ?_ ?_
                    · refine aw_aload_n (n := 257) dX11_operand_256 rfl rfl ?_
                      refine aw_iload_n (n := 258) dX11_operand_257 rfl rfl ?_
                      refine aw_iload (n := 260) dX11_operand_258 rfl rfl ?_
                      refine aw_aload_n (n := 261) dX11_operand_260 rfl rfl ?_
                      refine aw_getI (n := 264) (RX11, TX11, 52) 11 14 dX11_operand_261 rfl ht (by decide) fd_RX11_172 ?_
                      refine aw_callVv (n := 267) (as := [.int x3, .int v36, .int (r37.1 t 14)]) (st := []) (RX11, TX11, 52) 11 dX11_operand_264 rfl rfl (m_X11_code l F t ht x3 v36 (r37.1 t 14) r37) ht (by decide) rfl rfl cw_RX11_383 ⟨Nat.le_of_ble_eq_true rfl, Nat.le_of_ble_eq_true rfl⟩ (fun _ => Nat.le_of_ble_eq_true rfl) (fun r38 => ?_)
                      refine aw_aload_n (n := 268) dX11_operand_267 rfl rfl ?_
                      refine aw_callVv (n := 271) (as := []) (st := []) (RX11, TX11, 52) 11 dX11_operand_268 rfl rfl (m_X11_next l F t ht r38) ht (by decide) rfl rfl cw_RX11_191 ⟨Nat.le_of_ble_eq_true rfl, Nat.le_of_ble_eq_true rfl⟩ (fun _ => Nat.le_of_ble_eq_true rfl) (fun r39 => ?_)
                      refine aw_iconst (n := 272) 1 dX11_operand_271 rfl (by decide) ?_
                      exact aw_zreturn (b := true) dX11_operand_272 rfl rfl
                    · refine aw_aload_n (n := 251) dX11_operand_250 rfl rfl ?_
                      refine aw_iconst (n := 252) 1 dX11_operand_251 rfl (by decide) ?_
                      refine aw_callVz (n := 255) (as := [.int 1]) (st := []) (RX11, TX11, 52) 11 dX11_operand_252 rfl rfl (m_X11_bad l F t ht 1 r37) ht (by decide) rfl rfl cw_RX11_188 ⟨Nat.le_of_ble_eq_true rfl, Nat.le_of_ble_eq_true rfl⟩ (fun _ => Nat.le_of_ble_eq_true rfl) (fun r40 => ?_)
                      exact aw_zreturn (b := r40.1) dX11_operand_255 rfl rfl
                  · exact aw_weak (c_X11_operand_226 l F t ht μ34) (aw_ss (aw_sn (aw_sn (aw_sn (aw_sn aw_s0)))))
            · refine aw_aload_n (n := 150) dX11_operand_149 rfl rfl ?_
              refine aw_callVz (n := 153) (as := []) (st := []) (RX11, TX11, 52) 11 dX11_operand_150 rfl rfl (m_X11_isName l F t ht μ34) ht (by decide) rfl rfl cw_RX11_223 ⟨Nat.le_of_ble_eq_true rfl, Nat.le_of_ble_eq_true rfl⟩ (fun _ => Nat.le_of_ble_eq_true rfl) (fun r41 => ?_)
              refine aw_ifb_ne (n := 156) 162 dX11_operand_153 (by decide) rfl ?_ ?_
              · refine aw_aload_n (n := 163) dX11_operand_162 rfl rfl ?_
                refine aw_iconst (n := 164) 0 dX11_operand_163 rfl (by decide) ?_
                refine aw_aload_n (n := 165) dX11_operand_164 rfl rfl ?_
                refine aw_getR (n := 168) (RX11, TX11, 52) 11 6 dX11_operand_165 rfl ht (by decide) fd_RX11_33 ?_
                refine aw_iconst (n := 169) 2 dX11_operand_168 rfl (by decide) ?_
                refine aw_iaload (n := 170) 1155 dX11_operand_169 rfl (sf_11_6 ht) ?_
                refine aw_callVi (n := 173) (as := [.int 0, .int (r41.2.1 (aw_rf t 6) (2 : Int32).toNatClampNeg)]) (st := []) (RX11, TX11, 52) 11 dX11_operand_170 rfl rfl (m_X11_find l F t ht 0 (r41.2.1 (aw_rf t 6) (2 : Int32).toNatClampNeg) r41.2) ht (by decide) rfl rfl cw_RX11_226 ⟨Nat.le_of_ble_eq_true rfl, Nat.le_of_ble_eq_true rfl⟩ (fun _ => Nat.le_of_ble_eq_true rfl) (fun r42 => ?_)
                refine aw_istore (n := 175) [some (.ref t), some (.int (aw_b x1)), some (.int (aw_b x2)), some (.int x3), some (.int r42.1)] dX11_operand_173 rfl rfl (Nat.le_of_ble_eq_true rfl) (Nat.le_of_ble_eq_true rfl) rfl ?_
                refine aw_iload (n := 177) dX11_operand_175 rfl rfl ?_
                refine aw_if_ge (n := 180) 186 dX11_operand_177 (by decide) rfl ?_ ?_
                · refine aw_aload_n (n := 187) dX11_operand_186 rfl rfl ?_
                  refine aw_iload_n (n := 188) dX11_operand_187 rfl rfl ?_
                  refine aw_iconst (n := 189) 0 dX11_operand_188 rfl (by decide) ?_
                  refine aw_iload (n := 191) dX11_operand_189 rfl rfl ?_
                  refine aw_callVv (n := 194) (as := [.int x3, .int 0, .int r42.1]) (st := []) (RX11, TX11, 52) 11 dX11_operand_191 rfl rfl (m_X11_code l F t ht x3 0 r42.1 r42.2) ht (by decide) rfl rfl cw_RX11_383 ⟨Nat.le_of_ble_eq_true rfl, Nat.le_of_ble_eq_true rfl⟩ (fun _ => Nat.le_of_ble_eq_true rfl) (fun r43 => ?_)
                  refine aw_aload_n (n := 195) dX11_operand_194 rfl rfl ?_
                  refine aw_callVv (n := 198) (as := []) (st := []) (RX11, TX11, 52) 11 dX11_operand_195 rfl rfl (m_X11_next l F t ht r43) ht (by decide) rfl rfl cw_RX11_191 ⟨Nat.le_of_ble_eq_true rfl, Nat.le_of_ble_eq_true rfl⟩ (fun _ => Nat.le_of_ble_eq_true rfl) (fun r44 => ?_)
                  refine aw_iconst (n := 199) 1 dX11_operand_198 rfl (by decide) ?_
                  exact aw_zreturn (b := true) dX11_operand_199 rfl rfl
                · refine aw_aload_n (n := 181) dX11_operand_180 rfl rfl ?_
                  refine aw_iconst (n := 182) 3 dX11_operand_181 rfl (by decide) ?_
                  refine aw_callVz (n := 185) (as := [.int 3]) (st := []) (RX11, TX11, 52) 11 dX11_operand_182 rfl rfl (m_X11_bad l F t ht 3 r42.2) ht (by decide) rfl rfl cw_RX11_188 ⟨Nat.le_of_ble_eq_true rfl, Nat.le_of_ble_eq_true rfl⟩ (fun _ => Nat.le_of_ble_eq_true rfl) (fun r45 => ?_)
                  exact aw_zreturn (b := r45.1) dX11_operand_185 rfl rfl
              · refine aw_aload_n (n := 157) dX11_operand_156 rfl rfl ?_
                refine aw_iconst (n := 158) 1 dX11_operand_157 rfl (by decide) ?_
                refine aw_callVz (n := 161) (as := [.int 1]) (st := []) (RX11, TX11, 52) 11 dX11_operand_158 rfl rfl (m_X11_bad l F t ht 1 r41.2) ht (by decide) rfl rfl cw_RX11_188 ⟨Nat.le_of_ble_eq_true rfl, Nat.le_of_ble_eq_true rfl⟩ (fun _ => Nat.le_of_ble_eq_true rfl) (fun r46 => ?_)
                exact aw_zreturn (b := r46.1) dX11_operand_161 rfl rfl
          · refine aw_aload_n (n := 136) dX11_operand_135 rfl rfl ?_
            refine aw_iload_n (n := 137) dX11_operand_136 rfl rfl ?_
            refine aw_iconst (n := 138) 0 dX11_operand_137 rfl (by decide) ?_
            refine aw_iconst (n := 139) 0 dX11_operand_138 rfl (by decide) ?_
            refine aw_callVv (n := 142) (as := [.int x3, .int 0, .int 0]) (st := []) (RX11, TX11, 52) 11 dX11_operand_139 rfl rfl (m_X11_code l F t ht x3 0 0 μ34) ht (by decide) rfl rfl cw_RX11_383 ⟨Nat.le_of_ble_eq_true rfl, Nat.le_of_ble_eq_true rfl⟩ (fun _ => Nat.le_of_ble_eq_true rfl) (fun r47 => ?_)
            refine aw_iconst (n := 143) 1 dX11_operand_142 rfl (by decide) ?_
            exact aw_zreturn (b := true) dX11_operand_143 rfl rfl
        · exact aw_weak (c_X11_operand_84 l F t ht x1 r30) (aw_ss (aw_ss (aw_sn (aw_sn (aw_sn aw_s0)))))
    · exact aw_weak (c_X11_operand_56 l F t ht μ) (aw_ss (aw_sn (aw_sn (aw_sn (aw_sn aw_s0)))))
def f_X11_operand (F : Nat) (t : Nat) (μ : aw_M) : Option (Bool × aw_M) :=
  (f_X11_isWord F t 7237492 μ).bind fun r25 =>
  (f_X11_isSign F t 40 r25.2).bind fun r26 =>
  (f_X11_leafOf F t r26.2).bind fun r27 =>
  (if r25.1 = true then
  f_X11_operand_38 F t r25.1 r26.1 r27.1 r27.2
  else
  (if r26.1 = true then
  f_X11_operand_38 F t r25.1 r26.1 r27.1 r27.2
  else
  (if 0 ≤ r27.1 then
  f_X11_operand_38 F t r25.1 r26.1 r27.1 r27.2
  else
  (f_X11_bad F t 1 r27.2).bind fun r48 =>
  some (r48.1, r48.2))))
theorem m_X11_operand (l : Launch) (F : Nat) (t : Nat) (ht : (aw_sh t).1 = 16) (μ : aw_M) : AM l yX11_operand cX11_operand 5 (some .boolean) 3 163 aw_gz [.ref t] μ (f_X11_operand F t μ) := by
  refine aw_met [some (.ref t), none, none, none, none] (by decide) (fun _ => rfl) (fun _ => Nat.le_of_ble_eq_true rfl) ?_
  show AW l k_X11_operand aw_gz 0 [some (.ref t), none, none, none, none] [] μ _
  unfold f_X11_operand
  refine aw_aload_n (n := 1) dX11_operand_0 rfl rfl ?_
  refine aw_ldc2 (n := 4) dX11_operand_1 rfl tb_1473 ?_
  refine aw_callVz (n := 7) (as := [.long 7237492]) (st := []) (RX11, TX11, 52) 11 dX11_operand_4 rfl rfl (m_X11_isWord l F t ht 7237492 μ) ht (by decide) rfl rfl cw_RX11_201 ⟨Nat.le_of_ble_eq_true rfl, Nat.le_of_ble_eq_true rfl⟩ (fun _ => Nat.le_of_ble_eq_true rfl) (fun r25 => ?_)
  refine aw_istore_n (n := 8) [some (.ref t), some (.int (aw_b r25.1)), none, none, none] dX11_operand_7 rfl rfl (Nat.le_of_ble_eq_true rfl) (Nat.le_of_ble_eq_true rfl) rfl ?_
  refine aw_aload_n (n := 9) dX11_operand_8 rfl rfl ?_
  refine aw_bipush (n := 11) 40 dX11_operand_9 rfl (by decide) ?_
  refine aw_callVz (n := 14) (as := [.int 40]) (st := []) (RX11, TX11, 52) 11 dX11_operand_11 rfl rfl (m_X11_isSign l F t ht 40 r25.2) ht (by decide) rfl rfl cw_RX11_185 ⟨Nat.le_of_ble_eq_true rfl, Nat.le_of_ble_eq_true rfl⟩ (fun _ => Nat.le_of_ble_eq_true rfl) (fun r26 => ?_)
  refine aw_istore_n (n := 15) [some (.ref t), some (.int (aw_b r25.1)), some (.int (aw_b r26.1)), none, none] dX11_operand_14 rfl rfl (Nat.le_of_ble_eq_true rfl) (Nat.le_of_ble_eq_true rfl) rfl ?_
  refine aw_aload_n (n := 16) dX11_operand_15 rfl rfl ?_
  refine aw_callVi (n := 19) (as := []) (st := []) (RX11, TX11, 52) 11 dX11_operand_16 rfl rfl (m_X11_leafOf l F t ht r26.2) ht (by decide) rfl rfl cw_RX11_390 ⟨Nat.le_of_ble_eq_true rfl, Nat.le_of_ble_eq_true rfl⟩ (fun _ => Nat.le_of_ble_eq_true rfl) (fun r27 => ?_)
  refine aw_istore_n (n := 20) [some (.ref t), some (.int (aw_b r25.1)), some (.int (aw_b r26.1)), some (.int r27.1), none] dX11_operand_19 rfl rfl (Nat.le_of_ble_eq_true rfl) (Nat.le_of_ble_eq_true rfl) rfl ?_
  refine aw_iload_n (n := 21) dX11_operand_20 rfl rfl ?_
  refine aw_ifb_ne (n := 24) 38 dX11_operand_21 (by decide) rfl ?_ ?_
  · exact aw_weak (c_X11_operand_38 l F t ht r25.1 r26.1 r27.1 r27.2) (aw_ss (aw_ss (aw_ss (aw_ss (aw_sn aw_s0)))))
  · refine aw_iload_n (n := 25) dX11_operand_24 rfl rfl ?_
    refine aw_ifb_ne (n := 28) 38 dX11_operand_25 (by decide) rfl ?_ ?_
    · exact aw_weak (c_X11_operand_38 l F t ht r25.1 r26.1 r27.1 r27.2) (aw_ss (aw_ss (aw_ss (aw_ss (aw_sn aw_s0)))))
    · refine aw_iload_n (n := 29) dX11_operand_28 rfl rfl ?_
      refine aw_if_ge (n := 32) 38 dX11_operand_29 (by decide) rfl ?_ ?_
      · exact aw_weak (c_X11_operand_38 l F t ht r25.1 r26.1 r27.1 r27.2) (aw_ss (aw_ss (aw_ss (aw_ss (aw_sn aw_s0)))))
      · refine aw_aload_n (n := 33) dX11_operand_32 rfl rfl ?_
        refine aw_iconst (n := 34) 1 dX11_operand_33 rfl (by decide) ?_
        refine aw_callVz (n := 37) (as := [.int 1]) (st := []) (RX11, TX11, 52) 11 dX11_operand_34 rfl rfl (m_X11_bad l F t ht 1 r27.2) ht (by decide) rfl rfl cw_RX11_188 ⟨Nat.le_of_ble_eq_true rfl, Nat.le_of_ble_eq_true rfl⟩ (fun _ => Nat.le_of_ble_eq_true rfl) (fun r48 => ?_)
        exact aw_zreturn (b := r48.1) dX11_operand_37 rfl rfl
abbrev k_X11_behind : aw_K := (RX11, cX11_behind, 1, (some .boolean), 3, 164)
def f_X11_behind_70 (F : Nat) (t : Nat) (z0 : Int32) (z1 : Int32) (μ : aw_M) : Option (Bool × aw_M) :=
  aw_g (aw_in z1 45) (aw_let (aw_wI μ (aw_rf t 42) z1.toNatClampNeg z0) fun μ22 =>
  aw_let (aw_wI μ22 t 45 ((μ22.1 t 45) + 1)) fun μ23 =>
  aw_let (aw_wI μ23 t 47 0) fun μ24 =>
  (f_X11_next F t μ24).bind fun r25 =>
  some (true, r25))
theorem c_X11_behind_70 (l : Launch) (F : Nat) (t : Nat) (ht : (aw_sh t).1 = 16) (z0 : Int32) (z1 : Int32) (μ : aw_M) : AW l k_X11_behind aw_gz 70 [some (.ref t)] [.int z0, .int z1, .ref (aw_rf t 42)] μ (f_X11_behind_70 F t z0 z1 μ) := by
  unfold f_X11_behind_70
  refine aw_iastore (n := 71) 45 dX11_behind_70 rfl (sf_11_42 ht) (fun μ22 => ?_)
  refine aw_aload_n (n := 72) dX11_behind_71 rfl rfl ?_
  refine aw_dup (n := 73) dX11_behind_72 rfl (fun _ => rfl) ?_
  refine aw_getI (n := 76) (RX11, TX11, 52) 11 45 dX11_behind_73 rfl ht (by decide) fd_RX11_380 ?_
  refine aw_iconst (n := 77) 1 dX11_behind_76 rfl (by decide) ?_
  refine aw_iadd (n := 78) dX11_behind_77 rfl ?_
  refine aw_putI (n := 81) (RX11, TX11, 52) 11 45 dX11_behind_78 rfl ht (by decide) fp_RX11_380 (fun μ23 => ?_)
  refine aw_aload_n (n := 82) dX11_behind_81 rfl rfl ?_
  refine aw_iconst (n := 83) 0 dX11_behind_82 rfl (by decide) ?_
  refine aw_putZ (n := 86) (RX11, TX11, 52) 11 47 dX11_behind_83 rfl ht (by decide) fp_RX11_396 (Or.inl rfl) (fun μ24 => ?_)
  refine aw_aload_n (n := 87) dX11_behind_86 rfl rfl ?_
  refine aw_callVv (n := 90) (as := []) (st := []) (RX11, TX11, 52) 11 dX11_behind_87 rfl rfl (m_X11_next l F t ht μ24) ht (by decide) rfl rfl cw_RX11_191 ⟨Nat.le_of_ble_eq_true rfl, Nat.le_of_ble_eq_true rfl⟩ (fun _ => Nat.le_of_ble_eq_true rfl) (fun r25 => ?_)
  refine aw_iconst (n := 91) 1 dX11_behind_90 rfl (by decide) ?_
  exact aw_zreturn (b := true) dX11_behind_91 rfl rfl
def f_X11_behind_42 (F : Nat) (t : Nat) (z0 : Int32) (μ : aw_M) : Option (Bool × aw_M) :=
  (f_X11_joins F t z0 μ).bind fun r20 =>
  (f_X11_isWord F t 6385252 r20).bind fun r21 =>
  (if r21.1 = true then
  f_X11_behind_70 F t 11 (r20.1 t 45) r21.2
  else
  f_X11_behind_70 F t 12 (r20.1 t 45) r21.2)
theorem c_X11_behind_42 (l : Launch) (F : Nat) (t : Nat) (ht : (aw_sh t).1 = 16) (z0 : Int32) (μ : aw_M) : AW l k_X11_behind aw_gz 42 [some (.ref t)] [.int z0, .ref t] μ (f_X11_behind_42 F t z0 μ) := by
  unfold f_X11_behind_42
  refine aw_callVv (n := 45) (as := [.int z0]) (st := []) (RX11, TX11, 52) 11 dX11_behind_42 rfl rfl (m_X11_joins l F t ht z0 μ) ht (by decide) rfl rfl cw_RX11_402 ⟨Nat.le_of_ble_eq_true rfl, Nat.le_of_ble_eq_true rfl⟩ (fun _ => Nat.le_of_ble_eq_true rfl) (fun r20 => ?_)
  refine aw_aload_n (n := 46) dX11_behind_45 rfl rfl ?_
  refine aw_getR (n := 49) (RX11, TX11, 52) 11 42 dX11_behind_46 rfl ht (by decide) fd_RX11_96 ?_
  refine aw_aload_n (n := 50) dX11_behind_49 rfl rfl ?_
  refine aw_getI (n := 53) (RX11, TX11, 52) 11 45 dX11_behind_50 rfl ht (by decide) fd_RX11_380 ?_
  refine aw_aload_n (n := 54) dX11_behind_53 rfl rfl ?_
  refine aw_ldc2 (n := 57) dX11_behind_54 rfl tb_1472 ?_
  refine aw_callVz (n := 60) (as := [.long 6385252]) (st := [.int (r20.1 t 45), .ref (aw_rf t 42)]) (RX11, TX11, 52) 11 dX11_behind_57 rfl rfl (m_X11_isWord l F t ht 6385252 r20) ht (by decide) rfl rfl cw_RX11_201 ⟨Nat.le_of_ble_eq_true rfl, Nat.le_of_ble_eq_true rfl⟩ (fun _ => Nat.le_of_ble_eq_true rfl) (fun r21 => ?_)
  refine aw_ifb_eq (n := 63) 68 dX11_behind_60 (by decide) rfl ?_ ?_
  · refine aw_bipush (n := 70) 12 dX11_behind_68 rfl (by decide) ?_
    exact aw_weak (c_X11_behind_70 l F t ht 12 (r20.1 t 45) r21.2) (aw_ss aw_s0)
  · refine aw_bipush (n := 65) 11 dX11_behind_63 rfl (by decide) ?_
    refine aw_goto 70 dX11_behind_65 (by decide) ?_
    exact aw_weak (c_X11_behind_70 l F t ht 11 (r20.1 t 45) r21.2) (aw_ss aw_s0)
def f_X11_behind_24 (F : Nat) (t : Nat) (μ : aw_M) : Option (Bool × aw_M) :=
  (f_X11_isWord F t 6385252 μ).bind fun r19 =>
  (if r19.1 = true then
  f_X11_behind_42 F t 11 r19.2
  else
  f_X11_behind_42 F t 12 r19.2)
theorem c_X11_behind_24 (l : Launch) (F : Nat) (t : Nat) (ht : (aw_sh t).1 = 16) (μ : aw_M) : AW l k_X11_behind aw_gz 24 [some (.ref t)] [] μ (f_X11_behind_24 F t μ) := by
  unfold f_X11_behind_24
  refine aw_aload_n (n := 25) dX11_behind_24 rfl rfl ?_
  refine aw_aload_n (n := 26) dX11_behind_25 rfl rfl ?_
  refine aw_ldc2 (n := 29) dX11_behind_26 rfl tb_1472 ?_
  refine aw_callVz (n := 32) (as := [.long 6385252]) (st := [.ref t]) (RX11, TX11, 52) 11 dX11_behind_29 rfl rfl (m_X11_isWord l F t ht 6385252 μ) ht (by decide) rfl rfl cw_RX11_201 ⟨Nat.le_of_ble_eq_true rfl, Nat.le_of_ble_eq_true rfl⟩ (fun _ => Nat.le_of_ble_eq_true rfl) (fun r19 => ?_)
  refine aw_ifb_eq (n := 35) 40 dX11_behind_32 (by decide) rfl ?_ ?_
  · refine aw_bipush (n := 42) 12 dX11_behind_40 rfl (by decide) ?_
    exact aw_weak (c_X11_behind_42 l F t ht 12 r19.2) (aw_ss aw_s0)
  · refine aw_bipush (n := 37) 11 dX11_behind_35 rfl (by decide) ?_
    refine aw_goto 42 dX11_behind_37 (by decide) ?_
    exact aw_weak (c_X11_behind_42 l F t ht 11 r19.2) (aw_ss aw_s0)
def f_X11_behind_114 (F : Nat) (t : Nat) (μ : aw_M) : Option (Bool × aw_M) :=
  (f_X11_bad F t 1 μ).bind fun r29 =>
  some (r29.1, r29.2)
theorem c_X11_behind_114 (l : Launch) (F : Nat) (t : Nat) (ht : (aw_sh t).1 = 16) (μ : aw_M) : AW l k_X11_behind aw_gz 114 [some (.ref t)] [] μ (f_X11_behind_114 F t μ) := by
  unfold f_X11_behind_114
  refine aw_aload_n (n := 115) dX11_behind_114 rfl rfl ?_
  refine aw_iconst (n := 116) 1 dX11_behind_115 rfl (by decide) ?_
  refine aw_callVz (n := 119) (as := [.int 1]) (st := []) (RX11, TX11, 52) 11 dX11_behind_116 rfl rfl (m_X11_bad l F t ht 1 μ) ht (by decide) rfl rfl cw_RX11_188 ⟨Nat.le_of_ble_eq_true rfl, Nat.le_of_ble_eq_true rfl⟩ (fun _ => Nat.le_of_ble_eq_true rfl) (fun r29 => ?_)
  exact aw_zreturn (b := r29.1) dX11_behind_119 rfl rfl
def f_X11_behind (F : Nat) (t : Nat) (μ : aw_M) : Option (Bool × aw_M) :=
  (f_X11_nots F t μ).bind fun r17 =>
  (f_X11_isWord F t 6385252 r17).bind fun r18 =>
  (if r18.1 = true then
  f_X11_behind_24 F t r18.2
  else
  (f_X11_isWord F t 28530 r18.2).bind fun r26 =>
  (if r26.1 = true then
  f_X11_behind_24 F t r26.2
  else
  (f_X11_joins F t 12 r26.2).bind fun r27 =>
  (f_X11_isSign F t 41 r27).bind fun r28 =>
  (if r28.1 = true then
  (if (r28.2.1 t 45) = 0 then
  f_X11_behind_114 F t r28.2
  else
  aw_let (aw_wI r28.2 t 45 ((r28.2.1 t 45) - 1)) fun μ30 =>
  aw_let (aw_wI μ30 t 46 ((μ30.1 t 46) - 1)) fun μ31 =>
  (f_X11_next F t μ31).bind fun r32 =>
  some (true, r32))
  else
  f_X11_behind_114 F t r28.2)))
theorem m_X11_behind (l : Launch) (F : Nat) (t : Nat) (ht : (aw_sh t).1 = 16) (μ : aw_M) : AM l yX11_behind cX11_behind 1 (some .boolean) 3 164 aw_gz [.ref t] μ (f_X11_behind F t μ) := by
  refine aw_met [some (.ref t)] (by decide) (fun _ => rfl) (fun _ => Nat.le_of_ble_eq_true rfl) ?_
  show AW l k_X11_behind aw_gz 0 [some (.ref t)] [] μ _
  unfold f_X11_behind
  refine aw_aload_n (n := 1) dX11_behind_0 rfl rfl ?_
  refine aw_callVv (n := 4) (as := []) (st := []) (RX11, TX11, 52) 11 dX11_behind_1 rfl rfl (m_X11_nots l F t ht μ) ht (by decide) rfl rfl cw_RX11_399 ⟨Nat.le_of_ble_eq_true rfl, Nat.le_of_ble_eq_true rfl⟩ (fun _ => Nat.le_of_ble_eq_true rfl) (fun r17 => ?_)
  refine aw_aload_n (n := 5) dX11_behind_4 rfl rfl ?_
  refine aw_ldc2 (n := 8) dX11_behind_5 rfl tb_1472 ?_
  refine aw_callVz (n := 11) (as := [.long 6385252]) (st := []) (RX11, TX11, 52) 11 dX11_behind_8 rfl rfl (m_X11_isWord l F t ht 6385252 r17) ht (by decide) rfl rfl cw_RX11_201 ⟨Nat.le_of_ble_eq_true rfl, Nat.le_of_ble_eq_true rfl⟩ (fun _ => Nat.le_of_ble_eq_true rfl) (fun r18 => ?_)
  refine aw_ifb_ne (n := 14) 24 dX11_behind_11 (by decide) rfl ?_ ?_
  · exact aw_weak (c_X11_behind_24 l F t ht r18.2) (aw_ss aw_s0)
  · refine aw_aload_n (n := 15) dX11_behind_14 rfl rfl ?_
    refine aw_ldc2 (n := 18) dX11_behind_15 rfl tb_1471 ?_
    refine aw_callVz (n := 21) (as := [.long 28530]) (st := []) (RX11, TX11, 52) 11 dX11_behind_18 rfl rfl (m_X11_isWord l F t ht 28530 r18.2) ht (by decide) rfl rfl cw_RX11_201 ⟨Nat.le_of_ble_eq_true rfl, Nat.le_of_ble_eq_true rfl⟩ (fun _ => Nat.le_of_ble_eq_true rfl) (fun r26 => ?_)
    refine aw_ifb_eq (n := 24) 92 dX11_behind_21 (by decide) rfl ?_ ?_
    · refine aw_aload_n (n := 93) dX11_behind_92 rfl rfl ?_
      refine aw_bipush (n := 95) 12 dX11_behind_93 rfl (by decide) ?_
      refine aw_callVv (n := 98) (as := [.int 12]) (st := []) (RX11, TX11, 52) 11 dX11_behind_95 rfl rfl (m_X11_joins l F t ht 12 r26.2) ht (by decide) rfl rfl cw_RX11_402 ⟨Nat.le_of_ble_eq_true rfl, Nat.le_of_ble_eq_true rfl⟩ (fun _ => Nat.le_of_ble_eq_true rfl) (fun r27 => ?_)
      refine aw_aload_n (n := 99) dX11_behind_98 rfl rfl ?_
      refine aw_bipush (n := 101) 41 dX11_behind_99 rfl (by decide) ?_
      refine aw_callVz (n := 104) (as := [.int 41]) (st := []) (RX11, TX11, 52) 11 dX11_behind_101 rfl rfl (m_X11_isSign l F t ht 41 r27) ht (by decide) rfl rfl cw_RX11_185 ⟨Nat.le_of_ble_eq_true rfl, Nat.le_of_ble_eq_true rfl⟩ (fun _ => Nat.le_of_ble_eq_true rfl) (fun r28 => ?_)
      refine aw_ifb_eq (n := 107) 114 dX11_behind_104 (by decide) rfl ?_ ?_
      · exact aw_weak (c_X11_behind_114 l F t ht r28.2) (aw_ss aw_s0)
      · refine aw_aload_n (n := 108) dX11_behind_107 rfl rfl ?_
        refine aw_getI (n := 111) (RX11, TX11, 52) 11 45 dX11_behind_108 rfl ht (by decide) fd_RX11_380 ?_
        refine aw_if_ne (n := 114) 120 dX11_behind_111 (by decide) rfl ?_ ?_
        · refine aw_aload_n (n := 121) dX11_behind_120 rfl rfl ?_
          refine aw_dup (n := 122) dX11_behind_121 rfl (fun _ => rfl) ?_
          refine aw_getI (n := 125) (RX11, TX11, 52) 11 45 dX11_behind_122 rfl ht (by decide) fd_RX11_380 ?_
          refine aw_iconst (n := 126) 1 dX11_behind_125 rfl (by decide) ?_
          refine aw_isub (n := 127) dX11_behind_126 rfl ?_
          refine aw_putI (n := 130) (RX11, TX11, 52) 11 45 dX11_behind_127 rfl ht (by decide) fp_RX11_380 (fun μ30 => ?_)
          refine aw_aload_n (n := 131) dX11_behind_130 rfl rfl ?_
          refine aw_dup (n := 132) dX11_behind_131 rfl (fun _ => rfl) ?_
          refine aw_getI (n := 135) (RX11, TX11, 52) 11 46 dX11_behind_132 rfl ht (by decide) fd_RX11_387 ?_
          refine aw_iconst (n := 136) 1 dX11_behind_135 rfl (by decide) ?_
          refine aw_isub (n := 137) dX11_behind_136 rfl ?_
          refine aw_putI (n := 140) (RX11, TX11, 52) 11 46 dX11_behind_137 rfl ht (by decide) fp_RX11_387 (fun μ31 => ?_)
          refine aw_aload_n (n := 141) dX11_behind_140 rfl rfl ?_
          refine aw_callVv (n := 144) (as := []) (st := []) (RX11, TX11, 52) 11 dX11_behind_141 rfl rfl (m_X11_next l F t ht μ31) ht (by decide) rfl rfl cw_RX11_191 ⟨Nat.le_of_ble_eq_true rfl, Nat.le_of_ble_eq_true rfl⟩ (fun _ => Nat.le_of_ble_eq_true rfl) (fun r32 => ?_)
          refine aw_iconst (n := 145) 1 dX11_behind_144 rfl (by decide) ?_
          exact aw_zreturn (b := true) dX11_behind_145 rfl rfl
        · exact aw_weak (c_X11_behind_114 l F t ht r28.2) (aw_ss aw_s0)
    · exact aw_weak (c_X11_behind_24 l F t ht r26.2) (aw_ss aw_s0)
abbrev k_X11_sentence : aw_K := (RX11, cX11_sentence, 3, (some .int), 4, 187)
def f_X11_sentence_146 (F : Nat) (t : Nat) (k146 : Int32 × aw_M → Option (Int32 × aw_M)) (x2 : Int32) (μ : aw_M) : Option (Int32 × aw_M) :=
  (if (3 * (μ.1 t 43)) ≤ x2 then
  some ((μ.1 t 44), μ)
  else
  aw_g (aw_in x2 135) (aw_g (aw_in (975 + x2) 1155) (aw_let (aw_wI μ (aw_rf t 6) (975 + x2).toNatClampNeg (μ.1 (aw_rf t 8) x2.toNatClampNeg)) fun μ27 =>
  k146 ((x2 + 1), μ27))))
theorem c_X11_sentence_146 (l : Launch) (F : Nat) (t : Nat) (ht : (aw_sh t).1 = 16) : ∀ (N : Nat) (s : Int32 × aw_M), AW l k_X11_sentence aw_gi 146 [some (.ref t), none, some (.int s.1)] [] s.2 (aw_loop (fun k s => f_X11_sentence_146 F t k s.1 s.2) N s) := by
  refine aw_loop_ok (f := fun k s => f_X11_sentence_146 F t k s.1 s.2) (Ls := fun s => [some (.ref t), none, some (.int s.1)]) (ms := fun s => s.2) ?_
  intro k146 hk146 s
  obtain ⟨x2, μ⟩ := s
  show AW l k_X11_sentence aw_gi 146 [some (.ref t), none, some (.int x2)] [] μ (f_X11_sentence_146 F t k146 x2 μ)
  unfold f_X11_sentence_146
  refine aw_iload_n (n := 147) dX11_sentence_146 rfl rfl ?_
  refine aw_iconst (n := 148) 3 dX11_sentence_147 rfl (by decide) ?_
  refine aw_aload_n (n := 149) dX11_sentence_148 rfl rfl ?_
  refine aw_getI (n := 152) (RX11, TX11, 52) 11 43 dX11_sentence_149 rfl ht (by decide) fd_RX11_377 ?_
  refine aw_imul (n := 153) dX11_sentence_152 rfl ?_
  refine aw_icmp_ge (n := 156) 178 dX11_sentence_153 (by decide) rfl ?_ ?_
  · refine aw_aload_n (n := 179) dX11_sentence_178 rfl rfl ?_
    refine aw_getI (n := 182) (RX11, TX11, 52) 11 44 dX11_sentence_179 rfl ht (by decide) fd_RX11_393 ?_
    exact aw_ireturn dX11_sentence_182 rfl rfl
  · refine aw_aload_n (n := 157) dX11_sentence_156 rfl rfl ?_
    refine aw_getR (n := 160) (RX11, TX11, 52) 11 6 dX11_sentence_157 rfl ht (by decide) fd_RX11_33 ?_
    refine aw_sipush (n := 163) 975 dX11_sentence_160 rfl (by decide) ?_
    refine aw_iload_n (n := 164) dX11_sentence_163 rfl rfl ?_
    refine aw_iadd (n := 165) dX11_sentence_164 rfl ?_
    refine aw_aload_n (n := 166) dX11_sentence_165 rfl rfl ?_
    refine aw_getR (n := 169) (RX11, TX11, 52) 11 8 dX11_sentence_166 rfl ht (by decide) fd_RX11_40 ?_
    refine aw_iload_n (n := 170) dX11_sentence_169 rfl rfl ?_
    refine aw_iaload (n := 171) 135 dX11_sentence_170 rfl (sf_11_8 ht) ?_
    refine aw_iastore (n := 172) 1155 dX11_sentence_171 rfl (sf_11_6 ht) (fun μ27 => ?_)
    refine aw_iinc (n := 175) (x2 + 1) [some (.ref t), none, some (.int (x2 + 1))] dX11_sentence_172 rfl rfl (by rfl) rfl (Nat.le_of_ble_eq_true rfl) rfl ?_
    refine aw_goto 146 dX11_sentence_175 (by decide) ?_
    exact aw_weak (hk146 ((x2 + 1), μ27)) (aw_ss (aw_sn (aw_ss aw_s0)))
def f_X11_sentence_132 (F : Nat) (t : Nat) (μ : aw_M) : Option (Int32 × aw_M) :=
  aw_g (aw_in 974 1155) (aw_let (aw_wI μ (aw_rf t 6) (974 : Int32).toNatClampNeg (μ.1 t 43)) fun μ26 =>
  aw_loop (fun k s => f_X11_sentence_146 F t k s.1 s.2) F (0, μ26))
theorem c_X11_sentence_132 (l : Launch) (F : Nat) (t : Nat) (ht : (aw_sh t).1 = 16) (μ : aw_M) : AW l k_X11_sentence aw_gi 132 [some (.ref t), none, none] [] μ (f_X11_sentence_132 F t μ) := by
  unfold f_X11_sentence_132
  refine aw_aload_n (n := 133) dX11_sentence_132 rfl rfl ?_
  refine aw_getR (n := 136) (RX11, TX11, 52) 11 6 dX11_sentence_133 rfl ht (by decide) fd_RX11_33 ?_
  refine aw_sipush (n := 139) 974 dX11_sentence_136 rfl (by decide) ?_
  refine aw_aload_n (n := 140) dX11_sentence_139 rfl rfl ?_
  refine aw_getI (n := 143) (RX11, TX11, 52) 11 43 dX11_sentence_140 rfl ht (by decide) fd_RX11_377 ?_
  refine aw_iastore (n := 144) 1155 dX11_sentence_143 rfl (sf_11_6 ht) (fun μ26 => ?_)
  refine aw_iconst (n := 145) 0 dX11_sentence_144 rfl (by decide) ?_
  refine aw_istore_n (n := 146) [some (.ref t), none, some (.int 0)] dX11_sentence_145 rfl rfl (Nat.le_of_ble_eq_true rfl) (Nat.le_of_ble_eq_true rfl) rfl ?_
  exact aw_weak (c_X11_sentence_146 l F t ht F (0, μ26)) (aw_ss (aw_sn (aw_ss aw_s0)))
def f_X11_sentence_115 (F : Nat) (t : Nat) (μ : aw_M) : Option (Int32 × aw_M) :=
  some (((-1) - (μ.1 t 16)), μ)
theorem c_X11_sentence_115 (l : Launch) (F : Nat) (t : Nat) (ht : (aw_sh t).1 = 16) (μ : aw_M) : AW l k_X11_sentence aw_gi 115 [some (.ref t), none, none] [] μ (f_X11_sentence_115 F t μ) := by
  unfold f_X11_sentence_115
  refine aw_goto 125 dX11_sentence_115 (by decide) ?_
  refine aw_iconst (n := 126) (-1) dX11_sentence_125 rfl (by decide) ?_
  refine aw_aload_n (n := 127) dX11_sentence_126 rfl rfl ?_
  refine aw_getI (n := 130) (RX11, TX11, 52) 11 16 dX11_sentence_127 rfl ht (by decide) fd_RX11_182 ?_
  refine aw_isub (n := 131) dX11_sentence_130 rfl ?_
  exact aw_ireturn dX11_sentence_131 rfl rfl
def f_X11_sentence_101 (F : Nat) (t : Nat) (k48 : Bool × aw_M → Option (Int32 × aw_M)) (x1 : Bool) (μ : aw_M) : Option (Int32 × aw_M) :=
  (if (μ.1 t 47) = 0 then
  (f_X11_operand F t μ).bind fun r28 =>
  (if r28.1 = true then
  k48 (x1, r28.2)
  else
  some (((-1) - (r28.2.1 t 16)), r28.2))
  else
  (f_X11_behind F t μ).bind fun r29 =>
  (if r29.1 = true then
  k48 (x1, r29.2)
  else
  f_X11_sentence_115 F t r29.2))
theorem c_X11_sentence_101 (l : Launch) (F : Nat) (t : Nat) (ht : (aw_sh t).1 = 16) (k48 : Bool × aw_M → Option (Int32 × aw_M)) (hk48 : ∀ s : Bool × aw_M, AW l k_X11_sentence aw_gi 48 [some (.ref t), some (.int (aw_b s.1)), none] [] s.2 (k48 s)) (x1 : Bool) (μ : aw_M) : AW l k_X11_sentence aw_gi 101 [some (.ref t), some (.int (aw_b x1)), none] [] μ (f_X11_sentence_101 F t k48 x1 μ) := by
  unfold f_X11_sentence_101
  refine aw_aload_n (n := 102) dX11_sentence_101 rfl rfl ?_
  refine aw_getI (n := 105) (RX11, TX11, 52) 11 47 dX11_sentence_102 rfl ht (by decide) fd_RX11_396 ?_
  refine aw_if_eq (n := 108) 118 dX11_sentence_105 (by decide) rfl ?_ ?_
  · refine aw_aload_n (n := 119) dX11_sentence_118 rfl rfl ?_
    refine aw_callVz (n := 122) (as := []) (st := []) (RX11, TX11, 52) 11 dX11_sentence_119 rfl rfl (m_X11_operand l F t ht μ) ht (by decide) rfl rfl cw_RX11_408 ⟨Nat.le_of_ble_eq_true rfl, Nat.le_of_ble_eq_true rfl⟩ (fun _ => Nat.le_of_ble_eq_true rfl) (fun r28 => ?_)
    refine aw_ifb_ne (n := 125) 48 dX11_sentence_122 (by decide) rfl ?_ ?_
    · exact aw_weak (hk48 (x1, r28.2)) (aw_ss (aw_ss (aw_sn aw_s0)))
    · refine aw_iconst (n := 126) (-1) dX11_sentence_125 rfl (by decide) ?_
      refine aw_aload_n (n := 127) dX11_sentence_126 rfl rfl ?_
      refine aw_getI (n := 130) (RX11, TX11, 52) 11 16 dX11_sentence_127 rfl ht (by decide) fd_RX11_182 ?_
      refine aw_isub (n := 131) dX11_sentence_130 rfl ?_
      exact aw_ireturn dX11_sentence_131 rfl rfl
  · refine aw_aload_n (n := 109) dX11_sentence_108 rfl rfl ?_
    refine aw_callVz (n := 112) (as := []) (st := []) (RX11, TX11, 52) 11 dX11_sentence_109 rfl rfl (m_X11_behind l F t ht μ) ht (by decide) rfl rfl cw_RX11_405 ⟨Nat.le_of_ble_eq_true rfl, Nat.le_of_ble_eq_true rfl⟩ (fun _ => Nat.le_of_ble_eq_true rfl) (fun r29 => ?_)
    refine aw_ifb_ne (n := 115) 48 dX11_sentence_112 (by decide) rfl ?_ ?_
    · exact aw_weak (hk48 (x1, r29.2)) (aw_ss (aw_ss (aw_sn aw_s0)))
    · exact aw_weak (c_X11_sentence_115 l F t ht r29.2) (aw_ss (aw_sn (aw_sn aw_s0)))
def f_X11_sentence_83 (F : Nat) (t : Nat) (μ : aw_M) : Option (Int32 × aw_M) :=
  (f_X11_bad F t 1 μ).bind fun r32 =>
  some (((-1) - (r32.2.1 t 16)), r32.2)
theorem c_X11_sentence_83 (l : Launch) (F : Nat) (t : Nat) (ht : (aw_sh t).1 = 16) (μ : aw_M) : AW l k_X11_sentence aw_gi 83 [some (.ref t), none, none] [] μ (f_X11_sentence_83 F t μ) := by
  unfold f_X11_sentence_83
  refine aw_aload_n (n := 84) dX11_sentence_83 rfl rfl ?_
  refine aw_iconst (n := 85) 1 dX11_sentence_84 rfl (by decide) ?_
  refine aw_callVz (n := 88) (as := [.int 1]) (st := []) (RX11, TX11, 52) 11 dX11_sentence_85 rfl rfl (m_X11_bad l F t ht 1 μ) ht (by decide) rfl rfl cw_RX11_188 ⟨Nat.le_of_ble_eq_true rfl, Nat.le_of_ble_eq_true rfl⟩ (fun _ => Nat.le_of_ble_eq_true rfl) (fun r32 => ?_)
  refine aw_pop (n := 89) dX11_sentence_88 rfl (fun _ => rfl) ?_
  refine aw_iconst (n := 90) (-1) dX11_sentence_89 rfl (by decide) ?_
  refine aw_aload_n (n := 91) dX11_sentence_90 rfl rfl ?_
  refine aw_getI (n := 94) (RX11, TX11, 52) 11 16 dX11_sentence_91 rfl ht (by decide) fd_RX11_182 ?_
  refine aw_isub (n := 95) dX11_sentence_94 rfl ?_
  exact aw_ireturn dX11_sentence_95 rfl rfl
def f_X11_sentence_48 (F : Nat) (t : Nat) (k48 : Bool × aw_M → Option (Int32 × aw_M)) (x1 : Bool) (μ : aw_M) : Option (Int32 × aw_M) :=
  (if x1 = true then
  (if (μ.1 t 47) = 0 then
  f_X11_sentence_101 F t k48 x1 μ
  else
  (if (μ.1 t 11) = 0 then
  (f_X11_nots F t μ).bind fun r30 =>
  (f_X11_joins F t 12 r30).bind fun r31 =>
  (if (r31.1 t 45) ≤ 0 then
  k48 (false, r31)
  else
  f_X11_sentence_83 F t r31)
  else
  f_X11_sentence_101 F t k48 x1 μ))
  else
  f_X11_sentence_132 F t μ)
theorem c_X11_sentence_48 (l : Launch) (F : Nat) (t : Nat) (ht : (aw_sh t).1 = 16) : ∀ (N : Nat) (s : Bool × aw_M), AW l k_X11_sentence aw_gi 48 [some (.ref t), some (.int (aw_b s.1)), none] [] s.2 (aw_loop (fun k s => f_X11_sentence_48 F t k s.1 s.2) N s) := by
  refine aw_loop_ok (f := fun k s => f_X11_sentence_48 F t k s.1 s.2) (Ls := fun s => [some (.ref t), some (.int (aw_b s.1)), none]) (ms := fun s => s.2) ?_
  intro k48 hk48 s
  obtain ⟨x1, μ⟩ := s
  show AW l k_X11_sentence aw_gi 48 [some (.ref t), some (.int (aw_b x1)), none] [] μ (f_X11_sentence_48 F t k48 x1 μ)
  unfold f_X11_sentence_48
  refine aw_iload_n (n := 49) dX11_sentence_48 rfl rfl ?_
  refine aw_ifb_eq (n := 52) 132 dX11_sentence_49 (by decide) rfl ?_ ?_
  · exact aw_weak (c_X11_sentence_132 l F t ht μ) (aw_ss (aw_sn (aw_sn aw_s0)))
  · refine aw_aload_n (n := 53) dX11_sentence_52 rfl rfl ?_
    refine aw_getI (n := 56) (RX11, TX11, 52) 11 47 dX11_sentence_53 rfl ht (by decide) fd_RX11_396 ?_
    refine aw_if_eq (n := 59) 101 dX11_sentence_56 (by decide) rfl ?_ ?_
    · exact aw_weak (c_X11_sentence_101 l F t ht k48 hk48 x1 μ) (aw_ss (aw_ss (aw_sn aw_s0)))
    · refine aw_aload_n (n := 60) dX11_sentence_59 rfl rfl ?_
      refine aw_getI (n := 63) (RX11, TX11, 52) 11 11 dX11_sentence_60 rfl ht (by decide) fd_RX11_162 ?_
      refine aw_if_ne (n := 66) 101 dX11_sentence_63 (by decide) rfl ?_ ?_
      · exact aw_weak (c_X11_sentence_101 l F t ht k48 hk48 x1 μ) (aw_ss (aw_ss (aw_sn aw_s0)))
      · refine aw_aload_n (n := 67) dX11_sentence_66 rfl rfl ?_
        refine aw_callVv (n := 70) (as := []) (st := []) (RX11, TX11, 52) 11 dX11_sentence_67 rfl rfl (m_X11_nots l F t ht μ) ht (by decide) rfl rfl cw_RX11_399 ⟨Nat.le_of_ble_eq_true rfl, Nat.le_of_ble_eq_true rfl⟩ (fun _ => Nat.le_of_ble_eq_true rfl) (fun r30 => ?_)
        refine aw_aload_n (n := 71) dX11_sentence_70 rfl rfl ?_
        refine aw_bipush (n := 73) 12 dX11_sentence_71 rfl (by decide) ?_
        refine aw_callVv (n := 76) (as := [.int 12]) (st := []) (RX11, TX11, 52) 11 dX11_sentence_73 rfl rfl (m_X11_joins l F t ht 12 r30) ht (by decide) rfl rfl cw_RX11_402 ⟨Nat.le_of_ble_eq_true rfl, Nat.le_of_ble_eq_true rfl⟩ (fun _ => Nat.le_of_ble_eq_true rfl) (fun r31 => ?_)
        refine aw_aload_n (n := 77) dX11_sentence_76 rfl rfl ?_
        refine aw_getI (n := 80) (RX11, TX11, 52) 11 45 dX11_sentence_77 rfl ht (by decide) fd_RX11_380 ?_
        refine aw_if_le (n := 83) 96 dX11_sentence_80 (by decide) rfl ?_ ?_
        · refine aw_iconst (n := 97) 0 dX11_sentence_96 rfl (by decide) ?_
          refine aw_istore_n (n := 98) [some (.ref t), some (.int 0), none] dX11_sentence_97 rfl rfl (Nat.le_of_ble_eq_true rfl) (Nat.le_of_ble_eq_true rfl) rfl ?_
          refine aw_goto 48 dX11_sentence_98 (by decide) ?_
          exact aw_weak (hk48 (false, r31)) (aw_ss (aw_ss (aw_sn aw_s0)))
        · exact aw_weak (c_X11_sentence_83 l F t ht r31) (aw_ss (aw_sn (aw_sn aw_s0)))
def f_X11_sentence (F : Nat) (t : Nat) (μ : aw_M) : Option (Int32 × aw_M) :=
  aw_let (aw_wI μ t 0 0) fun μ17 =>
  (f_X11_taken F t 200 μ17).bind fun r18 =>
  aw_let (aw_wI r18 t 15 0) fun μ19 =>
  aw_let (aw_wI μ19 t 43 0) fun μ20 =>
  aw_let (aw_wI μ20 t 44 0) fun μ21 =>
  aw_let (aw_wI μ21 t 45 0) fun μ22 =>
  aw_let (aw_wI μ22 t 46 1) fun μ23 =>
  aw_let (aw_wI μ23 t 47 0) fun μ24 =>
  (f_X11_next F t μ24).bind fun r25 =>
  aw_loop (fun k s => f_X11_sentence_48 F t k s.1 s.2) F (true, r25)
theorem m_X11_sentence (l : Launch) (F : Nat) (t : Nat) (ht : (aw_sh t).1 = 16) (μ : aw_M) : AM l yX11_sentence cX11_sentence 3 (some .int) 4 187 aw_gi [.ref t] μ (f_X11_sentence F t μ) := by
  refine aw_met [some (.ref t), none, none] (by decide) (fun _ => rfl) (fun _ => Nat.le_of_ble_eq_true rfl) ?_
  show AW l k_X11_sentence aw_gi 0 [some (.ref t), none, none] [] μ _
  unfold f_X11_sentence
  refine aw_aload_n (n := 1) dX11_sentence_0 rfl rfl ?_
  refine aw_iconst (n := 2) 0 dX11_sentence_1 rfl (by decide) ?_
  refine aw_putI (n := 5) (RX11, TX11, 52) 11 0 dX11_sentence_2 rfl ht (by decide) fp_RX11_1 (fun μ17 => ?_)
  refine aw_aload_n (n := 6) dX11_sentence_5 rfl rfl ?_
  refine aw_sipush (n := 9) 200 dX11_sentence_6 rfl (by decide) ?_
  refine aw_callVv (n := 12) (as := [.int 200]) (st := []) (RX11, TX11, 52) 11 dX11_sentence_9 rfl rfl (m_X11_taken l F t ht 200 μ17) ht (by decide) rfl rfl cw_RX11_236 ⟨Nat.le_of_ble_eq_true rfl, Nat.le_of_ble_eq_true rfl⟩ (fun _ => Nat.le_of_ble_eq_true rfl) (fun r18 => ?_)
  refine aw_aload_n (n := 13) dX11_sentence_12 rfl rfl ?_
  refine aw_iconst (n := 14) 0 dX11_sentence_13 rfl (by decide) ?_
  refine aw_putI (n := 17) (RX11, TX11, 52) 11 15 dX11_sentence_14 rfl ht (by decide) fp_RX11_179 (fun μ19 => ?_)
  refine aw_aload_n (n := 18) dX11_sentence_17 rfl rfl ?_
  refine aw_iconst (n := 19) 0 dX11_sentence_18 rfl (by decide) ?_
  refine aw_putI (n := 22) (RX11, TX11, 52) 11 43 dX11_sentence_19 rfl ht (by decide) fp_RX11_377 (fun μ20 => ?_)
  refine aw_aload_n (n := 23) dX11_sentence_22 rfl rfl ?_
  refine aw_iconst (n := 24) 0 dX11_sentence_23 rfl (by decide) ?_
  refine aw_putI (n := 27) (RX11, TX11, 52) 11 44 dX11_sentence_24 rfl ht (by decide) fp_RX11_393 (fun μ21 => ?_)
  refine aw_aload_n (n := 28) dX11_sentence_27 rfl rfl ?_
  refine aw_iconst (n := 29) 0 dX11_sentence_28 rfl (by decide) ?_
  refine aw_putI (n := 32) (RX11, TX11, 52) 11 45 dX11_sentence_29 rfl ht (by decide) fp_RX11_380 (fun μ22 => ?_)
  refine aw_aload_n (n := 33) dX11_sentence_32 rfl rfl ?_
  refine aw_iconst (n := 34) 1 dX11_sentence_33 rfl (by decide) ?_
  refine aw_putI (n := 37) (RX11, TX11, 52) 11 46 dX11_sentence_34 rfl ht (by decide) fp_RX11_387 (fun μ23 => ?_)
  refine aw_aload_n (n := 38) dX11_sentence_37 rfl rfl ?_
  refine aw_iconst (n := 39) 0 dX11_sentence_38 rfl (by decide) ?_
  refine aw_putZ (n := 42) (RX11, TX11, 52) 11 47 dX11_sentence_39 rfl ht (by decide) fp_RX11_396 (Or.inl rfl) (fun μ24 => ?_)
  refine aw_aload_n (n := 43) dX11_sentence_42 rfl rfl ?_
  refine aw_callVv (n := 46) (as := []) (st := []) (RX11, TX11, 52) 11 dX11_sentence_43 rfl rfl (m_X11_next l F t ht μ24) ht (by decide) rfl rfl cw_RX11_191 ⟨Nat.le_of_ble_eq_true rfl, Nat.le_of_ble_eq_true rfl⟩ (fun _ => Nat.le_of_ble_eq_true rfl) (fun r25 => ?_)
  refine aw_iconst (n := 47) 1 dX11_sentence_46 rfl (by decide) ?_
  refine aw_istore_n (n := 48) [some (.ref t), some (.int 1), none] dX11_sentence_47 rfl rfl (Nat.le_of_ble_eq_true rfl) (Nat.le_of_ble_eq_true rfl) rfl ?_
  exact aw_weak (c_X11_sentence_48 l F t ht F (true, r25)) (aw_ss (aw_ss (aw_sn aw_s0)))
abbrev k_X11_isLeaf : aw_K := (RX11, cX11_isLeaf, 6, (some .boolean), 4, 189)
def f_X11_isLeaf_190 (F : Nat) (t : Nat) (x3 : Int32) (x4 : Int32) (z0 : Int32) (μ : aw_M) : Option (Bool × aw_M) :=
  (if x3 = 60 then
  (if x4 ≤ z0 then
  some (false, μ)
  else
  some (true, μ))
  else
  (if x3 = 61 then
  (if z0 = x4 then
  some (true, μ)
  else
  some (false, μ))
  else
  (if z0 ≤ x4 then
  some (false, μ)
  else
  some (true, μ))))
theorem c_X11_isLeaf_190 (l : Launch) (F : Nat) (t : Nat) (ht : (aw_sh t).1 = 16) (x3 : Int32) (x4 : Int32) (z0 : Int32) (μ : aw_M) : AW l k_X11_isLeaf aw_gz 190 [none, none, none, some (.int x3), some (.int x4), none] [.int z0] μ (f_X11_isLeaf_190 F t x3 x4 z0 μ) := by
  unfold f_X11_isLeaf_190
  refine aw_istore (n := 192) [none, none, none, some (.int x3), some (.int x4), some (.int z0)] dX11_isLeaf_190 rfl rfl (Nat.le_of_ble_eq_true rfl) (Nat.le_of_ble_eq_true rfl) rfl ?_
  refine aw_iload_n (n := 193) dX11_isLeaf_192 rfl rfl ?_
  refine aw_bipush (n := 195) 60 dX11_isLeaf_193 rfl (by decide) ?_
  refine aw_icmp_ne (n := 198) 213 dX11_isLeaf_195 (by decide) rfl ?_ ?_
  · refine aw_iload_n (n := 214) dX11_isLeaf_213 rfl rfl ?_
    refine aw_bipush (n := 216) 61 dX11_isLeaf_214 rfl (by decide) ?_
    refine aw_icmp_ne (n := 219) 234 dX11_isLeaf_216 (by decide) rfl ?_ ?_
    · refine aw_iload (n := 236) dX11_isLeaf_234 rfl rfl ?_
      refine aw_iload (n := 238) dX11_isLeaf_236 rfl rfl ?_
      refine aw_icmp_le (n := 241) 245 dX11_isLeaf_238 (by decide) rfl ?_ ?_
      · refine aw_iconst (n := 246) 0 dX11_isLeaf_245 rfl (by decide) ?_
        exact aw_zreturn (b := false) dX11_isLeaf_246 rfl rfl
      · refine aw_iconst (n := 242) 1 dX11_isLeaf_241 rfl (by decide) ?_
        refine aw_goto 246 dX11_isLeaf_242 (by decide) ?_
        exact aw_zreturn (b := true) dX11_isLeaf_246 rfl rfl
    · refine aw_iload (n := 221) dX11_isLeaf_219 rfl rfl ?_
      refine aw_iload (n := 223) dX11_isLeaf_221 rfl rfl ?_
      refine aw_icmp_ne (n := 226) 230 dX11_isLeaf_223 (by decide) rfl ?_ ?_
      · refine aw_iconst (n := 231) 0 dX11_isLeaf_230 rfl (by decide) ?_
        refine aw_goto 246 dX11_isLeaf_231 (by decide) ?_
        exact aw_zreturn (b := false) dX11_isLeaf_246 rfl rfl
      · refine aw_iconst (n := 227) 1 dX11_isLeaf_226 rfl (by decide) ?_
        refine aw_goto 246 dX11_isLeaf_227 (by decide) ?_
        exact aw_zreturn (b := true) dX11_isLeaf_246 rfl rfl
  · refine aw_iload (n := 200) dX11_isLeaf_198 rfl rfl ?_
    refine aw_iload (n := 202) dX11_isLeaf_200 rfl rfl ?_
    refine aw_icmp_ge (n := 205) 209 dX11_isLeaf_202 (by decide) rfl ?_ ?_
    · refine aw_iconst (n := 210) 0 dX11_isLeaf_209 rfl (by decide) ?_
      refine aw_goto 246 dX11_isLeaf_210 (by decide) ?_
      exact aw_zreturn (b := false) dX11_isLeaf_246 rfl rfl
    · refine aw_iconst (n := 206) 1 dX11_isLeaf_205 rfl (by decide) ?_
      refine aw_goto 246 dX11_isLeaf_206 (by decide) ?_
      exact aw_zreturn (b := true) dX11_isLeaf_246 rfl rfl
def f_X11_isLeaf_58 (F : Nat) (t : Nat) (x1 : Int32) (x4 : Int32) (z0 : Int32) (μ : aw_M) : Option (Bool × aw_M) :=
  (if z0 < 0 then
  some (false, μ)
  else
  (if x1 = x4 then
  some (false, μ)
  else
  aw_g (aw_in 456 1155) ((f_X11_aimed F t x4 (μ.1 (aw_rf t 6) (456 : Int32).toNatClampNeg) μ).bind fun r5 =>
  (if z0 = r5.1 then
  some (true, r5.2)
  else
  some (false, r5.2)))))
theorem c_X11_isLeaf_58 (l : Launch) (F : Nat) (t : Nat) (ht : (aw_sh t).1 = 16) (x1 : Int32) (x4 : Int32) (z0 : Int32) (μ : aw_M) : AW l k_X11_isLeaf aw_gz 58 [some (.ref t), some (.int x1), none, none, some (.int x4), none] [.int z0] μ (f_X11_isLeaf_58 F t x1 x4 z0 μ) := by
  unfold f_X11_isLeaf_58
  refine aw_istore (n := 60) [some (.ref t), some (.int x1), none, none, some (.int x4), some (.int z0)] dX11_isLeaf_58 rfl rfl (Nat.le_of_ble_eq_true rfl) (Nat.le_of_ble_eq_true rfl) rfl ?_
  refine aw_iload (n := 62) dX11_isLeaf_60 rfl rfl ?_
  refine aw_if_lt (n := 65) 94 dX11_isLeaf_62 (by decide) rfl ?_ ?_
  · refine aw_iconst (n := 95) 0 dX11_isLeaf_94 rfl (by decide) ?_
    exact aw_zreturn (b := false) dX11_isLeaf_95 rfl rfl
  · refine aw_iload_n (n := 66) dX11_isLeaf_65 rfl rfl ?_
    refine aw_iload (n := 68) dX11_isLeaf_66 rfl rfl ?_
    refine aw_icmp_eq (n := 71) 94 dX11_isLeaf_68 (by decide) rfl ?_ ?_
    · refine aw_iconst (n := 95) 0 dX11_isLeaf_94 rfl (by decide) ?_
      exact aw_zreturn (b := false) dX11_isLeaf_95 rfl rfl
    · refine aw_iload (n := 73) dX11_isLeaf_71 rfl rfl ?_
      refine aw_aload_n (n := 74) dX11_isLeaf_73 rfl rfl ?_
      refine aw_iload (n := 76) dX11_isLeaf_74 rfl rfl ?_
      refine aw_aload_n (n := 77) dX11_isLeaf_76 rfl rfl ?_
      refine aw_getR (n := 80) (RX11, TX11, 52) 11 6 dX11_isLeaf_77 rfl ht (by decide) fd_RX11_33 ?_
      refine aw_sipush (n := 83) 456 dX11_isLeaf_80 rfl (by decide) ?_
      refine aw_iaload (n := 84) 1155 dX11_isLeaf_83 rfl (sf_11_6 ht) ?_
      refine aw_callVi (n := 87) (as := [.int x4, .int (μ.1 (aw_rf t 6) (456 : Int32).toNatClampNeg)]) (st := [.int z0]) (RX11, TX11, 52) 11 dX11_isLeaf_84 rfl rfl (m_X11_aimed l F t ht x4 (μ.1 (aw_rf t 6) (456 : Int32).toNatClampNeg) μ) ht (by decide) rfl rfl cw_RX11_300 ⟨Nat.le_of_ble_eq_true rfl, Nat.le_of_ble_eq_true rfl⟩ (fun _ => Nat.le_of_ble_eq_true rfl) (fun r5 => ?_)
      refine aw_icmp_ne (n := 90) 94 dX11_isLeaf_87 (by decide) rfl ?_ ?_
      · refine aw_iconst (n := 95) 0 dX11_isLeaf_94 rfl (by decide) ?_
        exact aw_zreturn (b := false) dX11_isLeaf_95 rfl rfl
      · refine aw_iconst (n := 91) 1 dX11_isLeaf_90 rfl (by decide) ?_
        refine aw_goto 95 dX11_isLeaf_91 (by decide) ?_
        exact aw_zreturn (b := true) dX11_isLeaf_95 rfl rfl
def f_X11_isLeaf (F : Nat) (t : Nat) (a0 : Int32) (a1 : Int32) (a2 : Int32) (a3 : Int32) (μ : aw_M) : Option (Bool × aw_M) :=
  (if a1 = 0 then
  aw_g (aw_in (445 + a0) 1155) ((if (μ.1 (aw_rf t 6) (445 + a0).toNatClampNeg) = 1 then
  some (true, μ)
  else
  some (false, μ)))
  else
  (if a1 = 1 then
  aw_g (aw_in 455 1155) ((if 3 ≤ (μ.1 (aw_rf t 6) (455 : Int32).toNatClampNeg) then
  f_X11_isLeaf_58 F t a0 a3 (-1) μ
  else
  aw_g (aw_in 456 1155) ((f_X11_aimed F t a0 (μ.1 (aw_rf t 6) (456 : Int32).toNatClampNeg) μ).bind fun r6 =>
  f_X11_isLeaf_58 F t a0 a3 r6.1 r6.2)))
  else
  (if a1 = 2 then
  aw_g (aw_in (458 + a0) 1155) (f_X11_isLeaf_190 F t a2 a3 (μ.1 (aw_rf t 6) (458 + a0).toNatClampNeg) μ)
  else
  (if a1 = 3 then
  aw_g (aw_in (467 + a0) 1155) (f_X11_isLeaf_190 F t a2 a3 (μ.1 (aw_rf t 6) (467 + a0).toNatClampNeg) μ)
  else
  (if a1 = 4 then
  aw_g (aw_in (476 + a0) 1155) (f_X11_isLeaf_190 F t a2 a3 (μ.1 (aw_rf t 6) (476 + a0).toNatClampNeg) μ)
  else
  (if a1 = 5 then
  aw_g (aw_in (29 + a0) 1155) (f_X11_isLeaf_190 F t a2 a3 (μ.1 (aw_rf t 6) (29 + a0).toNatClampNeg) μ)
  else
  (if a1 = 6 then
  aw_g (aw_in (11 + a0) 1155) ((f_X11_judges F t (μ.1 (aw_rf t 6) (11 + a0).toNatClampNeg) μ).bind fun r4 =>
  f_X11_isLeaf_190 F t a2 a3 r4.1 r4.2)
  else
  f_X11_isLeaf_190 F t a2 a3 a0 μ)))))))
theorem m_X11_isLeaf (l : Launch) (F : Nat) (t : Nat) (ht : (aw_sh t).1 = 16) (a0 : Int32) (a1 : Int32) (a2 : Int32) (a3 : Int32) (μ : aw_M) : AM l yX11_isLeaf cX11_isLeaf 6 (some .boolean) 4 189 aw_gz [.ref t, .int a0, .int a1, .int a2, .int a3] μ (f_X11_isLeaf F t a0 a1 a2 a3 μ) := by
  refine aw_met [some (.ref t), some (.int a0), some (.int a1), some (.int a2), some (.int a3), none] (by decide) (fun _ => rfl) (fun _ => Nat.le_of_ble_eq_true rfl) ?_
  show AW l k_X11_isLeaf aw_gz 0 [some (.ref t), some (.int a0), some (.int a1), some (.int a2), some (.int a3), none] [] μ _
  unfold f_X11_isLeaf
  refine aw_iload_n (n := 1) dX11_isLeaf_0 rfl rfl ?_
  refine aw_if_ne (n := 4) 24 dX11_isLeaf_1 (by decide) rfl ?_ ?_
  · refine aw_iload_n (n := 25) dX11_isLeaf_24 rfl rfl ?_
    refine aw_iconst (n := 26) 1 dX11_isLeaf_25 rfl (by decide) ?_
    refine aw_icmp_ne (n := 29) 96 dX11_isLeaf_26 (by decide) rfl ?_ ?_
    · refine aw_iload_n (n := 97) dX11_isLeaf_96 rfl rfl ?_
      refine aw_iconst (n := 98) 2 dX11_isLeaf_97 rfl (by decide) ?_
      refine aw_icmp_ne (n := 101) 114 dX11_isLeaf_98 (by decide) rfl ?_ ?_
      · refine aw_iload_n (n := 115) dX11_isLeaf_114 rfl rfl ?_
        refine aw_iconst (n := 116) 3 dX11_isLeaf_115 rfl (by decide) ?_
        refine aw_icmp_ne (n := 119) 132 dX11_isLeaf_116 (by decide) rfl ?_ ?_
        · refine aw_iload_n (n := 133) dX11_isLeaf_132 rfl rfl ?_
          refine aw_iconst (n := 134) 4 dX11_isLeaf_133 rfl (by decide) ?_
          refine aw_icmp_ne (n := 137) 150 dX11_isLeaf_134 (by decide) rfl ?_ ?_
          · refine aw_iload_n (n := 151) dX11_isLeaf_150 rfl rfl ?_
            refine aw_iconst (n := 152) 5 dX11_isLeaf_151 rfl (by decide) ?_
            refine aw_icmp_ne (n := 155) 167 dX11_isLeaf_152 (by decide) rfl ?_ ?_
            · refine aw_iload_n (n := 168) dX11_isLeaf_167 rfl rfl ?_
              refine aw_bipush (n := 170) 6 dX11_isLeaf_168 rfl (by decide) ?_
              refine aw_icmp_ne (n := 173) 189 dX11_isLeaf_170 (by decide) rfl ?_ ?_
              · refine aw_iload_n (n := 190) dX11_isLeaf_189 rfl rfl ?_
                exact aw_weak (c_X11_isLeaf_190 l F t ht a2 a3 a0 μ) (aw_sn (aw_sn (aw_sn (aw_ss (aw_ss (aw_sn aw_s0))))))
              · refine aw_aload_n (n := 174) dX11_isLeaf_173 rfl rfl ?_
                refine aw_aload_n (n := 175) dX11_isLeaf_174 rfl rfl ?_
                refine aw_getR (n := 178) (RX11, TX11, 52) 11 6 dX11_isLeaf_175 rfl ht (by decide) fd_RX11_33 ?_
                refine aw_bipush (n := 180) 11 dX11_isLeaf_178 rfl (by decide) ?_
                refine aw_iload_n (n := 181) dX11_isLeaf_180 rfl rfl ?_
                refine aw_iadd (n := 182) dX11_isLeaf_181 rfl ?_
                refine aw_iaload (n := 183) 1155 dX11_isLeaf_182 rfl (sf_11_6 ht) ?_
                refine aw_callVi (n := 186) (as := [.int (μ.1 (aw_rf t 6) (11 + a0).toNatClampNeg)]) (st := []) (RX11, TX11, 52) 11 dX11_isLeaf_183 rfl rfl (m_X11_judges l F t ht (μ.1 (aw_rf t 6) (11 + a0).toNatClampNeg) μ) ht (by decide) rfl rfl cw_RX11_297 ⟨Nat.le_of_ble_eq_true rfl, Nat.le_of_ble_eq_true rfl⟩ (fun _ => Nat.le_of_ble_eq_true rfl) (fun r4 => ?_)
                refine aw_goto 190 dX11_isLeaf_186 (by decide) ?_
                exact aw_weak (c_X11_isLeaf_190 l F t ht a2 a3 r4.1 r4.2) (aw_sn (aw_sn (aw_sn (aw_ss (aw_ss (aw_sn aw_s0))))))
            · refine aw_aload_n (n := 156) dX11_isLeaf_155 rfl rfl ?_
              refine aw_getR (n := 159) (RX11, TX11, 52) 11 6 dX11_isLeaf_156 rfl ht (by decide) fd_RX11_33 ?_
              refine aw_bipush (n := 161) 29 dX11_isLeaf_159 rfl (by decide) ?_
              refine aw_iload_n (n := 162) dX11_isLeaf_161 rfl rfl ?_
              refine aw_iadd (n := 163) dX11_isLeaf_162 rfl ?_
              refine aw_iaload (n := 164) 1155 dX11_isLeaf_163 rfl (sf_11_6 ht) ?_
              refine aw_goto 190 dX11_isLeaf_164 (by decide) ?_
              exact aw_weak (c_X11_isLeaf_190 l F t ht a2 a3 (μ.1 (aw_rf t 6) (29 + a0).toNatClampNeg) μ) (aw_sn (aw_sn (aw_sn (aw_ss (aw_ss (aw_sn aw_s0))))))
          · refine aw_aload_n (n := 138) dX11_isLeaf_137 rfl rfl ?_
            refine aw_getR (n := 141) (RX11, TX11, 52) 11 6 dX11_isLeaf_138 rfl ht (by decide) fd_RX11_33 ?_
            refine aw_sipush (n := 144) 476 dX11_isLeaf_141 rfl (by decide) ?_
            refine aw_iload_n (n := 145) dX11_isLeaf_144 rfl rfl ?_
            refine aw_iadd (n := 146) dX11_isLeaf_145 rfl ?_
            refine aw_iaload (n := 147) 1155 dX11_isLeaf_146 rfl (sf_11_6 ht) ?_
            refine aw_goto 190 dX11_isLeaf_147 (by decide) ?_
            exact aw_weak (c_X11_isLeaf_190 l F t ht a2 a3 (μ.1 (aw_rf t 6) (476 + a0).toNatClampNeg) μ) (aw_sn (aw_sn (aw_sn (aw_ss (aw_ss (aw_sn aw_s0))))))
        · refine aw_aload_n (n := 120) dX11_isLeaf_119 rfl rfl ?_
          refine aw_getR (n := 123) (RX11, TX11, 52) 11 6 dX11_isLeaf_120 rfl ht (by decide) fd_RX11_33 ?_
          refine aw_sipush (n := 126) 467 dX11_isLeaf_123 rfl (by decide) ?_
          refine aw_iload_n (n := 127) dX11_isLeaf_126 rfl rfl ?_
          refine aw_iadd (n := 128) dX11_isLeaf_127 rfl ?_
          refine aw_iaload (n := 129) 1155 dX11_isLeaf_128 rfl (sf_11_6 ht) ?_
          refine aw_goto 190 dX11_isLeaf_129 (by decide) ?_
          exact aw_weak (c_X11_isLeaf_190 l F t ht a2 a3 (μ.1 (aw_rf t 6) (467 + a0).toNatClampNeg) μ) (aw_sn (aw_sn (aw_sn (aw_ss (aw_ss (aw_sn aw_s0))))))
      · refine aw_aload_n (n := 102) dX11_isLeaf_101 rfl rfl ?_
        refine aw_getR (n := 105) (RX11, TX11, 52) 11 6 dX11_isLeaf_102 rfl ht (by decide) fd_RX11_33 ?_
        refine aw_sipush (n := 108) 458 dX11_isLeaf_105 rfl (by decide) ?_
        refine aw_iload_n (n := 109) dX11_isLeaf_108 rfl rfl ?_
        refine aw_iadd (n := 110) dX11_isLeaf_109 rfl ?_
        refine aw_iaload (n := 111) 1155 dX11_isLeaf_110 rfl (sf_11_6 ht) ?_
        refine aw_goto 190 dX11_isLeaf_111 (by decide) ?_
        exact aw_weak (c_X11_isLeaf_190 l F t ht a2 a3 (μ.1 (aw_rf t 6) (458 + a0).toNatClampNeg) μ) (aw_sn (aw_sn (aw_sn (aw_ss (aw_ss (aw_sn aw_s0))))))
    · refine aw_aload_n (n := 30) dX11_isLeaf_29 rfl rfl ?_
      refine aw_getR (n := 33) (RX11, TX11, 52) 11 6 dX11_isLeaf_30 rfl ht (by decide) fd_RX11_33 ?_
      refine aw_sipush (n := 36) 455 dX11_isLeaf_33 rfl (by decide) ?_
      refine aw_iaload (n := 37) 1155 dX11_isLeaf_36 rfl (sf_11_6 ht) ?_
      refine aw_iconst (n := 38) 3 dX11_isLeaf_37 rfl (by decide) ?_
      refine aw_icmp_ge (n := 41) 57 dX11_isLeaf_38 (by decide) rfl ?_ ?_
      · refine aw_iconst (n := 58) (-1) dX11_isLeaf_57 rfl (by decide) ?_
        exact aw_weak (c_X11_isLeaf_58 l F t ht a0 a3 (-1) μ) (aw_ss (aw_ss (aw_sn (aw_sn (aw_ss (aw_sn aw_s0))))))
      · refine aw_aload_n (n := 42) dX11_isLeaf_41 rfl rfl ?_
        refine aw_iload_n (n := 43) dX11_isLeaf_42 rfl rfl ?_
        refine aw_aload_n (n := 44) dX11_isLeaf_43 rfl rfl ?_
        refine aw_getR (n := 47) (RX11, TX11, 52) 11 6 dX11_isLeaf_44 rfl ht (by decide) fd_RX11_33 ?_
        refine aw_sipush (n := 50) 456 dX11_isLeaf_47 rfl (by decide) ?_
        refine aw_iaload (n := 51) 1155 dX11_isLeaf_50 rfl (sf_11_6 ht) ?_
        refine aw_callVi (n := 54) (as := [.int a0, .int (μ.1 (aw_rf t 6) (456 : Int32).toNatClampNeg)]) (st := []) (RX11, TX11, 52) 11 dX11_isLeaf_51 rfl rfl (m_X11_aimed l F t ht a0 (μ.1 (aw_rf t 6) (456 : Int32).toNatClampNeg) μ) ht (by decide) rfl rfl cw_RX11_300 ⟨Nat.le_of_ble_eq_true rfl, Nat.le_of_ble_eq_true rfl⟩ (fun _ => Nat.le_of_ble_eq_true rfl) (fun r6 => ?_)
        refine aw_goto 58 dX11_isLeaf_54 (by decide) ?_
        exact aw_weak (c_X11_isLeaf_58 l F t ht a0 a3 r6.1 r6.2) (aw_ss (aw_ss (aw_sn (aw_sn (aw_ss (aw_sn aw_s0))))))
  · refine aw_aload_n (n := 5) dX11_isLeaf_4 rfl rfl ?_
    refine aw_getR (n := 8) (RX11, TX11, 52) 11 6 dX11_isLeaf_5 rfl ht (by decide) fd_RX11_33 ?_
    refine aw_sipush (n := 11) 445 dX11_isLeaf_8 rfl (by decide) ?_
    refine aw_iload_n (n := 12) dX11_isLeaf_11 rfl rfl ?_
    refine aw_iadd (n := 13) dX11_isLeaf_12 rfl ?_
    refine aw_iaload (n := 14) 1155 dX11_isLeaf_13 rfl (sf_11_6 ht) ?_
    refine aw_iconst (n := 15) 1 dX11_isLeaf_14 rfl (by decide) ?_
    refine aw_icmp_ne (n := 18) 22 dX11_isLeaf_15 (by decide) rfl ?_ ?_
    · refine aw_iconst (n := 23) 0 dX11_isLeaf_22 rfl (by decide) ?_
      exact aw_zreturn (b := false) dX11_isLeaf_23 rfl rfl
    · refine aw_iconst (n := 19) 1 dX11_isLeaf_18 rfl (by decide) ?_
      refine aw_goto 23 dX11_isLeaf_19 (by decide) ?_
      exact aw_zreturn (b := true) dX11_isLeaf_23 rfl rfl
abbrev k_X11_isSaid : aw_K := (RX11, cX11_isSaid, 5, (some .boolean), 5, 214)
def f_X11_isSaid_206 (F : Nat) (t : Nat) (k4 : Int32 × Int32 × Int32 × aw_M → Option (Bool × aw_M)) (x1 : Int32) (x2 : Int32) (x3 : Int32) (μ : aw_M) : Option (Bool × aw_M) :=
  k4 (x1, x2, (x3 + 1), μ)
theorem c_X11_isSaid_206 (l : Launch) (F : Nat) (t : Nat) (ht : (aw_sh t).1 = 16) (k4 : Int32 × Int32 × Int32 × aw_M → Option (Bool × aw_M)) (hk4 : ∀ s : Int32 × Int32 × Int32 × aw_M, AW l k_X11_isSaid aw_gz 4 [some (.ref t), some (.int s.1), some (.int s.2.1), some (.int s.2.2.1), none] [] s.2.2.2 (k4 s)) (x1 : Int32) (x2 : Int32) (x3 : Int32) (μ : aw_M) : AW l k_X11_isSaid aw_gz 206 [some (.ref t), some (.int x1), some (.int x2), some (.int x3), none] [] μ (f_X11_isSaid_206 F t k4 x1 x2 x3 μ) := by
  unfold f_X11_isSaid_206
  refine aw_iinc (n := 209) (x3 + 1) [some (.ref t), some (.int x1), some (.int x2), some (.int (x3 + 1)), none] dX11_isSaid_206 rfl rfl (by rfl) rfl (Nat.le_of_ble_eq_true rfl) rfl ?_
  refine aw_goto 4 dX11_isSaid_209 (by decide) ?_
  exact aw_weak (hk4 (x1, x2, (x3 + 1), μ)) (aw_ss (aw_ss (aw_ss (aw_ss (aw_sn aw_s0)))))
def f_X11_isSaid_163 (F : Nat) (t : Nat) (k4 : Int32 × Int32 × Int32 × aw_M → Option (Bool × aw_M)) (x1 : Int32) (x2 : Int32) (x3 : Int32) (z0 : Bool) (z1 : Int32) (μ : aw_M) : Option (Bool × aw_M) :=
  aw_g (aw_in z1 45) (aw_let (aw_wI μ (aw_rf t 48) z1.toNatClampNeg (vp_nar .boolean (aw_b z0))) fun μ12 =>
  f_X11_isSaid_206 F t k4 x1 x2 x3 μ12)
theorem c_X11_isSaid_163 (l : Launch) (F : Nat) (t : Nat) (ht : (aw_sh t).1 = 16) (k4 : Int32 × Int32 × Int32 × aw_M → Option (Bool × aw_M)) (hk4 : ∀ s : Int32 × Int32 × Int32 × aw_M, AW l k_X11_isSaid aw_gz 4 [some (.ref t), some (.int s.1), some (.int s.2.1), some (.int s.2.2.1), none] [] s.2.2.2 (k4 s)) (x1 : Int32) (x2 : Int32) (x3 : Int32) (z0 : Bool) (z1 : Int32) (μ : aw_M) : AW l k_X11_isSaid aw_gz 163 [some (.ref t), some (.int x1), some (.int x2), some (.int x3), none] [.int (aw_b z0), .int z1, .ref (aw_rf t 48)] μ (f_X11_isSaid_163 F t k4 x1 x2 x3 z0 z1 μ) := by
  unfold f_X11_isSaid_163
  refine aw_zastore (n := 164) 45 dX11_isSaid_163 rfl (sf_11_48 ht) (fun μ12 => ?_)
  refine aw_goto 206 dX11_isSaid_164 (by decide) ?_
  exact aw_weak (c_X11_isSaid_206 l F t ht k4 hk4 x1 x2 x3 μ12) (aw_ss (aw_ss (aw_ss (aw_ss (aw_sn aw_s0)))))
def f_X11_isSaid_158 (F : Nat) (t : Nat) (k4 : Int32 × Int32 × Int32 × aw_M → Option (Bool × aw_M)) (x1 : Int32) (x2 : Int32) (x3 : Int32) (z0 : Int32) (μ : aw_M) : Option (Bool × aw_M) :=
  f_X11_isSaid_163 F t k4 x1 x2 x3 true z0 μ
theorem c_X11_isSaid_158 (l : Launch) (F : Nat) (t : Nat) (ht : (aw_sh t).1 = 16) (k4 : Int32 × Int32 × Int32 × aw_M → Option (Bool × aw_M)) (hk4 : ∀ s : Int32 × Int32 × Int32 × aw_M, AW l k_X11_isSaid aw_gz 4 [some (.ref t), some (.int s.1), some (.int s.2.1), some (.int s.2.2.1), none] [] s.2.2.2 (k4 s)) (x1 : Int32) (x2 : Int32) (x3 : Int32) (z0 : Int32) (μ : aw_M) : AW l k_X11_isSaid aw_gz 158 [some (.ref t), some (.int x1), some (.int x2), some (.int x3), none] [.int z0, .ref (aw_rf t 48)] μ (f_X11_isSaid_158 F t k4 x1 x2 x3 z0 μ) := by
  unfold f_X11_isSaid_158
  refine aw_iconst (n := 159) 1 dX11_isSaid_158 rfl (by decide) ?_
  refine aw_goto 163 dX11_isSaid_159 (by decide) ?_
  exact aw_weak (c_X11_isSaid_163 l F t ht k4 hk4 x1 x2 x3 true z0 μ) (aw_ss (aw_ss (aw_ss (aw_ss (aw_sn aw_s0)))))
def f_X11_isSaid_134 (F : Nat) (t : Nat) (k4 : Int32 × Int32 × Int32 × aw_M → Option (Bool × aw_M)) (x1 : Int32) (x2 : Int32) (x3 : Int32) (z0 : Int32) (μ : aw_M) : Option (Bool × aw_M) :=
  f_X11_isSaid_163 F t k4 x1 x2 x3 false z0 μ
theorem c_X11_isSaid_134 (l : Launch) (F : Nat) (t : Nat) (ht : (aw_sh t).1 = 16) (k4 : Int32 × Int32 × Int32 × aw_M → Option (Bool × aw_M)) (hk4 : ∀ s : Int32 × Int32 × Int32 × aw_M, AW l k_X11_isSaid aw_gz 4 [some (.ref t), some (.int s.1), some (.int s.2.1), some (.int s.2.2.1), none] [] s.2.2.2 (k4 s)) (x1 : Int32) (x2 : Int32) (x3 : Int32) (z0 : Int32) (μ : aw_M) : AW l k_X11_isSaid aw_gz 134 [some (.ref t), some (.int x1), some (.int x2), some (.int x3), none] [.int z0, .ref (aw_rf t 48)] μ (f_X11_isSaid_134 F t k4 x1 x2 x3 z0 μ) := by
  unfold f_X11_isSaid_134
  refine aw_iconst (n := 135) 0 dX11_isSaid_134 rfl (by decide) ?_
  refine aw_goto 163 dX11_isSaid_135 (by decide) ?_
  exact aw_weak (c_X11_isSaid_163 l F t ht k4 hk4 x1 x2 x3 false z0 μ) (aw_ss (aw_ss (aw_ss (aw_ss (aw_sn aw_s0)))))
def f_X11_isSaid_88 (F : Nat) (t : Nat) (k4 : Int32 × Int32 × Int32 × aw_M → Option (Bool × aw_M)) (x1 : Int32) (x2 : Int32) (x3 : Int32) (x4 : Int32) (μ : aw_M) : Option (Bool × aw_M) :=
  aw_g (aw_in x4 1155) ((if (μ.1 (aw_rf t 6) x4.toNatClampNeg) = 11 then
  aw_g (aw_in ((x2 + (-1)) - 1) 45) ((if (μ.1 (aw_rf t 48) ((x2 + (-1)) - 1).toNatClampNeg) = 0 then
  f_X11_isSaid_134 F t k4 x1 (x2 + (-1)) x3 ((x2 + (-1)) - 1) μ
  else
  aw_g (aw_in (x2 + (-1)) 45) ((if (μ.1 (aw_rf t 48) (x2 + (-1)).toNatClampNeg) = 0 then
  f_X11_isSaid_134 F t k4 x1 (x2 + (-1)) x3 ((x2 + (-1)) - 1) μ
  else
  f_X11_isSaid_163 F t k4 x1 (x2 + (-1)) x3 true ((x2 + (-1)) - 1) μ))))
  else
  aw_g (aw_in ((x2 + (-1)) - 1) 45) ((if (μ.1 (aw_rf t 48) ((x2 + (-1)) - 1).toNatClampNeg) = 0 then
  aw_g (aw_in (x2 + (-1)) 45) ((if (μ.1 (aw_rf t 48) (x2 + (-1)).toNatClampNeg) = 0 then
  f_X11_isSaid_163 F t k4 x1 (x2 + (-1)) x3 false ((x2 + (-1)) - 1) μ
  else
  f_X11_isSaid_158 F t k4 x1 (x2 + (-1)) x3 ((x2 + (-1)) - 1) μ))
  else
  f_X11_isSaid_158 F t k4 x1 (x2 + (-1)) x3 ((x2 + (-1)) - 1) μ))))
theorem c_X11_isSaid_88 (l : Launch) (F : Nat) (t : Nat) (ht : (aw_sh t).1 = 16) (k4 : Int32 × Int32 × Int32 × aw_M → Option (Bool × aw_M)) (hk4 : ∀ s : Int32 × Int32 × Int32 × aw_M, AW l k_X11_isSaid aw_gz 4 [some (.ref t), some (.int s.1), some (.int s.2.1), some (.int s.2.2.1), none] [] s.2.2.2 (k4 s)) (x1 : Int32) (x2 : Int32) (x3 : Int32) (x4 : Int32) (μ : aw_M) : AW l k_X11_isSaid aw_gz 88 [some (.ref t), some (.int x1), some (.int x2), some (.int x3), some (.int x4)] [] μ (f_X11_isSaid_88 F t k4 x1 x2 x3 x4 μ) := by
  unfold f_X11_isSaid_88
  refine aw_iinc (n := 91) (x2 + (-1)) [some (.ref t), some (.int x1), some (.int (x2 + (-1))), some (.int x3), some (.int x4)] dX11_isSaid_88 rfl rfl (by rfl) rfl (Nat.le_of_ble_eq_true rfl) rfl ?_
  refine aw_aload_n (n := 92) dX11_isSaid_91 rfl rfl ?_
  refine aw_getR (n := 95) (RX11, TX11, 52) 11 48 dX11_isSaid_92 rfl ht (by decide) fd_RX11_99 ?_
  refine aw_iload_n (n := 96) dX11_isSaid_95 rfl rfl ?_
  refine aw_iconst (n := 97) 1 dX11_isSaid_96 rfl (by decide) ?_
  refine aw_isub (n := 98) dX11_isSaid_97 rfl ?_
  refine aw_aload_n (n := 99) dX11_isSaid_98 rfl rfl ?_
  refine aw_getR (n := 102) (RX11, TX11, 52) 11 6 dX11_isSaid_99 rfl ht (by decide) fd_RX11_33 ?_
  refine aw_iload (n := 104) dX11_isSaid_102 rfl rfl ?_
  refine aw_iaload (n := 105) 1155 dX11_isSaid_104 rfl (sf_11_6 ht) ?_
  refine aw_bipush (n := 107) 11 dX11_isSaid_105 rfl (by decide) ?_
  refine aw_icmp_ne (n := 110) 138 dX11_isSaid_107 (by decide) rfl ?_ ?_
  · refine aw_aload_n (n := 139) dX11_isSaid_138 rfl rfl ?_
    refine aw_getR (n := 142) (RX11, TX11, 52) 11 48 dX11_isSaid_139 rfl ht (by decide) fd_RX11_99 ?_
    refine aw_iload_n (n := 143) dX11_isSaid_142 rfl rfl ?_
    refine aw_iconst (n := 144) 1 dX11_isSaid_143 rfl (by decide) ?_
    refine aw_isub (n := 145) dX11_isSaid_144 rfl ?_
    refine aw_zaload (n := 146) 45 dX11_isSaid_145 rfl (sf_11_48 ht) ?_
    refine aw_if_ne (n := 149) 158 dX11_isSaid_146 (by decide) rfl ?_ ?_
    · exact aw_weak (c_X11_isSaid_158 l F t ht k4 hk4 x1 (x2 + (-1)) x3 ((x2 + (-1)) - 1) μ) (aw_ss (aw_ss (aw_ss (aw_ss (aw_sn aw_s0)))))
    · refine aw_aload_n (n := 150) dX11_isSaid_149 rfl rfl ?_
      refine aw_getR (n := 153) (RX11, TX11, 52) 11 48 dX11_isSaid_150 rfl ht (by decide) fd_RX11_99 ?_
      refine aw_iload_n (n := 154) dX11_isSaid_153 rfl rfl ?_
      refine aw_zaload (n := 155) 45 dX11_isSaid_154 rfl (sf_11_48 ht) ?_
      refine aw_if_eq (n := 158) 162 dX11_isSaid_155 (by decide) rfl ?_ ?_
      · refine aw_iconst (n := 163) 0 dX11_isSaid_162 rfl (by decide) ?_
        exact aw_weak (c_X11_isSaid_163 l F t ht k4 hk4 x1 (x2 + (-1)) x3 false ((x2 + (-1)) - 1) μ) (aw_ss (aw_ss (aw_ss (aw_ss (aw_sn aw_s0)))))
      · exact aw_weak (c_X11_isSaid_158 l F t ht k4 hk4 x1 (x2 + (-1)) x3 ((x2 + (-1)) - 1) μ) (aw_ss (aw_ss (aw_ss (aw_ss (aw_sn aw_s0)))))
  · refine aw_aload_n (n := 111) dX11_isSaid_110 rfl rfl ?_
    refine aw_getR (n := 114) (RX11, TX11, 52) 11 48 dX11_isSaid_111 rfl ht (by decide) fd_RX11_99 ?_
    refine aw_iload_n (n := 115) dX11_isSaid_114 rfl rfl ?_
    refine aw_iconst (n := 116) 1 dX11_isSaid_115 rfl (by decide) ?_
    refine aw_isub (n := 117) dX11_isSaid_116 rfl ?_
    refine aw_zaload (n := 118) 45 dX11_isSaid_117 rfl (sf_11_48 ht) ?_
    refine aw_if_eq (n := 121) 134 dX11_isSaid_118 (by decide) rfl ?_ ?_
    · exact aw_weak (c_X11_isSaid_134 l F t ht k4 hk4 x1 (x2 + (-1)) x3 ((x2 + (-1)) - 1) μ) (aw_ss (aw_ss (aw_ss (aw_ss (aw_sn aw_s0)))))
    · refine aw_aload_n (n := 122) dX11_isSaid_121 rfl rfl ?_
      refine aw_getR (n := 125) (RX11, TX11, 52) 11 48 dX11_isSaid_122 rfl ht (by decide) fd_RX11_99 ?_
      refine aw_iload_n (n := 126) dX11_isSaid_125 rfl rfl ?_
      refine aw_zaload (n := 127) 45 dX11_isSaid_126 rfl (sf_11_48 ht) ?_
      refine aw_if_eq (n := 130) 134 dX11_isSaid_127 (by decide) rfl ?_ ?_
      · exact aw_weak (c_X11_isSaid_134 l F t ht k4 hk4 x1 (x2 + (-1)) x3 ((x2 + (-1)) - 1) μ) (aw_ss (aw_ss (aw_ss (aw_ss (aw_sn aw_s0)))))
      · refine aw_iconst (n := 131) 1 dX11_isSaid_130 rfl (by decide) ?_
        refine aw_goto 163 dX11_isSaid_131 (by decide) ?_
        exact aw_weak (c_X11_isSaid_163 l F t ht k4 hk4 x1 (x2 + (-1)) x3 true ((x2 + (-1)) - 1) μ) (aw_ss (aw_ss (aw_ss (aw_ss (aw_sn aw_s0)))))
def f_X11_isSaid_60 (F : Nat) (t : Nat) (k4 : Int32 × Int32 × Int32 × aw_M → Option (Bool × aw_M)) (x1 : Int32) (x2 : Int32) (x3 : Int32) (z0 : Bool) (z1 : Int32) (μ : aw_M) : Option (Bool × aw_M) :=
  aw_g (aw_in z1 45) (aw_let (aw_wI μ (aw_rf t 48) z1.toNatClampNeg (vp_nar .boolean (aw_b z0))) fun μ15 =>
  f_X11_isSaid_206 F t k4 x1 x2 x3 μ15)
theorem c_X11_isSaid_60 (l : Launch) (F : Nat) (t : Nat) (ht : (aw_sh t).1 = 16) (k4 : Int32 × Int32 × Int32 × aw_M → Option (Bool × aw_M)) (hk4 : ∀ s : Int32 × Int32 × Int32 × aw_M, AW l k_X11_isSaid aw_gz 4 [some (.ref t), some (.int s.1), some (.int s.2.1), some (.int s.2.2.1), none] [] s.2.2.2 (k4 s)) (x1 : Int32) (x2 : Int32) (x3 : Int32) (z0 : Bool) (z1 : Int32) (μ : aw_M) : AW l k_X11_isSaid aw_gz 60 [some (.ref t), some (.int x1), some (.int x2), some (.int x3), none] [.int (aw_b z0), .int z1, .ref (aw_rf t 48)] μ (f_X11_isSaid_60 F t k4 x1 x2 x3 z0 z1 μ) := by
  unfold f_X11_isSaid_60
  refine aw_zastore (n := 61) 45 dX11_isSaid_60 rfl (sf_11_48 ht) (fun μ15 => ?_)
  refine aw_goto 206 dX11_isSaid_61 (by decide) ?_
  exact aw_weak (c_X11_isSaid_206 l F t ht k4 hk4 x1 x2 x3 μ15) (aw_ss (aw_ss (aw_ss (aw_ss (aw_sn aw_s0)))))
def f_X11_isSaid_4 (F : Nat) (t : Nat) (k4 : Int32 × Int32 × Int32 × aw_M → Option (Bool × aw_M)) (x1 : Int32) (x2 : Int32) (x3 : Int32) (μ : aw_M) : Option (Bool × aw_M) :=
  aw_g (aw_in 974 1155) ((if (μ.1 (aw_rf t 6) (974 : Int32).toNatClampNeg) ≤ x3 then
  aw_g (aw_in 0 45) (aw_g (aw_isB (μ.1 (aw_rf t 48) (0 : Int32).toNatClampNeg)) (some ((μ.1 (aw_rf t 48) (0 : Int32).toNatClampNeg) == 1, μ)))
  else
  aw_let ((975 + (3 * x3))) fun v11 =>
  aw_g (aw_in v11 1155) ((if (μ.1 (aw_rf t 6) v11.toNatClampNeg) = 10 then
  aw_g (aw_in (x2 - 1) 45) ((if (μ.1 (aw_rf t 48) (x2 - 1).toNatClampNeg) = 0 then
  f_X11_isSaid_60 F t k4 x1 x2 x3 true (x2 - 1) μ
  else
  f_X11_isSaid_60 F t k4 x1 x2 x3 false (x2 - 1) μ))
  else
  aw_g (aw_in v11 1155) ((if (μ.1 (aw_rf t 6) v11.toNatClampNeg) = 11 then
  f_X11_isSaid_88 F t k4 x1 x2 x3 v11 μ
  else
  aw_g (aw_in v11 1155) ((if (μ.1 (aw_rf t 6) v11.toNatClampNeg) = 12 then
  f_X11_isSaid_88 F t k4 x1 x2 x3 v11 μ
  else
  aw_g (aw_in v11 1155) (aw_g (aw_in (v11 + 1) 1155) (aw_g (aw_in (v11 + 2) 1155) ((f_X11_isLeaf F t x1 (μ.1 (aw_rf t 6) v11.toNatClampNeg) (μ.1 (aw_rf t 6) (v11 + 1).toNatClampNeg) (μ.1 (aw_rf t 6) (v11 + 2).toNatClampNeg) μ).bind fun r13 =>
  aw_g (aw_in x2 45) (aw_let (aw_wI r13.2 (aw_rf t 48) x2.toNatClampNeg (vp_nar .boolean (aw_b r13.1))) fun μ14 =>
  f_X11_isSaid_206 F t k4 x1 (x2 + 1) x3 μ14))))))))))))
theorem c_X11_isSaid_4 (l : Launch) (F : Nat) (t : Nat) (ht : (aw_sh t).1 = 16) : ∀ (N : Nat) (s : Int32 × Int32 × Int32 × aw_M), AW l k_X11_isSaid aw_gz 4 [some (.ref t), some (.int s.1), some (.int s.2.1), some (.int s.2.2.1), none] [] s.2.2.2 (aw_loop (fun k s => f_X11_isSaid_4 F t k s.1 s.2.1 s.2.2.1 s.2.2.2) N s) := by
  refine aw_loop_ok (f := fun k s => f_X11_isSaid_4 F t k s.1 s.2.1 s.2.2.1 s.2.2.2) (Ls := fun s => [some (.ref t), some (.int s.1), some (.int s.2.1), some (.int s.2.2.1), none]) (ms := fun s => s.2.2.2) ?_
  intro k4 hk4 s
  obtain ⟨x1, x2, x3, μ⟩ := s
  show AW l k_X11_isSaid aw_gz 4 [some (.ref t), some (.int x1), some (.int x2), some (.int x3), none] [] μ (f_X11_isSaid_4 F t k4 x1 x2 x3 μ)
  unfold f_X11_isSaid_4
  refine aw_iload_n (n := 5) dX11_isSaid_4 rfl rfl ?_
  refine aw_aload_n (n := 6) dX11_isSaid_5 rfl rfl ?_
  refine aw_getR (n := 9) (RX11, TX11, 52) 11 6 dX11_isSaid_6 rfl ht (by decide) fd_RX11_33 ?_
  refine aw_sipush (n := 12) 974 dX11_isSaid_9 rfl (by decide) ?_
  refine aw_iaload (n := 13) 1155 dX11_isSaid_12 rfl (sf_11_6 ht) ?_
  refine aw_icmp_ge (n := 16) 212 dX11_isSaid_13 (by decide) rfl ?_ ?_
  · refine aw_aload_n (n := 213) dX11_isSaid_212 rfl rfl ?_
    refine aw_getR (n := 216) (RX11, TX11, 52) 11 48 dX11_isSaid_213 rfl ht (by decide) fd_RX11_99 ?_
    refine aw_iconst (n := 217) 0 dX11_isSaid_216 rfl (by decide) ?_
    refine aw_zaload (n := 218) 45 dX11_isSaid_217 rfl (sf_11_48 ht) ?_
    exact aw_zretG dX11_isSaid_218 rfl rfl
  · refine aw_sipush (n := 19) 975 dX11_isSaid_16 rfl (by decide) ?_
    refine aw_iconst (n := 20) 3 dX11_isSaid_19 rfl (by decide) ?_
    refine aw_iload_n (n := 21) dX11_isSaid_20 rfl rfl ?_
    refine aw_imul (n := 22) dX11_isSaid_21 rfl ?_
    refine aw_iadd (n := 23) dX11_isSaid_22 rfl ?_
    refine aw_nmI (fun v11 => ?_)
    refine aw_istore (n := 25) [some (.ref t), some (.int x1), some (.int x2), some (.int x3), some (.int v11)] dX11_isSaid_23 rfl rfl (Nat.le_of_ble_eq_true rfl) (Nat.le_of_ble_eq_true rfl) rfl ?_
    refine aw_aload_n (n := 26) dX11_isSaid_25 rfl rfl ?_
    refine aw_getR (n := 29) (RX11, TX11, 52) 11 6 dX11_isSaid_26 rfl ht (by decide) fd_RX11_33 ?_
    refine aw_iload (n := 31) dX11_isSaid_29 rfl rfl ?_
    refine aw_iaload (n := 32) 1155 dX11_isSaid_31 rfl (sf_11_6 ht) ?_
    refine aw_bipush (n := 34) 10 dX11_isSaid_32 rfl (by decide) ?_
    refine aw_icmp_ne (n := 37) 64 dX11_isSaid_34 (by decide) rfl ?_ ?_
    · refine aw_aload_n (n := 65) dX11_isSaid_64 rfl rfl ?_
      refine aw_getR (n := 68) (RX11, TX11, 52) 11 6 dX11_isSaid_65 rfl ht (by decide) fd_RX11_33 ?_
      refine aw_iload (n := 70) dX11_isSaid_68 rfl rfl ?_
      refine aw_iaload (n := 71) 1155 dX11_isSaid_70 rfl (sf_11_6 ht) ?_
      refine aw_bipush (n := 73) 11 dX11_isSaid_71 rfl (by decide) ?_
      refine aw_icmp_eq (n := 76) 88 dX11_isSaid_73 (by decide) rfl ?_ ?_
      · exact aw_weak (c_X11_isSaid_88 l F t ht k4 hk4 x1 x2 x3 v11 μ) (aw_ss (aw_ss (aw_ss (aw_ss (aw_ss aw_s0)))))
      · refine aw_aload_n (n := 77) dX11_isSaid_76 rfl rfl ?_
        refine aw_getR (n := 80) (RX11, TX11, 52) 11 6 dX11_isSaid_77 rfl ht (by decide) fd_RX11_33 ?_
        refine aw_iload (n := 82) dX11_isSaid_80 rfl rfl ?_
        refine aw_iaload (n := 83) 1155 dX11_isSaid_82 rfl (sf_11_6 ht) ?_
        refine aw_bipush (n := 85) 12 dX11_isSaid_83 rfl (by decide) ?_
        refine aw_icmp_ne (n := 88) 167 dX11_isSaid_85 (by decide) rfl ?_ ?_
        · refine aw_aload_n (n := 168) dX11_isSaid_167 rfl rfl ?_
          refine aw_getR (n := 171) (RX11, TX11, 52) 11 48 dX11_isSaid_168 rfl ht (by decide) fd_RX11_99 ?_
          refine aw_iload_n (n := 172) dX11_isSaid_171 rfl rfl ?_
          refine aw_aload_n (n := 173) dX11_isSaid_172 rfl rfl ?_
          refine aw_iload_n (n := 174) dX11_isSaid_173 rfl rfl ?_
          refine aw_aload_n (n := 175) dX11_isSaid_174 rfl rfl ?_
          refine aw_getR (n := 178) (RX11, TX11, 52) 11 6 dX11_isSaid_175 rfl ht (by decide) fd_RX11_33 ?_
          refine aw_iload (n := 180) dX11_isSaid_178 rfl rfl ?_
          refine aw_iaload (n := 181) 1155 dX11_isSaid_180 rfl (sf_11_6 ht) ?_
          refine aw_aload_n (n := 182) dX11_isSaid_181 rfl rfl ?_
          refine aw_getR (n := 185) (RX11, TX11, 52) 11 6 dX11_isSaid_182 rfl ht (by decide) fd_RX11_33 ?_
          refine aw_iload (n := 187) dX11_isSaid_185 rfl rfl ?_
          refine aw_iconst (n := 188) 1 dX11_isSaid_187 rfl (by decide) ?_
          refine aw_iadd (n := 189) dX11_isSaid_188 rfl ?_
          refine aw_iaload (n := 190) 1155 dX11_isSaid_189 rfl (sf_11_6 ht) ?_
          refine aw_aload_n (n := 191) dX11_isSaid_190 rfl rfl ?_
          refine aw_getR (n := 194) (RX11, TX11, 52) 11 6 dX11_isSaid_191 rfl ht (by decide) fd_RX11_33 ?_
          refine aw_iload (n := 196) dX11_isSaid_194 rfl rfl ?_
          refine aw_iconst (n := 197) 2 dX11_isSaid_196 rfl (by decide) ?_
          refine aw_iadd (n := 198) dX11_isSaid_197 rfl ?_
          refine aw_iaload (n := 199) 1155 dX11_isSaid_198 rfl (sf_11_6 ht) ?_
          refine aw_callVz (n := 202) (as := [.int x1, .int (μ.1 (aw_rf t 6) v11.toNatClampNeg), .int (μ.1 (aw_rf t 6) (v11 + 1).toNatClampNeg), .int (μ.1 (aw_rf t 6) (v11 + 2).toNatClampNeg)]) (st := [.int x2, .ref (aw_rf t 48)]) (RX11, TX11, 52) 11 dX11_isSaid_199 rfl rfl (m_X11_isLeaf l F t ht x1 (μ.1 (aw_rf t 6) v11.toNatClampNeg) (μ.1 (aw_rf t 6) (v11 + 1).toNatClampNeg) (μ.1 (aw_rf t 6) (v11 + 2).toNatClampNeg) μ) ht (by decide) rfl rfl cw_RX11_411 ⟨Nat.le_of_ble_eq_true rfl, Nat.le_of_ble_eq_true rfl⟩ (fun _ => Nat.le_of_ble_eq_true rfl) (fun r13 => ?_)
          refine aw_zastore (n := 203) 45 dX11_isSaid_202 rfl (sf_11_48 ht) (fun μ14 => ?_)
          refine aw_iinc (n := 206) (x2 + 1) [some (.ref t), some (.int x1), some (.int (x2 + 1)), some (.int x3), some (.int v11)] dX11_isSaid_203 rfl rfl (by rfl) rfl (Nat.le_of_ble_eq_true rfl) rfl ?_
          exact aw_weak (c_X11_isSaid_206 l F t ht k4 hk4 x1 (x2 + 1) x3 μ14) (aw_ss (aw_ss (aw_ss (aw_ss (aw_sn aw_s0)))))
        · exact aw_weak (c_X11_isSaid_88 l F t ht k4 hk4 x1 x2 x3 v11 μ) (aw_ss (aw_ss (aw_ss (aw_ss (aw_ss aw_s0)))))
    · refine aw_aload_n (n := 38) dX11_isSaid_37 rfl rfl ?_
      refine aw_getR (n := 41) (RX11, TX11, 52) 11 48 dX11_isSaid_38 rfl ht (by decide) fd_RX11_99 ?_
      refine aw_iload_n (n := 42) dX11_isSaid_41 rfl rfl ?_
      refine aw_iconst (n := 43) 1 dX11_isSaid_42 rfl (by decide) ?_
      refine aw_isub (n := 44) dX11_isSaid_43 rfl ?_
      refine aw_aload_n (n := 45) dX11_isSaid_44 rfl rfl ?_
      refine aw_getR (n := 48) (RX11, TX11, 52) 11 48 dX11_isSaid_45 rfl ht (by decide) fd_RX11_99 ?_
      refine aw_iload_n (n := 49) dX11_isSaid_48 rfl rfl ?_
      refine aw_iconst (n := 50) 1 dX11_isSaid_49 rfl (by decide) ?_
      refine aw_isub (n := 51) dX11_isSaid_50 rfl ?_
      refine aw_zaload (n := 52) 45 dX11_isSaid_51 rfl (sf_11_48 ht) ?_
      refine aw_if_ne (n := 55) 59 dX11_isSaid_52 (by decide) rfl ?_ ?_
      · refine aw_iconst (n := 60) 0 dX11_isSaid_59 rfl (by decide) ?_
        exact aw_weak (c_X11_isSaid_60 l F t ht k4 hk4 x1 x2 x3 false (x2 - 1) μ) (aw_ss (aw_ss (aw_ss (aw_ss (aw_sn aw_s0)))))
      · refine aw_iconst (n := 56) 1 dX11_isSaid_55 rfl (by decide) ?_
        refine aw_goto 60 dX11_isSaid_56 (by decide) ?_
        exact aw_weak (c_X11_isSaid_60 l F t ht k4 hk4 x1 x2 x3 true (x2 - 1) μ) (aw_ss (aw_ss (aw_ss (aw_ss (aw_sn aw_s0)))))
def f_X11_isSaid (F : Nat) (t : Nat) (a0 : Int32) (μ : aw_M) : Option (Bool × aw_M) :=
  aw_loop (fun k s => f_X11_isSaid_4 F t k s.1 s.2.1 s.2.2.1 s.2.2.2) F (a0, 0, 0, μ)
theorem m_X11_isSaid (l : Launch) (F : Nat) (t : Nat) (ht : (aw_sh t).1 = 16) (a0 : Int32) (μ : aw_M) : AM l yX11_isSaid cX11_isSaid 5 (some .boolean) 5 214 aw_gz [.ref t, .int a0] μ (f_X11_isSaid F t a0 μ) := by
  refine aw_met [some (.ref t), some (.int a0), none, none, none] (by decide) (fun _ => rfl) (fun _ => Nat.le_of_ble_eq_true rfl) ?_
  show AW l k_X11_isSaid aw_gz 0 [some (.ref t), some (.int a0), none, none, none] [] μ _
  unfold f_X11_isSaid
  refine aw_iconst (n := 1) 0 dX11_isSaid_0 rfl (by decide) ?_
  refine aw_istore_n (n := 2) [some (.ref t), some (.int a0), some (.int 0), none, none] dX11_isSaid_1 rfl rfl (Nat.le_of_ble_eq_true rfl) (Nat.le_of_ble_eq_true rfl) rfl ?_
  refine aw_iconst (n := 3) 0 dX11_isSaid_2 rfl (by decide) ?_
  refine aw_istore_n (n := 4) [some (.ref t), some (.int a0), some (.int 0), some (.int 0), none] dX11_isSaid_3 rfl rfl (Nat.le_of_ble_eq_true rfl) (Nat.le_of_ble_eq_true rfl) rfl ?_
  exact aw_weak (c_X11_isSaid_4 l F t ht F (a0, 0, 0, μ)) (aw_ss (aw_ss (aw_ss (aw_ss (aw_sn aw_s0)))))
abbrev k_X11_said : aw_K := (RX11, cX11_said, 4, (some .int), 6, 238)
def f_X11_said_64 (F : Nat) (t : Nat) (x1 : Int32) (x2 : Int32) (μ : aw_M) : Option (Int32 × aw_M) :=
  (if x1 = (-1) then
  some (x2, μ)
  else
  some ((-1), μ))
theorem c_X11_said_64 (l : Launch) (F : Nat) (t : Nat) (ht : (aw_sh t).1 = 16) (x1 : Int32) (x2 : Int32) (μ : aw_M) : AW l k_X11_said aw_gi 64 [none, some (.int x1), some (.int x2), none] [] μ (f_X11_said_64 F t x1 x2 μ) := by
  unfold f_X11_said_64
  refine aw_iload_n (n := 65) dX11_said_64 rfl rfl ?_
  refine aw_iconst (n := 66) (-1) dX11_said_65 rfl (by decide) ?_
  refine aw_icmp_ne (n := 69) 73 dX11_said_66 (by decide) rfl ?_ ?_
  · refine aw_iconst (n := 74) (-1) dX11_said_73 rfl (by decide) ?_
    exact aw_ireturn dX11_said_74 rfl rfl
  · refine aw_iload_n (n := 70) dX11_said_69 rfl rfl ?_
    refine aw_goto 74 dX11_said_70 (by decide) ?_
    exact aw_ireturn dX11_said_74 rfl rfl
def f_X11_said_58 (F : Nat) (t : Nat) (k27 : Int32 × Int32 × Int32 × aw_M → Option (Int32 × aw_M)) (x1 : Int32) (x2 : Int32) (x3 : Int32) (μ : aw_M) : Option (Int32 × aw_M) :=
  k27 (x1, x2, (x3 + 1), μ)
theorem c_X11_said_58 (l : Launch) (F : Nat) (t : Nat) (ht : (aw_sh t).1 = 16) (k27 : Int32 × Int32 × Int32 × aw_M → Option (Int32 × aw_M)) (hk27 : ∀ s : Int32 × Int32 × Int32 × aw_M, AW l k_X11_said aw_gi 27 [some (.ref t), some (.int s.1), some (.int s.2.1), some (.int s.2.2.1)] [] s.2.2.2 (k27 s)) (x1 : Int32) (x2 : Int32) (x3 : Int32) (μ : aw_M) : AW l k_X11_said aw_gi 58 [some (.ref t), some (.int x1), some (.int x2), some (.int x3)] [] μ (f_X11_said_58 F t k27 x1 x2 x3 μ) := by
  unfold f_X11_said_58
  refine aw_iinc (n := 61) (x3 + 1) [some (.ref t), some (.int x1), some (.int x2), some (.int (x3 + 1))] dX11_said_58 rfl rfl (by rfl) rfl (Nat.le_of_ble_eq_true rfl) rfl ?_
  refine aw_goto 27 dX11_said_61 (by decide) ?_
  exact aw_weak (hk27 (x1, x2, (x3 + 1), μ)) (aw_ss (aw_ss (aw_ss (aw_ss aw_s0))))
def f_X11_said_27 (F : Nat) (t : Nat) (k27 : Int32 × Int32 × Int32 × aw_M → Option (Int32 × aw_M)) (x1 : Int32) (x2 : Int32) (x3 : Int32) (μ : aw_M) : Option (Int32 × aw_M) :=
  aw_g (aw_in 2 1155) ((if (μ.1 (aw_rf t 6) (2 : Int32).toNatClampNeg) ≤ x3 then
  f_X11_said_64 F t x1 x2 μ
  else
  (f_X11_isSaid F t x3 μ).bind fun r6 =>
  (if r6.1 = true then
  (if x2 = x1 then
  some (x3, r6.2)
  else
  f_X11_said_58 F t k27 x1 (x2 + 1) x3 r6.2)
  else
  f_X11_said_58 F t k27 x1 x2 x3 r6.2)))
theorem c_X11_said_27 (l : Launch) (F : Nat) (t : Nat) (ht : (aw_sh t).1 = 16) : ∀ (N : Nat) (s : Int32 × Int32 × Int32 × aw_M), AW l k_X11_said aw_gi 27 [some (.ref t), some (.int s.1), some (.int s.2.1), some (.int s.2.2.1)] [] s.2.2.2 (aw_loop (fun k s => f_X11_said_27 F t k s.1 s.2.1 s.2.2.1 s.2.2.2) N s) := by
  refine aw_loop_ok (f := fun k s => f_X11_said_27 F t k s.1 s.2.1 s.2.2.1 s.2.2.2) (Ls := fun s => [some (.ref t), some (.int s.1), some (.int s.2.1), some (.int s.2.2.1)]) (ms := fun s => s.2.2.2) ?_
  intro k27 hk27 s
  obtain ⟨x1, x2, x3, μ⟩ := s
  show AW l k_X11_said aw_gi 27 [some (.ref t), some (.int x1), some (.int x2), some (.int x3)] [] μ (f_X11_said_27 F t k27 x1 x2 x3 μ)
  unfold f_X11_said_27
  refine aw_iload_n (n := 28) dX11_said_27 rfl rfl ?_
  refine aw_aload_n (n := 29) dX11_said_28 rfl rfl ?_
  refine aw_getR (n := 32) (RX11, TX11, 52) 11 6 dX11_said_29 rfl ht (by decide) fd_RX11_33 ?_
  refine aw_iconst (n := 33) 2 dX11_said_32 rfl (by decide) ?_
  refine aw_iaload (n := 34) 1155 dX11_said_33 rfl (sf_11_6 ht) ?_
  refine aw_icmp_ge (n := 37) 64 dX11_said_34 (by decide) rfl ?_ ?_
  · exact aw_weak (c_X11_said_64 l F t ht x1 x2 μ) (aw_sn (aw_ss (aw_ss (aw_sn aw_s0))))
  · refine aw_aload_n (n := 38) dX11_said_37 rfl rfl ?_
    refine aw_iload_n (n := 39) dX11_said_38 rfl rfl ?_
    refine aw_callVz (n := 42) (as := [.int x3]) (st := []) (RX11, TX11, 52) 11 dX11_said_39 rfl rfl (m_X11_isSaid l F t ht x3 μ) ht (by decide) rfl rfl cw_RX11_415 ⟨Nat.le_of_ble_eq_true rfl, Nat.le_of_ble_eq_true rfl⟩ (fun _ => Nat.le_of_ble_eq_true rfl) (fun r6 => ?_)
    refine aw_ifb_ne (n := 45) 48 dX11_said_42 (by decide) rfl ?_ ?_
    · refine aw_iload_n (n := 49) dX11_said_48 rfl rfl ?_
      refine aw_iload_n (n := 50) dX11_said_49 rfl rfl ?_
      refine aw_icmp_ne (n := 53) 55 dX11_said_50 (by decide) rfl ?_ ?_
      · refine aw_iinc (n := 58) (x2 + 1) [some (.ref t), some (.int x1), some (.int (x2 + 1)), some (.int x3)] dX11_said_55 rfl rfl (by rfl) rfl (Nat.le_of_ble_eq_true rfl) rfl ?_
        exact aw_weak (c_X11_said_58 l F t ht k27 hk27 x1 (x2 + 1) x3 r6.2) (aw_ss (aw_ss (aw_ss (aw_ss aw_s0))))
      · refine aw_iload_n (n := 54) dX11_said_53 rfl rfl ?_
        exact aw_ireturn dX11_said_54 rfl rfl
    · refine aw_goto 58 dX11_said_45 (by decide) ?_
      exact aw_weak (c_X11_said_58 l F t ht k27 hk27 x1 x2 x3 r6.2) (aw_ss (aw_ss (aw_ss (aw_ss aw_s0))))
def f_X11_said (F : Nat) (t : Nat) (a0 : Int32) (μ : aw_M) : Option (Int32 × aw_M) :=
  aw_let (aw_wI μ t 0 0) fun μ5 =>
  aw_g (aw_in 974 1155) ((if (μ5.1 (aw_rf t 6) (974 : Int32).toNatClampNeg) = 0 then
  some ((-1), μ5)
  else
  (if (-1) ≤ a0 then
  aw_loop (fun k s => f_X11_said_27 F t k s.1 s.2.1 s.2.2.1 s.2.2.2) F (a0, 0, 0, μ5)
  else
  some ((-1), μ5))))
theorem m_X11_said (l : Launch) (F : Nat) (t : Nat) (ht : (aw_sh t).1 = 16) (a0 : Int32) (μ : aw_M) : AM l yX11_said cX11_said 4 (some .int) 6 238 aw_gi [.ref t, .int a0] μ (f_X11_said F t a0 μ) := by
  refine aw_met [some (.ref t), some (.int a0), none, none] (by decide) (fun _ => rfl) (fun _ => Nat.le_of_ble_eq_true rfl) ?_
  show AW l k_X11_said aw_gi 0 [some (.ref t), some (.int a0), none, none] [] μ _
  unfold f_X11_said
  refine aw_aload_n (n := 1) dX11_said_0 rfl rfl ?_
  refine aw_iconst (n := 2) 0 dX11_said_1 rfl (by decide) ?_
  refine aw_putI (n := 5) (RX11, TX11, 52) 11 0 dX11_said_2 rfl ht (by decide) fp_RX11_1 (fun μ5 => ?_)
  refine aw_aload_n (n := 6) dX11_said_5 rfl rfl ?_
  refine aw_getR (n := 9) (RX11, TX11, 52) 11 6 dX11_said_6 rfl ht (by decide) fd_RX11_33 ?_
  refine aw_sipush (n := 12) 974 dX11_said_9 rfl (by decide) ?_
  refine aw_iaload (n := 13) 1155 dX11_said_12 rfl (sf_11_6 ht) ?_
  refine aw_if_eq (n := 16) 21 dX11_said_13 (by decide) rfl ?_ ?_
  · refine aw_iconst (n := 22) (-1) dX11_said_21 rfl (by decide) ?_
    exact aw_ireturn dX11_said_22 rfl rfl
  · refine aw_iload_n (n := 17) dX11_said_16 rfl rfl ?_
    refine aw_iconst (n := 18) (-1) dX11_said_17 rfl (by decide) ?_
    refine aw_icmp_ge (n := 21) 23 dX11_said_18 (by decide) rfl ?_ ?_
    · refine aw_iconst (n := 24) 0 dX11_said_23 rfl (by decide) ?_
      refine aw_istore_n (n := 25) [some (.ref t), some (.int a0), some (.int 0), none] dX11_said_24 rfl rfl (Nat.le_of_ble_eq_true rfl) (Nat.le_of_ble_eq_true rfl) rfl ?_
      refine aw_iconst (n := 26) 0 dX11_said_25 rfl (by decide) ?_
      refine aw_istore_n (n := 27) [some (.ref t), some (.int a0), some (.int 0), some (.int 0)] dX11_said_26 rfl rfl (Nat.le_of_ble_eq_true rfl) (Nat.le_of_ble_eq_true rfl) rfl ?_
      exact aw_weak (c_X11_said_27 l F t ht F (a0, 0, 0, μ5)) (aw_ss (aw_ss (aw_ss (aw_ss aw_s0))))
    · refine aw_iconst (n := 22) (-1) dX11_said_21 rfl (by decide) ?_
      exact aw_ireturn dX11_said_22 rfl rfl
abbrev k_X11_image : aw_K := (RX11, cX11_image, 3, (some .boolean), 2, 142)
def f_X11_image_80 (F : Nat) (t : Nat) (x1 : Int32) (μ : aw_M) : Option (Bool × aw_M) :=
  aw_g (aw_in x1 2) (aw_let (aw_wI μ (aw_rf t 51) x1.toNatClampNeg (vp_nar .boolean 1)) fun μ8 =>
  some (true, μ8))
theorem c_X11_image_80 (l : Launch) (F : Nat) (t : Nat) (ht : (aw_sh t).1 = 16) (x1 : Int32) (μ : aw_M) : AW l k_X11_image aw_gz 80 [some (.ref t), some (.int x1), none] [] μ (f_X11_image_80 F t x1 μ) := by
  unfold f_X11_image_80
  refine aw_aload_n (n := 81) dX11_image_80 rfl rfl ?_
  refine aw_getR (n := 84) (RX11, TX11, 52) 11 51 dX11_image_81 rfl ht (by decide) fd_RX11_109 ?_
  refine aw_iload_n (n := 85) dX11_image_84 rfl rfl ?_
  refine aw_iconst (n := 86) 1 dX11_image_85 rfl (by decide) ?_
  refine aw_zastore (n := 87) 2 dX11_image_86 rfl (sf_11_51 ht) (fun μ8 => ?_)
  refine aw_iconst (n := 88) 1 dX11_image_87 rfl (by decide) ?_
  exact aw_zreturn (b := true) dX11_image_88 rfl rfl
def f_X11_image_51 (F : Nat) (t : Nat) (k51 : Int32 × Int32 × aw_M → Option (Bool × aw_M)) (x1 : Int32) (x2 : Int32) (μ : aw_M) : Option (Bool × aw_M) :=
  (if 9 ≤ x2 then
  f_X11_image_80 F t x1 μ
  else
  aw_g (aw_in x2 18) (aw_g (aw_in ((9 * x1) + x2) 18) (aw_let (aw_wL μ (aw_rf t 50) ((9 * x1) + x2).toNatClampNeg ((μ.2 (aw_rf t 9) x2.toNatClampNeg))) fun μ9 =>
  k51 (x1, (x2 + 1), μ9))))
theorem c_X11_image_51 (l : Launch) (F : Nat) (t : Nat) (ht : (aw_sh t).1 = 16) : ∀ (N : Nat) (s : Int32 × Int32 × aw_M), AW l k_X11_image aw_gz 51 [some (.ref t), some (.int s.1), some (.int s.2.1)] [] s.2.2 (aw_loop (fun k s => f_X11_image_51 F t k s.1 s.2.1 s.2.2) N s) := by
  refine aw_loop_ok (f := fun k s => f_X11_image_51 F t k s.1 s.2.1 s.2.2) (Ls := fun s => [some (.ref t), some (.int s.1), some (.int s.2.1)]) (ms := fun s => s.2.2) ?_
  intro k51 hk51 s
  obtain ⟨x1, x2, μ⟩ := s
  show AW l k_X11_image aw_gz 51 [some (.ref t), some (.int x1), some (.int x2)] [] μ (f_X11_image_51 F t k51 x1 x2 μ)
  unfold f_X11_image_51
  refine aw_iload_n (n := 52) dX11_image_51 rfl rfl ?_
  refine aw_bipush (n := 54) 9 dX11_image_52 rfl (by decide) ?_
  refine aw_icmp_ge (n := 57) 80 dX11_image_54 (by decide) rfl ?_ ?_
  · exact aw_weak (c_X11_image_80 l F t ht x1 μ) (aw_ss (aw_ss (aw_sn aw_s0)))
  · refine aw_aload_n (n := 58) dX11_image_57 rfl rfl ?_
    refine aw_getR (n := 61) (RX11, TX11, 52) 11 50 dX11_image_58 rfl ht (by decide) fd_RX11_106 ?_
    refine aw_bipush (n := 63) 9 dX11_image_61 rfl (by decide) ?_
    refine aw_iload_n (n := 64) dX11_image_63 rfl rfl ?_
    refine aw_imul (n := 65) dX11_image_64 rfl ?_
    refine aw_iload_n (n := 66) dX11_image_65 rfl rfl ?_
    refine aw_iadd (n := 67) dX11_image_66 rfl ?_
    refine aw_aload_n (n := 68) dX11_image_67 rfl rfl ?_
    refine aw_getR (n := 71) (RX11, TX11, 52) 11 9 dX11_image_68 rfl ht (by decide) fd_RX11_43 ?_
    refine aw_iload_n (n := 72) dX11_image_71 rfl rfl ?_
    refine aw_laload (n := 73) 18 dX11_image_72 rfl (sf_11_9 ht) ?_
    refine aw_lastore (n := 74) 18 dX11_image_73 rfl (sf_11_50 ht) (fun μ9 => ?_)
    refine aw_iinc (n := 77) (x2 + 1) [some (.ref t), some (.int x1), some (.int (x2 + 1))] dX11_image_74 rfl rfl (by rfl) rfl (Nat.le_of_ble_eq_true rfl) rfl ?_
    refine aw_goto 51 dX11_image_77 (by decide) ?_
    exact aw_weak (hk51 (x1, (x2 + 1), μ9)) (aw_ss (aw_ss (aw_ss aw_s0)))
def f_X11_image_49 (F : Nat) (t : Nat) (x1 : Int32) (μ : aw_M) : Option (Bool × aw_M) :=
  aw_loop (fun k s => f_X11_image_51 F t k s.1 s.2.1 s.2.2) F (x1, 0, μ)
theorem c_X11_image_49 (l : Launch) (F : Nat) (t : Nat) (ht : (aw_sh t).1 = 16) (x1 : Int32) (μ : aw_M) : AW l k_X11_image aw_gz 49 [some (.ref t), some (.int x1), none] [] μ (f_X11_image_49 F t x1 μ) := by
  unfold f_X11_image_49
  refine aw_iconst (n := 50) 0 dX11_image_49 rfl (by decide) ?_
  refine aw_istore_n (n := 51) [some (.ref t), some (.int x1), some (.int 0)] dX11_image_50 rfl rfl (Nat.le_of_ble_eq_true rfl) (Nat.le_of_ble_eq_true rfl) rfl ?_
  exact aw_weak (c_X11_image_51 l F t ht F (x1, 0, μ)) (aw_ss (aw_ss (aw_ss aw_s0)))
def f_X11_image_18 (F : Nat) (t : Nat) (k18 : Int32 × Int32 × aw_M → Option (Bool × aw_M)) (x1 : Int32) (x2 : Int32) (μ : aw_M) : Option (Bool × aw_M) :=
  (if 1155 ≤ x2 then
  f_X11_image_49 F t x1 μ
  else
  aw_g (aw_in x2 1155) (aw_g (aw_in ((1155 * x1) + x2) 2310) (aw_let (aw_wI μ (aw_rf t 49) ((1155 * x1) + x2).toNatClampNeg (μ.1 (aw_rf t 6) x2.toNatClampNeg)) fun μ10 =>
  k18 (x1, (x2 + 1), μ10))))
theorem c_X11_image_18 (l : Launch) (F : Nat) (t : Nat) (ht : (aw_sh t).1 = 16) : ∀ (N : Nat) (s : Int32 × Int32 × aw_M), AW l k_X11_image aw_gz 18 [some (.ref t), some (.int s.1), some (.int s.2.1)] [] s.2.2 (aw_loop (fun k s => f_X11_image_18 F t k s.1 s.2.1 s.2.2) N s) := by
  refine aw_loop_ok (f := fun k s => f_X11_image_18 F t k s.1 s.2.1 s.2.2) (Ls := fun s => [some (.ref t), some (.int s.1), some (.int s.2.1)]) (ms := fun s => s.2.2) ?_
  intro k18 hk18 s
  obtain ⟨x1, x2, μ⟩ := s
  show AW l k_X11_image aw_gz 18 [some (.ref t), some (.int x1), some (.int x2)] [] μ (f_X11_image_18 F t k18 x1 x2 μ)
  unfold f_X11_image_18
  refine aw_iload_n (n := 19) dX11_image_18 rfl rfl ?_
  refine aw_sipush (n := 22) 1155 dX11_image_19 rfl (by decide) ?_
  refine aw_icmp_ge (n := 25) 49 dX11_image_22 (by decide) rfl ?_ ?_
  · exact aw_weak (c_X11_image_49 l F t ht x1 μ) (aw_ss (aw_ss (aw_sn aw_s0)))
  · refine aw_aload_n (n := 26) dX11_image_25 rfl rfl ?_
    refine aw_getR (n := 29) (RX11, TX11, 52) 11 49 dX11_image_26 rfl ht (by decide) fd_RX11_103 ?_
    refine aw_sipush (n := 32) 1155 dX11_image_29 rfl (by decide) ?_
    refine aw_iload_n (n := 33) dX11_image_32 rfl rfl ?_
    refine aw_imul (n := 34) dX11_image_33 rfl ?_
    refine aw_iload_n (n := 35) dX11_image_34 rfl rfl ?_
    refine aw_iadd (n := 36) dX11_image_35 rfl ?_
    refine aw_aload_n (n := 37) dX11_image_36 rfl rfl ?_
    refine aw_getR (n := 40) (RX11, TX11, 52) 11 6 dX11_image_37 rfl ht (by decide) fd_RX11_33 ?_
    refine aw_iload_n (n := 41) dX11_image_40 rfl rfl ?_
    refine aw_iaload (n := 42) 1155 dX11_image_41 rfl (sf_11_6 ht) ?_
    refine aw_iastore (n := 43) 2310 dX11_image_42 rfl (sf_11_49 ht) (fun μ10 => ?_)
    refine aw_iinc (n := 46) (x2 + 1) [some (.ref t), some (.int x1), some (.int (x2 + 1))] dX11_image_43 rfl rfl (by rfl) rfl (Nat.le_of_ble_eq_true rfl) rfl ?_
    refine aw_goto 18 dX11_image_46 (by decide) ?_
    exact aw_weak (hk18 (x1, (x2 + 1), μ10)) (aw_ss (aw_ss (aw_ss aw_s0)))
def f_X11_image (F : Nat) (t : Nat) (a0 : Int32) (μ : aw_M) : Option (Bool × aw_M) :=
  aw_let (aw_wI μ t 0 0) fun μ6 =>
  (f_X11_isIn F a0 0 1 μ6).bind fun r7 =>
  (if r7.1 = true then
  aw_loop (fun k s => f_X11_image_18 F t k s.1 s.2.1 s.2.2) F (a0, 0, r7.2)
  else
  some (false, r7.2))
theorem m_X11_image (l : Launch) (F : Nat) (t : Nat) (ht : (aw_sh t).1 = 16) (a0 : Int32) (μ : aw_M) : AM l yX11_image cX11_image 3 (some .boolean) 2 142 aw_gz [.ref t, .int a0] μ (f_X11_image F t a0 μ) := by
  refine aw_met [some (.ref t), some (.int a0), none] (by decide) (fun _ => rfl) (fun _ => Nat.le_of_ble_eq_true rfl) ?_
  show AW l k_X11_image aw_gz 0 [some (.ref t), some (.int a0), none] [] μ _
  unfold f_X11_image
  refine aw_aload_n (n := 1) dX11_image_0 rfl rfl ?_
  refine aw_iconst (n := 2) 0 dX11_image_1 rfl (by decide) ?_
  refine aw_putI (n := 5) (RX11, TX11, 52) 11 0 dX11_image_2 rfl ht (by decide) fp_RX11_1 (fun μ6 => ?_)
  refine aw_iload_n (n := 6) dX11_image_5 rfl rfl ?_
  refine aw_iconst (n := 7) 0 dX11_image_6 rfl (by decide) ?_
  refine aw_iconst (n := 8) 1 dX11_image_7 rfl (by decide) ?_
  refine aw_callSz (n := 11) (as := [.int a0, .int 0, .int 1]) (st := []) dX11_image_8 rfl rfl (m_X11_isIn l F a0 0 1 μ6) cw_RX11_194 ⟨Nat.le_of_ble_eq_true rfl, Nat.le_of_ble_eq_true rfl⟩ (fun _ => Nat.le_of_ble_eq_true rfl) (fun r7 => ?_)
  refine aw_ifb_ne (n := 14) 16 dX11_image_11 (by decide) rfl ?_ ?_
  · refine aw_iconst (n := 17) 0 dX11_image_16 rfl (by decide) ?_
    refine aw_istore_n (n := 18) [some (.ref t), some (.int a0), some (.int 0)] dX11_image_17 rfl rfl (Nat.le_of_ble_eq_true rfl) (Nat.le_of_ble_eq_true rfl) rfl ?_
    exact aw_weak (c_X11_image_18 l F t ht F (a0, 0, r7.2)) (aw_ss (aw_ss (aw_ss aw_s0)))
  · refine aw_iconst (n := 15) 0 dX11_image_14 rfl (by decide) ?_
    exact aw_zreturn (b := false) dX11_image_15 rfl rfl
abbrev k_X11_restore : aw_K := (RX11, cX11_restore, 3, (some .boolean), 2, 142)
def f_X11_restore_60 (F : Nat) (t : Nat) (k60 : Int32 × Int32 × aw_M → Option (Bool × aw_M)) (x1 : Int32) (x2 : Int32) (μ : aw_M) : Option (Bool × aw_M) :=
  (if 9 ≤ x2 then
  some (true, μ)
  else
  aw_g (aw_in ((9 * x1) + x2) 18) (aw_g (aw_in x2 18) (aw_let (aw_wL μ (aw_rf t 9) x2.toNatClampNeg ((μ.2 (aw_rf t 50) ((9 * x1) + x2).toNatClampNeg))) fun μ7 =>
  k60 (x1, (x2 + 1), μ7))))
theorem c_X11_restore_60 (l : Launch) (F : Nat) (t : Nat) (ht : (aw_sh t).1 = 16) : ∀ (N : Nat) (s : Int32 × Int32 × aw_M), AW l k_X11_restore aw_gz 60 [some (.ref t), some (.int s.1), some (.int s.2.1)] [] s.2.2 (aw_loop (fun k s => f_X11_restore_60 F t k s.1 s.2.1 s.2.2) N s) := by
  refine aw_loop_ok (f := fun k s => f_X11_restore_60 F t k s.1 s.2.1 s.2.2) (Ls := fun s => [some (.ref t), some (.int s.1), some (.int s.2.1)]) (ms := fun s => s.2.2) ?_
  intro k60 hk60 s
  obtain ⟨x1, x2, μ⟩ := s
  show AW l k_X11_restore aw_gz 60 [some (.ref t), some (.int x1), some (.int x2)] [] μ (f_X11_restore_60 F t k60 x1 x2 μ)
  unfold f_X11_restore_60
  refine aw_iload_n (n := 61) dX11_restore_60 rfl rfl ?_
  refine aw_bipush (n := 63) 9 dX11_restore_61 rfl (by decide) ?_
  refine aw_icmp_ge (n := 66) 89 dX11_restore_63 (by decide) rfl ?_ ?_
  · refine aw_iconst (n := 90) 1 dX11_restore_89 rfl (by decide) ?_
    exact aw_zreturn (b := true) dX11_restore_90 rfl rfl
  · refine aw_aload_n (n := 67) dX11_restore_66 rfl rfl ?_
    refine aw_getR (n := 70) (RX11, TX11, 52) 11 9 dX11_restore_67 rfl ht (by decide) fd_RX11_43 ?_
    refine aw_iload_n (n := 71) dX11_restore_70 rfl rfl ?_
    refine aw_aload_n (n := 72) dX11_restore_71 rfl rfl ?_
    refine aw_getR (n := 75) (RX11, TX11, 52) 11 50 dX11_restore_72 rfl ht (by decide) fd_RX11_106 ?_
    refine aw_bipush (n := 77) 9 dX11_restore_75 rfl (by decide) ?_
    refine aw_iload_n (n := 78) dX11_restore_77 rfl rfl ?_
    refine aw_imul (n := 79) dX11_restore_78 rfl ?_
    refine aw_iload_n (n := 80) dX11_restore_79 rfl rfl ?_
    refine aw_iadd (n := 81) dX11_restore_80 rfl ?_
    refine aw_laload (n := 82) 18 dX11_restore_81 rfl (sf_11_50 ht) ?_
    refine aw_lastore (n := 83) 18 dX11_restore_82 rfl (sf_11_9 ht) (fun μ7 => ?_)
    refine aw_iinc (n := 86) (x2 + 1) [some (.ref t), some (.int x1), some (.int (x2 + 1))] dX11_restore_83 rfl rfl (by rfl) rfl (Nat.le_of_ble_eq_true rfl) rfl ?_
    refine aw_goto 60 dX11_restore_86 (by decide) ?_
    exact aw_weak (hk60 (x1, (x2 + 1), μ7)) (aw_ss (aw_ss (aw_ss aw_s0)))
def f_X11_restore_58 (F : Nat) (t : Nat) (x1 : Int32) (μ : aw_M) : Option (Bool × aw_M) :=
  aw_loop (fun k s => f_X11_restore_60 F t k s.1 s.2.1 s.2.2) F (x1, 0, μ)
theorem c_X11_restore_58 (l : Launch) (F : Nat) (t : Nat) (ht : (aw_sh t).1 = 16) (x1 : Int32) (μ : aw_M) : AW l k_X11_restore aw_gz 58 [some (.ref t), some (.int x1), none] [] μ (f_X11_restore_58 F t x1 μ) := by
  unfold f_X11_restore_58
  refine aw_iconst (n := 59) 0 dX11_restore_58 rfl (by decide) ?_
  refine aw_istore_n (n := 60) [some (.ref t), some (.int x1), some (.int 0)] dX11_restore_59 rfl rfl (Nat.le_of_ble_eq_true rfl) (Nat.le_of_ble_eq_true rfl) rfl ?_
  exact aw_weak (c_X11_restore_60 l F t ht F (x1, 0, μ)) (aw_ss (aw_ss (aw_ss aw_s0)))
def f_X11_restore_27 (F : Nat) (t : Nat) (k27 : Int32 × Int32 × aw_M → Option (Bool × aw_M)) (x1 : Int32) (x2 : Int32) (μ : aw_M) : Option (Bool × aw_M) :=
  (if 1155 ≤ x2 then
  f_X11_restore_58 F t x1 μ
  else
  aw_g (aw_in ((1155 * x1) + x2) 2310) (aw_g (aw_in x2 1155) (aw_let (aw_wI μ (aw_rf t 6) x2.toNatClampNeg (μ.1 (aw_rf t 49) ((1155 * x1) + x2).toNatClampNeg)) fun μ8 =>
  k27 (x1, (x2 + 1), μ8))))
theorem c_X11_restore_27 (l : Launch) (F : Nat) (t : Nat) (ht : (aw_sh t).1 = 16) : ∀ (N : Nat) (s : Int32 × Int32 × aw_M), AW l k_X11_restore aw_gz 27 [some (.ref t), some (.int s.1), some (.int s.2.1)] [] s.2.2 (aw_loop (fun k s => f_X11_restore_27 F t k s.1 s.2.1 s.2.2) N s) := by
  refine aw_loop_ok (f := fun k s => f_X11_restore_27 F t k s.1 s.2.1 s.2.2) (Ls := fun s => [some (.ref t), some (.int s.1), some (.int s.2.1)]) (ms := fun s => s.2.2) ?_
  intro k27 hk27 s
  obtain ⟨x1, x2, μ⟩ := s
  show AW l k_X11_restore aw_gz 27 [some (.ref t), some (.int x1), some (.int x2)] [] μ (f_X11_restore_27 F t k27 x1 x2 μ)
  unfold f_X11_restore_27
  refine aw_iload_n (n := 28) dX11_restore_27 rfl rfl ?_
  refine aw_sipush (n := 31) 1155 dX11_restore_28 rfl (by decide) ?_
  refine aw_icmp_ge (n := 34) 58 dX11_restore_31 (by decide) rfl ?_ ?_
  · exact aw_weak (c_X11_restore_58 l F t ht x1 μ) (aw_ss (aw_ss (aw_sn aw_s0)))
  · refine aw_aload_n (n := 35) dX11_restore_34 rfl rfl ?_
    refine aw_getR (n := 38) (RX11, TX11, 52) 11 6 dX11_restore_35 rfl ht (by decide) fd_RX11_33 ?_
    refine aw_iload_n (n := 39) dX11_restore_38 rfl rfl ?_
    refine aw_aload_n (n := 40) dX11_restore_39 rfl rfl ?_
    refine aw_getR (n := 43) (RX11, TX11, 52) 11 49 dX11_restore_40 rfl ht (by decide) fd_RX11_103 ?_
    refine aw_sipush (n := 46) 1155 dX11_restore_43 rfl (by decide) ?_
    refine aw_iload_n (n := 47) dX11_restore_46 rfl rfl ?_
    refine aw_imul (n := 48) dX11_restore_47 rfl ?_
    refine aw_iload_n (n := 49) dX11_restore_48 rfl rfl ?_
    refine aw_iadd (n := 50) dX11_restore_49 rfl ?_
    refine aw_iaload (n := 51) 2310 dX11_restore_50 rfl (sf_11_49 ht) ?_
    refine aw_iastore (n := 52) 1155 dX11_restore_51 rfl (sf_11_6 ht) (fun μ8 => ?_)
    refine aw_iinc (n := 55) (x2 + 1) [some (.ref t), some (.int x1), some (.int (x2 + 1))] dX11_restore_52 rfl rfl (by rfl) rfl (Nat.le_of_ble_eq_true rfl) rfl ?_
    refine aw_goto 27 dX11_restore_55 (by decide) ?_
    exact aw_weak (hk27 (x1, (x2 + 1), μ8)) (aw_ss (aw_ss (aw_ss aw_s0)))
def f_X11_restore (F : Nat) (t : Nat) (a0 : Int32) (μ : aw_M) : Option (Bool × aw_M) :=
  aw_let (aw_wI μ t 0 0) fun μ5 =>
  (f_X11_isIn F a0 0 1 μ5).bind fun r6 =>
  (if r6.1 = true then
  aw_g (aw_in a0 2) ((if (r6.2.1 (aw_rf t 51) a0.toNatClampNeg) = 0 then
  some (false, r6.2)
  else
  aw_loop (fun k s => f_X11_restore_27 F t k s.1 s.2.1 s.2.2) F (a0, 0, r6.2)))
  else
  some (false, r6.2))
theorem m_X11_restore (l : Launch) (F : Nat) (t : Nat) (ht : (aw_sh t).1 = 16) (a0 : Int32) (μ : aw_M) : AM l yX11_restore cX11_restore 3 (some .boolean) 2 142 aw_gz [.ref t, .int a0] μ (f_X11_restore F t a0 μ) := by
  refine aw_met [some (.ref t), some (.int a0), none] (by decide) (fun _ => rfl) (fun _ => Nat.le_of_ble_eq_true rfl) ?_
  show AW l k_X11_restore aw_gz 0 [some (.ref t), some (.int a0), none] [] μ _
  unfold f_X11_restore
  refine aw_aload_n (n := 1) dX11_restore_0 rfl rfl ?_
  refine aw_iconst (n := 2) 0 dX11_restore_1 rfl (by decide) ?_
  refine aw_putI (n := 5) (RX11, TX11, 52) 11 0 dX11_restore_2 rfl ht (by decide) fp_RX11_1 (fun μ5 => ?_)
  refine aw_iload_n (n := 6) dX11_restore_5 rfl rfl ?_
  refine aw_iconst (n := 7) 0 dX11_restore_6 rfl (by decide) ?_
  refine aw_iconst (n := 8) 1 dX11_restore_7 rfl (by decide) ?_
  refine aw_callSz (n := 11) (as := [.int a0, .int 0, .int 1]) (st := []) dX11_restore_8 rfl rfl (m_X11_isIn l F a0 0 1 μ5) cw_RX11_194 ⟨Nat.le_of_ble_eq_true rfl, Nat.le_of_ble_eq_true rfl⟩ (fun _ => Nat.le_of_ble_eq_true rfl) (fun r6 => ?_)
  refine aw_ifb_eq (n := 14) 23 dX11_restore_11 (by decide) rfl ?_ ?_
  · refine aw_iconst (n := 24) 0 dX11_restore_23 rfl (by decide) ?_
    exact aw_zreturn (b := false) dX11_restore_24 rfl rfl
  · refine aw_aload_n (n := 15) dX11_restore_14 rfl rfl ?_
    refine aw_getR (n := 18) (RX11, TX11, 52) 11 51 dX11_restore_15 rfl ht (by decide) fd_RX11_109 ?_
    refine aw_iload_n (n := 19) dX11_restore_18 rfl rfl ?_
    refine aw_zaload (n := 20) 2 dX11_restore_19 rfl (sf_11_51 ht) ?_
    refine aw_if_ne (n := 23) 25 dX11_restore_20 (by decide) rfl ?_ ?_
    · refine aw_iconst (n := 26) 0 dX11_restore_25 rfl (by decide) ?_
      refine aw_istore_n (n := 27) [some (.ref t), some (.int a0), some (.int 0)] dX11_restore_26 rfl rfl (Nat.le_of_ble_eq_true rfl) (Nat.le_of_ble_eq_true rfl) rfl ?_
      exact aw_weak (c_X11_restore_27 l F t ht F (a0, 0, r6.2)) (aw_ss (aw_ss (aw_ss aw_s0)))
    · refine aw_iconst (n := 24) 0 dX11_restore_23 rfl (by decide) ?_
      exact aw_zreturn (b := false) dX11_restore_24 rfl rfl
abbrev k_X11_count : aw_K := (RX11, cX11_count, 2, (some .int), 2, 142)
def f_X11_count (F : Nat) (t : Nat) (a0 : Int32) (μ : aw_M) : Option (Int32 × aw_M) :=
  aw_let (aw_wI μ t 0 0) fun μ1 =>
  (if a0 = 7 then
  aw_g (aw_in 454 1155) (some ((μ1.1 (aw_rf t 6) (454 : Int32).toNatClampNeg), μ1))
  else
  (if a0 = 8 then
  some ((μ1.1 t 2), μ1)
  else
  (f_X11_isIn F a0 0 6 μ1).bind fun r2 =>
  (if r2.1 = true then
  aw_g (aw_in a0 1155) (some ((r2.2.1 (aw_rf t 6) a0.toNatClampNeg), r2.2))
  else
  some ((-1), r2.2))))
theorem m_X11_count (l : Launch) (F : Nat) (t : Nat) (ht : (aw_sh t).1 = 16) (a0 : Int32) (μ : aw_M) : AM l yX11_count cX11_count 2 (some .int) 2 142 aw_gi [.ref t, .int a0] μ (f_X11_count F t a0 μ) := by
  refine aw_met [some (.ref t), some (.int a0)] (by decide) (fun _ => rfl) (fun _ => Nat.le_of_ble_eq_true rfl) ?_
  show AW l k_X11_count aw_gi 0 [some (.ref t), some (.int a0)] [] μ _
  unfold f_X11_count
  refine aw_aload_n (n := 1) dX11_count_0 rfl rfl ?_
  refine aw_iconst (n := 2) 0 dX11_count_1 rfl (by decide) ?_
  refine aw_putI (n := 5) (RX11, TX11, 52) 11 0 dX11_count_2 rfl ht (by decide) fp_RX11_1 (fun μ1 => ?_)
  refine aw_iload_n (n := 6) dX11_count_5 rfl rfl ?_
  refine aw_bipush (n := 8) 7 dX11_count_6 rfl (by decide) ?_
  refine aw_icmp_ne (n := 11) 22 dX11_count_8 (by decide) rfl ?_ ?_
  · refine aw_iload_n (n := 23) dX11_count_22 rfl rfl ?_
    refine aw_bipush (n := 25) 8 dX11_count_23 rfl (by decide) ?_
    refine aw_icmp_ne (n := 28) 35 dX11_count_25 (by decide) rfl ?_ ?_
    · refine aw_iload_n (n := 36) dX11_count_35 rfl rfl ?_
      refine aw_iconst (n := 37) 0 dX11_count_36 rfl (by decide) ?_
      refine aw_bipush (n := 39) 6 dX11_count_37 rfl (by decide) ?_
      refine aw_callSz (n := 42) (as := [.int a0, .int 0, .int 6]) (st := []) dX11_count_39 rfl rfl (m_X11_isIn l F a0 0 6 μ1) cw_RX11_194 ⟨Nat.le_of_ble_eq_true rfl, Nat.le_of_ble_eq_true rfl⟩ (fun _ => Nat.le_of_ble_eq_true rfl) (fun r2 => ?_)
      refine aw_ifb_eq (n := 45) 54 dX11_count_42 (by decide) rfl ?_ ?_
      · refine aw_iconst (n := 55) (-1) dX11_count_54 rfl (by decide) ?_
        exact aw_ireturn dX11_count_55 rfl rfl
      · refine aw_aload_n (n := 46) dX11_count_45 rfl rfl ?_
        refine aw_getR (n := 49) (RX11, TX11, 52) 11 6 dX11_count_46 rfl ht (by decide) fd_RX11_33 ?_
        refine aw_iload_n (n := 50) dX11_count_49 rfl rfl ?_
        refine aw_iaload (n := 51) 1155 dX11_count_50 rfl (sf_11_6 ht) ?_
        refine aw_goto 55 dX11_count_51 (by decide) ?_
        exact aw_ireturn dX11_count_55 rfl rfl
    · refine aw_aload_n (n := 29) dX11_count_28 rfl rfl ?_
      refine aw_getI (n := 32) (RX11, TX11, 52) 11 2 dX11_count_29 rfl ht (by decide) fd_RX11_7 ?_
      refine aw_goto 55 dX11_count_32 (by decide) ?_
      exact aw_ireturn dX11_count_55 rfl rfl
  · refine aw_aload_n (n := 12) dX11_count_11 rfl rfl ?_
    refine aw_getR (n := 15) (RX11, TX11, 52) 11 6 dX11_count_12 rfl ht (by decide) fd_RX11_33 ?_
    refine aw_sipush (n := 18) 454 dX11_count_15 rfl (by decide) ?_
    refine aw_iaload (n := 19) 1155 dX11_count_18 rfl (sf_11_6 ht) ?_
    refine aw_goto 55 dX11_count_19 (by decide) ?_
    exact aw_ireturn dX11_count_55 rfl rfl
