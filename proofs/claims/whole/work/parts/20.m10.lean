abbrev k_X11_join : aw_K := (RX11, cX11_join, 7, (some .int), 7, 263)
def f_X11_join (F : Nat) (t : Nat) (a0 : Int32) (a1 : Int32) (μ : aw_M) : Option (Int32 × aw_M) :=
  aw_let (aw_wI μ t 0 0) fun μ1 =>
  (f_X11_isQuarter F t a0 μ1).bind fun r2 =>
  (if r2.1 = true then
  (f_X11_isQuarter F t a1 r2.2).bind fun r3 =>
  (if r3.1 = true then
  (if a0 = a1 then
  some ((-10001), r3.2)
  else
  aw_g (aw_in (427 + a1) 1155) ((if (r3.2.1 (aw_rf t 6) (427 + a1).toNatClampNeg) = 0 then
  some ((-10001), r3.2)
  else
  (f_X11_sureDay F t r3.2).bind fun r4 =>
  aw_g (aw_in a0 9) (aw_g (aw_in a1 9) (aw_let (((r4.1 (aw_rf t 23) a0.toNatClampNeg) + (r4.1 (aw_rf t 23) a1.toNatClampNeg))) fun v5 =>
  aw_g (aw_in (427 + a0) 1155) (aw_let ((r4.1 (aw_rf t 6) (427 + a0).toNatClampNeg)) fun v6 =>
  aw_g (aw_in (436 + a0) 1155) (aw_let ((r4.1 (aw_rf t 6) (436 + a0).toNatClampNeg)) fun v7 =>
  aw_g (aw_in (445 + a0) 1155) (aw_let ((r4.1 (aw_rf t 6) (445 + a0).toNatClampNeg)) fun v8 =>
  aw_g (aw_in (427 + a1) 1155) (aw_g (aw_in (427 + a0) 1155) (aw_let (aw_wI r4 (aw_rf t 6) (427 + a0).toNatClampNeg (r4.1 (aw_rf t 6) (427 + a1).toNatClampNeg)) fun μ9 =>
  aw_g (aw_in (436 + a1) 1155) (aw_g (aw_in (436 + a0) 1155) (aw_let (aw_wI μ9 (aw_rf t 6) (436 + a0).toNatClampNeg (μ9.1 (aw_rf t 6) (436 + a1).toNatClampNeg)) fun μ10 =>
  aw_g (aw_in (445 + a1) 1155) (aw_g (aw_in (445 + a0) 1155) (aw_let (aw_wI μ10 (aw_rf t 6) (445 + a0).toNatClampNeg (μ10.1 (aw_rf t 6) (445 + a1).toNatClampNeg)) fun μ11 =>
  (f_X11_sureDay F t μ11).bind fun r12 =>
  aw_g (aw_in (427 + a0) 1155) (aw_let (aw_wI r12 (aw_rf t 6) (427 + a0).toNatClampNeg v6) fun μ13 =>
  aw_g (aw_in (436 + a0) 1155) (aw_let (aw_wI μ13 (aw_rf t 6) (436 + a0).toNatClampNeg v7) fun μ14 =>
  aw_g (aw_in (445 + a0) 1155) (aw_let (aw_wI μ14 (aw_rf t 6) (445 + a0).toNatClampNeg v8) fun μ15 =>
  aw_g (aw_in a0 9) (aw_g (aw_in a1 9) (some ((((μ15.1 (aw_rf t 23) a0.toNatClampNeg) + (μ15.1 (aw_rf t 23) a1.toNatClampNeg)) - v5), μ15))))))))))))))))))))
  else
  some ((-10001), r3.2))
  else
  some ((-10001), r2.2))
theorem m_X11_join (l : Launch) (F : Nat) (t : Nat) (ht : (aw_sh t).1 = 16) (a0 : Int32) (a1 : Int32) (μ : aw_M) : AM l yX11_join cX11_join 7 (some .int) 7 263 aw_gi [.ref t, .int a0, .int a1] μ (f_X11_join F t a0 a1 μ) := by
  refine aw_met [some (.ref t), some (.int a0), some (.int a1), none, none, none, none] (by decide) (fun _ => rfl) (fun _ => Nat.le_of_ble_eq_true rfl) ?_
  show AW l k_X11_join aw_gi 0 [some (.ref t), some (.int a0), some (.int a1), none, none, none, none] [] μ _
  unfold f_X11_join
  refine aw_aload_n (n := 1) dX11_join_0 rfl rfl ?_
  refine aw_iconst (n := 2) 0 dX11_join_1 rfl (by decide) ?_
  refine aw_putI (n := 5) (RX11, TX11, 52) 11 0 dX11_join_2 rfl ht (by decide) fp_RX11_1 (fun μ1 => ?_)
  refine aw_aload_n (n := 6) dX11_join_5 rfl rfl ?_
  refine aw_iload_n (n := 7) dX11_join_6 rfl rfl ?_
  refine aw_callVz (n := 10) (as := [.int a0]) (st := []) (RX11, TX11, 52) 11 dX11_join_7 rfl rfl (m_X11_isQuarter l F t ht a0 μ1) ht (by decide) rfl rfl cw_RX11_258 ⟨Nat.le_of_ble_eq_true rfl, Nat.le_of_ble_eq_true rfl⟩ (fun _ => Nat.le_of_ble_eq_true rfl) (fun r2 => ?_)
  refine aw_ifb_eq (n := 13) 39 dX11_join_10 (by decide) rfl ?_ ?_
  · refine aw_sipush (n := 42) (-10001) dX11_join_39 rfl (by decide) ?_
    exact aw_ireturn dX11_join_42 rfl rfl
  · refine aw_aload_n (n := 14) dX11_join_13 rfl rfl ?_
    refine aw_iload_n (n := 15) dX11_join_14 rfl rfl ?_
    refine aw_callVz (n := 18) (as := [.int a1]) (st := []) (RX11, TX11, 52) 11 dX11_join_15 rfl rfl (m_X11_isQuarter l F t ht a1 r2.2) ht (by decide) rfl rfl cw_RX11_258 ⟨Nat.le_of_ble_eq_true rfl, Nat.le_of_ble_eq_true rfl⟩ (fun _ => Nat.le_of_ble_eq_true rfl) (fun r3 => ?_)
    refine aw_ifb_eq (n := 21) 39 dX11_join_18 (by decide) rfl ?_ ?_
    · refine aw_sipush (n := 42) (-10001) dX11_join_39 rfl (by decide) ?_
      exact aw_ireturn dX11_join_42 rfl rfl
    · refine aw_iload_n (n := 22) dX11_join_21 rfl rfl ?_
      refine aw_iload_n (n := 23) dX11_join_22 rfl rfl ?_
      refine aw_icmp_eq (n := 26) 39 dX11_join_23 (by decide) rfl ?_ ?_
      · refine aw_sipush (n := 42) (-10001) dX11_join_39 rfl (by decide) ?_
        exact aw_ireturn dX11_join_42 rfl rfl
      · refine aw_aload_n (n := 27) dX11_join_26 rfl rfl ?_
        refine aw_getR (n := 30) (RX11, TX11, 52) 11 6 dX11_join_27 rfl ht (by decide) fd_RX11_33 ?_
        refine aw_sipush (n := 33) 427 dX11_join_30 rfl (by decide) ?_
        refine aw_iload_n (n := 34) dX11_join_33 rfl rfl ?_
        refine aw_iadd (n := 35) dX11_join_34 rfl ?_
        refine aw_iaload (n := 36) 1155 dX11_join_35 rfl (sf_11_6 ht) ?_
        refine aw_if_ne (n := 39) 43 dX11_join_36 (by decide) rfl ?_ ?_
        · refine aw_aload_n (n := 44) dX11_join_43 rfl rfl ?_
          refine aw_callVv (n := 47) (as := []) (st := []) (RX11, TX11, 52) 11 dX11_join_44 rfl rfl (m_X11_sureDay l F t ht r3.2) ht (by decide) rfl rfl cw_RX11_323 ⟨Nat.le_of_ble_eq_true rfl, Nat.le_of_ble_eq_true rfl⟩ (fun _ => Nat.le_of_ble_eq_true rfl) (fun r4 => ?_)
          refine aw_aload_n (n := 48) dX11_join_47 rfl rfl ?_
          refine aw_getR (n := 51) (RX11, TX11, 52) 11 23 dX11_join_48 rfl ht (by decide) fd_RX11_53 ?_
          refine aw_iload_n (n := 52) dX11_join_51 rfl rfl ?_
          refine aw_iaload (n := 53) 9 dX11_join_52 rfl (sf_11_23 ht) ?_
          refine aw_aload_n (n := 54) dX11_join_53 rfl rfl ?_
          refine aw_getR (n := 57) (RX11, TX11, 52) 11 23 dX11_join_54 rfl ht (by decide) fd_RX11_53 ?_
          refine aw_iload_n (n := 58) dX11_join_57 rfl rfl ?_
          refine aw_iaload (n := 59) 9 dX11_join_58 rfl (sf_11_23 ht) ?_
          refine aw_iadd (n := 60) dX11_join_59 rfl ?_
          refine aw_nmI (fun v5 => ?_)
          refine aw_istore_n (n := 61) [some (.ref t), some (.int a0), some (.int a1), some (.int v5), none, none, none] dX11_join_60 rfl rfl (Nat.le_of_ble_eq_true rfl) (Nat.le_of_ble_eq_true rfl) rfl ?_
          refine aw_aload_n (n := 62) dX11_join_61 rfl rfl ?_
          refine aw_getR (n := 65) (RX11, TX11, 52) 11 6 dX11_join_62 rfl ht (by decide) fd_RX11_33 ?_
          refine aw_sipush (n := 68) 427 dX11_join_65 rfl (by decide) ?_
          refine aw_iload_n (n := 69) dX11_join_68 rfl rfl ?_
          refine aw_iadd (n := 70) dX11_join_69 rfl ?_
          refine aw_iaload (n := 71) 1155 dX11_join_70 rfl (sf_11_6 ht) ?_
          refine aw_nmI (fun v6 => ?_)
          refine aw_istore (n := 73) [some (.ref t), some (.int a0), some (.int a1), some (.int v5), some (.int v6), none, none] dX11_join_71 rfl rfl (Nat.le_of_ble_eq_true rfl) (Nat.le_of_ble_eq_true rfl) rfl ?_
          refine aw_aload_n (n := 74) dX11_join_73 rfl rfl ?_
          refine aw_getR (n := 77) (RX11, TX11, 52) 11 6 dX11_join_74 rfl ht (by decide) fd_RX11_33 ?_
          refine aw_sipush (n := 80) 436 dX11_join_77 rfl (by decide) ?_
          refine aw_iload_n (n := 81) dX11_join_80 rfl rfl ?_
          refine aw_iadd (n := 82) dX11_join_81 rfl ?_
          refine aw_iaload (n := 83) 1155 dX11_join_82 rfl (sf_11_6 ht) ?_
          refine aw_nmI (fun v7 => ?_)
          refine aw_istore (n := 85) [some (.ref t), some (.int a0), some (.int a1), some (.int v5), some (.int v6), some (.int v7), none] dX11_join_83 rfl rfl (Nat.le_of_ble_eq_true rfl) (Nat.le_of_ble_eq_true rfl) rfl ?_
          refine aw_aload_n (n := 86) dX11_join_85 rfl rfl ?_
          refine aw_getR (n := 89) (RX11, TX11, 52) 11 6 dX11_join_86 rfl ht (by decide) fd_RX11_33 ?_
          refine aw_sipush (n := 92) 445 dX11_join_89 rfl (by decide) ?_
          refine aw_iload_n (n := 93) dX11_join_92 rfl rfl ?_
          refine aw_iadd (n := 94) dX11_join_93 rfl ?_
          refine aw_iaload (n := 95) 1155 dX11_join_94 rfl (sf_11_6 ht) ?_
          refine aw_nmI (fun v8 => ?_)
          refine aw_istore (n := 97) [some (.ref t), some (.int a0), some (.int a1), some (.int v5), some (.int v6), some (.int v7), some (.int v8)] dX11_join_95 rfl rfl (Nat.le_of_ble_eq_true rfl) (Nat.le_of_ble_eq_true rfl) rfl ?_
          refine aw_aload_n (n := 98) dX11_join_97 rfl rfl ?_
          refine aw_getR (n := 101) (RX11, TX11, 52) 11 6 dX11_join_98 rfl ht (by decide) fd_RX11_33 ?_
          refine aw_sipush (n := 104) 427 dX11_join_101 rfl (by decide) ?_
          refine aw_iload_n (n := 105) dX11_join_104 rfl rfl ?_
          refine aw_iadd (n := 106) dX11_join_105 rfl ?_
          refine aw_aload_n (n := 107) dX11_join_106 rfl rfl ?_
          refine aw_getR (n := 110) (RX11, TX11, 52) 11 6 dX11_join_107 rfl ht (by decide) fd_RX11_33 ?_
          refine aw_sipush (n := 113) 427 dX11_join_110 rfl (by decide) ?_
          refine aw_iload_n (n := 114) dX11_join_113 rfl rfl ?_
          refine aw_iadd (n := 115) dX11_join_114 rfl ?_
          refine aw_iaload (n := 116) 1155 dX11_join_115 rfl (sf_11_6 ht) ?_
          refine aw_iastore (n := 117) 1155 dX11_join_116 rfl (sf_11_6 ht) (fun μ9 => ?_)
          refine aw_aload_n (n := 118) dX11_join_117 rfl rfl ?_
          refine aw_getR (n := 121) (RX11, TX11, 52) 11 6 dX11_join_118 rfl ht (by decide) fd_RX11_33 ?_
          refine aw_sipush (n := 124) 436 dX11_join_121 rfl (by decide) ?_
          refine aw_iload_n (n := 125) dX11_join_124 rfl rfl ?_
          refine aw_iadd (n := 126) dX11_join_125 rfl ?_
          refine aw_aload_n (n := 127) dX11_join_126 rfl rfl ?_
          refine aw_getR (n := 130) (RX11, TX11, 52) 11 6 dX11_join_127 rfl ht (by decide) fd_RX11_33 ?_
          refine aw_sipush (n := 133) 436 dX11_join_130 rfl (by decide) ?_
          refine aw_iload_n (n := 134) dX11_join_133 rfl rfl ?_
          refine aw_iadd (n := 135) dX11_join_134 rfl ?_
          refine aw_iaload (n := 136) 1155 dX11_join_135 rfl (sf_11_6 ht) ?_
          refine aw_iastore (n := 137) 1155 dX11_join_136 rfl (sf_11_6 ht) (fun μ10 => ?_)
          refine aw_aload_n (n := 138) dX11_join_137 rfl rfl ?_
          refine aw_getR (n := 141) (RX11, TX11, 52) 11 6 dX11_join_138 rfl ht (by decide) fd_RX11_33 ?_
          refine aw_sipush (n := 144) 445 dX11_join_141 rfl (by decide) ?_
          refine aw_iload_n (n := 145) dX11_join_144 rfl rfl ?_
          refine aw_iadd (n := 146) dX11_join_145 rfl ?_
          refine aw_aload_n (n := 147) dX11_join_146 rfl rfl ?_
          refine aw_getR (n := 150) (RX11, TX11, 52) 11 6 dX11_join_147 rfl ht (by decide) fd_RX11_33 ?_
          refine aw_sipush (n := 153) 445 dX11_join_150 rfl (by decide) ?_
          refine aw_iload_n (n := 154) dX11_join_153 rfl rfl ?_
          refine aw_iadd (n := 155) dX11_join_154 rfl ?_
          refine aw_iaload (n := 156) 1155 dX11_join_155 rfl (sf_11_6 ht) ?_
          refine aw_iastore (n := 157) 1155 dX11_join_156 rfl (sf_11_6 ht) (fun μ11 => ?_)
          refine aw_aload_n (n := 158) dX11_join_157 rfl rfl ?_
          refine aw_callVv (n := 161) (as := []) (st := []) (RX11, TX11, 52) 11 dX11_join_158 rfl rfl (m_X11_sureDay l F t ht μ11) ht (by decide) rfl rfl cw_RX11_323 ⟨Nat.le_of_ble_eq_true rfl, Nat.le_of_ble_eq_true rfl⟩ (fun _ => Nat.le_of_ble_eq_true rfl) (fun r12 => ?_)
          refine aw_aload_n (n := 162) dX11_join_161 rfl rfl ?_
          refine aw_getR (n := 165) (RX11, TX11, 52) 11 6 dX11_join_162 rfl ht (by decide) fd_RX11_33 ?_
          refine aw_sipush (n := 168) 427 dX11_join_165 rfl (by decide) ?_
          refine aw_iload_n (n := 169) dX11_join_168 rfl rfl ?_
          refine aw_iadd (n := 170) dX11_join_169 rfl ?_
          refine aw_iload (n := 172) dX11_join_170 rfl rfl ?_
          refine aw_iastore (n := 173) 1155 dX11_join_172 rfl (sf_11_6 ht) (fun μ13 => ?_)
          refine aw_aload_n (n := 174) dX11_join_173 rfl rfl ?_
          refine aw_getR (n := 177) (RX11, TX11, 52) 11 6 dX11_join_174 rfl ht (by decide) fd_RX11_33 ?_
          refine aw_sipush (n := 180) 436 dX11_join_177 rfl (by decide) ?_
          refine aw_iload_n (n := 181) dX11_join_180 rfl rfl ?_
          refine aw_iadd (n := 182) dX11_join_181 rfl ?_
          refine aw_iload (n := 184) dX11_join_182 rfl rfl ?_
          refine aw_iastore (n := 185) 1155 dX11_join_184 rfl (sf_11_6 ht) (fun μ14 => ?_)
          refine aw_aload_n (n := 186) dX11_join_185 rfl rfl ?_
          refine aw_getR (n := 189) (RX11, TX11, 52) 11 6 dX11_join_186 rfl ht (by decide) fd_RX11_33 ?_
          refine aw_sipush (n := 192) 445 dX11_join_189 rfl (by decide) ?_
          refine aw_iload_n (n := 193) dX11_join_192 rfl rfl ?_
          refine aw_iadd (n := 194) dX11_join_193 rfl ?_
          refine aw_iload (n := 196) dX11_join_194 rfl rfl ?_
          refine aw_iastore (n := 197) 1155 dX11_join_196 rfl (sf_11_6 ht) (fun μ15 => ?_)
          refine aw_aload_n (n := 198) dX11_join_197 rfl rfl ?_
          refine aw_getR (n := 201) (RX11, TX11, 52) 11 23 dX11_join_198 rfl ht (by decide) fd_RX11_53 ?_
          refine aw_iload_n (n := 202) dX11_join_201 rfl rfl ?_
          refine aw_iaload (n := 203) 9 dX11_join_202 rfl (sf_11_23 ht) ?_
          refine aw_aload_n (n := 204) dX11_join_203 rfl rfl ?_
          refine aw_getR (n := 207) (RX11, TX11, 52) 11 23 dX11_join_204 rfl ht (by decide) fd_RX11_53 ?_
          refine aw_iload_n (n := 208) dX11_join_207 rfl rfl ?_
          refine aw_iaload (n := 209) 9 dX11_join_208 rfl (sf_11_23 ht) ?_
          refine aw_iadd (n := 210) dX11_join_209 rfl ?_
          refine aw_iload_n (n := 211) dX11_join_210 rfl rfl ?_
          refine aw_isub (n := 212) dX11_join_211 rfl ?_
          exact aw_ireturn dX11_join_212 rfl rfl
        · refine aw_sipush (n := 42) (-10001) dX11_join_39 rfl (by decide) ?_
          exact aw_ireturn dX11_join_42 rfl rfl
abbrev k_X11_isLaw : aw_K := (RX11, cX11_isLaw, 3, (some .boolean), 2, 141)
def f_X11_isLaw_2 (F : Nat) (t : Nat) (k2 : Int32 × Int32 × aw_M → Option (Bool × aw_M)) (x1 : Int32) (x2 : Int32) (μ : aw_M) : Option (Bool × aw_M) :=
  (if (μ.1 t 3) ≤ x2 then
  some (true, μ)
  else
  (f_X11_octet F t x2 μ).bind fun r6 =>
  (f_X11_octet F t (x2 + 1) r6.2).bind fun r7 =>
  (f_X11_octet F t (x2 + 2) r7.2).bind fun r8 =>
  (f_X11_octet F t (x2 + 3) r8.2).bind fun r9 =>
  (f_X11_octet F t (x2 + 4) r9.2).bind fun r10 =>
  (if (((((x1 / 1000) * r6.1) + ((((x1 / 100) - (x1 / 100) / 10 * 10) * 2) * r7.1)) + (((x1 / 10) - (x1 / 10) / 10 * 10) * r8.1)) - ((x1 - x1 / 10 * 10) * r9.1)) = (r10.1 - 100) then
  k2 (x1, (x2 + 5), r10.2)
  else
  some (false, r10.2)))
theorem c_X11_isLaw_2 (l : Launch) (F : Nat) (t : Nat) (ht : (aw_sh t).1 = 16) : ∀ (N : Nat) (s : Int32 × Int32 × aw_M), AW l k_X11_isLaw aw_gz 2 [some (.ref t), some (.int s.1), some (.int s.2.1)] [] s.2.2 (aw_loop (fun k s => f_X11_isLaw_2 F t k s.1 s.2.1 s.2.2) N s) := by
  refine aw_loop_ok (f := fun k s => f_X11_isLaw_2 F t k s.1 s.2.1 s.2.2) (Ls := fun s => [some (.ref t), some (.int s.1), some (.int s.2.1)]) (ms := fun s => s.2.2) ?_
  intro k2 hk2 s
  obtain ⟨x1, x2, μ⟩ := s
  show AW l k_X11_isLaw aw_gz 2 [some (.ref t), some (.int x1), some (.int x2)] [] μ (f_X11_isLaw_2 F t k2 x1 x2 μ)
  unfold f_X11_isLaw_2
  refine aw_iload_n (n := 3) dX11_isLaw_2 rfl rfl ?_
  refine aw_aload_n (n := 4) dX11_isLaw_3 rfl rfl ?_
  refine aw_getI (n := 7) (RX11, TX11, 52) 11 3 dX11_isLaw_4 rfl ht (by decide) fd_RX11_18 ?_
  refine aw_icmp_ge (n := 10) 89 dX11_isLaw_7 (by decide) rfl ?_ ?_
  · refine aw_iconst (n := 90) 1 dX11_isLaw_89 rfl (by decide) ?_
    exact aw_zreturn (b := true) dX11_isLaw_90 rfl rfl
  · refine aw_iload_n (n := 11) dX11_isLaw_10 rfl rfl ?_
    refine aw_sipush (n := 14) 1000 dX11_isLaw_11 rfl (by decide) ?_
    refine aw_idivK (n := 15) dX11_isLaw_14 rfl (by decide) ?_
    refine aw_aload_n (n := 16) dX11_isLaw_15 rfl rfl ?_
    refine aw_iload_n (n := 17) dX11_isLaw_16 rfl rfl ?_
    refine aw_callVi (n := 20) (as := [.int x2]) (st := [.int (x1 / 1000)]) (RX11, TX11, 52) 11 dX11_isLaw_17 rfl rfl (m_X11_octet l F t ht x2 μ) ht (by decide) rfl rfl cw_RX11_330 ⟨Nat.le_of_ble_eq_true rfl, Nat.le_of_ble_eq_true rfl⟩ (fun _ => Nat.le_of_ble_eq_true rfl) (fun r6 => ?_)
    refine aw_imul (n := 21) dX11_isLaw_20 rfl ?_
    refine aw_iload_n (n := 22) dX11_isLaw_21 rfl rfl ?_
    refine aw_bipush (n := 24) 100 dX11_isLaw_22 rfl (by decide) ?_
    refine aw_idivK (n := 25) dX11_isLaw_24 rfl (by decide) ?_
    refine aw_bipush (n := 27) 10 dX11_isLaw_25 rfl (by decide) ?_
    refine aw_iremK (n := 28) dX11_isLaw_27 rfl (by decide) ?_
    refine aw_iconst (n := 29) 2 dX11_isLaw_28 rfl (by decide) ?_
    refine aw_imul (n := 30) dX11_isLaw_29 rfl ?_
    refine aw_aload_n (n := 31) dX11_isLaw_30 rfl rfl ?_
    refine aw_iload_n (n := 32) dX11_isLaw_31 rfl rfl ?_
    refine aw_iconst (n := 33) 1 dX11_isLaw_32 rfl (by decide) ?_
    refine aw_iadd (n := 34) dX11_isLaw_33 rfl ?_
    refine aw_callVi (n := 37) (as := [.int (x2 + 1)]) (st := [.int (((x1 / 100) - (x1 / 100) / 10 * 10) * 2), .int ((x1 / 1000) * r6.1)]) (RX11, TX11, 52) 11 dX11_isLaw_34 rfl rfl (m_X11_octet l F t ht (x2 + 1) r6.2) ht (by decide) rfl rfl cw_RX11_330 ⟨Nat.le_of_ble_eq_true rfl, Nat.le_of_ble_eq_true rfl⟩ (fun _ => Nat.le_of_ble_eq_true rfl) (fun r7 => ?_)
    refine aw_imul (n := 38) dX11_isLaw_37 rfl ?_
    refine aw_iadd (n := 39) dX11_isLaw_38 rfl ?_
    refine aw_iload_n (n := 40) dX11_isLaw_39 rfl rfl ?_
    refine aw_bipush (n := 42) 10 dX11_isLaw_40 rfl (by decide) ?_
    refine aw_idivK (n := 43) dX11_isLaw_42 rfl (by decide) ?_
    refine aw_bipush (n := 45) 10 dX11_isLaw_43 rfl (by decide) ?_
    refine aw_iremK (n := 46) dX11_isLaw_45 rfl (by decide) ?_
    refine aw_aload_n (n := 47) dX11_isLaw_46 rfl rfl ?_
    refine aw_iload_n (n := 48) dX11_isLaw_47 rfl rfl ?_
    refine aw_iconst (n := 49) 2 dX11_isLaw_48 rfl (by decide) ?_
    refine aw_iadd (n := 50) dX11_isLaw_49 rfl ?_
    refine aw_callVi (n := 53) (as := [.int (x2 + 2)]) (st := [.int ((x1 / 10) - (x1 / 10) / 10 * 10), .int (((x1 / 1000) * r6.1) + ((((x1 / 100) - (x1 / 100) / 10 * 10) * 2) * r7.1))]) (RX11, TX11, 52) 11 dX11_isLaw_50 rfl rfl (m_X11_octet l F t ht (x2 + 2) r7.2) ht (by decide) rfl rfl cw_RX11_330 ⟨Nat.le_of_ble_eq_true rfl, Nat.le_of_ble_eq_true rfl⟩ (fun _ => Nat.le_of_ble_eq_true rfl) (fun r8 => ?_)
    refine aw_imul (n := 54) dX11_isLaw_53 rfl ?_
    refine aw_iadd (n := 55) dX11_isLaw_54 rfl ?_
    refine aw_iload_n (n := 56) dX11_isLaw_55 rfl rfl ?_
    refine aw_bipush (n := 58) 10 dX11_isLaw_56 rfl (by decide) ?_
    refine aw_iremK (n := 59) dX11_isLaw_58 rfl (by decide) ?_
    refine aw_aload_n (n := 60) dX11_isLaw_59 rfl rfl ?_
    refine aw_iload_n (n := 61) dX11_isLaw_60 rfl rfl ?_
    refine aw_iconst (n := 62) 3 dX11_isLaw_61 rfl (by decide) ?_
    refine aw_iadd (n := 63) dX11_isLaw_62 rfl ?_
    refine aw_callVi (n := 66) (as := [.int (x2 + 3)]) (st := [.int (x1 - x1 / 10 * 10), .int ((((x1 / 1000) * r6.1) + ((((x1 / 100) - (x1 / 100) / 10 * 10) * 2) * r7.1)) + (((x1 / 10) - (x1 / 10) / 10 * 10) * r8.1))]) (RX11, TX11, 52) 11 dX11_isLaw_63 rfl rfl (m_X11_octet l F t ht (x2 + 3) r8.2) ht (by decide) rfl rfl cw_RX11_330 ⟨Nat.le_of_ble_eq_true rfl, Nat.le_of_ble_eq_true rfl⟩ (fun _ => Nat.le_of_ble_eq_true rfl) (fun r9 => ?_)
    refine aw_imul (n := 67) dX11_isLaw_66 rfl ?_
    refine aw_isub (n := 68) dX11_isLaw_67 rfl ?_
    refine aw_aload_n (n := 69) dX11_isLaw_68 rfl rfl ?_
    refine aw_iload_n (n := 70) dX11_isLaw_69 rfl rfl ?_
    refine aw_iconst (n := 71) 4 dX11_isLaw_70 rfl (by decide) ?_
    refine aw_iadd (n := 72) dX11_isLaw_71 rfl ?_
    refine aw_callVi (n := 75) (as := [.int (x2 + 4)]) (st := [.int (((((x1 / 1000) * r6.1) + ((((x1 / 100) - (x1 / 100) / 10 * 10) * 2) * r7.1)) + (((x1 / 10) - (x1 / 10) / 10 * 10) * r8.1)) - ((x1 - x1 / 10 * 10) * r9.1))]) (RX11, TX11, 52) 11 dX11_isLaw_72 rfl rfl (m_X11_octet l F t ht (x2 + 4) r9.2) ht (by decide) rfl rfl cw_RX11_330 ⟨Nat.le_of_ble_eq_true rfl, Nat.le_of_ble_eq_true rfl⟩ (fun _ => Nat.le_of_ble_eq_true rfl) (fun r10 => ?_)
    refine aw_bipush (n := 77) 100 dX11_isLaw_75 rfl (by decide) ?_
    refine aw_isub (n := 78) dX11_isLaw_77 rfl ?_
    refine aw_icmp_eq (n := 81) 83 dX11_isLaw_78 (by decide) rfl ?_ ?_
    · refine aw_iinc (n := 86) (x2 + 5) [some (.ref t), some (.int x1), some (.int (x2 + 5))] dX11_isLaw_83 rfl rfl (by rfl) rfl (Nat.le_of_ble_eq_true rfl) rfl ?_
      refine aw_goto 2 dX11_isLaw_86 (by decide) ?_
      exact aw_weak (hk2 (x1, (x2 + 5), r10.2)) (aw_ss (aw_ss (aw_ss aw_s0)))
    · refine aw_iconst (n := 82) 0 dX11_isLaw_81 rfl (by decide) ?_
      exact aw_zreturn (b := false) dX11_isLaw_82 rfl rfl
def f_X11_isLaw (F : Nat) (t : Nat) (a0 : Int32) (μ : aw_M) : Option (Bool × aw_M) :=
  aw_loop (fun k s => f_X11_isLaw_2 F t k s.1 s.2.1 s.2.2) F (a0, 0, μ)
theorem m_X11_isLaw (l : Launch) (F : Nat) (t : Nat) (ht : (aw_sh t).1 = 16) (a0 : Int32) (μ : aw_M) : AM l yX11_isLaw cX11_isLaw 3 (some .boolean) 2 141 aw_gz [.ref t, .int a0] μ (f_X11_isLaw F t a0 μ) := by
  refine aw_met [some (.ref t), some (.int a0), none] (by decide) (fun _ => rfl) (fun _ => Nat.le_of_ble_eq_true rfl) ?_
  show AW l k_X11_isLaw aw_gz 0 [some (.ref t), some (.int a0), none] [] μ _
  unfold f_X11_isLaw
  refine aw_iconst (n := 1) 0 dX11_isLaw_0 rfl (by decide) ?_
  refine aw_istore_n (n := 2) [some (.ref t), some (.int a0), some (.int 0)] dX11_isLaw_1 rfl rfl (Nat.le_of_ble_eq_true rfl) (Nat.le_of_ble_eq_true rfl) rfl ?_
  exact aw_weak (c_X11_isLaw_2 l F t ht F (a0, 0, μ)) (aw_ss (aw_ss (aw_ss aw_s0)))
abbrev k_X11_look : aw_K := (RX11, cX11_look, 3, (some .int), 3, 163)
def f_X11_look_162 (F : Nat) (t : Nat) (k109 : Int32 × Int32 × aw_M → Option (Int32 × aw_M)) (x1 : Int32) (x2 : Int32) (μ : aw_M) : Option (Int32 × aw_M) :=
  k109 (x1, (x2 + 1), μ)
theorem c_X11_look_162 (l : Launch) (F : Nat) (t : Nat) (ht : (aw_sh t).1 = 16) (k109 : Int32 × Int32 × aw_M → Option (Int32 × aw_M)) (hk109 : ∀ s : Int32 × Int32 × aw_M, AW l k_X11_look aw_gi 109 [some (.ref t), some (.int s.1), some (.int s.2.1)] [] s.2.2 (k109 s)) (x1 : Int32) (x2 : Int32) (μ : aw_M) : AW l k_X11_look aw_gi 162 [some (.ref t), some (.int x1), some (.int x2)] [] μ (f_X11_look_162 F t k109 x1 x2 μ) := by
  unfold f_X11_look_162
  refine aw_iinc (n := 165) (x2 + 1) [some (.ref t), some (.int x1), some (.int (x2 + 1))] dX11_look_162 rfl rfl (by rfl) rfl (Nat.le_of_ble_eq_true rfl) rfl ?_
  refine aw_goto 109 dX11_look_165 (by decide) ?_
  exact aw_weak (hk109 (x1, (x2 + 1), μ)) (aw_ss (aw_ss (aw_ss aw_s0)))
def f_X11_look_109 (F : Nat) (t : Nat) (k109 : Int32 × Int32 × aw_M → Option (Int32 × aw_M)) (x1 : Int32) (x2 : Int32) (μ : aw_M) : Option (Int32 × aw_M) :=
  (if 10000 ≤ x2 then
  some (x1, μ)
  else
  (f_X11_isLaw F t x2 μ).bind fun r27 =>
  (if r27.1 = true then
  (if (r27.2.1 t 31) = 100 then
  f_X11_look_162 F t k109 (x1 + 1) x2 r27.2
  else
  aw_g (aw_in (r27.2.1 t 31) 100) (aw_let (aw_wI r27.2 (aw_rf t 30) (r27.2.1 t 31).toNatClampNeg x2) fun μ28 =>
  aw_let (aw_wI μ28 t 31 ((μ28.1 t 31) + 1)) fun μ29 =>
  f_X11_look_162 F t k109 (x1 + 1) x2 μ29))
  else
  f_X11_look_162 F t k109 x1 x2 r27.2))
theorem c_X11_look_109 (l : Launch) (F : Nat) (t : Nat) (ht : (aw_sh t).1 = 16) : ∀ (N : Nat) (s : Int32 × Int32 × aw_M), AW l k_X11_look aw_gi 109 [some (.ref t), some (.int s.1), some (.int s.2.1)] [] s.2.2 (aw_loop (fun k s => f_X11_look_109 F t k s.1 s.2.1 s.2.2) N s) := by
  refine aw_loop_ok (f := fun k s => f_X11_look_109 F t k s.1 s.2.1 s.2.2) (Ls := fun s => [some (.ref t), some (.int s.1), some (.int s.2.1)]) (ms := fun s => s.2.2) ?_
  intro k109 hk109 s
  obtain ⟨x1, x2, μ⟩ := s
  show AW l k_X11_look aw_gi 109 [some (.ref t), some (.int x1), some (.int x2)] [] μ (f_X11_look_109 F t k109 x1 x2 μ)
  unfold f_X11_look_109
  refine aw_iload_n (n := 110) dX11_look_109 rfl rfl ?_
  refine aw_sipush (n := 113) 10000 dX11_look_110 rfl (by decide) ?_
  refine aw_icmp_ge (n := 116) 168 dX11_look_113 (by decide) rfl ?_ ?_
  · refine aw_iload_n (n := 169) dX11_look_168 rfl rfl ?_
    exact aw_ireturn dX11_look_169 rfl rfl
  · refine aw_aload_n (n := 117) dX11_look_116 rfl rfl ?_
    refine aw_iload_n (n := 118) dX11_look_117 rfl rfl ?_
    refine aw_callVz (n := 121) (as := [.int x2]) (st := []) (RX11, TX11, 52) 11 dX11_look_118 rfl rfl (m_X11_isLaw l F t ht x2 μ) ht (by decide) rfl rfl cw_RX11_348 ⟨Nat.le_of_ble_eq_true rfl, Nat.le_of_ble_eq_true rfl⟩ (fun _ => Nat.le_of_ble_eq_true rfl) (fun r27 => ?_)
    refine aw_ifb_ne (n := 124) 127 dX11_look_121 (by decide) rfl ?_ ?_
    · refine aw_iinc (n := 130) (x1 + 1) [some (.ref t), some (.int (x1 + 1)), some (.int x2)] dX11_look_127 rfl rfl (by rfl) rfl (Nat.le_of_ble_eq_true rfl) rfl ?_
      refine aw_aload_n (n := 131) dX11_look_130 rfl rfl ?_
      refine aw_getI (n := 134) (RX11, TX11, 52) 11 31 dX11_look_131 rfl ht (by decide) fd_RX11_345 ?_
      refine aw_bipush (n := 136) 100 dX11_look_134 rfl (by decide) ?_
      refine aw_icmp_ne (n := 139) 142 dX11_look_136 (by decide) rfl ?_ ?_
      · refine aw_aload_n (n := 143) dX11_look_142 rfl rfl ?_
        refine aw_getR (n := 146) (RX11, TX11, 52) 11 30 dX11_look_143 rfl ht (by decide) fd_RX11_71 ?_
        refine aw_aload_n (n := 147) dX11_look_146 rfl rfl ?_
        refine aw_getI (n := 150) (RX11, TX11, 52) 11 31 dX11_look_147 rfl ht (by decide) fd_RX11_345 ?_
        refine aw_iload_n (n := 151) dX11_look_150 rfl rfl ?_
        refine aw_iastore (n := 152) 100 dX11_look_151 rfl (sf_11_30 ht) (fun μ28 => ?_)
        refine aw_aload_n (n := 153) dX11_look_152 rfl rfl ?_
        refine aw_dup (n := 154) dX11_look_153 rfl (fun _ => rfl) ?_
        refine aw_getI (n := 157) (RX11, TX11, 52) 11 31 dX11_look_154 rfl ht (by decide) fd_RX11_345 ?_
        refine aw_iconst (n := 158) 1 dX11_look_157 rfl (by decide) ?_
        refine aw_iadd (n := 159) dX11_look_158 rfl ?_
        refine aw_putI (n := 162) (RX11, TX11, 52) 11 31 dX11_look_159 rfl ht (by decide) fp_RX11_345 (fun μ29 => ?_)
        exact aw_weak (c_X11_look_162 l F t ht k109 hk109 (x1 + 1) x2 μ29) (aw_ss (aw_ss (aw_ss aw_s0)))
      · refine aw_goto 162 dX11_look_139 (by decide) ?_
        exact aw_weak (c_X11_look_162 l F t ht k109 hk109 (x1 + 1) x2 r27.2) (aw_ss (aw_ss (aw_ss aw_s0)))
    · refine aw_goto 162 dX11_look_124 (by decide) ?_
      exact aw_weak (c_X11_look_162 l F t ht k109 hk109 x1 x2 r27.2) (aw_ss (aw_ss (aw_ss aw_s0)))
def f_X11_look_100 (F : Nat) (t : Nat) (μ : aw_M) : Option (Int32 × aw_M) :=
  aw_let (aw_wI μ t 31 0) fun μ26 =>
  aw_loop (fun k s => f_X11_look_109 F t k s.1 s.2.1 s.2.2) F (0, 0, μ26)
theorem c_X11_look_100 (l : Launch) (F : Nat) (t : Nat) (ht : (aw_sh t).1 = 16) (μ : aw_M) : AW l k_X11_look aw_gi 100 [some (.ref t), none, none] [] μ (f_X11_look_100 F t μ) := by
  unfold f_X11_look_100
  refine aw_iconst (n := 101) 0 dX11_look_100 rfl (by decide) ?_
  refine aw_istore_n (n := 102) [some (.ref t), some (.int 0), none] dX11_look_101 rfl rfl (Nat.le_of_ble_eq_true rfl) (Nat.le_of_ble_eq_true rfl) rfl ?_
  refine aw_aload_n (n := 103) dX11_look_102 rfl rfl ?_
  refine aw_iconst (n := 104) 0 dX11_look_103 rfl (by decide) ?_
  refine aw_putI (n := 107) (RX11, TX11, 52) 11 31 dX11_look_104 rfl ht (by decide) fp_RX11_345 (fun μ26 => ?_)
  refine aw_iconst (n := 108) 0 dX11_look_107 rfl (by decide) ?_
  refine aw_istore_n (n := 109) [some (.ref t), some (.int 0), some (.int 0)] dX11_look_108 rfl rfl (Nat.le_of_ble_eq_true rfl) (Nat.le_of_ble_eq_true rfl) rfl ?_
  exact aw_weak (c_X11_look_109 l F t ht F (0, 0, μ26)) (aw_ss (aw_ss (aw_ss aw_s0)))
def f_X11_look_40 (F : Nat) (t : Nat) (k40 : Int32 × aw_M → Option (Int32 × aw_M)) (x1 : Int32) (μ : aw_M) : Option (Int32 × aw_M) :=
  (if (μ.1 t 3) ≤ x1 then
  f_X11_look_100 F t μ
  else
  (f_X11_octet F t x1 μ).bind fun r30 =>
  (if 20 < r30.1 then
  some ((-1), r30.2)
  else
  (f_X11_octet F t (x1 + 1) r30.2).bind fun r31 =>
  (if 1 < r31.1 then
  some ((-1), r31.2)
  else
  (f_X11_octet F t (x1 + 2) r31.2).bind fun r32 =>
  (if 8 < r32.1 then
  some ((-1), r32.2)
  else
  (f_X11_octet F t (x1 + 3) r32.2).bind fun r33 =>
  (if r33.1 ≤ 1 then
  k40 ((x1 + 5), r33.2)
  else
  some ((-1), r33.2))))))
theorem c_X11_look_40 (l : Launch) (F : Nat) (t : Nat) (ht : (aw_sh t).1 = 16) : ∀ (N : Nat) (s : Int32 × aw_M), AW l k_X11_look aw_gi 40 [some (.ref t), some (.int s.1), none] [] s.2 (aw_loop (fun k s => f_X11_look_40 F t k s.1 s.2) N s) := by
  refine aw_loop_ok (f := fun k s => f_X11_look_40 F t k s.1 s.2) (Ls := fun s => [some (.ref t), some (.int s.1), none]) (ms := fun s => s.2) ?_
  intro k40 hk40 s
  obtain ⟨x1, μ⟩ := s
  show AW l k_X11_look aw_gi 40 [some (.ref t), some (.int x1), none] [] μ (f_X11_look_40 F t k40 x1 μ)
  unfold f_X11_look_40
  refine aw_iload_n (n := 41) dX11_look_40 rfl rfl ?_
  refine aw_aload_n (n := 42) dX11_look_41 rfl rfl ?_
  refine aw_getI (n := 45) (RX11, TX11, 52) 11 3 dX11_look_42 rfl ht (by decide) fd_RX11_18 ?_
  refine aw_icmp_ge (n := 48) 100 dX11_look_45 (by decide) rfl ?_ ?_
  · exact aw_weak (c_X11_look_100 l F t ht μ) (aw_ss (aw_sn (aw_sn aw_s0)))
  · refine aw_aload_n (n := 49) dX11_look_48 rfl rfl ?_
    refine aw_iload_n (n := 50) dX11_look_49 rfl rfl ?_
    refine aw_callVi (n := 53) (as := [.int x1]) (st := []) (RX11, TX11, 52) 11 dX11_look_50 rfl rfl (m_X11_octet l F t ht x1 μ) ht (by decide) rfl rfl cw_RX11_330 ⟨Nat.le_of_ble_eq_true rfl, Nat.le_of_ble_eq_true rfl⟩ (fun _ => Nat.le_of_ble_eq_true rfl) (fun r30 => ?_)
    refine aw_bipush (n := 55) 20 dX11_look_53 rfl (by decide) ?_
    refine aw_icmp_gt (n := 58) 92 dX11_look_55 (by decide) rfl ?_ ?_
    · refine aw_iconst (n := 93) (-1) dX11_look_92 rfl (by decide) ?_
      exact aw_ireturn dX11_look_93 rfl rfl
    · refine aw_aload_n (n := 59) dX11_look_58 rfl rfl ?_
      refine aw_iload_n (n := 60) dX11_look_59 rfl rfl ?_
      refine aw_iconst (n := 61) 1 dX11_look_60 rfl (by decide) ?_
      refine aw_iadd (n := 62) dX11_look_61 rfl ?_
      refine aw_callVi (n := 65) (as := [.int (x1 + 1)]) (st := []) (RX11, TX11, 52) 11 dX11_look_62 rfl rfl (m_X11_octet l F t ht (x1 + 1) r30.2) ht (by decide) rfl rfl cw_RX11_330 ⟨Nat.le_of_ble_eq_true rfl, Nat.le_of_ble_eq_true rfl⟩ (fun _ => Nat.le_of_ble_eq_true rfl) (fun r31 => ?_)
      refine aw_iconst (n := 66) 1 dX11_look_65 rfl (by decide) ?_
      refine aw_icmp_gt (n := 69) 92 dX11_look_66 (by decide) rfl ?_ ?_
      · refine aw_iconst (n := 93) (-1) dX11_look_92 rfl (by decide) ?_
        exact aw_ireturn dX11_look_93 rfl rfl
      · refine aw_aload_n (n := 70) dX11_look_69 rfl rfl ?_
        refine aw_iload_n (n := 71) dX11_look_70 rfl rfl ?_
        refine aw_iconst (n := 72) 2 dX11_look_71 rfl (by decide) ?_
        refine aw_iadd (n := 73) dX11_look_72 rfl ?_
        refine aw_callVi (n := 76) (as := [.int (x1 + 2)]) (st := []) (RX11, TX11, 52) 11 dX11_look_73 rfl rfl (m_X11_octet l F t ht (x1 + 2) r31.2) ht (by decide) rfl rfl cw_RX11_330 ⟨Nat.le_of_ble_eq_true rfl, Nat.le_of_ble_eq_true rfl⟩ (fun _ => Nat.le_of_ble_eq_true rfl) (fun r32 => ?_)
        refine aw_bipush (n := 78) 8 dX11_look_76 rfl (by decide) ?_
        refine aw_icmp_gt (n := 81) 92 dX11_look_78 (by decide) rfl ?_ ?_
        · refine aw_iconst (n := 93) (-1) dX11_look_92 rfl (by decide) ?_
          exact aw_ireturn dX11_look_93 rfl rfl
        · refine aw_aload_n (n := 82) dX11_look_81 rfl rfl ?_
          refine aw_iload_n (n := 83) dX11_look_82 rfl rfl ?_
          refine aw_iconst (n := 84) 3 dX11_look_83 rfl (by decide) ?_
          refine aw_iadd (n := 85) dX11_look_84 rfl ?_
          refine aw_callVi (n := 88) (as := [.int (x1 + 3)]) (st := []) (RX11, TX11, 52) 11 dX11_look_85 rfl rfl (m_X11_octet l F t ht (x1 + 3) r32.2) ht (by decide) rfl rfl cw_RX11_330 ⟨Nat.le_of_ble_eq_true rfl, Nat.le_of_ble_eq_true rfl⟩ (fun _ => Nat.le_of_ble_eq_true rfl) (fun r33 => ?_)
          refine aw_iconst (n := 89) 1 dX11_look_88 rfl (by decide) ?_
          refine aw_icmp_le (n := 92) 94 dX11_look_89 (by decide) rfl ?_ ?_
          · refine aw_iinc (n := 97) (x1 + 5) [some (.ref t), some (.int (x1 + 5)), none] dX11_look_94 rfl rfl (by rfl) rfl (Nat.le_of_ble_eq_true rfl) rfl ?_
            refine aw_goto 40 dX11_look_97 (by decide) ?_
            exact aw_weak (hk40 ((x1 + 5), r33.2)) (aw_ss (aw_ss (aw_sn aw_s0)))
          · refine aw_iconst (n := 93) (-1) dX11_look_92 rfl (by decide) ?_
            exact aw_ireturn dX11_look_93 rfl rfl
def f_X11_look (F : Nat) (t : Nat) (μ : aw_M) : Option (Int32 × aw_M) :=
  aw_let (aw_wI μ t 0 0) fun μ23 =>
  (f_X11_taken F t 940 μ23).bind fun r24 =>
  (if ((r24.1 t 3) - (r24.1 t 3) / 5 * 5) = 0 then
  (f_X11_isIn F ((r24.1 t 3) / 5) 1 12 r24).bind fun r25 =>
  (if r25.1 = true then
  aw_loop (fun k s => f_X11_look_40 F t k s.1 s.2) F (0, r25.2)
  else
  some ((-1), r25.2))
  else
  some ((-1), r24))
theorem m_X11_look (l : Launch) (F : Nat) (t : Nat) (ht : (aw_sh t).1 = 16) (μ : aw_M) : AM l yX11_look cX11_look 3 (some .int) 3 163 aw_gi [.ref t] μ (f_X11_look F t μ) := by
  refine aw_met [some (.ref t), none, none] (by decide) (fun _ => rfl) (fun _ => Nat.le_of_ble_eq_true rfl) ?_
  show AW l k_X11_look aw_gi 0 [some (.ref t), none, none] [] μ _
  unfold f_X11_look
  refine aw_aload_n (n := 1) dX11_look_0 rfl rfl ?_
  refine aw_iconst (n := 2) 0 dX11_look_1 rfl (by decide) ?_
  refine aw_putI (n := 5) (RX11, TX11, 52) 11 0 dX11_look_2 rfl ht (by decide) fp_RX11_1 (fun μ23 => ?_)
  refine aw_aload_n (n := 6) dX11_look_5 rfl rfl ?_
  refine aw_sipush (n := 9) 940 dX11_look_6 rfl (by decide) ?_
  refine aw_callVv (n := 12) (as := [.int 940]) (st := []) (RX11, TX11, 52) 11 dX11_look_9 rfl rfl (m_X11_taken l F t ht 940 μ23) ht (by decide) rfl rfl cw_RX11_236 ⟨Nat.le_of_ble_eq_true rfl, Nat.le_of_ble_eq_true rfl⟩ (fun _ => Nat.le_of_ble_eq_true rfl) (fun r24 => ?_)
  refine aw_aload_n (n := 13) dX11_look_12 rfl rfl ?_
  refine aw_getI (n := 16) (RX11, TX11, 52) 11 3 dX11_look_13 rfl ht (by decide) fd_RX11_18 ?_
  refine aw_iconst (n := 17) 5 dX11_look_16 rfl (by decide) ?_
  refine aw_iremK (n := 18) dX11_look_17 rfl (by decide) ?_
  refine aw_if_ne (n := 21) 36 dX11_look_18 (by decide) rfl ?_ ?_
  · refine aw_iconst (n := 37) (-1) dX11_look_36 rfl (by decide) ?_
    exact aw_ireturn dX11_look_37 rfl rfl
  · refine aw_aload_n (n := 22) dX11_look_21 rfl rfl ?_
    refine aw_getI (n := 25) (RX11, TX11, 52) 11 3 dX11_look_22 rfl ht (by decide) fd_RX11_18 ?_
    refine aw_iconst (n := 26) 5 dX11_look_25 rfl (by decide) ?_
    refine aw_idivK (n := 27) dX11_look_26 rfl (by decide) ?_
    refine aw_iconst (n := 28) 1 dX11_look_27 rfl (by decide) ?_
    refine aw_bipush (n := 30) 12 dX11_look_28 rfl (by decide) ?_
    refine aw_callSz (n := 33) (as := [.int ((r24.1 t 3) / 5), .int 1, .int 12]) (st := []) dX11_look_30 rfl rfl (m_X11_isIn l F ((r24.1 t 3) / 5) 1 12 r24) cw_RX11_194 ⟨Nat.le_of_ble_eq_true rfl, Nat.le_of_ble_eq_true rfl⟩ (fun _ => Nat.le_of_ble_eq_true rfl) (fun r25 => ?_)
    refine aw_ifb_ne (n := 36) 38 dX11_look_33 (by decide) rfl ?_ ?_
    · refine aw_iconst (n := 39) 0 dX11_look_38 rfl (by decide) ?_
      refine aw_istore_n (n := 40) [some (.ref t), some (.int 0), none] dX11_look_39 rfl rfl (Nat.le_of_ble_eq_true rfl) (Nat.le_of_ble_eq_true rfl) rfl ?_
      exact aw_weak (c_X11_look_40 l F t ht F (0, r25.2)) (aw_ss (aw_ss (aw_sn aw_s0)))
    · refine aw_iconst (n := 37) (-1) dX11_look_36 rfl (by decide) ?_
      exact aw_ireturn dX11_look_37 rfl rfl
abbrev k_X11_held : aw_K := (RX11, cX11_held, 2, (some .int), 2, 142)
def f_X11_held (F : Nat) (t : Nat) (a0 : Int32) (μ : aw_M) : Option (Int32 × aw_M) :=
  aw_let (aw_wI μ t 0 0) fun μ1 =>
  (f_X11_isIn F a0 0 ((μ1.1 t 31) - 1) μ1).bind fun r2 =>
  (if r2.1 = true then
  aw_g (aw_in a0 100) (some ((r2.2.1 (aw_rf t 30) a0.toNatClampNeg), r2.2))
  else
  some ((-1), r2.2))
theorem m_X11_held (l : Launch) (F : Nat) (t : Nat) (ht : (aw_sh t).1 = 16) (a0 : Int32) (μ : aw_M) : AM l yX11_held cX11_held 2 (some .int) 2 142 aw_gi [.ref t, .int a0] μ (f_X11_held F t a0 μ) := by
  refine aw_met [some (.ref t), some (.int a0)] (by decide) (fun _ => rfl) (fun _ => Nat.le_of_ble_eq_true rfl) ?_
  show AW l k_X11_held aw_gi 0 [some (.ref t), some (.int a0)] [] μ _
  unfold f_X11_held
  refine aw_aload_n (n := 1) dX11_held_0 rfl rfl ?_
  refine aw_iconst (n := 2) 0 dX11_held_1 rfl (by decide) ?_
  refine aw_putI (n := 5) (RX11, TX11, 52) 11 0 dX11_held_2 rfl ht (by decide) fp_RX11_1 (fun μ1 => ?_)
  refine aw_iload_n (n := 6) dX11_held_5 rfl rfl ?_
  refine aw_iconst (n := 7) 0 dX11_held_6 rfl (by decide) ?_
  refine aw_aload_n (n := 8) dX11_held_7 rfl rfl ?_
  refine aw_getI (n := 11) (RX11, TX11, 52) 11 31 dX11_held_8 rfl ht (by decide) fd_RX11_345 ?_
  refine aw_iconst (n := 12) 1 dX11_held_11 rfl (by decide) ?_
  refine aw_isub (n := 13) dX11_held_12 rfl ?_
  refine aw_callSz (n := 16) (as := [.int a0, .int 0, .int ((μ1.1 t 31) - 1)]) (st := []) dX11_held_13 rfl rfl (m_X11_isIn l F a0 0 ((μ1.1 t 31) - 1) μ1) cw_RX11_194 ⟨Nat.le_of_ble_eq_true rfl, Nat.le_of_ble_eq_true rfl⟩ (fun _ => Nat.le_of_ble_eq_true rfl) (fun r2 => ?_)
  refine aw_ifb_eq (n := 19) 28 dX11_held_16 (by decide) rfl ?_ ?_
  · refine aw_iconst (n := 29) (-1) dX11_held_28 rfl (by decide) ?_
    exact aw_ireturn dX11_held_29 rfl rfl
  · refine aw_aload_n (n := 20) dX11_held_19 rfl rfl ?_
    refine aw_getR (n := 23) (RX11, TX11, 52) 11 30 dX11_held_20 rfl ht (by decide) fd_RX11_71 ?_
    refine aw_iload_n (n := 24) dX11_held_23 rfl rfl ?_
    refine aw_iaload (n := 25) 100 dX11_held_24 rfl (sf_11_30 ht) ?_
    refine aw_goto 29 dX11_held_25 (by decide) ?_
    exact aw_ireturn dX11_held_29 rfl rfl
abbrev k_X11_areWalks : aw_K := (RX11, cX11_areWalks, 2, (some .boolean), 2, 142)
def f_X11_areWalks (F : Nat)  (a0 : Int32) (a1 : Int32) (μ : aw_M) : Option (Bool × aw_M) :=
  (f_X11_isIn F a0 1 12 μ).bind fun r1 =>
  (if r1.1 = true then
  (f_X11_isIn F a1 1 9 r1.2).bind fun r2 =>
  (if r2.1 = true then
  some (true, r2.2)
  else
  some (false, r2.2))
  else
  some (false, r1.2))
theorem m_X11_areWalks (l : Launch) (F : Nat) (a0 : Int32) (a1 : Int32) (μ : aw_M) : AM l yX11_areWalks cX11_areWalks 2 (some .boolean) 2 142 aw_gz [.int a0, .int a1] μ (f_X11_areWalks F  a0 a1 μ) := by
  refine aw_met [some (.int a0), some (.int a1)] (by decide) (fun _ => rfl) (fun _ => Nat.le_of_ble_eq_true rfl) ?_
  show AW l k_X11_areWalks aw_gz 0 [some (.int a0), some (.int a1)] [] μ _
  unfold f_X11_areWalks
  refine aw_iload_n (n := 1) dX11_areWalks_0 rfl rfl ?_
  refine aw_iconst (n := 2) 1 dX11_areWalks_1 rfl (by decide) ?_
  refine aw_bipush (n := 4) 12 dX11_areWalks_2 rfl (by decide) ?_
  refine aw_callSz (n := 7) (as := [.int a0, .int 1, .int 12]) (st := []) dX11_areWalks_4 rfl rfl (m_X11_isIn l F a0 1 12 μ) cw_RX11_194 ⟨Nat.le_of_ble_eq_true rfl, Nat.le_of_ble_eq_true rfl⟩ (fun _ => Nat.le_of_ble_eq_true rfl) (fun r1 => ?_)
  refine aw_ifb_eq (n := 10) 24 dX11_areWalks_7 (by decide) rfl ?_ ?_
  · refine aw_iconst (n := 25) 0 dX11_areWalks_24 rfl (by decide) ?_
    exact aw_zreturn (b := false) dX11_areWalks_25 rfl rfl
  · refine aw_iload_n (n := 11) dX11_areWalks_10 rfl rfl ?_
    refine aw_iconst (n := 12) 1 dX11_areWalks_11 rfl (by decide) ?_
    refine aw_bipush (n := 14) 9 dX11_areWalks_12 rfl (by decide) ?_
    refine aw_callSz (n := 17) (as := [.int a1, .int 1, .int 9]) (st := []) dX11_areWalks_14 rfl rfl (m_X11_isIn l F a1 1 9 r1.2) cw_RX11_194 ⟨Nat.le_of_ble_eq_true rfl, Nat.le_of_ble_eq_true rfl⟩ (fun _ => Nat.le_of_ble_eq_true rfl) (fun r2 => ?_)
    refine aw_ifb_eq (n := 20) 24 dX11_areWalks_17 (by decide) rfl ?_ ?_
    · refine aw_iconst (n := 25) 0 dX11_areWalks_24 rfl (by decide) ?_
      exact aw_zreturn (b := false) dX11_areWalks_25 rfl rfl
    · refine aw_iconst (n := 21) 1 dX11_areWalks_20 rfl (by decide) ?_
      refine aw_goto 25 dX11_areWalks_21 (by decide) ?_
      exact aw_zreturn (b := true) dX11_areWalks_25 rfl rfl
abbrev k_X11_rounds : aw_K := (RX11, cX11_rounds, 3, (some .int), 1, 120)
def f_X11_rounds_2 (F : Nat)  (k2 : Int32 × Int32 × Int32 × aw_M → Option (Int32 × aw_M)) (x0 : Int32) (x1 : Int32) (x2 : Int32) (μ : aw_M) : Option (Int32 × aw_M) :=
  aw_g (aw_nz x1) ((if ((x2 * x0) - (x2 * x0) / x1 * x1) = 0 then
  some (x2, μ)
  else
  k2 (x0, x1, (x2 + 1), μ)))
theorem c_X11_rounds_2 (l : Launch) (F : Nat) : ∀ (N : Nat) (s : Int32 × Int32 × Int32 × aw_M), AW l k_X11_rounds aw_gi 2 [some (.int s.1), some (.int s.2.1), some (.int s.2.2.1)] [] s.2.2.2 (aw_loop (fun k s => f_X11_rounds_2 F  k s.1 s.2.1 s.2.2.1 s.2.2.2) N s) := by
  refine aw_loop_ok (f := fun k s => f_X11_rounds_2 F  k s.1 s.2.1 s.2.2.1 s.2.2.2) (Ls := fun s => [some (.int s.1), some (.int s.2.1), some (.int s.2.2.1)]) (ms := fun s => s.2.2.2) ?_
  intro k2 hk2 s
  obtain ⟨x0, x1, x2, μ⟩ := s
  show AW l k_X11_rounds aw_gi 2 [some (.int x0), some (.int x1), some (.int x2)] [] μ (f_X11_rounds_2 F  k2 x0 x1 x2 μ)
  unfold f_X11_rounds_2
  refine aw_iload_n (n := 3) dX11_rounds_2 rfl rfl ?_
  refine aw_iload_n (n := 4) dX11_rounds_3 rfl rfl ?_
  refine aw_imul (n := 5) dX11_rounds_4 rfl ?_
  refine aw_iload_n (n := 6) dX11_rounds_5 rfl rfl ?_
  refine aw_irem (n := 7) dX11_rounds_6 rfl ?_
  refine aw_if_eq (n := 10) 16 dX11_rounds_7 (by decide) rfl ?_ ?_
  · refine aw_iload_n (n := 17) dX11_rounds_16 rfl rfl ?_
    exact aw_ireturn dX11_rounds_17 rfl rfl
  · refine aw_iinc (n := 13) (x2 + 1) [some (.int x0), some (.int x1), some (.int (x2 + 1))] dX11_rounds_10 rfl rfl (by rfl) rfl (Nat.le_of_ble_eq_true rfl) rfl ?_
    refine aw_goto 2 dX11_rounds_13 (by decide) ?_
    exact aw_weak (hk2 (x0, x1, (x2 + 1), μ)) (aw_ss (aw_ss (aw_ss aw_s0)))
def f_X11_rounds (F : Nat)  (a0 : Int32) (a1 : Int32) (μ : aw_M) : Option (Int32 × aw_M) :=
  aw_loop (fun k s => f_X11_rounds_2 F  k s.1 s.2.1 s.2.2.1 s.2.2.2) F (a0, a1, 1, μ)
theorem m_X11_rounds (l : Launch) (F : Nat) (a0 : Int32) (a1 : Int32) (μ : aw_M) : AM l yX11_rounds cX11_rounds 3 (some .int) 1 120 aw_gi [.int a0, .int a1] μ (f_X11_rounds F  a0 a1 μ) := by
  refine aw_met [some (.int a0), some (.int a1), none] (by decide) (fun _ => rfl) (fun _ => Nat.le_of_ble_eq_true rfl) ?_
  show AW l k_X11_rounds aw_gi 0 [some (.int a0), some (.int a1), none] [] μ _
  unfold f_X11_rounds
  refine aw_iconst (n := 1) 1 dX11_rounds_0 rfl (by decide) ?_
  refine aw_istore_n (n := 2) [some (.int a0), some (.int a1), some (.int 1)] dX11_rounds_1 rfl rfl (Nat.le_of_ble_eq_true rfl) (Nat.le_of_ble_eq_true rfl) rfl ?_
  exact aw_weak (c_X11_rounds_2 l F  F (a0, a1, 1, μ)) (aw_ss (aw_ss (aw_ss aw_s0)))
abbrev k_X11_walk : aw_K := (RX11, cX11_walk, 3, (some .int), 3, 163)
def f_X11_walk (F : Nat) (t : Nat) (a0 : Int32) (a1 : Int32) (μ : aw_M) : Option (Int32 × aw_M) :=
  aw_let (aw_wI μ t 0 0) fun μ1 =>
  (f_X11_areWalks F a0 a1 μ1).bind fun r2 =>
  (if r2.1 = true then
  (f_X11_rounds F a0 a1 r2.2).bind fun r3 =>
  some (r3.1, r3.2)
  else
  some ((-1), r2.2))
theorem m_X11_walk (l : Launch) (F : Nat) (t : Nat) (ht : (aw_sh t).1 = 16) (a0 : Int32) (a1 : Int32) (μ : aw_M) : AM l yX11_walk cX11_walk 3 (some .int) 3 163 aw_gi [.ref t, .int a0, .int a1] μ (f_X11_walk F t a0 a1 μ) := by
  refine aw_met [some (.ref t), some (.int a0), some (.int a1)] (by decide) (fun _ => rfl) (fun _ => Nat.le_of_ble_eq_true rfl) ?_
  show AW l k_X11_walk aw_gi 0 [some (.ref t), some (.int a0), some (.int a1)] [] μ _
  unfold f_X11_walk
  refine aw_aload_n (n := 1) dX11_walk_0 rfl rfl ?_
  refine aw_iconst (n := 2) 0 dX11_walk_1 rfl (by decide) ?_
  refine aw_putI (n := 5) (RX11, TX11, 52) 11 0 dX11_walk_2 rfl ht (by decide) fp_RX11_1 (fun μ1 => ?_)
  refine aw_iload_n (n := 6) dX11_walk_5 rfl rfl ?_
  refine aw_iload_n (n := 7) dX11_walk_6 rfl rfl ?_
  refine aw_callSz (n := 10) (as := [.int a0, .int a1]) (st := []) dX11_walk_7 rfl rfl (m_X11_areWalks l F a0 a1 μ1) cw_RX11_351 ⟨Nat.le_of_ble_eq_true rfl, Nat.le_of_ble_eq_true rfl⟩ (fun _ => Nat.le_of_ble_eq_true rfl) (fun r2 => ?_)
  refine aw_ifb_eq (n := 13) 21 dX11_walk_10 (by decide) rfl ?_ ?_
  · refine aw_iconst (n := 22) (-1) dX11_walk_21 rfl (by decide) ?_
    exact aw_ireturn dX11_walk_22 rfl rfl
  · refine aw_iload_n (n := 14) dX11_walk_13 rfl rfl ?_
    refine aw_iload_n (n := 15) dX11_walk_14 rfl rfl ?_
    refine aw_callSi (n := 18) (as := [.int a0, .int a1]) (st := []) dX11_walk_15 rfl rfl (m_X11_rounds l F a0 a1 r2.2) cw_RX11_354 ⟨Nat.le_of_ble_eq_true rfl, Nat.le_of_ble_eq_true rfl⟩ (fun _ => Nat.le_of_ble_eq_true rfl) (fun r3 => ?_)
    refine aw_goto 22 dX11_walk_18 (by decide) ?_
    exact aw_ireturn dX11_walk_22 rfl rfl
abbrev k_X11_alike : aw_K := (RX11, cX11_alike, 5, (some .int), 3, 163)
def f_X11_alike (F : Nat) (t : Nat) (a0 : Int32) (a1 : Int32) (a2 : Int32) (a3 : Int32) (μ : aw_M) : Option (Int32 × aw_M) :=
  aw_let (aw_wI μ t 0 0) fun μ1 =>
  (f_X11_areWalks F a0 a1 μ1).bind fun r2 =>
  (if r2.1 = true then
  (f_X11_rounds F a0 a1 r2.2).bind fun r3 =>
  (f_X11_isIn F a2 0 (r3.1 - 1) r3.2).bind fun r4 =>
  (if r4.1 = true then
  (f_X11_isIn F a3 0 (a0 - 1) r4.2).bind fun r5 =>
  (if r5.1 = true then
  aw_g (aw_nz a1) (some ((((a2 * a0) + a3) - ((a2 * a0) + a3) / a1 * a1), r5.2))
  else
  some ((-1), r5.2))
  else
  some ((-1), r4.2))
  else
  some ((-1), r2.2))
theorem m_X11_alike (l : Launch) (F : Nat) (t : Nat) (ht : (aw_sh t).1 = 16) (a0 : Int32) (a1 : Int32) (a2 : Int32) (a3 : Int32) (μ : aw_M) : AM l yX11_alike cX11_alike 5 (some .int) 3 163 aw_gi [.ref t, .int a0, .int a1, .int a2, .int a3] μ (f_X11_alike F t a0 a1 a2 a3 μ) := by
  refine aw_met [some (.ref t), some (.int a0), some (.int a1), some (.int a2), some (.int a3)] (by decide) (fun _ => rfl) (fun _ => Nat.le_of_ble_eq_true rfl) ?_
  show AW l k_X11_alike aw_gi 0 [some (.ref t), some (.int a0), some (.int a1), some (.int a2), some (.int a3)] [] μ _
  unfold f_X11_alike
  refine aw_aload_n (n := 1) dX11_alike_0 rfl rfl ?_
  refine aw_iconst (n := 2) 0 dX11_alike_1 rfl (by decide) ?_
  refine aw_putI (n := 5) (RX11, TX11, 52) 11 0 dX11_alike_2 rfl ht (by decide) fp_RX11_1 (fun μ1 => ?_)
  refine aw_iload_n (n := 6) dX11_alike_5 rfl rfl ?_
  refine aw_iload_n (n := 7) dX11_alike_6 rfl rfl ?_
  refine aw_callSz (n := 10) (as := [.int a0, .int a1]) (st := []) dX11_alike_7 rfl rfl (m_X11_areWalks l F a0 a1 μ1) cw_RX11_351 ⟨Nat.le_of_ble_eq_true rfl, Nat.le_of_ble_eq_true rfl⟩ (fun _ => Nat.le_of_ble_eq_true rfl) (fun r2 => ?_)
  refine aw_ifb_eq (n := 13) 51 dX11_alike_10 (by decide) rfl ?_ ?_
  · refine aw_iconst (n := 52) (-1) dX11_alike_51 rfl (by decide) ?_
    exact aw_ireturn dX11_alike_52 rfl rfl
  · refine aw_iload_n (n := 14) dX11_alike_13 rfl rfl ?_
    refine aw_iconst (n := 15) 0 dX11_alike_14 rfl (by decide) ?_
    refine aw_iload_n (n := 16) dX11_alike_15 rfl rfl ?_
    refine aw_iload_n (n := 17) dX11_alike_16 rfl rfl ?_
    refine aw_callSi (n := 20) (as := [.int a0, .int a1]) (st := [.int 0, .int a2]) dX11_alike_17 rfl rfl (m_X11_rounds l F a0 a1 r2.2) cw_RX11_354 ⟨Nat.le_of_ble_eq_true rfl, Nat.le_of_ble_eq_true rfl⟩ (fun _ => Nat.le_of_ble_eq_true rfl) (fun r3 => ?_)
    refine aw_iconst (n := 21) 1 dX11_alike_20 rfl (by decide) ?_
    refine aw_isub (n := 22) dX11_alike_21 rfl ?_
    refine aw_callSz (n := 25) (as := [.int a2, .int 0, .int (r3.1 - 1)]) (st := []) dX11_alike_22 rfl rfl (m_X11_isIn l F a2 0 (r3.1 - 1) r3.2) cw_RX11_194 ⟨Nat.le_of_ble_eq_true rfl, Nat.le_of_ble_eq_true rfl⟩ (fun _ => Nat.le_of_ble_eq_true rfl) (fun r4 => ?_)
    refine aw_ifb_eq (n := 28) 51 dX11_alike_25 (by decide) rfl ?_ ?_
    · refine aw_iconst (n := 52) (-1) dX11_alike_51 rfl (by decide) ?_
      exact aw_ireturn dX11_alike_52 rfl rfl
    · refine aw_iload (n := 30) dX11_alike_28 rfl rfl ?_
      refine aw_iconst (n := 31) 0 dX11_alike_30 rfl (by decide) ?_
      refine aw_iload_n (n := 32) dX11_alike_31 rfl rfl ?_
      refine aw_iconst (n := 33) 1 dX11_alike_32 rfl (by decide) ?_
      refine aw_isub (n := 34) dX11_alike_33 rfl ?_
      refine aw_callSz (n := 37) (as := [.int a3, .int 0, .int (a0 - 1)]) (st := []) dX11_alike_34 rfl rfl (m_X11_isIn l F a3 0 (a0 - 1) r4.2) cw_RX11_194 ⟨Nat.le_of_ble_eq_true rfl, Nat.le_of_ble_eq_true rfl⟩ (fun _ => Nat.le_of_ble_eq_true rfl) (fun r5 => ?_)
      refine aw_ifb_eq (n := 40) 51 dX11_alike_37 (by decide) rfl ?_ ?_
      · refine aw_iconst (n := 52) (-1) dX11_alike_51 rfl (by decide) ?_
        exact aw_ireturn dX11_alike_52 rfl rfl
      · refine aw_iload_n (n := 41) dX11_alike_40 rfl rfl ?_
        refine aw_iload_n (n := 42) dX11_alike_41 rfl rfl ?_
        refine aw_imul (n := 43) dX11_alike_42 rfl ?_
        refine aw_iload (n := 45) dX11_alike_43 rfl rfl ?_
        refine aw_iadd (n := 46) dX11_alike_45 rfl ?_
        refine aw_iload_n (n := 47) dX11_alike_46 rfl rfl ?_
        refine aw_irem (n := 48) dX11_alike_47 rfl ?_
        refine aw_goto 52 dX11_alike_48 (by decide) ?_
        exact aw_ireturn dX11_alike_52 rfl rfl
abbrev k_X11_longest : aw_K := (RX11, cX11_longest, 6, (some .int), 2, 141)
def f_X11_longest_86 (F : Nat) (t : Nat) (k4 : Int32 × Int32 × Int32 × aw_M → Option (Int32 × aw_M)) (x1 : Int32) (x2 : Int32) (x3 : Int32) (μ : aw_M) : Option (Int32 × aw_M) :=
  k4 (x1, x2, (x3 + 1), μ)
theorem c_X11_longest_86 (l : Launch) (F : Nat) (t : Nat) (ht : (aw_sh t).1 = 16) (k4 : Int32 × Int32 × Int32 × aw_M → Option (Int32 × aw_M)) (hk4 : ∀ s : Int32 × Int32 × Int32 × aw_M, AW l k_X11_longest aw_gi 4 [some (.ref t), some (.int s.1), some (.int s.2.1), some (.int s.2.2.1), none, none] [] s.2.2.2 (k4 s)) (x1 : Int32) (x2 : Int32) (x3 : Int32) (μ : aw_M) : AW l k_X11_longest aw_gi 86 [some (.ref t), some (.int x1), some (.int x2), some (.int x3), none, none] [] μ (f_X11_longest_86 F t k4 x1 x2 x3 μ) := by
  unfold f_X11_longest_86
  refine aw_iinc (n := 89) (x3 + 1) [some (.ref t), some (.int x1), some (.int x2), some (.int (x3 + 1)), none, none] dX11_longest_86 rfl rfl (by rfl) rfl (Nat.le_of_ble_eq_true rfl) rfl ?_
  refine aw_goto 4 dX11_longest_89 (by decide) ?_
  exact aw_weak (hk4 (x1, x2, (x3 + 1), μ)) (aw_ss (aw_ss (aw_ss (aw_ss (aw_sn (aw_sn aw_s0))))))
def f_X11_longest_79 (F : Nat) (t : Nat) (k4 : Int32 × Int32 × Int32 × aw_M → Option (Int32 × aw_M)) (k32 : Int32 × Int32 × Int32 × Int32 × Int32 × aw_M → Option (Int32 × aw_M)) (x1 : Int32) (x3 : Int32) (x4 : Int32) (x5 : Int32) (z0 : Int32) (μ : aw_M) : Option (Int32 × aw_M) :=
  k32 (x1, z0, x3, x4, (x5 + 1), μ)
theorem c_X11_longest_79 (l : Launch) (F : Nat) (t : Nat) (ht : (aw_sh t).1 = 16) (k4 : Int32 × Int32 × Int32 × aw_M → Option (Int32 × aw_M)) (hk4 : ∀ s : Int32 × Int32 × Int32 × aw_M, AW l k_X11_longest aw_gi 4 [some (.ref t), some (.int s.1), some (.int s.2.1), some (.int s.2.2.1), none, none] [] s.2.2.2 (k4 s)) (k32 : Int32 × Int32 × Int32 × Int32 × Int32 × aw_M → Option (Int32 × aw_M)) (hk32 : ∀ s : Int32 × Int32 × Int32 × Int32 × Int32 × aw_M, AW l k_X11_longest aw_gi 32 [some (.ref t), some (.int s.1), some (.int s.2.1), some (.int s.2.2.1), some (.int s.2.2.2.1), some (.int s.2.2.2.2.1)] [] s.2.2.2.2.2 (k32 s)) (x1 : Int32) (x3 : Int32) (x4 : Int32) (x5 : Int32) (z0 : Int32) (μ : aw_M) : AW l k_X11_longest aw_gi 79 [some (.ref t), some (.int x1), none, some (.int x3), some (.int x4), some (.int x5)] [.int z0] μ (f_X11_longest_79 F t k4 k32 x1 x3 x4 x5 z0 μ) := by
  unfold f_X11_longest_79
  refine aw_istore_n (n := 80) [some (.ref t), some (.int x1), some (.int z0), some (.int x3), some (.int x4), some (.int x5)] dX11_longest_79 rfl rfl (Nat.le_of_ble_eq_true rfl) (Nat.le_of_ble_eq_true rfl) rfl ?_
  refine aw_iinc (n := 83) (x5 + 1) [some (.ref t), some (.int x1), some (.int z0), some (.int x3), some (.int x4), some (.int (x5 + 1))] dX11_longest_80 rfl rfl (by rfl) rfl (Nat.le_of_ble_eq_true rfl) rfl ?_
  refine aw_goto 32 dX11_longest_83 (by decide) ?_
  exact aw_weak (hk32 (x1, z0, x3, x4, (x5 + 1), μ)) (aw_ss (aw_ss (aw_ss (aw_ss (aw_ss (aw_ss aw_s0))))))
def f_X11_longest_65 (F : Nat) (t : Nat) (k4 : Int32 × Int32 × Int32 × aw_M → Option (Int32 × aw_M)) (k32 : Int32 × Int32 × Int32 × Int32 × Int32 × aw_M → Option (Int32 × aw_M)) (x1 : Int32) (x2 : Int32) (x3 : Int32) (x5 : Int32) (z0 : Int32) (μ : aw_M) : Option (Int32 × aw_M) :=
  (if z0 ≤ x2 then
  f_X11_longest_79 F t k4 k32 x1 x3 z0 x5 x2 μ
  else
  f_X11_longest_79 F t k4 k32 x1 x3 z0 x5 z0 μ)
theorem c_X11_longest_65 (l : Launch) (F : Nat) (t : Nat) (ht : (aw_sh t).1 = 16) (k4 : Int32 × Int32 × Int32 × aw_M → Option (Int32 × aw_M)) (hk4 : ∀ s : Int32 × Int32 × Int32 × aw_M, AW l k_X11_longest aw_gi 4 [some (.ref t), some (.int s.1), some (.int s.2.1), some (.int s.2.2.1), none, none] [] s.2.2.2 (k4 s)) (k32 : Int32 × Int32 × Int32 × Int32 × Int32 × aw_M → Option (Int32 × aw_M)) (hk32 : ∀ s : Int32 × Int32 × Int32 × Int32 × Int32 × aw_M, AW l k_X11_longest aw_gi 32 [some (.ref t), some (.int s.1), some (.int s.2.1), some (.int s.2.2.1), some (.int s.2.2.2.1), some (.int s.2.2.2.2.1)] [] s.2.2.2.2.2 (k32 s)) (x1 : Int32) (x2 : Int32) (x3 : Int32) (x5 : Int32) (z0 : Int32) (μ : aw_M) : AW l k_X11_longest aw_gi 65 [some (.ref t), some (.int x1), some (.int x2), some (.int x3), none, some (.int x5)] [.int z0] μ (f_X11_longest_65 F t k4 k32 x1 x2 x3 x5 z0 μ) := by
  unfold f_X11_longest_65
  refine aw_istore (n := 67) [some (.ref t), some (.int x1), some (.int x2), some (.int x3), some (.int z0), some (.int x5)] dX11_longest_65 rfl rfl (Nat.le_of_ble_eq_true rfl) (Nat.le_of_ble_eq_true rfl) rfl ?_
  refine aw_iload (n := 69) dX11_longest_67 rfl rfl ?_
  refine aw_iload_n (n := 70) dX11_longest_69 rfl rfl ?_
  refine aw_icmp_le (n := 73) 78 dX11_longest_70 (by decide) rfl ?_ ?_
  · refine aw_iload_n (n := 79) dX11_longest_78 rfl rfl ?_
    exact aw_weak (c_X11_longest_79 l F t ht k4 hk4 k32 hk32 x1 x3 z0 x5 x2 μ) (aw_ss (aw_ss (aw_sn (aw_ss (aw_ss (aw_ss aw_s0))))))
  · refine aw_iload (n := 75) dX11_longest_73 rfl rfl ?_
    refine aw_goto 79 dX11_longest_75 (by decide) ?_
    exact aw_weak (c_X11_longest_79 l F t ht k4 hk4 k32 hk32 x1 x3 z0 x5 z0 μ) (aw_ss (aw_ss (aw_sn (aw_ss (aw_ss (aw_ss aw_s0))))))
def f_X11_longest_32 (F : Nat) (t : Nat) (k32 : Int32 × Int32 × Int32 × Int32 × Int32 × aw_M → Option (Int32 × aw_M)) (k4 : Int32 × Int32 × Int32 × aw_M → Option (Int32 × aw_M)) (x1 : Int32) (x2 : Int32) (x3 : Int32) (x4 : Int32) (x5 : Int32) (μ : aw_M) : Option (Int32 × aw_M) :=
  (if x1 ≤ x5 then
  f_X11_longest_86 F t k4 x1 x2 x3 μ
  else
  aw_g (aw_in x3 9) (aw_g (aw_in x5 8) ((f_X11_bitOf F (μ.1 (aw_rf t 34) x3.toNatClampNeg) (μ.1 (aw_rf t 32) x5.toNatClampNeg) μ).bind fun r4 =>
  (if r4.1 = true then
  f_X11_longest_65 F t k4 k32 x1 x2 x3 x5 0 r4.2
  else
  f_X11_longest_65 F t k4 k32 x1 x2 x3 x5 (x4 + 1) r4.2))))
theorem c_X11_longest_32 (l : Launch) (F : Nat) (t : Nat) (ht : (aw_sh t).1 = 16) (k4 : Int32 × Int32 × Int32 × aw_M → Option (Int32 × aw_M)) (hk4 : ∀ s : Int32 × Int32 × Int32 × aw_M, AW l k_X11_longest aw_gi 4 [some (.ref t), some (.int s.1), some (.int s.2.1), some (.int s.2.2.1), none, none] [] s.2.2.2 (k4 s)) : ∀ (N : Nat) (s : Int32 × Int32 × Int32 × Int32 × Int32 × aw_M), AW l k_X11_longest aw_gi 32 [some (.ref t), some (.int s.1), some (.int s.2.1), some (.int s.2.2.1), some (.int s.2.2.2.1), some (.int s.2.2.2.2.1)] [] s.2.2.2.2.2 (aw_loop (fun k s => f_X11_longest_32 F t k k4 s.1 s.2.1 s.2.2.1 s.2.2.2.1 s.2.2.2.2.1 s.2.2.2.2.2) N s) := by
  refine aw_loop_ok (f := fun k s => f_X11_longest_32 F t k k4 s.1 s.2.1 s.2.2.1 s.2.2.2.1 s.2.2.2.2.1 s.2.2.2.2.2) (Ls := fun s => [some (.ref t), some (.int s.1), some (.int s.2.1), some (.int s.2.2.1), some (.int s.2.2.2.1), some (.int s.2.2.2.2.1)]) (ms := fun s => s.2.2.2.2.2) ?_
  intro k32 hk32 s
  obtain ⟨x1, x2, x3, x4, x5, μ⟩ := s
  show AW l k_X11_longest aw_gi 32 [some (.ref t), some (.int x1), some (.int x2), some (.int x3), some (.int x4), some (.int x5)] [] μ (f_X11_longest_32 F t k32 k4 x1 x2 x3 x4 x5 μ)
  unfold f_X11_longest_32
  refine aw_iload (n := 34) dX11_longest_32 rfl rfl ?_
  refine aw_iload_n (n := 35) dX11_longest_34 rfl rfl ?_
  refine aw_icmp_ge (n := 38) 86 dX11_longest_35 (by decide) rfl ?_ ?_
  · exact aw_weak (c_X11_longest_86 l F t ht k4 hk4 x1 x2 x3 μ) (aw_ss (aw_ss (aw_ss (aw_ss (aw_sn (aw_sn aw_s0))))))
  · refine aw_aload_n (n := 39) dX11_longest_38 rfl rfl ?_
    refine aw_getR (n := 42) (RX11, TX11, 52) 11 34 dX11_longest_39 rfl ht (by decide) fd_RX11_80 ?_
    refine aw_iload_n (n := 43) dX11_longest_42 rfl rfl ?_
    refine aw_iaload (n := 44) 9 dX11_longest_43 rfl (sf_11_34 ht) ?_
    refine aw_aload_n (n := 45) dX11_longest_44 rfl rfl ?_
    refine aw_getR (n := 48) (RX11, TX11, 52) 11 32 dX11_longest_45 rfl ht (by decide) fd_RX11_74 ?_
    refine aw_iload (n := 50) dX11_longest_48 rfl rfl ?_
    refine aw_iaload (n := 51) 8 dX11_longest_50 rfl (sf_11_32 ht) ?_
    refine aw_callSz (n := 54) (as := [.int (μ.1 (aw_rf t 34) x3.toNatClampNeg), .int (μ.1 (aw_rf t 32) x5.toNatClampNeg)]) (st := []) dX11_longest_51 rfl rfl (m_X11_bitOf l F (μ.1 (aw_rf t 34) x3.toNatClampNeg) (μ.1 (aw_rf t 32) x5.toNatClampNeg) μ) cw_RX11_336 ⟨Nat.le_of_ble_eq_true rfl, Nat.le_of_ble_eq_true rfl⟩ (fun _ => Nat.le_of_ble_eq_true rfl) (fun r4 => ?_)
    refine aw_ifb_eq (n := 57) 61 dX11_longest_54 (by decide) rfl ?_ ?_
    · refine aw_iload (n := 63) dX11_longest_61 rfl rfl ?_
      refine aw_iconst (n := 64) 1 dX11_longest_63 rfl (by decide) ?_
      refine aw_iadd (n := 65) dX11_longest_64 rfl ?_
      exact aw_weak (c_X11_longest_65 l F t ht k4 hk4 k32 hk32 x1 x2 x3 x5 (x4 + 1) r4.2) (aw_ss (aw_ss (aw_ss (aw_ss (aw_sn (aw_ss aw_s0))))))
    · refine aw_iconst (n := 58) 0 dX11_longest_57 rfl (by decide) ?_
      refine aw_goto 65 dX11_longest_58 (by decide) ?_
      exact aw_weak (c_X11_longest_65 l F t ht k4 hk4 k32 hk32 x1 x2 x3 x5 0 r4.2) (aw_ss (aw_ss (aw_ss (aw_ss (aw_sn (aw_ss aw_s0))))))
def f_X11_longest_4 (F : Nat) (t : Nat) (k4 : Int32 × Int32 × Int32 × aw_M → Option (Int32 × aw_M)) (x1 : Int32) (x2 : Int32) (x3 : Int32) (μ : aw_M) : Option (Int32 × aw_M) :=
  aw_g (aw_in 2 1155) ((if (μ.1 (aw_rf t 6) (2 : Int32).toNatClampNeg) ≤ x3 then
  some (x2, μ)
  else
  aw_g (aw_in x3 9) ((if (μ.1 (aw_rf t 34) x3.toNatClampNeg) = 0 then
  f_X11_longest_86 F t k4 x1 x2 x3 μ
  else
  aw_loop (fun k s => f_X11_longest_32 F t k k4 s.1 s.2.1 s.2.2.1 s.2.2.2.1 s.2.2.2.2.1 s.2.2.2.2.2) F (x1, x2, x3, 0, 0, μ)))))
theorem c_X11_longest_4 (l : Launch) (F : Nat) (t : Nat) (ht : (aw_sh t).1 = 16) : ∀ (N : Nat) (s : Int32 × Int32 × Int32 × aw_M), AW l k_X11_longest aw_gi 4 [some (.ref t), some (.int s.1), some (.int s.2.1), some (.int s.2.2.1), none, none] [] s.2.2.2 (aw_loop (fun k s => f_X11_longest_4 F t k s.1 s.2.1 s.2.2.1 s.2.2.2) N s) := by
  refine aw_loop_ok (f := fun k s => f_X11_longest_4 F t k s.1 s.2.1 s.2.2.1 s.2.2.2) (Ls := fun s => [some (.ref t), some (.int s.1), some (.int s.2.1), some (.int s.2.2.1), none, none]) (ms := fun s => s.2.2.2) ?_
  intro k4 hk4 s
  obtain ⟨x1, x2, x3, μ⟩ := s
  show AW l k_X11_longest aw_gi 4 [some (.ref t), some (.int x1), some (.int x2), some (.int x3), none, none] [] μ (f_X11_longest_4 F t k4 x1 x2 x3 μ)
  unfold f_X11_longest_4
  refine aw_iload_n (n := 5) dX11_longest_4 rfl rfl ?_
  refine aw_aload_n (n := 6) dX11_longest_5 rfl rfl ?_
  refine aw_getR (n := 9) (RX11, TX11, 52) 11 6 dX11_longest_6 rfl ht (by decide) fd_RX11_33 ?_
  refine aw_iconst (n := 10) 2 dX11_longest_9 rfl (by decide) ?_
  refine aw_iaload (n := 11) 1155 dX11_longest_10 rfl (sf_11_6 ht) ?_
  refine aw_icmp_ge (n := 14) 92 dX11_longest_11 (by decide) rfl ?_ ?_
  · refine aw_iload_n (n := 93) dX11_longest_92 rfl rfl ?_
    exact aw_ireturn dX11_longest_93 rfl rfl
  · refine aw_aload_n (n := 15) dX11_longest_14 rfl rfl ?_
    refine aw_getR (n := 18) (RX11, TX11, 52) 11 34 dX11_longest_15 rfl ht (by decide) fd_RX11_80 ?_
    refine aw_iload_n (n := 19) dX11_longest_18 rfl rfl ?_
    refine aw_iaload (n := 20) 9 dX11_longest_19 rfl (sf_11_34 ht) ?_
    refine aw_if_ne (n := 23) 26 dX11_longest_20 (by decide) rfl ?_ ?_
    · refine aw_iconst (n := 27) 0 dX11_longest_26 rfl (by decide) ?_
      refine aw_istore (n := 29) [some (.ref t), some (.int x1), some (.int x2), some (.int x3), some (.int 0), none] dX11_longest_27 rfl rfl (Nat.le_of_ble_eq_true rfl) (Nat.le_of_ble_eq_true rfl) rfl ?_
      refine aw_iconst (n := 30) 0 dX11_longest_29 rfl (by decide) ?_
      refine aw_istore (n := 32) [some (.ref t), some (.int x1), some (.int x2), some (.int x3), some (.int 0), some (.int 0)] dX11_longest_30 rfl rfl (Nat.le_of_ble_eq_true rfl) (Nat.le_of_ble_eq_true rfl) rfl ?_
      exact aw_weak (c_X11_longest_32 l F t ht k4 hk4 F (x1, x2, x3, 0, 0, μ)) (aw_ss (aw_ss (aw_ss (aw_ss (aw_ss (aw_ss aw_s0))))))
    · refine aw_goto 86 dX11_longest_23 (by decide) ?_
      exact aw_weak (c_X11_longest_86 l F t ht k4 hk4 x1 x2 x3 μ) (aw_ss (aw_ss (aw_ss (aw_ss (aw_sn (aw_sn aw_s0))))))
def f_X11_longest (F : Nat) (t : Nat) (a0 : Int32) (μ : aw_M) : Option (Int32 × aw_M) :=
  aw_loop (fun k s => f_X11_longest_4 F t k s.1 s.2.1 s.2.2.1 s.2.2.2) F (a0, 0, 0, μ)
theorem m_X11_longest (l : Launch) (F : Nat) (t : Nat) (ht : (aw_sh t).1 = 16) (a0 : Int32) (μ : aw_M) : AM l yX11_longest cX11_longest 6 (some .int) 2 141 aw_gi [.ref t, .int a0] μ (f_X11_longest F t a0 μ) := by
  refine aw_met [some (.ref t), some (.int a0), none, none, none, none] (by decide) (fun _ => rfl) (fun _ => Nat.le_of_ble_eq_true rfl) ?_
  show AW l k_X11_longest aw_gi 0 [some (.ref t), some (.int a0), none, none, none, none] [] μ _
  unfold f_X11_longest
  refine aw_iconst (n := 1) 0 dX11_longest_0 rfl (by decide) ?_
  refine aw_istore_n (n := 2) [some (.ref t), some (.int a0), some (.int 0), none, none, none] dX11_longest_1 rfl rfl (Nat.le_of_ble_eq_true rfl) (Nat.le_of_ble_eq_true rfl) rfl ?_
  refine aw_iconst (n := 3) 0 dX11_longest_2 rfl (by decide) ?_
  refine aw_istore_n (n := 4) [some (.ref t), some (.int a0), some (.int 0), some (.int 0), none, none] dX11_longest_3 rfl rfl (Nat.le_of_ble_eq_true rfl) (Nat.le_of_ble_eq_true rfl) rfl ?_
  exact aw_weak (c_X11_longest_4 l F t ht F (a0, 0, 0, μ)) (aw_ss (aw_ss (aw_ss (aw_ss (aw_sn (aw_sn aw_s0))))))
abbrev k_X11_turns : aw_K := (RX11, cX11_turns, 7, (some .boolean), 1, 120)
def f_X11_turns_100 (F : Nat) (t : Nat) (k100 : Int32 × Int32 × aw_M → Option (Bool × aw_M)) (x5 : Int32) (x6 : Int32) (μ : aw_M) : Option (Bool × aw_M) :=
  (if x6 ≤ x5 then
  some (true, μ)
  else
  aw_g (aw_in x5 8) (aw_let ((μ.1 (aw_rf t 32) x5.toNatClampNeg)) fun v18 =>
  aw_g (aw_in x6 8) (aw_g (aw_in x5 8) (aw_let (aw_wI μ (aw_rf t 32) x5.toNatClampNeg (μ.1 (aw_rf t 32) x6.toNatClampNeg)) fun μ19 =>
  aw_g (aw_in x6 8) (aw_let (aw_wI μ19 (aw_rf t 32) x6.toNatClampNeg v18) fun μ20 =>
  k100 ((x5 + 1), (x6 + (-1)), μ20))))))
theorem c_X11_turns_100 (l : Launch) (F : Nat) (t : Nat) (ht : (aw_sh t).1 = 16) : ∀ (N : Nat) (s : Int32 × Int32 × aw_M), AW l k_X11_turns aw_gz 100 [some (.ref t), none, none, none, none, some (.int s.1), some (.int s.2.1)] [] s.2.2 (aw_loop (fun k s => f_X11_turns_100 F t k s.1 s.2.1 s.2.2) N s) := by
  refine aw_loop_ok (f := fun k s => f_X11_turns_100 F t k s.1 s.2.1 s.2.2) (Ls := fun s => [some (.ref t), none, none, none, none, some (.int s.1), some (.int s.2.1)]) (ms := fun s => s.2.2) ?_
  intro k100 hk100 s
  obtain ⟨x5, x6, μ⟩ := s
  show AW l k_X11_turns aw_gz 100 [some (.ref t), none, none, none, none, some (.int x5), some (.int x6)] [] μ (f_X11_turns_100 F t k100 x5 x6 μ)
  unfold f_X11_turns_100
  refine aw_iload (n := 102) dX11_turns_100 rfl rfl ?_
  refine aw_iload (n := 104) dX11_turns_102 rfl rfl ?_
  refine aw_icmp_ge (n := 107) 148 dX11_turns_104 (by decide) rfl ?_ ?_
  · refine aw_iconst (n := 149) 1 dX11_turns_148 rfl (by decide) ?_
    exact aw_zreturn (b := true) dX11_turns_149 rfl rfl
  · refine aw_aload_n (n := 108) dX11_turns_107 rfl rfl ?_
    refine aw_getR (n := 111) (RX11, TX11, 52) 11 32 dX11_turns_108 rfl ht (by decide) fd_RX11_74 ?_
    refine aw_iload (n := 113) dX11_turns_111 rfl rfl ?_
    refine aw_iaload (n := 114) 8 dX11_turns_113 rfl (sf_11_32 ht) ?_
    refine aw_nmI (fun v18 => ?_)
    refine aw_istore (n := 116) [some (.ref t), none, none, none, some (.int v18), some (.int x5), some (.int x6)] dX11_turns_114 rfl rfl (Nat.le_of_ble_eq_true rfl) (Nat.le_of_ble_eq_true rfl) rfl ?_
    refine aw_aload_n (n := 117) dX11_turns_116 rfl rfl ?_
    refine aw_getR (n := 120) (RX11, TX11, 52) 11 32 dX11_turns_117 rfl ht (by decide) fd_RX11_74 ?_
    refine aw_iload (n := 122) dX11_turns_120 rfl rfl ?_
    refine aw_aload_n (n := 123) dX11_turns_122 rfl rfl ?_
    refine aw_getR (n := 126) (RX11, TX11, 52) 11 32 dX11_turns_123 rfl ht (by decide) fd_RX11_74 ?_
    refine aw_iload (n := 128) dX11_turns_126 rfl rfl ?_
    refine aw_iaload (n := 129) 8 dX11_turns_128 rfl (sf_11_32 ht) ?_
    refine aw_iastore (n := 130) 8 dX11_turns_129 rfl (sf_11_32 ht) (fun μ19 => ?_)
    refine aw_aload_n (n := 131) dX11_turns_130 rfl rfl ?_
    refine aw_getR (n := 134) (RX11, TX11, 52) 11 32 dX11_turns_131 rfl ht (by decide) fd_RX11_74 ?_
    refine aw_iload (n := 136) dX11_turns_134 rfl rfl ?_
    refine aw_iload (n := 138) dX11_turns_136 rfl rfl ?_
    refine aw_iastore (n := 139) 8 dX11_turns_138 rfl (sf_11_32 ht) (fun μ20 => ?_)
    refine aw_iinc (n := 142) (x5 + 1) [some (.ref t), none, none, none, some (.int v18), some (.int (x5 + 1)), some (.int x6)] dX11_turns_139 rfl rfl (by rfl) rfl (Nat.le_of_ble_eq_true rfl) rfl ?_
    refine aw_iinc (n := 145) (x6 + (-1)) [some (.ref t), none, none, none, some (.int v18), some (.int (x5 + 1)), some (.int (x6 + (-1)))] dX11_turns_142 rfl rfl (by rfl) rfl (Nat.le_of_ble_eq_true rfl) rfl ?_
    refine aw_goto 100 dX11_turns_145 (by decide) ?_
    exact aw_weak (hk100 ((x5 + 1), (x6 + (-1)), μ20)) (aw_ss (aw_sn (aw_sn (aw_sn (aw_sn (aw_ss (aw_ss aw_s0)))))))
def f_X11_turns_62 (F : Nat) (t : Nat) (x1 : Int32) (x2 : Int32) (x3 : Int32) (μ : aw_M) : Option (Bool × aw_M) :=
  aw_g (aw_in x2 8) (aw_let ((μ.1 (aw_rf t 32) x2.toNatClampNeg)) fun v13 =>
  aw_g (aw_in x3 8) (aw_g (aw_in x2 8) (aw_let (aw_wI μ (aw_rf t 32) x2.toNatClampNeg (μ.1 (aw_rf t 32) x3.toNatClampNeg)) fun μ14 =>
  aw_g (aw_in x3 8) (aw_let (aw_wI μ14 (aw_rf t 32) x3.toNatClampNeg v13) fun μ15 =>
  aw_let ((x2 + 1)) fun v16 =>
  aw_let ((x1 - 1)) fun v17 =>
  aw_loop (fun k s => f_X11_turns_100 F t k s.1 s.2.1 s.2.2) F (v16, v17, μ15)))))
theorem c_X11_turns_62 (l : Launch) (F : Nat) (t : Nat) (ht : (aw_sh t).1 = 16) (x1 : Int32) (x2 : Int32) (x3 : Int32) (μ : aw_M) : AW l k_X11_turns aw_gz 62 [some (.ref t), some (.int x1), some (.int x2), some (.int x3), none, none, none] [] μ (f_X11_turns_62 F t x1 x2 x3 μ) := by
  unfold f_X11_turns_62
  refine aw_aload_n (n := 63) dX11_turns_62 rfl rfl ?_
  refine aw_getR (n := 66) (RX11, TX11, 52) 11 32 dX11_turns_63 rfl ht (by decide) fd_RX11_74 ?_
  refine aw_iload_n (n := 67) dX11_turns_66 rfl rfl ?_
  refine aw_iaload (n := 68) 8 dX11_turns_67 rfl (sf_11_32 ht) ?_
  refine aw_nmI (fun v13 => ?_)
  refine aw_istore (n := 70) [some (.ref t), some (.int x1), some (.int x2), some (.int x3), some (.int v13), none, none] dX11_turns_68 rfl rfl (Nat.le_of_ble_eq_true rfl) (Nat.le_of_ble_eq_true rfl) rfl ?_
  refine aw_aload_n (n := 71) dX11_turns_70 rfl rfl ?_
  refine aw_getR (n := 74) (RX11, TX11, 52) 11 32 dX11_turns_71 rfl ht (by decide) fd_RX11_74 ?_
  refine aw_iload_n (n := 75) dX11_turns_74 rfl rfl ?_
  refine aw_aload_n (n := 76) dX11_turns_75 rfl rfl ?_
  refine aw_getR (n := 79) (RX11, TX11, 52) 11 32 dX11_turns_76 rfl ht (by decide) fd_RX11_74 ?_
  refine aw_iload_n (n := 80) dX11_turns_79 rfl rfl ?_
  refine aw_iaload (n := 81) 8 dX11_turns_80 rfl (sf_11_32 ht) ?_
  refine aw_iastore (n := 82) 8 dX11_turns_81 rfl (sf_11_32 ht) (fun μ14 => ?_)
  refine aw_aload_n (n := 83) dX11_turns_82 rfl rfl ?_
  refine aw_getR (n := 86) (RX11, TX11, 52) 11 32 dX11_turns_83 rfl ht (by decide) fd_RX11_74 ?_
  refine aw_iload_n (n := 87) dX11_turns_86 rfl rfl ?_
  refine aw_iload (n := 89) dX11_turns_87 rfl rfl ?_
  refine aw_iastore (n := 90) 8 dX11_turns_89 rfl (sf_11_32 ht) (fun μ15 => ?_)
  refine aw_iload_n (n := 91) dX11_turns_90 rfl rfl ?_
  refine aw_iconst (n := 92) 1 dX11_turns_91 rfl (by decide) ?_
  refine aw_iadd (n := 93) dX11_turns_92 rfl ?_
  refine aw_nmI (fun v16 => ?_)
  refine aw_istore (n := 95) [some (.ref t), some (.int x1), some (.int x2), some (.int x3), some (.int v13), some (.int v16), none] dX11_turns_93 rfl rfl (Nat.le_of_ble_eq_true rfl) (Nat.le_of_ble_eq_true rfl) rfl ?_
  refine aw_iload_n (n := 96) dX11_turns_95 rfl rfl ?_
  refine aw_iconst (n := 97) 1 dX11_turns_96 rfl (by decide) ?_
  refine aw_isub (n := 98) dX11_turns_97 rfl ?_
  refine aw_nmI (fun v17 => ?_)
  refine aw_istore (n := 100) [some (.ref t), some (.int x1), some (.int x2), some (.int x3), some (.int v13), some (.int v16), some (.int v17)] dX11_turns_98 rfl rfl (Nat.le_of_ble_eq_true rfl) (Nat.le_of_ble_eq_true rfl) rfl ?_
  exact aw_weak (c_X11_turns_100 l F t ht F (v16, v17, μ15)) (aw_ss (aw_sn (aw_sn (aw_sn (aw_sn (aw_ss (aw_ss aw_s0)))))))
def f_X11_turns_41 (F : Nat) (t : Nat) (k41 : Int32 × Int32 × Int32 × aw_M → Option (Bool × aw_M)) (x1 : Int32) (x2 : Int32) (x3 : Int32) (μ : aw_M) : Option (Bool × aw_M) :=
  aw_g (aw_in x3 8) (aw_g (aw_in x2 8) ((if (μ.1 (aw_rf t 32) x2.toNatClampNeg) ≤ (μ.1 (aw_rf t 32) x3.toNatClampNeg) then
  f_X11_turns_62 F t x1 x2 x3 μ
  else
  k41 (x1, x2, (x3 + (-1)), μ))))
theorem c_X11_turns_41 (l : Launch) (F : Nat) (t : Nat) (ht : (aw_sh t).1 = 16) : ∀ (N : Nat) (s : Int32 × Int32 × Int32 × aw_M), AW l k_X11_turns aw_gz 41 [some (.ref t), some (.int s.1), some (.int s.2.1), some (.int s.2.2.1), none, none, none] [] s.2.2.2 (aw_loop (fun k s => f_X11_turns_41 F t k s.1 s.2.1 s.2.2.1 s.2.2.2) N s) := by
  refine aw_loop_ok (f := fun k s => f_X11_turns_41 F t k s.1 s.2.1 s.2.2.1 s.2.2.2) (Ls := fun s => [some (.ref t), some (.int s.1), some (.int s.2.1), some (.int s.2.2.1), none, none, none]) (ms := fun s => s.2.2.2) ?_
  intro k41 hk41 s
  obtain ⟨x1, x2, x3, μ⟩ := s
  show AW l k_X11_turns aw_gz 41 [some (.ref t), some (.int x1), some (.int x2), some (.int x3), none, none, none] [] μ (f_X11_turns_41 F t k41 x1 x2 x3 μ)
  unfold f_X11_turns_41
  refine aw_aload_n (n := 42) dX11_turns_41 rfl rfl ?_
  refine aw_getR (n := 45) (RX11, TX11, 52) 11 32 dX11_turns_42 rfl ht (by decide) fd_RX11_74 ?_
  refine aw_iload_n (n := 46) dX11_turns_45 rfl rfl ?_
  refine aw_iaload (n := 47) 8 dX11_turns_46 rfl (sf_11_32 ht) ?_
  refine aw_aload_n (n := 48) dX11_turns_47 rfl rfl ?_
  refine aw_getR (n := 51) (RX11, TX11, 52) 11 32 dX11_turns_48 rfl ht (by decide) fd_RX11_74 ?_
  refine aw_iload_n (n := 52) dX11_turns_51 rfl rfl ?_
  refine aw_iaload (n := 53) 8 dX11_turns_52 rfl (sf_11_32 ht) ?_
  refine aw_icmp_ge (n := 56) 62 dX11_turns_53 (by decide) rfl ?_ ?_
  · exact aw_weak (c_X11_turns_62 l F t ht x1 x2 x3 μ) (aw_ss (aw_ss (aw_ss (aw_ss (aw_sn (aw_sn (aw_sn aw_s0)))))))
  · refine aw_iinc (n := 59) (x3 + (-1)) [some (.ref t), some (.int x1), some (.int x2), some (.int (x3 + (-1))), none, none, none] dX11_turns_56 rfl rfl (by rfl) rfl (Nat.le_of_ble_eq_true rfl) rfl ?_
    refine aw_goto 41 dX11_turns_59 (by decide) ?_
    exact aw_weak (hk41 (x1, x2, (x3 + (-1)), μ)) (aw_ss (aw_ss (aw_ss (aw_ss (aw_sn (aw_sn (aw_sn aw_s0)))))))
def f_X11_turns_31 (F : Nat) (t : Nat) (x1 : Int32) (x2 : Int32) (μ : aw_M) : Option (Bool × aw_M) :=
  (if 0 ≤ x2 then
  aw_let ((x1 - 1)) fun v12 =>
  aw_loop (fun k s => f_X11_turns_41 F t k s.1 s.2.1 s.2.2.1 s.2.2.2) F (x1, x2, v12, μ)
  else
  some (false, μ))
theorem c_X11_turns_31 (l : Launch) (F : Nat) (t : Nat) (ht : (aw_sh t).1 = 16) (x1 : Int32) (x2 : Int32) (μ : aw_M) : AW l k_X11_turns aw_gz 31 [some (.ref t), some (.int x1), some (.int x2), none, none, none, none] [] μ (f_X11_turns_31 F t x1 x2 μ) := by
  unfold f_X11_turns_31
  refine aw_iload_n (n := 32) dX11_turns_31 rfl rfl ?_
  refine aw_if_ge (n := 35) 37 dX11_turns_32 (by decide) rfl ?_ ?_
  · refine aw_iload_n (n := 38) dX11_turns_37 rfl rfl ?_
    refine aw_iconst (n := 39) 1 dX11_turns_38 rfl (by decide) ?_
    refine aw_isub (n := 40) dX11_turns_39 rfl ?_
    refine aw_nmI (fun v12 => ?_)
    refine aw_istore_n (n := 41) [some (.ref t), some (.int x1), some (.int x2), some (.int v12), none, none, none] dX11_turns_40 rfl rfl (Nat.le_of_ble_eq_true rfl) (Nat.le_of_ble_eq_true rfl) rfl ?_
    exact aw_weak (c_X11_turns_41 l F t ht F (x1, x2, v12, μ)) (aw_ss (aw_ss (aw_ss (aw_ss (aw_sn (aw_sn (aw_sn aw_s0)))))))
  · refine aw_iconst (n := 36) 0 dX11_turns_35 rfl (by decide) ?_
    exact aw_zreturn (b := false) dX11_turns_36 rfl rfl
def f_X11_turns_4 (F : Nat) (t : Nat) (k4 : Int32 × Int32 × aw_M → Option (Bool × aw_M)) (x1 : Int32) (x2 : Int32) (μ : aw_M) : Option (Bool × aw_M) :=
  (if x2 < 0 then
  f_X11_turns_31 F t x1 x2 μ
  else
  aw_g (aw_in x2 8) (aw_g (aw_in (x2 + 1) 8) ((if (μ.1 (aw_rf t 32) x2.toNatClampNeg) ≤ (μ.1 (aw_rf t 32) (x2 + 1).toNatClampNeg) then
  f_X11_turns_31 F t x1 x2 μ
  else
  k4 (x1, (x2 + (-1)), μ)))))
theorem c_X11_turns_4 (l : Launch) (F : Nat) (t : Nat) (ht : (aw_sh t).1 = 16) : ∀ (N : Nat) (s : Int32 × Int32 × aw_M), AW l k_X11_turns aw_gz 4 [some (.ref t), some (.int s.1), some (.int s.2.1), none, none, none, none] [] s.2.2 (aw_loop (fun k s => f_X11_turns_4 F t k s.1 s.2.1 s.2.2) N s) := by
  refine aw_loop_ok (f := fun k s => f_X11_turns_4 F t k s.1 s.2.1 s.2.2) (Ls := fun s => [some (.ref t), some (.int s.1), some (.int s.2.1), none, none, none, none]) (ms := fun s => s.2.2) ?_
  intro k4 hk4 s
  obtain ⟨x1, x2, μ⟩ := s
  show AW l k_X11_turns aw_gz 4 [some (.ref t), some (.int x1), some (.int x2), none, none, none, none] [] μ (f_X11_turns_4 F t k4 x1 x2 μ)
  unfold f_X11_turns_4
  refine aw_iload_n (n := 5) dX11_turns_4 rfl rfl ?_
  refine aw_if_lt (n := 8) 31 dX11_turns_5 (by decide) rfl ?_ ?_
  · exact aw_weak (c_X11_turns_31 l F t ht x1 x2 μ) (aw_ss (aw_ss (aw_ss (aw_sn (aw_sn (aw_sn (aw_sn aw_s0)))))))
  · refine aw_aload_n (n := 9) dX11_turns_8 rfl rfl ?_
    refine aw_getR (n := 12) (RX11, TX11, 52) 11 32 dX11_turns_9 rfl ht (by decide) fd_RX11_74 ?_
    refine aw_iload_n (n := 13) dX11_turns_12 rfl rfl ?_
    refine aw_iaload (n := 14) 8 dX11_turns_13 rfl (sf_11_32 ht) ?_
    refine aw_aload_n (n := 15) dX11_turns_14 rfl rfl ?_
    refine aw_getR (n := 18) (RX11, TX11, 52) 11 32 dX11_turns_15 rfl ht (by decide) fd_RX11_74 ?_
    refine aw_iload_n (n := 19) dX11_turns_18 rfl rfl ?_
    refine aw_iconst (n := 20) 1 dX11_turns_19 rfl (by decide) ?_
    refine aw_iadd (n := 21) dX11_turns_20 rfl ?_
    refine aw_iaload (n := 22) 8 dX11_turns_21 rfl (sf_11_32 ht) ?_
    refine aw_icmp_le (n := 25) 31 dX11_turns_22 (by decide) rfl ?_ ?_
    · exact aw_weak (c_X11_turns_31 l F t ht x1 x2 μ) (aw_ss (aw_ss (aw_ss (aw_sn (aw_sn (aw_sn (aw_sn aw_s0)))))))
    · refine aw_iinc (n := 28) (x2 + (-1)) [some (.ref t), some (.int x1), some (.int (x2 + (-1))), none, none, none, none] dX11_turns_25 rfl rfl (by rfl) rfl (Nat.le_of_ble_eq_true rfl) rfl ?_
      refine aw_goto 4 dX11_turns_28 (by decide) ?_
      exact aw_weak (hk4 (x1, (x2 + (-1)), μ)) (aw_ss (aw_ss (aw_ss (aw_sn (aw_sn (aw_sn (aw_sn aw_s0)))))))
def f_X11_turns (F : Nat) (t : Nat) (a0 : Int32) (μ : aw_M) : Option (Bool × aw_M) :=
  aw_let ((a0 - 2)) fun v11 =>
  aw_loop (fun k s => f_X11_turns_4 F t k s.1 s.2.1 s.2.2) F (a0, v11, μ)
theorem m_X11_turns (l : Launch) (F : Nat) (t : Nat) (ht : (aw_sh t).1 = 16) (a0 : Int32) (μ : aw_M) : AM l yX11_turns cX11_turns 7 (some .boolean) 1 120 aw_gz [.ref t, .int a0] μ (f_X11_turns F t a0 μ) := by
  refine aw_met [some (.ref t), some (.int a0), none, none, none, none, none] (by decide) (fun _ => rfl) (fun _ => Nat.le_of_ble_eq_true rfl) ?_
  show AW l k_X11_turns aw_gz 0 [some (.ref t), some (.int a0), none, none, none, none, none] [] μ _
  unfold f_X11_turns
  refine aw_iload_n (n := 1) dX11_turns_0 rfl rfl ?_
  refine aw_iconst (n := 2) 2 dX11_turns_1 rfl (by decide) ?_
  refine aw_isub (n := 3) dX11_turns_2 rfl ?_
  refine aw_nmI (fun v11 => ?_)
  refine aw_istore_n (n := 4) [some (.ref t), some (.int a0), some (.int v11), none, none, none, none] dX11_turns_3 rfl rfl (Nat.le_of_ble_eq_true rfl) (Nat.le_of_ble_eq_true rfl) rfl ?_
  exact aw_weak (c_X11_turns_4 l F t ht F (a0, v11, μ)) (aw_ss (aw_ss (aw_ss (aw_sn (aw_sn (aw_sn (aw_sn aw_s0)))))))
abbrev k_X11_order : aw_K := (RX11, cX11_order, 6, (some .int), 3, 166)
def f_X11_order_184 (F : Nat) (t : Nat) (k135 : Int32 × Int32 × Bool × aw_M → Option (Int32 × aw_M)) (x1 : Int32) (x2 : Int32) (μ : aw_M) : Option (Int32 × aw_M) :=
  (f_X11_turns F t x1 μ).bind fun r28 =>
  k135 (x1, x2, r28.1, r28.2)
theorem c_X11_order_184 (l : Launch) (F : Nat) (t : Nat) (ht : (aw_sh t).1 = 16) (k135 : Int32 × Int32 × Bool × aw_M → Option (Int32 × aw_M)) (hk135 : ∀ s : Int32 × Int32 × Bool × aw_M, AW l k_X11_order aw_gi 135 [some (.ref t), some (.int s.1), some (.int s.2.1), some (.int (aw_b s.2.2.1)), none, none] [] s.2.2.2 (k135 s)) (x1 : Int32) (x2 : Int32) (μ : aw_M) : AW l k_X11_order aw_gi 184 [some (.ref t), some (.int x1), some (.int x2), none, none, none] [] μ (f_X11_order_184 F t k135 x1 x2 μ) := by
  unfold f_X11_order_184
  refine aw_aload_n (n := 185) dX11_order_184 rfl rfl ?_
  refine aw_iload_n (n := 186) dX11_order_185 rfl rfl ?_
  refine aw_callVz (n := 189) (as := [.int x1]) (st := []) (RX11, TX11, 52) 11 dX11_order_186 rfl rfl (m_X11_turns l F t ht x1 μ) ht (by decide) rfl rfl cw_RX11_361 ⟨Nat.le_of_ble_eq_true rfl, Nat.le_of_ble_eq_true rfl⟩ (fun _ => Nat.le_of_ble_eq_true rfl) (fun r28 => ?_)
  refine aw_istore_n (n := 190) [some (.ref t), some (.int x1), some (.int x2), some (.int (aw_b r28.1)), none, none] dX11_order_189 rfl rfl (Nat.le_of_ble_eq_true rfl) (Nat.le_of_ble_eq_true rfl) rfl ?_
  refine aw_goto 135 dX11_order_190 (by decide) ?_
  exact aw_weak (hk135 (x1, x2, r28.1, r28.2)) (aw_ss (aw_ss (aw_ss (aw_ss (aw_sn (aw_sn aw_s0))))))
def f_X11_order_158 (F : Nat) (t : Nat) (k158 : Int32 × Int32 × Int32 × aw_M → Option (Int32 × aw_M)) (k135 : Int32 × Int32 × Bool × aw_M → Option (Int32 × aw_M)) (x1 : Int32) (x2 : Int32) (x5 : Int32) (μ : aw_M) : Option (Int32 × aw_M) :=
  (if x1 ≤ x5 then
  f_X11_order_184 F t k135 x1 x2 μ
  else
  aw_g (aw_in x5 8) (aw_g (aw_in x5 8) (aw_let (aw_wI μ (aw_rf t 33) x5.toNatClampNeg (μ.1 (aw_rf t 32) x5.toNatClampNeg)) fun μ29 =>
  k158 (x1, x2, (x5 + 1), μ29))))
theorem c_X11_order_158 (l : Launch) (F : Nat) (t : Nat) (ht : (aw_sh t).1 = 16) (k135 : Int32 × Int32 × Bool × aw_M → Option (Int32 × aw_M)) (hk135 : ∀ s : Int32 × Int32 × Bool × aw_M, AW l k_X11_order aw_gi 135 [some (.ref t), some (.int s.1), some (.int s.2.1), some (.int (aw_b s.2.2.1)), none, none] [] s.2.2.2 (k135 s)) : ∀ (N : Nat) (s : Int32 × Int32 × Int32 × aw_M), AW l k_X11_order aw_gi 158 [some (.ref t), some (.int s.1), some (.int s.2.1), none, none, some (.int s.2.2.1)] [] s.2.2.2 (aw_loop (fun k s => f_X11_order_158 F t k k135 s.1 s.2.1 s.2.2.1 s.2.2.2) N s) := by
  refine aw_loop_ok (f := fun k s => f_X11_order_158 F t k k135 s.1 s.2.1 s.2.2.1 s.2.2.2) (Ls := fun s => [some (.ref t), some (.int s.1), some (.int s.2.1), none, none, some (.int s.2.2.1)]) (ms := fun s => s.2.2.2) ?_
  intro k158 hk158 s
  obtain ⟨x1, x2, x5, μ⟩ := s
  show AW l k_X11_order aw_gi 158 [some (.ref t), some (.int x1), some (.int x2), none, none, some (.int x5)] [] μ (f_X11_order_158 F t k158 k135 x1 x2 x5 μ)
  unfold f_X11_order_158
  refine aw_iload (n := 160) dX11_order_158 rfl rfl ?_
  refine aw_iload_n (n := 161) dX11_order_160 rfl rfl ?_
  refine aw_icmp_ge (n := 164) 184 dX11_order_161 (by decide) rfl ?_ ?_
  · exact aw_weak (c_X11_order_184 l F t ht k135 hk135 x1 x2 μ) (aw_ss (aw_ss (aw_ss (aw_sn (aw_sn (aw_sn aw_s0))))))
  · refine aw_aload_n (n := 165) dX11_order_164 rfl rfl ?_
    refine aw_getR (n := 168) (RX11, TX11, 52) 11 33 dX11_order_165 rfl ht (by decide) fd_RX11_77 ?_
    refine aw_iload (n := 170) dX11_order_168 rfl rfl ?_
    refine aw_aload_n (n := 171) dX11_order_170 rfl rfl ?_
    refine aw_getR (n := 174) (RX11, TX11, 52) 11 32 dX11_order_171 rfl ht (by decide) fd_RX11_74 ?_
    refine aw_iload (n := 176) dX11_order_174 rfl rfl ?_
    refine aw_iaload (n := 177) 8 dX11_order_176 rfl (sf_11_32 ht) ?_
    refine aw_iastore (n := 178) 8 dX11_order_177 rfl (sf_11_33 ht) (fun μ29 => ?_)
    refine aw_iinc (n := 181) (x5 + 1) [some (.ref t), some (.int x1), some (.int x2), none, none, some (.int (x5 + 1))] dX11_order_178 rfl rfl (by rfl) rfl (Nat.le_of_ble_eq_true rfl) rfl ?_
    refine aw_goto 158 dX11_order_181 (by decide) ?_
    exact aw_weak (hk158 (x1, x2, (x5 + 1), μ29)) (aw_ss (aw_ss (aw_ss (aw_sn (aw_sn (aw_ss aw_s0))))))
def f_X11_order_135 (F : Nat) (t : Nat) (k135 : Int32 × Int32 × Bool × aw_M → Option (Int32 × aw_M)) (x1 : Int32) (x2 : Int32) (x3 : Bool) (μ : aw_M) : Option (Int32 × aw_M) :=
  (if x3 = true then
  (f_X11_longest F t x1 μ).bind fun r27 =>
  (if x2 ≤ r27.1 then
  f_X11_order_184 F t k135 x1 x2 r27.2
  else
  aw_loop (fun k s => f_X11_order_158 F t k k135 s.1 s.2.1 s.2.2.1 s.2.2.2) F (x1, r27.1, 0, r27.2))
  else
  aw_let (aw_wI μ t 35 x1) fun μ26 =>
  some (x2, μ26))
theorem c_X11_order_135 (l : Launch) (F : Nat) (t : Nat) (ht : (aw_sh t).1 = 16) : ∀ (N : Nat) (s : Int32 × Int32 × Bool × aw_M), AW l k_X11_order aw_gi 135 [some (.ref t), some (.int s.1), some (.int s.2.1), some (.int (aw_b s.2.2.1)), none, none] [] s.2.2.2 (aw_loop (fun k s => f_X11_order_135 F t k s.1 s.2.1 s.2.2.1 s.2.2.2) N s) := by
  refine aw_loop_ok (f := fun k s => f_X11_order_135 F t k s.1 s.2.1 s.2.2.1 s.2.2.2) (Ls := fun s => [some (.ref t), some (.int s.1), some (.int s.2.1), some (.int (aw_b s.2.2.1)), none, none]) (ms := fun s => s.2.2.2) ?_
  intro k135 hk135 s
  obtain ⟨x1, x2, x3, μ⟩ := s
  show AW l k_X11_order aw_gi 135 [some (.ref t), some (.int x1), some (.int x2), some (.int (aw_b x3)), none, none] [] μ (f_X11_order_135 F t k135 x1 x2 x3 μ)
  unfold f_X11_order_135
  refine aw_iload_n (n := 136) dX11_order_135 rfl rfl ?_
  refine aw_ifb_eq (n := 139) 193 dX11_order_136 (by decide) rfl ?_ ?_
  · refine aw_aload_n (n := 194) dX11_order_193 rfl rfl ?_
    refine aw_iload_n (n := 195) dX11_order_194 rfl rfl ?_
    refine aw_putI (n := 198) (RX11, TX11, 52) 11 35 dX11_order_195 rfl ht (by decide) fp_RX11_364 (fun μ26 => ?_)
    refine aw_iload_n (n := 199) dX11_order_198 rfl rfl ?_
    exact aw_ireturn dX11_order_199 rfl rfl
  · refine aw_aload_n (n := 140) dX11_order_139 rfl rfl ?_
    refine aw_iload_n (n := 141) dX11_order_140 rfl rfl ?_
    refine aw_callVi (n := 144) (as := [.int x1]) (st := []) (RX11, TX11, 52) 11 dX11_order_141 rfl rfl (m_X11_longest l F t ht x1 μ) ht (by decide) rfl rfl cw_RX11_358 ⟨Nat.le_of_ble_eq_true rfl, Nat.le_of_ble_eq_true rfl⟩ (fun _ => Nat.le_of_ble_eq_true rfl) (fun r27 => ?_)
    refine aw_istore (n := 146) [some (.ref t), some (.int x1), some (.int x2), some (.int (aw_b x3)), some (.int r27.1), none] dX11_order_144 rfl rfl (Nat.le_of_ble_eq_true rfl) (Nat.le_of_ble_eq_true rfl) rfl ?_
    refine aw_iload (n := 148) dX11_order_146 rfl rfl ?_
    refine aw_iload_n (n := 149) dX11_order_148 rfl rfl ?_
    refine aw_icmp_ge (n := 152) 184 dX11_order_149 (by decide) rfl ?_ ?_
    · exact aw_weak (c_X11_order_184 l F t ht k135 hk135 x1 x2 r27.2) (aw_ss (aw_ss (aw_ss (aw_sn (aw_sn (aw_sn aw_s0))))))
    · refine aw_iload (n := 154) dX11_order_152 rfl rfl ?_
      refine aw_istore_n (n := 155) [some (.ref t), some (.int x1), some (.int r27.1), some (.int (aw_b x3)), some (.int r27.1), none] dX11_order_154 rfl rfl (Nat.le_of_ble_eq_true rfl) (Nat.le_of_ble_eq_true rfl) rfl ?_
      refine aw_iconst (n := 156) 0 dX11_order_155 rfl (by decide) ?_
      refine aw_istore (n := 158) [some (.ref t), some (.int x1), some (.int r27.1), some (.int (aw_b x3)), some (.int r27.1), some (.int 0)] dX11_order_156 rfl rfl (Nat.le_of_ble_eq_true rfl) (Nat.le_of_ble_eq_true rfl) rfl ?_
      exact aw_weak (c_X11_order_158 l F t ht k135 hk135 F (x1, r27.1, 0, r27.2)) (aw_ss (aw_ss (aw_ss (aw_sn (aw_sn (aw_ss aw_s0))))))
def f_X11_order_129 (F : Nat) (t : Nat) (x1 : Int32) (μ : aw_M) : Option (Int32 × aw_M) :=
  aw_loop (fun k s => f_X11_order_135 F t k s.1 s.2.1 s.2.2.1 s.2.2.2) F (x1, 1000000000, true, μ)
theorem c_X11_order_129 (l : Launch) (F : Nat) (t : Nat) (ht : (aw_sh t).1 = 16) (x1 : Int32) (μ : aw_M) : AW l k_X11_order aw_gi 129 [some (.ref t), some (.int x1), none, none, none, none] [] μ (f_X11_order_129 F t x1 μ) := by
  unfold f_X11_order_129
  refine aw_ldcw (n := 132) dX11_order_129 rfl tb_1932 ?_
  refine aw_istore_n (n := 133) [some (.ref t), some (.int x1), some (.int 1000000000), none, none, none] dX11_order_132 rfl rfl (Nat.le_of_ble_eq_true rfl) (Nat.le_of_ble_eq_true rfl) rfl ?_
  refine aw_iconst (n := 134) 1 dX11_order_133 rfl (by decide) ?_
  refine aw_istore_n (n := 135) [some (.ref t), some (.int x1), some (.int 1000000000), some (.int 1), none, none] dX11_order_134 rfl rfl (Nat.le_of_ble_eq_true rfl) (Nat.le_of_ble_eq_true rfl) rfl ?_
  exact aw_weak (c_X11_order_135 l F t ht F (x1, 1000000000, true, μ)) (aw_ss (aw_ss (aw_ss (aw_ss (aw_sn (aw_sn aw_s0))))))
def f_X11_order_111 (F : Nat) (t : Nat) (k111 : Int32 × Int32 × aw_M → Option (Int32 × aw_M)) (x1 : Int32) (x2 : Int32) (μ : aw_M) : Option (Int32 × aw_M) :=
  (if x1 ≤ x2 then
  f_X11_order_129 F t x1 μ
  else
  aw_g (aw_in x2 8) (aw_let (aw_wI μ (aw_rf t 32) x2.toNatClampNeg x2) fun μ30 =>
  k111 (x1, (x2 + 1), μ30)))
theorem c_X11_order_111 (l : Launch) (F : Nat) (t : Nat) (ht : (aw_sh t).1 = 16) : ∀ (N : Nat) (s : Int32 × Int32 × aw_M), AW l k_X11_order aw_gi 111 [some (.ref t), some (.int s.1), some (.int s.2.1), none, none, none] [] s.2.2 (aw_loop (fun k s => f_X11_order_111 F t k s.1 s.2.1 s.2.2) N s) := by
  refine aw_loop_ok (f := fun k s => f_X11_order_111 F t k s.1 s.2.1 s.2.2) (Ls := fun s => [some (.ref t), some (.int s.1), some (.int s.2.1), none, none, none]) (ms := fun s => s.2.2) ?_
  intro k111 hk111 s
  obtain ⟨x1, x2, μ⟩ := s
  show AW l k_X11_order aw_gi 111 [some (.ref t), some (.int x1), some (.int x2), none, none, none] [] μ (f_X11_order_111 F t k111 x1 x2 μ)
  unfold f_X11_order_111
  refine aw_iload_n (n := 112) dX11_order_111 rfl rfl ?_
  refine aw_iload_n (n := 113) dX11_order_112 rfl rfl ?_
  refine aw_icmp_ge (n := 116) 129 dX11_order_113 (by decide) rfl ?_ ?_
  · exact aw_weak (c_X11_order_129 l F t ht x1 μ) (aw_ss (aw_ss (aw_sn (aw_sn (aw_sn (aw_sn aw_s0))))))
  · refine aw_aload_n (n := 117) dX11_order_116 rfl rfl ?_
    refine aw_getR (n := 120) (RX11, TX11, 52) 11 32 dX11_order_117 rfl ht (by decide) fd_RX11_74 ?_
    refine aw_iload_n (n := 121) dX11_order_120 rfl rfl ?_
    refine aw_iload_n (n := 122) dX11_order_121 rfl rfl ?_
    refine aw_iastore (n := 123) 8 dX11_order_122 rfl (sf_11_32 ht) (fun μ30 => ?_)
    refine aw_iinc (n := 126) (x2 + 1) [some (.ref t), some (.int x1), some (.int (x2 + 1)), none, none, none] dX11_order_123 rfl rfl (by rfl) rfl (Nat.le_of_ble_eq_true rfl) rfl ?_
    refine aw_goto 111 dX11_order_126 (by decide) ?_
    exact aw_weak (hk111 (x1, (x2 + 1), μ30)) (aw_ss (aw_ss (aw_ss (aw_sn (aw_sn (aw_sn aw_s0))))))
def f_X11_order_109 (F : Nat) (t : Nat) (x1 : Int32) (μ : aw_M) : Option (Int32 × aw_M) :=
  aw_loop (fun k s => f_X11_order_111 F t k s.1 s.2.1 s.2.2) F (x1, 0, μ)
theorem c_X11_order_109 (l : Launch) (F : Nat) (t : Nat) (ht : (aw_sh t).1 = 16) (x1 : Int32) (μ : aw_M) : AW l k_X11_order aw_gi 109 [some (.ref t), some (.int x1), none, none, none, none] [] μ (f_X11_order_109 F t x1 μ) := by
  unfold f_X11_order_109
  refine aw_iconst (n := 110) 0 dX11_order_109 rfl (by decide) ?_
  refine aw_istore_n (n := 111) [some (.ref t), some (.int x1), some (.int 0), none, none, none] dX11_order_110 rfl rfl (Nat.le_of_ble_eq_true rfl) (Nat.le_of_ble_eq_true rfl) rfl ?_
  exact aw_weak (c_X11_order_111 l F t ht F (x1, 0, μ)) (aw_ss (aw_ss (aw_ss (aw_sn (aw_sn (aw_sn aw_s0))))))
def f_X11_order_103 (F : Nat) (t : Nat) (k26 : Int32 × Int32 × aw_M → Option (Int32 × aw_M)) (x1 : Int32) (x2 : Int32) (μ : aw_M) : Option (Int32 × aw_M) :=
  k26 (x1, (x2 + 1), μ)
theorem c_X11_order_103 (l : Launch) (F : Nat) (t : Nat) (ht : (aw_sh t).1 = 16) (k26 : Int32 × Int32 × aw_M → Option (Int32 × aw_M)) (hk26 : ∀ s : Int32 × Int32 × aw_M, AW l k_X11_order aw_gi 26 [some (.ref t), some (.int s.1), some (.int s.2.1), none, none, none] [] s.2.2 (k26 s)) (x1 : Int32) (x2 : Int32) (μ : aw_M) : AW l k_X11_order aw_gi 103 [some (.ref t), some (.int x1), some (.int x2), none, none, none] [] μ (f_X11_order_103 F t k26 x1 x2 μ) := by
  unfold f_X11_order_103
  refine aw_iinc (n := 106) (x2 + 1) [some (.ref t), some (.int x1), some (.int (x2 + 1)), none, none, none] dX11_order_103 rfl rfl (by rfl) rfl (Nat.le_of_ble_eq_true rfl) rfl ?_
  refine aw_goto 26 dX11_order_106 (by decide) ?_
  exact aw_weak (hk26 (x1, (x2 + 1), μ)) (aw_ss (aw_ss (aw_ss (aw_sn (aw_sn (aw_sn aw_s0))))))
def f_X11_order_95 (F : Nat) (t : Nat) (k26 : Int32 × Int32 × aw_M → Option (Int32 × aw_M)) (k41 : Int32 × Int32 × Int32 × aw_M → Option (Int32 × aw_M)) (x1 : Int32) (x2 : Int32) (x3 : Int32) (z0 : Int32) (z1 : Int32) (z2 : Int32) (μ : aw_M) : Option (Int32 × aw_M) :=
  aw_g (aw_in z2 9) (aw_let (aw_wI μ (aw_rf t 34) z2.toNatClampNeg (z1 ||| z0)) fun μ33 =>
  k41 (x1, x2, (x3 + 1), μ33))
theorem c_X11_order_95 (l : Launch) (F : Nat) (t : Nat) (ht : (aw_sh t).1 = 16) (k26 : Int32 × Int32 × aw_M → Option (Int32 × aw_M)) (hk26 : ∀ s : Int32 × Int32 × aw_M, AW l k_X11_order aw_gi 26 [some (.ref t), some (.int s.1), some (.int s.2.1), none, none, none] [] s.2.2 (k26 s)) (k41 : Int32 × Int32 × Int32 × aw_M → Option (Int32 × aw_M)) (hk41 : ∀ s : Int32 × Int32 × Int32 × aw_M, AW l k_X11_order aw_gi 41 [some (.ref t), some (.int s.1), some (.int s.2.1), some (.int s.2.2.1), none, none] [] s.2.2.2 (k41 s)) (x1 : Int32) (x2 : Int32) (x3 : Int32) (z0 : Int32) (z1 : Int32) (z2 : Int32) (μ : aw_M) : AW l k_X11_order aw_gi 95 [some (.ref t), some (.int x1), some (.int x2), some (.int x3), none, none] [.int z0, .int z1, .int z2, .ref (aw_rf t 34)] μ (f_X11_order_95 F t k26 k41 x1 x2 x3 z0 z1 z2 μ) := by
  unfold f_X11_order_95
  refine aw_ior (n := 96) dX11_order_95 rfl ?_
  refine aw_iastore (n := 97) 9 dX11_order_96 rfl (sf_11_34 ht) (fun μ33 => ?_)
  refine aw_iinc (n := 100) (x3 + 1) [some (.ref t), some (.int x1), some (.int x2), some (.int (x3 + 1)), none, none] dX11_order_97 rfl rfl (by rfl) rfl (Nat.le_of_ble_eq_true rfl) rfl ?_
  refine aw_goto 41 dX11_order_100 (by decide) ?_
  exact aw_weak (hk41 (x1, x2, (x3 + 1), μ33)) (aw_ss (aw_ss (aw_ss (aw_ss (aw_sn (aw_sn aw_s0))))))
def f_X11_order_41 (F : Nat) (t : Nat) (k41 : Int32 × Int32 × Int32 × aw_M → Option (Int32 × aw_M)) (k26 : Int32 × Int32 × aw_M → Option (Int32 × aw_M)) (x1 : Int32) (x2 : Int32) (x3 : Int32) (μ : aw_M) : Option (Int32 × aw_M) :=
  (if x1 ≤ x3 then
  f_X11_order_103 F t k26 x1 x2 μ
  else
  aw_g (aw_in 2 1155) ((if (μ.1 (aw_rf t 6) (2 : Int32).toNatClampNeg) ≤ x2 then
  f_X11_order_103 F t k26 x1 x2 μ
  else
  aw_g (aw_in x2 9) (aw_g (aw_in (11 + x2) 1155) (aw_g (aw_in (67 + x3) 1155) ((f_X11_apart F (μ.1 (aw_rf t 6) (11 + x2).toNatClampNeg) (μ.1 (aw_rf t 6) (67 + x3).toNatClampNeg) μ).bind fun r32 =>
  (if 3 < r32.1 then
  f_X11_order_95 F t k26 k41 x1 x2 x3 0 (μ.1 (aw_rf t 34) x2.toNatClampNeg) x2 r32.2
  else
  f_X11_order_95 F t k26 k41 x1 x2 x3 (1 <<< (x3 &&& 31)) (μ.1 (aw_rf t 34) x2.toNatClampNeg) x2 r32.2)))))))
theorem c_X11_order_41 (l : Launch) (F : Nat) (t : Nat) (ht : (aw_sh t).1 = 16) (k26 : Int32 × Int32 × aw_M → Option (Int32 × aw_M)) (hk26 : ∀ s : Int32 × Int32 × aw_M, AW l k_X11_order aw_gi 26 [some (.ref t), some (.int s.1), some (.int s.2.1), none, none, none] [] s.2.2 (k26 s)) : ∀ (N : Nat) (s : Int32 × Int32 × Int32 × aw_M), AW l k_X11_order aw_gi 41 [some (.ref t), some (.int s.1), some (.int s.2.1), some (.int s.2.2.1), none, none] [] s.2.2.2 (aw_loop (fun k s => f_X11_order_41 F t k k26 s.1 s.2.1 s.2.2.1 s.2.2.2) N s) := by
  refine aw_loop_ok (f := fun k s => f_X11_order_41 F t k k26 s.1 s.2.1 s.2.2.1 s.2.2.2) (Ls := fun s => [some (.ref t), some (.int s.1), some (.int s.2.1), some (.int s.2.2.1), none, none]) (ms := fun s => s.2.2.2) ?_
  intro k41 hk41 s
  obtain ⟨x1, x2, x3, μ⟩ := s
  show AW l k_X11_order aw_gi 41 [some (.ref t), some (.int x1), some (.int x2), some (.int x3), none, none] [] μ (f_X11_order_41 F t k41 k26 x1 x2 x3 μ)
  unfold f_X11_order_41
  refine aw_iload_n (n := 42) dX11_order_41 rfl rfl ?_
  refine aw_iload_n (n := 43) dX11_order_42 rfl rfl ?_
  refine aw_icmp_ge (n := 46) 103 dX11_order_43 (by decide) rfl ?_ ?_
  · exact aw_weak (c_X11_order_103 l F t ht k26 hk26 x1 x2 μ) (aw_ss (aw_ss (aw_ss (aw_sn (aw_sn (aw_sn aw_s0))))))
  · refine aw_iload_n (n := 47) dX11_order_46 rfl rfl ?_
    refine aw_aload_n (n := 48) dX11_order_47 rfl rfl ?_
    refine aw_getR (n := 51) (RX11, TX11, 52) 11 6 dX11_order_48 rfl ht (by decide) fd_RX11_33 ?_
    refine aw_iconst (n := 52) 2 dX11_order_51 rfl (by decide) ?_
    refine aw_iaload (n := 53) 1155 dX11_order_52 rfl (sf_11_6 ht) ?_
    refine aw_icmp_ge (n := 56) 103 dX11_order_53 (by decide) rfl ?_ ?_
    · exact aw_weak (c_X11_order_103 l F t ht k26 hk26 x1 x2 μ) (aw_ss (aw_ss (aw_ss (aw_sn (aw_sn (aw_sn aw_s0))))))
    · refine aw_aload_n (n := 57) dX11_order_56 rfl rfl ?_
      refine aw_getR (n := 60) (RX11, TX11, 52) 11 34 dX11_order_57 rfl ht (by decide) fd_RX11_80 ?_
      refine aw_iload_n (n := 61) dX11_order_60 rfl rfl ?_
      refine aw_dup2 (n := 62) dX11_order_61 rfl (fun _ => rfl) (fun _ => rfl) ?_
      refine aw_iaload (n := 63) 9 dX11_order_62 rfl (sf_11_34 ht) ?_
      refine aw_aload_n (n := 64) dX11_order_63 rfl rfl ?_
      refine aw_getR (n := 67) (RX11, TX11, 52) 11 6 dX11_order_64 rfl ht (by decide) fd_RX11_33 ?_
      refine aw_bipush (n := 69) 11 dX11_order_67 rfl (by decide) ?_
      refine aw_iload_n (n := 70) dX11_order_69 rfl rfl ?_
      refine aw_iadd (n := 71) dX11_order_70 rfl ?_
      refine aw_iaload (n := 72) 1155 dX11_order_71 rfl (sf_11_6 ht) ?_
      refine aw_aload_n (n := 73) dX11_order_72 rfl rfl ?_
      refine aw_getR (n := 76) (RX11, TX11, 52) 11 6 dX11_order_73 rfl ht (by decide) fd_RX11_33 ?_
      refine aw_bipush (n := 78) 67 dX11_order_76 rfl (by decide) ?_
      refine aw_iload_n (n := 79) dX11_order_78 rfl rfl ?_
      refine aw_iadd (n := 80) dX11_order_79 rfl ?_
      refine aw_iaload (n := 81) 1155 dX11_order_80 rfl (sf_11_6 ht) ?_
      refine aw_callSi (n := 84) (as := [.int (μ.1 (aw_rf t 6) (11 + x2).toNatClampNeg), .int (μ.1 (aw_rf t 6) (67 + x3).toNatClampNeg)]) (st := [.int (μ.1 (aw_rf t 34) x2.toNatClampNeg), .int x2, .ref (aw_rf t 34)]) dX11_order_81 rfl rfl (m_X11_apart l F (μ.1 (aw_rf t 6) (11 + x2).toNatClampNeg) (μ.1 (aw_rf t 6) (67 + x3).toNatClampNeg) μ) cw_RX11_278 ⟨Nat.le_of_ble_eq_true rfl, Nat.le_of_ble_eq_true rfl⟩ (fun _ => Nat.le_of_ble_eq_true rfl) (fun r32 => ?_)
      refine aw_iconst (n := 85) 3 dX11_order_84 rfl (by decide) ?_
      refine aw_icmp_gt (n := 88) 94 dX11_order_85 (by decide) rfl ?_ ?_
      · refine aw_iconst (n := 95) 0 dX11_order_94 rfl (by decide) ?_
        exact aw_weak (c_X11_order_95 l F t ht k26 hk26 k41 hk41 x1 x2 x3 0 (μ.1 (aw_rf t 34) x2.toNatClampNeg) x2 r32.2) (aw_ss (aw_ss (aw_ss (aw_ss (aw_sn (aw_sn aw_s0))))))
      · refine aw_iconst (n := 89) 1 dX11_order_88 rfl (by decide) ?_
        refine aw_iload_n (n := 90) dX11_order_89 rfl rfl ?_
        refine aw_ishl (n := 91) dX11_order_90 rfl ?_
        refine aw_goto 95 dX11_order_91 (by decide) ?_
        exact aw_weak (c_X11_order_95 l F t ht k26 hk26 k41 hk41 x1 x2 x3 (1 <<< (x3 &&& 31)) (μ.1 (aw_rf t 34) x2.toNatClampNeg) x2 r32.2) (aw_ss (aw_ss (aw_ss (aw_ss (aw_sn (aw_sn aw_s0))))))
def f_X11_order_26 (F : Nat) (t : Nat) (k26 : Int32 × Int32 × aw_M → Option (Int32 × aw_M)) (x1 : Int32) (x2 : Int32) (μ : aw_M) : Option (Int32 × aw_M) :=
  (if 9 ≤ x2 then
  f_X11_order_109 F t x1 μ
  else
  aw_g (aw_in x2 9) (aw_let (aw_wI μ (aw_rf t 34) x2.toNatClampNeg 0) fun μ31 =>
  aw_loop (fun k s => f_X11_order_41 F t k k26 s.1 s.2.1 s.2.2.1 s.2.2.2) F (x1, x2, 0, μ31)))
theorem c_X11_order_26 (l : Launch) (F : Nat) (t : Nat) (ht : (aw_sh t).1 = 16) : ∀ (N : Nat) (s : Int32 × Int32 × aw_M), AW l k_X11_order aw_gi 26 [some (.ref t), some (.int s.1), some (.int s.2.1), none, none, none] [] s.2.2 (aw_loop (fun k s => f_X11_order_26 F t k s.1 s.2.1 s.2.2) N s) := by
  refine aw_loop_ok (f := fun k s => f_X11_order_26 F t k s.1 s.2.1 s.2.2) (Ls := fun s => [some (.ref t), some (.int s.1), some (.int s.2.1), none, none, none]) (ms := fun s => s.2.2) ?_
  intro k26 hk26 s
  obtain ⟨x1, x2, μ⟩ := s
  show AW l k_X11_order aw_gi 26 [some (.ref t), some (.int x1), some (.int x2), none, none, none] [] μ (f_X11_order_26 F t k26 x1 x2 μ)
  unfold f_X11_order_26
  refine aw_iload_n (n := 27) dX11_order_26 rfl rfl ?_
  refine aw_bipush (n := 29) 9 dX11_order_27 rfl (by decide) ?_
  refine aw_icmp_ge (n := 32) 109 dX11_order_29 (by decide) rfl ?_ ?_
  · exact aw_weak (c_X11_order_109 l F t ht x1 μ) (aw_ss (aw_ss (aw_sn (aw_sn (aw_sn (aw_sn aw_s0))))))
  · refine aw_aload_n (n := 33) dX11_order_32 rfl rfl ?_
    refine aw_getR (n := 36) (RX11, TX11, 52) 11 34 dX11_order_33 rfl ht (by decide) fd_RX11_80 ?_
    refine aw_iload_n (n := 37) dX11_order_36 rfl rfl ?_
    refine aw_iconst (n := 38) 0 dX11_order_37 rfl (by decide) ?_
    refine aw_iastore (n := 39) 9 dX11_order_38 rfl (sf_11_34 ht) (fun μ31 => ?_)
    refine aw_iconst (n := 40) 0 dX11_order_39 rfl (by decide) ?_
    refine aw_istore_n (n := 41) [some (.ref t), some (.int x1), some (.int x2), some (.int 0), none, none] dX11_order_40 rfl rfl (Nat.le_of_ble_eq_true rfl) (Nat.le_of_ble_eq_true rfl) rfl ?_
    exact aw_weak (c_X11_order_41 l F t ht k26 hk26 F (x1, x2, 0, μ31)) (aw_ss (aw_ss (aw_ss (aw_ss (aw_sn (aw_sn aw_s0))))))
def f_X11_order (F : Nat) (t : Nat) (μ : aw_M) : Option (Int32 × aw_M) :=
  aw_let (aw_wI μ t 0 0) fun μ23 =>
  aw_g (aw_in 3 1155) (aw_let ((μ23.1 (aw_rf t 6) (3 : Int32).toNatClampNeg)) fun v24 =>
  (f_X11_isIn F v24 1 8 μ23).bind fun r25 =>
  (if r25.1 = true then
  aw_loop (fun k s => f_X11_order_26 F t k s.1 s.2.1 s.2.2) F (v24, 0, r25.2)
  else
  some ((-1), r25.2)))
theorem m_X11_order (l : Launch) (F : Nat) (t : Nat) (ht : (aw_sh t).1 = 16) (μ : aw_M) : AM l yX11_order cX11_order 6 (some .int) 3 166 aw_gi [.ref t] μ (f_X11_order F t μ) := by
  refine aw_met [some (.ref t), none, none, none, none, none] (by decide) (fun _ => rfl) (fun _ => Nat.le_of_ble_eq_true rfl) ?_
  show AW l k_X11_order aw_gi 0 [some (.ref t), none, none, none, none, none] [] μ _
  unfold f_X11_order
  refine aw_aload_n (n := 1) dX11_order_0 rfl rfl ?_
  refine aw_iconst (n := 2) 0 dX11_order_1 rfl (by decide) ?_
  refine aw_putI (n := 5) (RX11, TX11, 52) 11 0 dX11_order_2 rfl ht (by decide) fp_RX11_1 (fun μ23 => ?_)
  refine aw_aload_n (n := 6) dX11_order_5 rfl rfl ?_
  refine aw_getR (n := 9) (RX11, TX11, 52) 11 6 dX11_order_6 rfl ht (by decide) fd_RX11_33 ?_
  refine aw_iconst (n := 10) 3 dX11_order_9 rfl (by decide) ?_
  refine aw_iaload (n := 11) 1155 dX11_order_10 rfl (sf_11_6 ht) ?_
  refine aw_nmI (fun v24 => ?_)
  refine aw_istore_n (n := 12) [some (.ref t), some (.int v24), none, none, none, none] dX11_order_11 rfl rfl (Nat.le_of_ble_eq_true rfl) (Nat.le_of_ble_eq_true rfl) rfl ?_
  refine aw_iload_n (n := 13) dX11_order_12 rfl rfl ?_
  refine aw_iconst (n := 14) 1 dX11_order_13 rfl (by decide) ?_
  refine aw_bipush (n := 16) 8 dX11_order_14 rfl (by decide) ?_
  refine aw_callSz (n := 19) (as := [.int v24, .int 1, .int 8]) (st := []) dX11_order_16 rfl rfl (m_X11_isIn l F v24 1 8 μ23) cw_RX11_194 ⟨Nat.le_of_ble_eq_true rfl, Nat.le_of_ble_eq_true rfl⟩ (fun _ => Nat.le_of_ble_eq_true rfl) (fun r25 => ?_)
  refine aw_ifb_ne (n := 22) 24 dX11_order_19 (by decide) rfl ?_ ?_
  · refine aw_iconst (n := 25) 0 dX11_order_24 rfl (by decide) ?_
    refine aw_istore_n (n := 26) [some (.ref t), some (.int v24), some (.int 0), none, none, none] dX11_order_25 rfl rfl (Nat.le_of_ble_eq_true rfl) (Nat.le_of_ble_eq_true rfl) rfl ?_
    exact aw_weak (c_X11_order_26 l F t ht F (v24, 0, r25.2)) (aw_ss (aw_ss (aw_ss (aw_sn (aw_sn (aw_sn aw_s0))))))
  · refine aw_iconst (n := 23) (-1) dX11_order_22 rfl (by decide) ?_
    exact aw_ireturn dX11_order_23 rfl rfl
abbrev k_X11_comes : aw_K := (RX11, cX11_comes, 2, (some .int), 2, 142)
def f_X11_comes (F : Nat) (t : Nat) (a0 : Int32) (μ : aw_M) : Option (Int32 × aw_M) :=
  aw_let (aw_wI μ t 0 0) fun μ1 =>
  (f_X11_isIn F a0 0 ((μ1.1 t 35) - 1) μ1).bind fun r2 =>
  (if r2.1 = true then
  aw_g (aw_in a0 8) (some ((r2.2.1 (aw_rf t 33) a0.toNatClampNeg), r2.2))
  else
  some ((-1), r2.2))
theorem m_X11_comes (l : Launch) (F : Nat) (t : Nat) (ht : (aw_sh t).1 = 16) (a0 : Int32) (μ : aw_M) : AM l yX11_comes cX11_comes 2 (some .int) 2 142 aw_gi [.ref t, .int a0] μ (f_X11_comes F t a0 μ) := by
  refine aw_met [some (.ref t), some (.int a0)] (by decide) (fun _ => rfl) (fun _ => Nat.le_of_ble_eq_true rfl) ?_
  show AW l k_X11_comes aw_gi 0 [some (.ref t), some (.int a0)] [] μ _
  unfold f_X11_comes
  refine aw_aload_n (n := 1) dX11_comes_0 rfl rfl ?_
  refine aw_iconst (n := 2) 0 dX11_comes_1 rfl (by decide) ?_
  refine aw_putI (n := 5) (RX11, TX11, 52) 11 0 dX11_comes_2 rfl ht (by decide) fp_RX11_1 (fun μ1 => ?_)
  refine aw_iload_n (n := 6) dX11_comes_5 rfl rfl ?_
  refine aw_iconst (n := 7) 0 dX11_comes_6 rfl (by decide) ?_
  refine aw_aload_n (n := 8) dX11_comes_7 rfl rfl ?_
  refine aw_getI (n := 11) (RX11, TX11, 52) 11 35 dX11_comes_8 rfl ht (by decide) fd_RX11_364 ?_
  refine aw_iconst (n := 12) 1 dX11_comes_11 rfl (by decide) ?_
  refine aw_isub (n := 13) dX11_comes_12 rfl ?_
  refine aw_callSz (n := 16) (as := [.int a0, .int 0, .int ((μ1.1 t 35) - 1)]) (st := []) dX11_comes_13 rfl rfl (m_X11_isIn l F a0 0 ((μ1.1 t 35) - 1) μ1) cw_RX11_194 ⟨Nat.le_of_ble_eq_true rfl, Nat.le_of_ble_eq_true rfl⟩ (fun _ => Nat.le_of_ble_eq_true rfl) (fun r2 => ?_)
  refine aw_ifb_eq (n := 19) 28 dX11_comes_16 (by decide) rfl ?_ ?_
  · refine aw_iconst (n := 29) (-1) dX11_comes_28 rfl (by decide) ?_
    exact aw_ireturn dX11_comes_29 rfl rfl
  · refine aw_aload_n (n := 20) dX11_comes_19 rfl rfl ?_
    refine aw_getR (n := 23) (RX11, TX11, 52) 11 33 dX11_comes_20 rfl ht (by decide) fd_RX11_77 ?_
    refine aw_iload_n (n := 24) dX11_comes_23 rfl rfl ?_
    refine aw_iaload (n := 25) 8 dX11_comes_24 rfl (sf_11_33 ht) ?_
    refine aw_goto 29 dX11_comes_25 (by decide) ?_
    exact aw_ireturn dX11_comes_29 rfl rfl
abbrev k_X11_dries : aw_K := (RX11, cX11_dries, 4, (some .int), 3, 161)
def f_X11_dries_39 (F : Nat) (t : Nat) (k4 : Int32 × Int32 × Int32 × aw_M → Option (Int32 × aw_M)) (x1 : Int32) (x3 : Int32) (z0 : Int32) (z1 : Int32) (μ : aw_M) : Option (Int32 × aw_M) :=
  aw_let ((z1 ||| z0)) fun v6 =>
  k4 (x1, v6, (x3 + 1), μ)
theorem c_X11_dries_39 (l : Launch) (F : Nat) (t : Nat) (ht : (aw_sh t).1 = 16) (k4 : Int32 × Int32 × Int32 × aw_M → Option (Int32 × aw_M)) (hk4 : ∀ s : Int32 × Int32 × Int32 × aw_M, AW l k_X11_dries aw_gi 4 [some (.ref t), some (.int s.1), some (.int s.2.1), some (.int s.2.2.1)] [] s.2.2.2 (k4 s)) (x1 : Int32) (x3 : Int32) (z0 : Int32) (z1 : Int32) (μ : aw_M) : AW l k_X11_dries aw_gi 39 [some (.ref t), some (.int x1), none, some (.int x3)] [.int z0, .int z1] μ (f_X11_dries_39 F t k4 x1 x3 z0 z1 μ) := by
  unfold f_X11_dries_39
  refine aw_ior (n := 40) dX11_dries_39 rfl ?_
  refine aw_nmI (fun v6 => ?_)
  refine aw_istore_n (n := 41) [some (.ref t), some (.int x1), some (.int v6), some (.int x3)] dX11_dries_40 rfl rfl (Nat.le_of_ble_eq_true rfl) (Nat.le_of_ble_eq_true rfl) rfl ?_
  refine aw_iinc (n := 44) (x3 + 1) [some (.ref t), some (.int x1), some (.int v6), some (.int (x3 + 1))] dX11_dries_41 rfl rfl (by rfl) rfl (Nat.le_of_ble_eq_true rfl) rfl ?_
  refine aw_goto 4 dX11_dries_44 (by decide) ?_
  exact aw_weak (hk4 (x1, v6, (x3 + 1), μ)) (aw_ss (aw_ss (aw_ss (aw_ss aw_s0))))
def f_X11_dries_4 (F : Nat) (t : Nat) (k4 : Int32 × Int32 × Int32 × aw_M → Option (Int32 × aw_M)) (x1 : Int32) (x2 : Int32) (x3 : Int32) (μ : aw_M) : Option (Int32 × aw_M) :=
  aw_g (aw_in 2 1155) ((if (μ.1 (aw_rf t 6) (2 : Int32).toNatClampNeg) ≤ x3 then
  some (x2, μ)
  else
  aw_g (aw_in (11 + x3) 1155) ((f_X11_apart F (μ.1 (aw_rf t 6) (11 + x3).toNatClampNeg) x1 μ).bind fun r5 =>
  (if 1 < r5.1 then
  f_X11_dries_39 F t k4 x1 x3 0 x2 r5.2
  else
  f_X11_dries_39 F t k4 x1 x3 (1 <<< (x3 &&& 31)) x2 r5.2))))
theorem c_X11_dries_4 (l : Launch) (F : Nat) (t : Nat) (ht : (aw_sh t).1 = 16) : ∀ (N : Nat) (s : Int32 × Int32 × Int32 × aw_M), AW l k_X11_dries aw_gi 4 [some (.ref t), some (.int s.1), some (.int s.2.1), some (.int s.2.2.1)] [] s.2.2.2 (aw_loop (fun k s => f_X11_dries_4 F t k s.1 s.2.1 s.2.2.1 s.2.2.2) N s) := by
  refine aw_loop_ok (f := fun k s => f_X11_dries_4 F t k s.1 s.2.1 s.2.2.1 s.2.2.2) (Ls := fun s => [some (.ref t), some (.int s.1), some (.int s.2.1), some (.int s.2.2.1)]) (ms := fun s => s.2.2.2) ?_
  intro k4 hk4 s
  obtain ⟨x1, x2, x3, μ⟩ := s
  show AW l k_X11_dries aw_gi 4 [some (.ref t), some (.int x1), some (.int x2), some (.int x3)] [] μ (f_X11_dries_4 F t k4 x1 x2 x3 μ)
  unfold f_X11_dries_4
  refine aw_iload_n (n := 5) dX11_dries_4 rfl rfl ?_
  refine aw_aload_n (n := 6) dX11_dries_5 rfl rfl ?_
  refine aw_getR (n := 9) (RX11, TX11, 52) 11 6 dX11_dries_6 rfl ht (by decide) fd_RX11_33 ?_
  refine aw_iconst (n := 10) 2 dX11_dries_9 rfl (by decide) ?_
  refine aw_iaload (n := 11) 1155 dX11_dries_10 rfl (sf_11_6 ht) ?_
  refine aw_icmp_ge (n := 14) 47 dX11_dries_11 (by decide) rfl ?_ ?_
  · refine aw_iload_n (n := 48) dX11_dries_47 rfl rfl ?_
    exact aw_ireturn dX11_dries_48 rfl rfl
  · refine aw_iload_n (n := 15) dX11_dries_14 rfl rfl ?_
    refine aw_aload_n (n := 16) dX11_dries_15 rfl rfl ?_
    refine aw_getR (n := 19) (RX11, TX11, 52) 11 6 dX11_dries_16 rfl ht (by decide) fd_RX11_33 ?_
    refine aw_bipush (n := 21) 11 dX11_dries_19 rfl (by decide) ?_
    refine aw_iload_n (n := 22) dX11_dries_21 rfl rfl ?_
    refine aw_iadd (n := 23) dX11_dries_22 rfl ?_
    refine aw_iaload (n := 24) 1155 dX11_dries_23 rfl (sf_11_6 ht) ?_
    refine aw_iload_n (n := 25) dX11_dries_24 rfl rfl ?_
    refine aw_callSi (n := 28) (as := [.int (μ.1 (aw_rf t 6) (11 + x3).toNatClampNeg), .int x1]) (st := [.int x2]) dX11_dries_25 rfl rfl (m_X11_apart l F (μ.1 (aw_rf t 6) (11 + x3).toNatClampNeg) x1 μ) cw_RX11_278 ⟨Nat.le_of_ble_eq_true rfl, Nat.le_of_ble_eq_true rfl⟩ (fun _ => Nat.le_of_ble_eq_true rfl) (fun r5 => ?_)
    refine aw_iconst (n := 29) 1 dX11_dries_28 rfl (by decide) ?_
    refine aw_icmp_gt (n := 32) 38 dX11_dries_29 (by decide) rfl ?_ ?_
    · refine aw_iconst (n := 39) 0 dX11_dries_38 rfl (by decide) ?_
      exact aw_weak (c_X11_dries_39 l F t ht k4 hk4 x1 x3 0 x2 r5.2) (aw_ss (aw_ss (aw_sn (aw_ss aw_s0))))
    · refine aw_iconst (n := 33) 1 dX11_dries_32 rfl (by decide) ?_
      refine aw_iload_n (n := 34) dX11_dries_33 rfl rfl ?_
      refine aw_ishl (n := 35) dX11_dries_34 rfl ?_
      refine aw_goto 39 dX11_dries_35 (by decide) ?_
      exact aw_weak (c_X11_dries_39 l F t ht k4 hk4 x1 x3 (1 <<< (x3 &&& 31)) x2 r5.2) (aw_ss (aw_ss (aw_sn (aw_ss aw_s0))))
def f_X11_dries (F : Nat) (t : Nat) (a0 : Int32) (μ : aw_M) : Option (Int32 × aw_M) :=
  aw_loop (fun k s => f_X11_dries_4 F t k s.1 s.2.1 s.2.2.1 s.2.2.2) F (a0, 0, 0, μ)
theorem m_X11_dries (l : Launch) (F : Nat) (t : Nat) (ht : (aw_sh t).1 = 16) (a0 : Int32) (μ : aw_M) : AM l yX11_dries cX11_dries 4 (some .int) 3 161 aw_gi [.ref t, .int a0] μ (f_X11_dries F t a0 μ) := by
  refine aw_met [some (.ref t), some (.int a0), none, none] (by decide) (fun _ => rfl) (fun _ => Nat.le_of_ble_eq_true rfl) ?_
  show AW l k_X11_dries aw_gi 0 [some (.ref t), some (.int a0), none, none] [] μ _
  unfold f_X11_dries
  refine aw_iconst (n := 1) 0 dX11_dries_0 rfl (by decide) ?_
  refine aw_istore_n (n := 2) [some (.ref t), some (.int a0), some (.int 0), none] dX11_dries_1 rfl rfl (Nat.le_of_ble_eq_true rfl) (Nat.le_of_ble_eq_true rfl) rfl ?_
  refine aw_iconst (n := 3) 0 dX11_dries_2 rfl (by decide) ?_
  refine aw_istore_n (n := 4) [some (.ref t), some (.int a0), some (.int 0), some (.int 0)] dX11_dries_3 rfl rfl (Nat.le_of_ble_eq_true rfl) (Nat.le_of_ble_eq_true rfl) rfl ?_
  exact aw_weak (c_X11_dries_4 l F t ht F (a0, 0, 0, μ)) (aw_ss (aw_ss (aw_ss (aw_ss aw_s0))))
abbrev k_X11_slippery : aw_K := (RX11, cX11_slippery, 7, (some .int), 4, 184)
def f_X11_slippery_358 (F : Nat) (t : Nat) (k264 : Int32 × Int32 × aw_M → Option (Int32 × aw_M)) (x2 : Int32) (x3 : Int32) (μ : aw_M) : Option (Int32 × aw_M) :=
  k264 (x2, (x3 + 1), μ)
theorem c_X11_slippery_358 (l : Launch) (F : Nat) (t : Nat) (ht : (aw_sh t).1 = 16) (k264 : Int32 × Int32 × aw_M → Option (Int32 × aw_M)) (hk264 : ∀ s : Int32 × Int32 × aw_M, AW l k_X11_slippery aw_gi 264 [some (.ref t), none, some (.int s.1), some (.int s.2.1), none, none, none] [] s.2.2 (k264 s)) (x2 : Int32) (x3 : Int32) (μ : aw_M) : AW l k_X11_slippery aw_gi 358 [some (.ref t), none, some (.int x2), some (.int x3), none, none, none] [] μ (f_X11_slippery_358 F t k264 x2 x3 μ) := by
  unfold f_X11_slippery_358
  refine aw_iinc (n := 361) (x3 + 1) [some (.ref t), none, some (.int x2), some (.int (x3 + 1)), none, none, none] dX11_slippery_358 rfl rfl (by rfl) rfl (Nat.le_of_ble_eq_true rfl) rfl ?_
  refine aw_goto 264 dX11_slippery_361 (by decide) ?_
  exact aw_weak (hk264 (x2, (x3 + 1), μ)) (aw_ss (aw_sn (aw_ss (aw_ss (aw_sn (aw_sn (aw_sn aw_s0)))))))
def f_X11_slippery_285 (F : Nat) (t : Nat) (k264 : Int32 × Int32 × aw_M → Option (Int32 × aw_M)) (x2 : Int32) (x3 : Int32) (z0 : Int32) (μ : aw_M) : Option (Int32 × aw_M) :=
  (if z0 = 0 then
  f_X11_slippery_358 F t k264 x2 x3 μ
  else
  aw_g (aw_in ((512 * (x3 + 1)) + (x2 &&& (z0 ^^^ (-1)))) 51712) (aw_g (aw_in ((512 * x3) + x2) 51712) ((if (1 + (μ.1 (aw_rf t 36) ((512 * (x3 + 1)) + (x2 &&& (z0 ^^^ (-1)))).toNatClampNeg)) = (μ.1 (aw_rf t 36) ((512 * x3) + x2).toNatClampNeg) then
  aw_g (aw_in (μ.1 t 38) 9) (aw_let (aw_wI μ (aw_rf t 37) (μ.1 t 38).toNatClampNeg x3) fun μ34 =>
  aw_let (aw_wI μ34 t 38 ((μ34.1 t 38) + 1)) fun μ35 =>
  aw_let ((x2 &&& (z0 ^^^ (-1)))) fun v36 =>
  f_X11_slippery_358 F t k264 v36 x3 μ35)
  else
  f_X11_slippery_358 F t k264 x2 x3 μ))))
theorem c_X11_slippery_285 (l : Launch) (F : Nat) (t : Nat) (ht : (aw_sh t).1 = 16) (k264 : Int32 × Int32 × aw_M → Option (Int32 × aw_M)) (hk264 : ∀ s : Int32 × Int32 × aw_M, AW l k_X11_slippery aw_gi 264 [some (.ref t), none, some (.int s.1), some (.int s.2.1), none, none, none] [] s.2.2 (k264 s)) (x2 : Int32) (x3 : Int32) (z0 : Int32) (μ : aw_M) : AW l k_X11_slippery aw_gi 285 [some (.ref t), none, some (.int x2), some (.int x3), none, none, none] [.int z0] μ (f_X11_slippery_285 F t k264 x2 x3 z0 μ) := by
  unfold f_X11_slippery_285
  refine aw_istore (n := 287) [some (.ref t), none, some (.int x2), some (.int x3), some (.int z0), none, none] dX11_slippery_285 rfl rfl (Nat.le_of_ble_eq_true rfl) (Nat.le_of_ble_eq_true rfl) rfl ?_
  refine aw_iload (n := 289) dX11_slippery_287 rfl rfl ?_
  refine aw_if_eq (n := 292) 358 dX11_slippery_289 (by decide) rfl ?_ ?_
  · exact aw_weak (c_X11_slippery_358 l F t ht k264 hk264 x2 x3 μ) (aw_ss (aw_sn (aw_ss (aw_ss (aw_sn (aw_sn (aw_sn aw_s0)))))))
  · refine aw_iconst (n := 293) 1 dX11_slippery_292 rfl (by decide) ?_
    refine aw_aload_n (n := 294) dX11_slippery_293 rfl rfl ?_
    refine aw_getR (n := 297) (RX11, TX11, 52) 11 36 dX11_slippery_294 rfl ht (by decide) fd_RX11_84 ?_
    refine aw_sipush (n := 300) 512 dX11_slippery_297 rfl (by decide) ?_
    refine aw_iload_n (n := 301) dX11_slippery_300 rfl rfl ?_
    refine aw_iconst (n := 302) 1 dX11_slippery_301 rfl (by decide) ?_
    refine aw_iadd (n := 303) dX11_slippery_302 rfl ?_
    refine aw_imul (n := 304) dX11_slippery_303 rfl ?_
    refine aw_iload_n (n := 305) dX11_slippery_304 rfl rfl ?_
    refine aw_iload (n := 307) dX11_slippery_305 rfl rfl ?_
    refine aw_iconst (n := 308) (-1) dX11_slippery_307 rfl (by decide) ?_
    refine aw_ixor (n := 309) dX11_slippery_308 rfl ?_
    refine aw_iand (n := 310) dX11_slippery_309 rfl ?_
    refine aw_iadd (n := 311) dX11_slippery_310 rfl ?_
    refine aw_iaload (n := 312) 51712 dX11_slippery_311 rfl (sf_11_36 ht) ?_
    refine aw_iadd (n := 313) dX11_slippery_312 rfl ?_
    refine aw_aload_n (n := 314) dX11_slippery_313 rfl rfl ?_
    refine aw_getR (n := 317) (RX11, TX11, 52) 11 36 dX11_slippery_314 rfl ht (by decide) fd_RX11_84 ?_
    refine aw_sipush (n := 320) 512 dX11_slippery_317 rfl (by decide) ?_
    refine aw_iload_n (n := 321) dX11_slippery_320 rfl rfl ?_
    refine aw_imul (n := 322) dX11_slippery_321 rfl ?_
    refine aw_iload_n (n := 323) dX11_slippery_322 rfl rfl ?_
    refine aw_iadd (n := 324) dX11_slippery_323 rfl ?_
    refine aw_iaload (n := 325) 51712 dX11_slippery_324 rfl (sf_11_36 ht) ?_
    refine aw_icmp_eq (n := 328) 331 dX11_slippery_325 (by decide) rfl ?_ ?_
    · refine aw_aload_n (n := 332) dX11_slippery_331 rfl rfl ?_
      refine aw_getR (n := 335) (RX11, TX11, 52) 11 37 dX11_slippery_332 rfl ht (by decide) fd_RX11_87 ?_
      refine aw_aload_n (n := 336) dX11_slippery_335 rfl rfl ?_
      refine aw_getI (n := 339) (RX11, TX11, 52) 11 38 dX11_slippery_336 rfl ht (by decide) fd_RX11_371 ?_
      refine aw_iload_n (n := 340) dX11_slippery_339 rfl rfl ?_
      refine aw_iastore (n := 341) 9 dX11_slippery_340 rfl (sf_11_37 ht) (fun μ34 => ?_)
      refine aw_aload_n (n := 342) dX11_slippery_341 rfl rfl ?_
      refine aw_dup (n := 343) dX11_slippery_342 rfl (fun _ => rfl) ?_
      refine aw_getI (n := 346) (RX11, TX11, 52) 11 38 dX11_slippery_343 rfl ht (by decide) fd_RX11_371 ?_
      refine aw_iconst (n := 347) 1 dX11_slippery_346 rfl (by decide) ?_
      refine aw_iadd (n := 348) dX11_slippery_347 rfl ?_
      refine aw_putI (n := 351) (RX11, TX11, 52) 11 38 dX11_slippery_348 rfl ht (by decide) fp_RX11_371 (fun μ35 => ?_)
      refine aw_iload_n (n := 352) dX11_slippery_351 rfl rfl ?_
      refine aw_iload (n := 354) dX11_slippery_352 rfl rfl ?_
      refine aw_iconst (n := 355) (-1) dX11_slippery_354 rfl (by decide) ?_
      refine aw_ixor (n := 356) dX11_slippery_355 rfl ?_
      refine aw_iand (n := 357) dX11_slippery_356 rfl ?_
      refine aw_nmI (fun v36 => ?_)
      refine aw_istore_n (n := 358) [some (.ref t), none, some (.int v36), some (.int x3), some (.int z0), none, none] dX11_slippery_357 rfl rfl (Nat.le_of_ble_eq_true rfl) (Nat.le_of_ble_eq_true rfl) rfl ?_
      exact aw_weak (c_X11_slippery_358 l F t ht k264 hk264 v36 x3 μ35) (aw_ss (aw_sn (aw_ss (aw_ss (aw_sn (aw_sn (aw_sn aw_s0)))))))
    · refine aw_goto 358 dX11_slippery_328 (by decide) ?_
      exact aw_weak (c_X11_slippery_358 l F t ht k264 hk264 x2 x3 μ) (aw_ss (aw_sn (aw_ss (aw_ss (aw_sn (aw_sn (aw_sn aw_s0)))))))
def f_X11_slippery_264 (F : Nat) (t : Nat) (k264 : Int32 × Int32 × aw_M → Option (Int32 × aw_M)) (x2 : Int32) (x3 : Int32) (μ : aw_M) : Option (Int32 × aw_M) :=
  (if x2 = 0 then
  some ((μ.1 t 38), μ)
  else
  (f_X11_isCell F t x3 μ).bind fun r33 =>
  (if r33.1 = true then
  (f_X11_dries F t x3 r33.2).bind fun r37 =>
  f_X11_slippery_285 F t k264 x2 x3 r37.1 r37.2
  else
  f_X11_slippery_285 F t k264 x2 x3 0 r33.2))
theorem c_X11_slippery_264 (l : Launch) (F : Nat) (t : Nat) (ht : (aw_sh t).1 = 16) : ∀ (N : Nat) (s : Int32 × Int32 × aw_M), AW l k_X11_slippery aw_gi 264 [some (.ref t), none, some (.int s.1), some (.int s.2.1), none, none, none] [] s.2.2 (aw_loop (fun k s => f_X11_slippery_264 F t k s.1 s.2.1 s.2.2) N s) := by
  refine aw_loop_ok (f := fun k s => f_X11_slippery_264 F t k s.1 s.2.1 s.2.2) (Ls := fun s => [some (.ref t), none, some (.int s.1), some (.int s.2.1), none, none, none]) (ms := fun s => s.2.2) ?_
  intro k264 hk264 s
  obtain ⟨x2, x3, μ⟩ := s
  show AW l k_X11_slippery aw_gi 264 [some (.ref t), none, some (.int x2), some (.int x3), none, none, none] [] μ (f_X11_slippery_264 F t k264 x2 x3 μ)
  unfold f_X11_slippery_264
  refine aw_iload_n (n := 265) dX11_slippery_264 rfl rfl ?_
  refine aw_if_eq (n := 268) 364 dX11_slippery_265 (by decide) rfl ?_ ?_
  · refine aw_aload_n (n := 365) dX11_slippery_364 rfl rfl ?_
    refine aw_getI (n := 368) (RX11, TX11, 52) 11 38 dX11_slippery_365 rfl ht (by decide) fd_RX11_371 ?_
    exact aw_ireturn dX11_slippery_368 rfl rfl
  · refine aw_aload_n (n := 269) dX11_slippery_268 rfl rfl ?_
    refine aw_iload_n (n := 270) dX11_slippery_269 rfl rfl ?_
    refine aw_callVz (n := 273) (as := [.int x3]) (st := []) (RX11, TX11, 52) 11 dX11_slippery_270 rfl rfl (m_X11_isCell l F t ht x3 μ) ht (by decide) rfl rfl cw_RX11_271 ⟨Nat.le_of_ble_eq_true rfl, Nat.le_of_ble_eq_true rfl⟩ (fun _ => Nat.le_of_ble_eq_true rfl) (fun r33 => ?_)
    refine aw_ifb_eq (n := 276) 284 dX11_slippery_273 (by decide) rfl ?_ ?_
    · refine aw_iconst (n := 285) 0 dX11_slippery_284 rfl (by decide) ?_
      exact aw_weak (c_X11_slippery_285 l F t ht k264 hk264 x2 x3 0 r33.2) (aw_ss (aw_sn (aw_ss (aw_ss (aw_sn (aw_sn (aw_sn aw_s0)))))))
    · refine aw_aload_n (n := 277) dX11_slippery_276 rfl rfl ?_
      refine aw_iload_n (n := 278) dX11_slippery_277 rfl rfl ?_
      refine aw_callVi (n := 281) (as := [.int x3]) (st := []) (RX11, TX11, 52) 11 dX11_slippery_278 rfl rfl (m_X11_dries l F t ht x3 r33.2) ht (by decide) rfl rfl cw_RX11_367 ⟨Nat.le_of_ble_eq_true rfl, Nat.le_of_ble_eq_true rfl⟩ (fun _ => Nat.le_of_ble_eq_true rfl) (fun r37 => ?_)
      refine aw_goto 285 dX11_slippery_281 (by decide) ?_
      exact aw_weak (c_X11_slippery_285 l F t ht k264 hk264 x2 x3 r37.1 r37.2) (aw_ss (aw_sn (aw_ss (aw_ss (aw_sn (aw_sn (aw_sn aw_s0)))))))
def f_X11_slippery_255 (F : Nat) (t : Nat) (x1 : Int32) (μ : aw_M) : Option (Int32 × aw_M) :=
  aw_let (aw_wI μ t 38 0) fun μ32 =>
  aw_loop (fun k s => f_X11_slippery_264 F t k s.1 s.2.1 s.2.2) F (x1, 0, μ32)
theorem c_X11_slippery_255 (l : Launch) (F : Nat) (t : Nat) (ht : (aw_sh t).1 = 16) (x1 : Int32) (μ : aw_M) : AW l k_X11_slippery aw_gi 255 [some (.ref t), some (.int x1), none, none, none, none, none] [] μ (f_X11_slippery_255 F t x1 μ) := by
  unfold f_X11_slippery_255
  refine aw_aload_n (n := 256) dX11_slippery_255 rfl rfl ?_
  refine aw_iconst (n := 257) 0 dX11_slippery_256 rfl (by decide) ?_
  refine aw_putI (n := 260) (RX11, TX11, 52) 11 38 dX11_slippery_257 rfl ht (by decide) fp_RX11_371 (fun μ32 => ?_)
  refine aw_iload_n (n := 261) dX11_slippery_260 rfl rfl ?_
  refine aw_istore_n (n := 262) [some (.ref t), some (.int x1), some (.int x1), none, none, none, none] dX11_slippery_261 rfl rfl (Nat.le_of_ble_eq_true rfl) (Nat.le_of_ble_eq_true rfl) rfl ?_
  refine aw_iconst (n := 263) 0 dX11_slippery_262 rfl (by decide) ?_
  refine aw_istore_n (n := 264) [some (.ref t), some (.int x1), some (.int x1), some (.int 0), none, none, none] dX11_slippery_263 rfl rfl (Nat.le_of_ble_eq_true rfl) (Nat.le_of_ble_eq_true rfl) rfl ?_
  exact aw_weak (c_X11_slippery_264 l F t ht F (x1, 0, μ32)) (aw_ss (aw_sn (aw_ss (aw_ss (aw_sn (aw_sn (aw_sn aw_s0)))))))
def f_X11_slippery_249 (F : Nat) (t : Nat) (k134 : Int32 × Int32 × aw_M → Option (Int32 × aw_M)) (x1 : Int32) (x2 : Int32) (μ : aw_M) : Option (Int32 × aw_M) :=
  k134 (x1, (x2 + (-1)), μ)
theorem c_X11_slippery_249 (l : Launch) (F : Nat) (t : Nat) (ht : (aw_sh t).1 = 16) (k134 : Int32 × Int32 × aw_M → Option (Int32 × aw_M)) (hk134 : ∀ s : Int32 × Int32 × aw_M, AW l k_X11_slippery aw_gi 134 [some (.ref t), some (.int s.1), some (.int s.2.1), none, none, none, none] [] s.2.2 (k134 s)) (x1 : Int32) (x2 : Int32) (μ : aw_M) : AW l k_X11_slippery aw_gi 249 [some (.ref t), some (.int x1), some (.int x2), none, none, none, none] [] μ (f_X11_slippery_249 F t k134 x1 x2 μ) := by
  unfold f_X11_slippery_249
  refine aw_iinc (n := 252) (x2 + (-1)) [some (.ref t), some (.int x1), some (.int (x2 + (-1))), none, none, none, none] dX11_slippery_249 rfl rfl (by rfl) rfl (Nat.le_of_ble_eq_true rfl) rfl ?_
  refine aw_goto 134 dX11_slippery_252 (by decide) ?_
  exact aw_weak (hk134 (x1, (x2 + (-1)), μ)) (aw_ss (aw_ss (aw_ss (aw_sn (aw_sn (aw_sn (aw_sn aw_s0)))))))
def f_X11_slippery_242 (F : Nat) (t : Nat) (k134 : Int32 × Int32 × aw_M → Option (Int32 × aw_M)) (k159 : Int32 × Int32 × Int32 × Int32 × aw_M → Option (Int32 × aw_M)) (x1 : Int32) (x2 : Int32) (x3 : Int32) (x4 : Int32) (z0 : Int32) (z1 : Int32) (μ : aw_M) : Option (Int32 × aw_M) :=
  aw_g (aw_in z1 51712) (aw_let (aw_wI μ (aw_rf t 36) z1.toNatClampNeg z0) fun μ40 =>
  k159 (x1, x2, x3, (x4 + 1), μ40))
theorem c_X11_slippery_242 (l : Launch) (F : Nat) (t : Nat) (ht : (aw_sh t).1 = 16) (k134 : Int32 × Int32 × aw_M → Option (Int32 × aw_M)) (hk134 : ∀ s : Int32 × Int32 × aw_M, AW l k_X11_slippery aw_gi 134 [some (.ref t), some (.int s.1), some (.int s.2.1), none, none, none, none] [] s.2.2 (k134 s)) (k159 : Int32 × Int32 × Int32 × Int32 × aw_M → Option (Int32 × aw_M)) (hk159 : ∀ s : Int32 × Int32 × Int32 × Int32 × aw_M, AW l k_X11_slippery aw_gi 159 [some (.ref t), some (.int s.1), some (.int s.2.1), some (.int s.2.2.1), some (.int s.2.2.2.1), none, none] [] s.2.2.2.2 (k159 s)) (x1 : Int32) (x2 : Int32) (x3 : Int32) (x4 : Int32) (z0 : Int32) (z1 : Int32) (μ : aw_M) : AW l k_X11_slippery aw_gi 242 [some (.ref t), some (.int x1), some (.int x2), some (.int x3), some (.int x4), none, none] [.int z0, .int z1, .ref (aw_rf t 36)] μ (f_X11_slippery_242 F t k134 k159 x1 x2 x3 x4 z0 z1 μ) := by
  unfold f_X11_slippery_242
  refine aw_iastore (n := 243) 51712 dX11_slippery_242 rfl (sf_11_36 ht) (fun μ40 => ?_)
  refine aw_iinc (n := 246) (x4 + 1) [some (.ref t), some (.int x1), some (.int x2), some (.int x3), some (.int (x4 + 1)), none, none] dX11_slippery_243 rfl rfl (by rfl) rfl (Nat.le_of_ble_eq_true rfl) rfl ?_
  refine aw_goto 159 dX11_slippery_246 (by decide) ?_
  exact aw_weak (hk159 (x1, x2, x3, (x4 + 1), μ40)) (aw_ss (aw_ss (aw_ss (aw_ss (aw_ss (aw_sn (aw_sn aw_s0)))))))
def f_X11_slippery_214 (F : Nat) (t : Nat) (k134 : Int32 × Int32 × aw_M → Option (Int32 × aw_M)) (k159 : Int32 × Int32 × Int32 × Int32 × aw_M → Option (Int32 × aw_M)) (x1 : Int32) (x2 : Int32) (x3 : Int32) (x4 : Int32) (x5 : Int32) (z0 : Int32) (μ : aw_M) : Option (Int32 × aw_M) :=
  (if x5 ≤ z0 then
  f_X11_slippery_242 F t k134 k159 x1 x2 x3 x4 x5 ((512 * x2) + x4) μ
  else
  f_X11_slippery_242 F t k134 k159 x1 x2 x3 x4 z0 ((512 * x2) + x4) μ)
theorem c_X11_slippery_214 (l : Launch) (F : Nat) (t : Nat) (ht : (aw_sh t).1 = 16) (k134 : Int32 × Int32 × aw_M → Option (Int32 × aw_M)) (hk134 : ∀ s : Int32 × Int32 × aw_M, AW l k_X11_slippery aw_gi 134 [some (.ref t), some (.int s.1), some (.int s.2.1), none, none, none, none] [] s.2.2 (k134 s)) (k159 : Int32 × Int32 × Int32 × Int32 × aw_M → Option (Int32 × aw_M)) (hk159 : ∀ s : Int32 × Int32 × Int32 × Int32 × aw_M, AW l k_X11_slippery aw_gi 159 [some (.ref t), some (.int s.1), some (.int s.2.1), some (.int s.2.2.1), some (.int s.2.2.2.1), none, none] [] s.2.2.2.2 (k159 s)) (x1 : Int32) (x2 : Int32) (x3 : Int32) (x4 : Int32) (x5 : Int32) (z0 : Int32) (μ : aw_M) : AW l k_X11_slippery aw_gi 214 [some (.ref t), some (.int x1), some (.int x2), some (.int x3), some (.int x4), some (.int x5), none] [.int z0] μ (f_X11_slippery_214 F t k134 k159 x1 x2 x3 x4 x5 z0 μ) := by
  unfold f_X11_slippery_214
  refine aw_istore (n := 216) [some (.ref t), some (.int x1), some (.int x2), some (.int x3), some (.int x4), some (.int x5), some (.int z0)] dX11_slippery_214 rfl rfl (Nat.le_of_ble_eq_true rfl) (Nat.le_of_ble_eq_true rfl) rfl ?_
  refine aw_aload_n (n := 217) dX11_slippery_216 rfl rfl ?_
  refine aw_getR (n := 220) (RX11, TX11, 52) 11 36 dX11_slippery_217 rfl ht (by decide) fd_RX11_84 ?_
  refine aw_sipush (n := 223) 512 dX11_slippery_220 rfl (by decide) ?_
  refine aw_iload_n (n := 224) dX11_slippery_223 rfl rfl ?_
  refine aw_imul (n := 225) dX11_slippery_224 rfl ?_
  refine aw_iload (n := 227) dX11_slippery_225 rfl rfl ?_
  refine aw_iadd (n := 228) dX11_slippery_227 rfl ?_
  refine aw_iload (n := 230) dX11_slippery_228 rfl rfl ?_
  refine aw_iload (n := 232) dX11_slippery_230 rfl rfl ?_
  refine aw_icmp_ge (n := 235) 240 dX11_slippery_232 (by decide) rfl ?_ ?_
  · refine aw_iload (n := 242) dX11_slippery_240 rfl rfl ?_
    exact aw_weak (c_X11_slippery_242 l F t ht k134 hk134 k159 hk159 x1 x2 x3 x4 x5 ((512 * x2) + x4) μ) (aw_ss (aw_ss (aw_ss (aw_ss (aw_ss (aw_sn (aw_sn aw_s0)))))))
  · refine aw_iload (n := 237) dX11_slippery_235 rfl rfl ?_
    refine aw_goto 242 dX11_slippery_237 (by decide) ?_
    exact aw_weak (c_X11_slippery_242 l F t ht k134 hk134 k159 hk159 x1 x2 x3 x4 z0 ((512 * x2) + x4) μ) (aw_ss (aw_ss (aw_ss (aw_ss (aw_ss (aw_sn (aw_sn aw_s0)))))))
def f_X11_slippery_159 (F : Nat) (t : Nat) (k159 : Int32 × Int32 × Int32 × Int32 × aw_M → Option (Int32 × aw_M)) (k134 : Int32 × Int32 × aw_M → Option (Int32 × aw_M)) (x1 : Int32) (x2 : Int32) (x3 : Int32) (x4 : Int32) (μ : aw_M) : Option (Int32 × aw_M) :=
  (if 512 ≤ x4 then
  f_X11_slippery_249 F t k134 x1 x2 μ
  else
  aw_g (aw_in ((512 * (x2 + 1)) + x4) 51712) (aw_let ((μ.1 (aw_rf t 36) ((512 * (x2 + 1)) + x4).toNatClampNeg)) fun v39 =>
  (if x3 = 0 then
  f_X11_slippery_214 F t k134 k159 x1 x2 x3 x4 v39 100 μ
  else
  aw_g (aw_in ((512 * (x2 + 1)) + (x4 &&& (x3 ^^^ (-1)))) 51712) (f_X11_slippery_214 F t k134 k159 x1 x2 x3 x4 v39 (1 + (μ.1 (aw_rf t 36) ((512 * (x2 + 1)) + (x4 &&& (x3 ^^^ (-1)))).toNatClampNeg)) μ))))
theorem c_X11_slippery_159 (l : Launch) (F : Nat) (t : Nat) (ht : (aw_sh t).1 = 16) (k134 : Int32 × Int32 × aw_M → Option (Int32 × aw_M)) (hk134 : ∀ s : Int32 × Int32 × aw_M, AW l k_X11_slippery aw_gi 134 [some (.ref t), some (.int s.1), some (.int s.2.1), none, none, none, none] [] s.2.2 (k134 s)) : ∀ (N : Nat) (s : Int32 × Int32 × Int32 × Int32 × aw_M), AW l k_X11_slippery aw_gi 159 [some (.ref t), some (.int s.1), some (.int s.2.1), some (.int s.2.2.1), some (.int s.2.2.2.1), none, none] [] s.2.2.2.2 (aw_loop (fun k s => f_X11_slippery_159 F t k k134 s.1 s.2.1 s.2.2.1 s.2.2.2.1 s.2.2.2.2) N s) := by
  refine aw_loop_ok (f := fun k s => f_X11_slippery_159 F t k k134 s.1 s.2.1 s.2.2.1 s.2.2.2.1 s.2.2.2.2) (Ls := fun s => [some (.ref t), some (.int s.1), some (.int s.2.1), some (.int s.2.2.1), some (.int s.2.2.2.1), none, none]) (ms := fun s => s.2.2.2.2) ?_
  intro k159 hk159 s
  obtain ⟨x1, x2, x3, x4, μ⟩ := s
  show AW l k_X11_slippery aw_gi 159 [some (.ref t), some (.int x1), some (.int x2), some (.int x3), some (.int x4), none, none] [] μ (f_X11_slippery_159 F t k159 k134 x1 x2 x3 x4 μ)
  unfold f_X11_slippery_159
  refine aw_iload (n := 161) dX11_slippery_159 rfl rfl ?_
  refine aw_sipush (n := 164) 512 dX11_slippery_161 rfl (by decide) ?_
  refine aw_icmp_ge (n := 167) 249 dX11_slippery_164 (by decide) rfl ?_ ?_
  · exact aw_weak (c_X11_slippery_249 l F t ht k134 hk134 x1 x2 μ) (aw_ss (aw_ss (aw_ss (aw_sn (aw_sn (aw_sn (aw_sn aw_s0)))))))
  · refine aw_aload_n (n := 168) dX11_slippery_167 rfl rfl ?_
    refine aw_getR (n := 171) (RX11, TX11, 52) 11 36 dX11_slippery_168 rfl ht (by decide) fd_RX11_84 ?_
    refine aw_sipush (n := 174) 512 dX11_slippery_171 rfl (by decide) ?_
    refine aw_iload_n (n := 175) dX11_slippery_174 rfl rfl ?_
    refine aw_iconst (n := 176) 1 dX11_slippery_175 rfl (by decide) ?_
    refine aw_iadd (n := 177) dX11_slippery_176 rfl ?_
    refine aw_imul (n := 178) dX11_slippery_177 rfl ?_
    refine aw_iload (n := 180) dX11_slippery_178 rfl rfl ?_
    refine aw_iadd (n := 181) dX11_slippery_180 rfl ?_
    refine aw_iaload (n := 182) 51712 dX11_slippery_181 rfl (sf_11_36 ht) ?_
    refine aw_nmI (fun v39 => ?_)
    refine aw_istore (n := 184) [some (.ref t), some (.int x1), some (.int x2), some (.int x3), some (.int x4), some (.int v39), none] dX11_slippery_182 rfl rfl (Nat.le_of_ble_eq_true rfl) (Nat.le_of_ble_eq_true rfl) rfl ?_
    refine aw_iload_n (n := 185) dX11_slippery_184 rfl rfl ?_
    refine aw_if_ne (n := 188) 193 dX11_slippery_185 (by decide) rfl ?_ ?_
    · refine aw_iconst (n := 194) 1 dX11_slippery_193 rfl (by decide) ?_
      refine aw_aload_n (n := 195) dX11_slippery_194 rfl rfl ?_
      refine aw_getR (n := 198) (RX11, TX11, 52) 11 36 dX11_slippery_195 rfl ht (by decide) fd_RX11_84 ?_
      refine aw_sipush (n := 201) 512 dX11_slippery_198 rfl (by decide) ?_
      refine aw_iload_n (n := 202) dX11_slippery_201 rfl rfl ?_
      refine aw_iconst (n := 203) 1 dX11_slippery_202 rfl (by decide) ?_
      refine aw_iadd (n := 204) dX11_slippery_203 rfl ?_
      refine aw_imul (n := 205) dX11_slippery_204 rfl ?_
      refine aw_iload (n := 207) dX11_slippery_205 rfl rfl ?_
      refine aw_iload_n (n := 208) dX11_slippery_207 rfl rfl ?_
      refine aw_iconst (n := 209) (-1) dX11_slippery_208 rfl (by decide) ?_
      refine aw_ixor (n := 210) dX11_slippery_209 rfl ?_
      refine aw_iand (n := 211) dX11_slippery_210 rfl ?_
      refine aw_iadd (n := 212) dX11_slippery_211 rfl ?_
      refine aw_iaload (n := 213) 51712 dX11_slippery_212 rfl (sf_11_36 ht) ?_
      refine aw_iadd (n := 214) dX11_slippery_213 rfl ?_
      exact aw_weak (c_X11_slippery_214 l F t ht k134 hk134 k159 hk159 x1 x2 x3 x4 v39 (1 + (μ.1 (aw_rf t 36) ((512 * (x2 + 1)) + (x4 &&& (x3 ^^^ (-1)))).toNatClampNeg)) μ) (aw_ss (aw_ss (aw_ss (aw_ss (aw_ss (aw_ss (aw_sn aw_s0)))))))
    · refine aw_bipush (n := 190) 100 dX11_slippery_188 rfl (by decide) ?_
      refine aw_goto 214 dX11_slippery_190 (by decide) ?_
      exact aw_weak (c_X11_slippery_214 l F t ht k134 hk134 k159 hk159 x1 x2 x3 x4 v39 100 μ) (aw_ss (aw_ss (aw_ss (aw_ss (aw_ss (aw_ss (aw_sn aw_s0)))))))
def f_X11_slippery_155 (F : Nat) (t : Nat) (k134 : Int32 × Int32 × aw_M → Option (Int32 × aw_M)) (x1 : Int32) (x2 : Int32) (z0 : Int32) (μ : aw_M) : Option (Int32 × aw_M) :=
  aw_loop (fun k s => f_X11_slippery_159 F t k k134 s.1 s.2.1 s.2.2.1 s.2.2.2.1 s.2.2.2.2) F (x1, x2, z0, 0, μ)
theorem c_X11_slippery_155 (l : Launch) (F : Nat) (t : Nat) (ht : (aw_sh t).1 = 16) (k134 : Int32 × Int32 × aw_M → Option (Int32 × aw_M)) (hk134 : ∀ s : Int32 × Int32 × aw_M, AW l k_X11_slippery aw_gi 134 [some (.ref t), some (.int s.1), some (.int s.2.1), none, none, none, none] [] s.2.2 (k134 s)) (x1 : Int32) (x2 : Int32) (z0 : Int32) (μ : aw_M) : AW l k_X11_slippery aw_gi 155 [some (.ref t), some (.int x1), some (.int x2), none, none, none, none] [.int z0] μ (f_X11_slippery_155 F t k134 x1 x2 z0 μ) := by
  unfold f_X11_slippery_155
  refine aw_istore_n (n := 156) [some (.ref t), some (.int x1), some (.int x2), some (.int z0), none, none, none] dX11_slippery_155 rfl rfl (Nat.le_of_ble_eq_true rfl) (Nat.le_of_ble_eq_true rfl) rfl ?_
  refine aw_iconst (n := 157) 0 dX11_slippery_156 rfl (by decide) ?_
  refine aw_istore (n := 159) [some (.ref t), some (.int x1), some (.int x2), some (.int z0), some (.int 0), none, none] dX11_slippery_157 rfl rfl (Nat.le_of_ble_eq_true rfl) (Nat.le_of_ble_eq_true rfl) rfl ?_
  exact aw_weak (c_X11_slippery_159 l F t ht k134 hk134 F (x1, x2, z0, 0, μ)) (aw_ss (aw_ss (aw_ss (aw_ss (aw_ss (aw_sn (aw_sn aw_s0)))))))
def f_X11_slippery_134 (F : Nat) (t : Nat) (k134 : Int32 × Int32 × aw_M → Option (Int32 × aw_M)) (x1 : Int32) (x2 : Int32) (μ : aw_M) : Option (Int32 × aw_M) :=
  (if x2 < 0 then
  f_X11_slippery_255 F t x1 μ
  else
  (f_X11_isCell F t x2 μ).bind fun r38 =>
  (if r38.1 = true then
  (f_X11_dries F t x2 r38.2).bind fun r41 =>
  f_X11_slippery_155 F t k134 x1 x2 r41.1 r41.2
  else
  f_X11_slippery_155 F t k134 x1 x2 0 r38.2))
theorem c_X11_slippery_134 (l : Launch) (F : Nat) (t : Nat) (ht : (aw_sh t).1 = 16) : ∀ (N : Nat) (s : Int32 × Int32 × aw_M), AW l k_X11_slippery aw_gi 134 [some (.ref t), some (.int s.1), some (.int s.2.1), none, none, none, none] [] s.2.2 (aw_loop (fun k s => f_X11_slippery_134 F t k s.1 s.2.1 s.2.2) N s) := by
  refine aw_loop_ok (f := fun k s => f_X11_slippery_134 F t k s.1 s.2.1 s.2.2) (Ls := fun s => [some (.ref t), some (.int s.1), some (.int s.2.1), none, none, none, none]) (ms := fun s => s.2.2) ?_
  intro k134 hk134 s
  obtain ⟨x1, x2, μ⟩ := s
  show AW l k_X11_slippery aw_gi 134 [some (.ref t), some (.int x1), some (.int x2), none, none, none, none] [] μ (f_X11_slippery_134 F t k134 x1 x2 μ)
  unfold f_X11_slippery_134
  refine aw_iload_n (n := 135) dX11_slippery_134 rfl rfl ?_
  refine aw_if_lt (n := 138) 255 dX11_slippery_135 (by decide) rfl ?_ ?_
  · exact aw_weak (c_X11_slippery_255 l F t ht x1 μ) (aw_ss (aw_ss (aw_sn (aw_sn (aw_sn (aw_sn (aw_sn aw_s0)))))))
  · refine aw_aload_n (n := 139) dX11_slippery_138 rfl rfl ?_
    refine aw_iload_n (n := 140) dX11_slippery_139 rfl rfl ?_
    refine aw_callVz (n := 143) (as := [.int x2]) (st := []) (RX11, TX11, 52) 11 dX11_slippery_140 rfl rfl (m_X11_isCell l F t ht x2 μ) ht (by decide) rfl rfl cw_RX11_271 ⟨Nat.le_of_ble_eq_true rfl, Nat.le_of_ble_eq_true rfl⟩ (fun _ => Nat.le_of_ble_eq_true rfl) (fun r38 => ?_)
    refine aw_ifb_eq (n := 146) 154 dX11_slippery_143 (by decide) rfl ?_ ?_
    · refine aw_iconst (n := 155) 0 dX11_slippery_154 rfl (by decide) ?_
      exact aw_weak (c_X11_slippery_155 l F t ht k134 hk134 x1 x2 0 r38.2) (aw_ss (aw_ss (aw_ss (aw_sn (aw_sn (aw_sn (aw_sn aw_s0)))))))
    · refine aw_aload_n (n := 147) dX11_slippery_146 rfl rfl ?_
      refine aw_iload_n (n := 148) dX11_slippery_147 rfl rfl ?_
      refine aw_callVi (n := 151) (as := [.int x2]) (st := []) (RX11, TX11, 52) 11 dX11_slippery_148 rfl rfl (m_X11_dries l F t ht x2 r38.2) ht (by decide) rfl rfl cw_RX11_367 ⟨Nat.le_of_ble_eq_true rfl, Nat.le_of_ble_eq_true rfl⟩ (fun _ => Nat.le_of_ble_eq_true rfl) (fun r41 => ?_)
      refine aw_goto 155 dX11_slippery_151 (by decide) ?_
      exact aw_weak (c_X11_slippery_155 l F t ht k134 hk134 x1 x2 r41.1 r41.2) (aw_ss (aw_ss (aw_ss (aw_sn (aw_sn (aw_sn (aw_sn aw_s0)))))))
def f_X11_slippery_131 (F : Nat) (t : Nat) (x1 : Int32) (μ : aw_M) : Option (Int32 × aw_M) :=
  aw_loop (fun k s => f_X11_slippery_134 F t k s.1 s.2.1 s.2.2) F (x1, 99, μ)
theorem c_X11_slippery_131 (l : Launch) (F : Nat) (t : Nat) (ht : (aw_sh t).1 = 16) (x1 : Int32) (μ : aw_M) : AW l k_X11_slippery aw_gi 131 [some (.ref t), some (.int x1), none, none, none, none, none] [] μ (f_X11_slippery_131 F t x1 μ) := by
  unfold f_X11_slippery_131
  refine aw_bipush (n := 133) 99 dX11_slippery_131 rfl (by decide) ?_
  refine aw_istore_n (n := 134) [some (.ref t), some (.int x1), some (.int 99), none, none, none, none] dX11_slippery_133 rfl rfl (Nat.le_of_ble_eq_true rfl) (Nat.le_of_ble_eq_true rfl) rfl ?_
  exact aw_weak (c_X11_slippery_134 l F t ht F (x1, 99, μ)) (aw_ss (aw_ss (aw_ss (aw_sn (aw_sn (aw_sn (aw_sn aw_s0)))))))
def f_X11_slippery_124 (F : Nat) (t : Nat) (k98 : Int32 × Int32 × aw_M → Option (Int32 × aw_M)) (x1 : Int32) (x2 : Int32) (z0 : Int32) (z1 : Int32) (μ : aw_M) : Option (Int32 × aw_M) :=
  aw_g (aw_in z1 51712) (aw_let (aw_wI μ (aw_rf t 36) z1.toNatClampNeg z0) fun μ42 =>
  k98 (x1, (x2 + 1), μ42))
theorem c_X11_slippery_124 (l : Launch) (F : Nat) (t : Nat) (ht : (aw_sh t).1 = 16) (k98 : Int32 × Int32 × aw_M → Option (Int32 × aw_M)) (hk98 : ∀ s : Int32 × Int32 × aw_M, AW l k_X11_slippery aw_gi 98 [some (.ref t), some (.int s.1), some (.int s.2.1), none, none, none, none] [] s.2.2 (k98 s)) (x1 : Int32) (x2 : Int32) (z0 : Int32) (z1 : Int32) (μ : aw_M) : AW l k_X11_slippery aw_gi 124 [some (.ref t), some (.int x1), some (.int x2), none, none, none, none] [.int z0, .int z1, .ref (aw_rf t 36)] μ (f_X11_slippery_124 F t k98 x1 x2 z0 z1 μ) := by
  unfold f_X11_slippery_124
  refine aw_iastore (n := 125) 51712 dX11_slippery_124 rfl (sf_11_36 ht) (fun μ42 => ?_)
  refine aw_iinc (n := 128) (x2 + 1) [some (.ref t), some (.int x1), some (.int (x2 + 1)), none, none, none, none] dX11_slippery_125 rfl rfl (by rfl) rfl (Nat.le_of_ble_eq_true rfl) rfl ?_
  refine aw_goto 98 dX11_slippery_128 (by decide) ?_
  exact aw_weak (hk98 (x1, (x2 + 1), μ42)) (aw_ss (aw_ss (aw_ss (aw_sn (aw_sn (aw_sn (aw_sn aw_s0)))))))
def f_X11_slippery_98 (F : Nat) (t : Nat) (k98 : Int32 × Int32 × aw_M → Option (Int32 × aw_M)) (x1 : Int32) (x2 : Int32) (μ : aw_M) : Option (Int32 × aw_M) :=
  (if 512 ≤ x2 then
  f_X11_slippery_131 F t x1 μ
  else
  (if x2 = 0 then
  f_X11_slippery_124 F t k98 x1 x2 0 (51200 + x2) μ
  else
  f_X11_slippery_124 F t k98 x1 x2 100 (51200 + x2) μ))
theorem c_X11_slippery_98 (l : Launch) (F : Nat) (t : Nat) (ht : (aw_sh t).1 = 16) : ∀ (N : Nat) (s : Int32 × Int32 × aw_M), AW l k_X11_slippery aw_gi 98 [some (.ref t), some (.int s.1), some (.int s.2.1), none, none, none, none] [] s.2.2 (aw_loop (fun k s => f_X11_slippery_98 F t k s.1 s.2.1 s.2.2) N s) := by
  refine aw_loop_ok (f := fun k s => f_X11_slippery_98 F t k s.1 s.2.1 s.2.2) (Ls := fun s => [some (.ref t), some (.int s.1), some (.int s.2.1), none, none, none, none]) (ms := fun s => s.2.2) ?_
  intro k98 hk98 s
  obtain ⟨x1, x2, μ⟩ := s
  show AW l k_X11_slippery aw_gi 98 [some (.ref t), some (.int x1), some (.int x2), none, none, none, none] [] μ (f_X11_slippery_98 F t k98 x1 x2 μ)
  unfold f_X11_slippery_98
  refine aw_iload_n (n := 99) dX11_slippery_98 rfl rfl ?_
  refine aw_sipush (n := 102) 512 dX11_slippery_99 rfl (by decide) ?_
  refine aw_icmp_ge (n := 105) 131 dX11_slippery_102 (by decide) rfl ?_ ?_
  · exact aw_weak (c_X11_slippery_131 l F t ht x1 μ) (aw_ss (aw_ss (aw_sn (aw_sn (aw_sn (aw_sn (aw_sn aw_s0)))))))
  · refine aw_aload_n (n := 106) dX11_slippery_105 rfl rfl ?_
    refine aw_getR (n := 109) (RX11, TX11, 52) 11 36 dX11_slippery_106 rfl ht (by decide) fd_RX11_84 ?_
    refine aw_ldcw (n := 112) dX11_slippery_109 rfl tb_1953 ?_
    refine aw_iload_n (n := 113) dX11_slippery_112 rfl rfl ?_
    refine aw_iadd (n := 114) dX11_slippery_113 rfl ?_
    refine aw_iload_n (n := 115) dX11_slippery_114 rfl rfl ?_
    refine aw_if_ne (n := 118) 122 dX11_slippery_115 (by decide) rfl ?_ ?_
    · refine aw_bipush (n := 124) 100 dX11_slippery_122 rfl (by decide) ?_
      exact aw_weak (c_X11_slippery_124 l F t ht k98 hk98 x1 x2 100 (51200 + x2) μ) (aw_ss (aw_ss (aw_ss (aw_sn (aw_sn (aw_sn (aw_sn aw_s0)))))))
    · refine aw_iconst (n := 119) 0 dX11_slippery_118 rfl (by decide) ?_
      refine aw_goto 124 dX11_slippery_119 (by decide) ?_
      exact aw_weak (c_X11_slippery_124 l F t ht k98 hk98 x1 x2 0 (51200 + x2) μ) (aw_ss (aw_ss (aw_ss (aw_sn (aw_sn (aw_sn (aw_sn aw_s0)))))))
def f_X11_slippery_96 (F : Nat) (t : Nat) (x1 : Int32) (μ : aw_M) : Option (Int32 × aw_M) :=
  aw_loop (fun k s => f_X11_slippery_98 F t k s.1 s.2.1 s.2.2) F (x1, 0, μ)
theorem c_X11_slippery_96 (l : Launch) (F : Nat) (t : Nat) (ht : (aw_sh t).1 = 16) (x1 : Int32) (μ : aw_M) : AW l k_X11_slippery aw_gi 96 [some (.ref t), some (.int x1), none, none, none, none, none] [] μ (f_X11_slippery_96 F t x1 μ) := by
  unfold f_X11_slippery_96
  refine aw_iconst (n := 97) 0 dX11_slippery_96 rfl (by decide) ?_
  refine aw_istore_n (n := 98) [some (.ref t), some (.int x1), some (.int 0), none, none, none, none] dX11_slippery_97 rfl rfl (Nat.le_of_ble_eq_true rfl) (Nat.le_of_ble_eq_true rfl) rfl ?_
  exact aw_weak (c_X11_slippery_98 l F t ht F (x1, 0, μ)) (aw_ss (aw_ss (aw_ss (aw_sn (aw_sn (aw_sn (aw_sn aw_s0)))))))
def f_X11_slippery_90 (F : Nat) (t : Nat) (k60 : Int32 × Int32 × aw_M → Option (Int32 × aw_M)) (x1 : Int32) (x2 : Int32) (μ : aw_M) : Option (Int32 × aw_M) :=
  k60 (x1, (x2 + 1), μ)
theorem c_X11_slippery_90 (l : Launch) (F : Nat) (t : Nat) (ht : (aw_sh t).1 = 16) (k60 : Int32 × Int32 × aw_M → Option (Int32 × aw_M)) (hk60 : ∀ s : Int32 × Int32 × aw_M, AW l k_X11_slippery aw_gi 60 [some (.ref t), some (.int s.1), some (.int s.2.1), none, none, none, none] [] s.2.2 (k60 s)) (x1 : Int32) (x2 : Int32) (μ : aw_M) : AW l k_X11_slippery aw_gi 90 [some (.ref t), some (.int x1), some (.int x2), none, none, none, none] [] μ (f_X11_slippery_90 F t k60 x1 x2 μ) := by
  unfold f_X11_slippery_90
  refine aw_iinc (n := 93) (x2 + 1) [some (.ref t), some (.int x1), some (.int (x2 + 1)), none, none, none, none] dX11_slippery_90 rfl rfl (by rfl) rfl (Nat.le_of_ble_eq_true rfl) rfl ?_
  refine aw_goto 60 dX11_slippery_93 (by decide) ?_
  exact aw_weak (hk60 (x1, (x2 + 1), μ)) (aw_ss (aw_ss (aw_ss (aw_sn (aw_sn (aw_sn (aw_sn aw_s0)))))))
def f_X11_slippery_60 (F : Nat) (t : Nat) (k60 : Int32 × Int32 × aw_M → Option (Int32 × aw_M)) (x1 : Int32) (x2 : Int32) (μ : aw_M) : Option (Int32 × aw_M) :=
  (if 100 ≤ x2 then
  f_X11_slippery_96 F t x1 μ
  else
  aw_g (aw_in (814 + x2) 1155) ((if (μ.1 (aw_rf t 6) (814 + x2).toNatClampNeg) = 1 then
  (f_X11_dries F t x2 μ).bind fun r43 =>
  aw_let ((x1 &&& (r43.1 ^^^ (-1)))) fun v44 =>
  f_X11_slippery_90 F t k60 v44 x2 r43.2
  else
  f_X11_slippery_90 F t k60 x1 x2 μ)))
theorem c_X11_slippery_60 (l : Launch) (F : Nat) (t : Nat) (ht : (aw_sh t).1 = 16) : ∀ (N : Nat) (s : Int32 × Int32 × aw_M), AW l k_X11_slippery aw_gi 60 [some (.ref t), some (.int s.1), some (.int s.2.1), none, none, none, none] [] s.2.2 (aw_loop (fun k s => f_X11_slippery_60 F t k s.1 s.2.1 s.2.2) N s) := by
  refine aw_loop_ok (f := fun k s => f_X11_slippery_60 F t k s.1 s.2.1 s.2.2) (Ls := fun s => [some (.ref t), some (.int s.1), some (.int s.2.1), none, none, none, none]) (ms := fun s => s.2.2) ?_
  intro k60 hk60 s
  obtain ⟨x1, x2, μ⟩ := s
  show AW l k_X11_slippery aw_gi 60 [some (.ref t), some (.int x1), some (.int x2), none, none, none, none] [] μ (f_X11_slippery_60 F t k60 x1 x2 μ)
  unfold f_X11_slippery_60
  refine aw_iload_n (n := 61) dX11_slippery_60 rfl rfl ?_
  refine aw_bipush (n := 63) 100 dX11_slippery_61 rfl (by decide) ?_
  refine aw_icmp_ge (n := 66) 96 dX11_slippery_63 (by decide) rfl ?_ ?_
  · exact aw_weak (c_X11_slippery_96 l F t ht x1 μ) (aw_ss (aw_ss (aw_sn (aw_sn (aw_sn (aw_sn (aw_sn aw_s0)))))))
  · refine aw_aload_n (n := 67) dX11_slippery_66 rfl rfl ?_
    refine aw_getR (n := 70) (RX11, TX11, 52) 11 6 dX11_slippery_67 rfl ht (by decide) fd_RX11_33 ?_
    refine aw_sipush (n := 73) 814 dX11_slippery_70 rfl (by decide) ?_
    refine aw_iload_n (n := 74) dX11_slippery_73 rfl rfl ?_
    refine aw_iadd (n := 75) dX11_slippery_74 rfl ?_
    refine aw_iaload (n := 76) 1155 dX11_slippery_75 rfl (sf_11_6 ht) ?_
    refine aw_iconst (n := 77) 1 dX11_slippery_76 rfl (by decide) ?_
    refine aw_icmp_ne (n := 80) 90 dX11_slippery_77 (by decide) rfl ?_ ?_
    · exact aw_weak (c_X11_slippery_90 l F t ht k60 hk60 x1 x2 μ) (aw_ss (aw_ss (aw_ss (aw_sn (aw_sn (aw_sn (aw_sn aw_s0)))))))
    · refine aw_iload_n (n := 81) dX11_slippery_80 rfl rfl ?_
      refine aw_aload_n (n := 82) dX11_slippery_81 rfl rfl ?_
      refine aw_iload_n (n := 83) dX11_slippery_82 rfl rfl ?_
      refine aw_callVi (n := 86) (as := [.int x2]) (st := [.int x1]) (RX11, TX11, 52) 11 dX11_slippery_83 rfl rfl (m_X11_dries l F t ht x2 μ) ht (by decide) rfl rfl cw_RX11_367 ⟨Nat.le_of_ble_eq_true rfl, Nat.le_of_ble_eq_true rfl⟩ (fun _ => Nat.le_of_ble_eq_true rfl) (fun r43 => ?_)
      refine aw_iconst (n := 87) (-1) dX11_slippery_86 rfl (by decide) ?_
      refine aw_ixor (n := 88) dX11_slippery_87 rfl ?_
      refine aw_iand (n := 89) dX11_slippery_88 rfl ?_
      refine aw_nmI (fun v44 => ?_)
      refine aw_istore_n (n := 90) [some (.ref t), some (.int v44), some (.int x2), none, none, none, none] dX11_slippery_89 rfl rfl (Nat.le_of_ble_eq_true rfl) (Nat.le_of_ble_eq_true rfl) rfl ?_
      exact aw_weak (c_X11_slippery_90 l F t ht k60 hk60 v44 x2 r43.2) (aw_ss (aw_ss (aw_ss (aw_sn (aw_sn (aw_sn (aw_sn aw_s0)))))))
def f_X11_slippery_58 (F : Nat) (t : Nat) (x1 : Int32) (μ : aw_M) : Option (Int32 × aw_M) :=
  aw_loop (fun k s => f_X11_slippery_60 F t k s.1 s.2.1 s.2.2) F (x1, 0, μ)
theorem c_X11_slippery_58 (l : Launch) (F : Nat) (t : Nat) (ht : (aw_sh t).1 = 16) (x1 : Int32) (μ : aw_M) : AW l k_X11_slippery aw_gi 58 [some (.ref t), some (.int x1), none, none, none, none, none] [] μ (f_X11_slippery_58 F t x1 μ) := by
  unfold f_X11_slippery_58
  refine aw_iconst (n := 59) 0 dX11_slippery_58 rfl (by decide) ?_
  refine aw_istore_n (n := 60) [some (.ref t), some (.int x1), some (.int 0), none, none, none, none] dX11_slippery_59 rfl rfl (Nat.le_of_ble_eq_true rfl) (Nat.le_of_ble_eq_true rfl) rfl ?_
  exact aw_weak (c_X11_slippery_60 l F t ht F (x1, 0, μ)) (aw_ss (aw_ss (aw_ss (aw_sn (aw_sn (aw_sn (aw_sn aw_s0)))))))
def f_X11_slippery_50 (F : Nat) (t : Nat) (k9 : Int32 × Int32 × aw_M → Option (Int32 × aw_M)) (x2 : Int32) (z0 : Int32) (z1 : Int32) (μ : aw_M) : Option (Int32 × aw_M) :=
  aw_let ((z1 ||| z0)) fun v45 =>
  k9 (v45, (x2 + 1), μ)
theorem c_X11_slippery_50 (l : Launch) (F : Nat) (t : Nat) (ht : (aw_sh t).1 = 16) (k9 : Int32 × Int32 × aw_M → Option (Int32 × aw_M)) (hk9 : ∀ s : Int32 × Int32 × aw_M, AW l k_X11_slippery aw_gi 9 [some (.ref t), some (.int s.1), some (.int s.2.1), none, none, none, none] [] s.2.2 (k9 s)) (x2 : Int32) (z0 : Int32) (z1 : Int32) (μ : aw_M) : AW l k_X11_slippery aw_gi 50 [some (.ref t), none, some (.int x2), none, none, none, none] [.int z0, .int z1] μ (f_X11_slippery_50 F t k9 x2 z0 z1 μ) := by
  unfold f_X11_slippery_50
  refine aw_ior (n := 51) dX11_slippery_50 rfl ?_
  refine aw_nmI (fun v45 => ?_)
  refine aw_istore_n (n := 52) [some (.ref t), some (.int v45), some (.int x2), none, none, none, none] dX11_slippery_51 rfl rfl (Nat.le_of_ble_eq_true rfl) (Nat.le_of_ble_eq_true rfl) rfl ?_
  refine aw_iinc (n := 55) (x2 + 1) [some (.ref t), some (.int v45), some (.int (x2 + 1)), none, none, none, none] dX11_slippery_52 rfl rfl (by rfl) rfl (Nat.le_of_ble_eq_true rfl) rfl ?_
  refine aw_goto 9 dX11_slippery_55 (by decide) ?_
  exact aw_weak (hk9 (v45, (x2 + 1), μ)) (aw_ss (aw_ss (aw_ss (aw_sn (aw_sn (aw_sn (aw_sn aw_s0)))))))
def f_X11_slippery_9 (F : Nat) (t : Nat) (k9 : Int32 × Int32 × aw_M → Option (Int32 × aw_M)) (x1 : Int32) (x2 : Int32) (μ : aw_M) : Option (Int32 × aw_M) :=
  aw_g (aw_in 2 1155) ((if (μ.1 (aw_rf t 6) (2 : Int32).toNatClampNeg) ≤ x2 then
  f_X11_slippery_58 F t x1 μ
  else
  aw_g (aw_in (11 + x2) 1155) (aw_g (aw_in (714 + (μ.1 (aw_rf t 6) (11 + x2).toNatClampNeg)) 1155) ((if (μ.1 (aw_rf t 6) (714 + (μ.1 (aw_rf t 6) (11 + x2).toNatClampNeg)).toNatClampNeg) < 10 then
  f_X11_slippery_50 F t k9 x2 0 x1 μ
  else
  f_X11_slippery_50 F t k9 x2 (1 <<< (x2 &&& 31)) x1 μ)))))
theorem c_X11_slippery_9 (l : Launch) (F : Nat) (t : Nat) (ht : (aw_sh t).1 = 16) : ∀ (N : Nat) (s : Int32 × Int32 × aw_M), AW l k_X11_slippery aw_gi 9 [some (.ref t), some (.int s.1), some (.int s.2.1), none, none, none, none] [] s.2.2 (aw_loop (fun k s => f_X11_slippery_9 F t k s.1 s.2.1 s.2.2) N s) := by
  refine aw_loop_ok (f := fun k s => f_X11_slippery_9 F t k s.1 s.2.1 s.2.2) (Ls := fun s => [some (.ref t), some (.int s.1), some (.int s.2.1), none, none, none, none]) (ms := fun s => s.2.2) ?_
  intro k9 hk9 s
  obtain ⟨x1, x2, μ⟩ := s
  show AW l k_X11_slippery aw_gi 9 [some (.ref t), some (.int x1), some (.int x2), none, none, none, none] [] μ (f_X11_slippery_9 F t k9 x1 x2 μ)
  unfold f_X11_slippery_9
  refine aw_iload_n (n := 10) dX11_slippery_9 rfl rfl ?_
  refine aw_aload_n (n := 11) dX11_slippery_10 rfl rfl ?_
  refine aw_getR (n := 14) (RX11, TX11, 52) 11 6 dX11_slippery_11 rfl ht (by decide) fd_RX11_33 ?_
  refine aw_iconst (n := 15) 2 dX11_slippery_14 rfl (by decide) ?_
  refine aw_iaload (n := 16) 1155 dX11_slippery_15 rfl (sf_11_6 ht) ?_
  refine aw_icmp_ge (n := 19) 58 dX11_slippery_16 (by decide) rfl ?_ ?_
  · exact aw_weak (c_X11_slippery_58 l F t ht x1 μ) (aw_ss (aw_ss (aw_sn (aw_sn (aw_sn (aw_sn (aw_sn aw_s0)))))))
  · refine aw_iload_n (n := 20) dX11_slippery_19 rfl rfl ?_
    refine aw_aload_n (n := 21) dX11_slippery_20 rfl rfl ?_
    refine aw_getR (n := 24) (RX11, TX11, 52) 11 6 dX11_slippery_21 rfl ht (by decide) fd_RX11_33 ?_
    refine aw_sipush (n := 27) 714 dX11_slippery_24 rfl (by decide) ?_
    refine aw_aload_n (n := 28) dX11_slippery_27 rfl rfl ?_
    refine aw_getR (n := 31) (RX11, TX11, 52) 11 6 dX11_slippery_28 rfl ht (by decide) fd_RX11_33 ?_
    refine aw_bipush (n := 33) 11 dX11_slippery_31 rfl (by decide) ?_
    refine aw_iload_n (n := 34) dX11_slippery_33 rfl rfl ?_
    refine aw_iadd (n := 35) dX11_slippery_34 rfl ?_
    refine aw_iaload (n := 36) 1155 dX11_slippery_35 rfl (sf_11_6 ht) ?_
    refine aw_iadd (n := 37) dX11_slippery_36 rfl ?_
    refine aw_iaload (n := 38) 1155 dX11_slippery_37 rfl (sf_11_6 ht) ?_
    refine aw_bipush (n := 40) 10 dX11_slippery_38 rfl (by decide) ?_
    refine aw_icmp_lt (n := 43) 49 dX11_slippery_40 (by decide) rfl ?_ ?_
    · refine aw_iconst (n := 50) 0 dX11_slippery_49 rfl (by decide) ?_
      exact aw_weak (c_X11_slippery_50 l F t ht k9 hk9 x2 0 x1 μ) (aw_ss (aw_sn (aw_ss (aw_sn (aw_sn (aw_sn (aw_sn aw_s0)))))))
    · refine aw_iconst (n := 44) 1 dX11_slippery_43 rfl (by decide) ?_
      refine aw_iload_n (n := 45) dX11_slippery_44 rfl rfl ?_
      refine aw_ishl (n := 46) dX11_slippery_45 rfl ?_
      refine aw_goto 50 dX11_slippery_46 (by decide) ?_
      exact aw_weak (c_X11_slippery_50 l F t ht k9 hk9 x2 (1 <<< (x2 &&& 31)) x1 μ) (aw_ss (aw_sn (aw_ss (aw_sn (aw_sn (aw_sn (aw_sn aw_s0)))))))
def f_X11_slippery (F : Nat) (t : Nat) (μ : aw_M) : Option (Int32 × aw_M) :=
  aw_let (aw_wI μ t 0 0) fun μ31 =>
  aw_loop (fun k s => f_X11_slippery_9 F t k s.1 s.2.1 s.2.2) F (0, 0, μ31)
theorem m_X11_slippery (l : Launch) (F : Nat) (t : Nat) (ht : (aw_sh t).1 = 16) (μ : aw_M) : AM l yX11_slippery cX11_slippery 7 (some .int) 4 184 aw_gi [.ref t] μ (f_X11_slippery F t μ) := by
  refine aw_met [some (.ref t), none, none, none, none, none, none] (by decide) (fun _ => rfl) (fun _ => Nat.le_of_ble_eq_true rfl) ?_
  show AW l k_X11_slippery aw_gi 0 [some (.ref t), none, none, none, none, none, none] [] μ _
  unfold f_X11_slippery
  refine aw_aload_n (n := 1) dX11_slippery_0 rfl rfl ?_
  refine aw_iconst (n := 2) 0 dX11_slippery_1 rfl (by decide) ?_
  refine aw_putI (n := 5) (RX11, TX11, 52) 11 0 dX11_slippery_2 rfl ht (by decide) fp_RX11_1 (fun μ31 => ?_)
  refine aw_iconst (n := 6) 0 dX11_slippery_5 rfl (by decide) ?_
  refine aw_istore_n (n := 7) [some (.ref t), some (.int 0), none, none, none, none, none] dX11_slippery_6 rfl rfl (Nat.le_of_ble_eq_true rfl) (Nat.le_of_ble_eq_true rfl) rfl ?_
  refine aw_iconst (n := 8) 0 dX11_slippery_7 rfl (by decide) ?_
  refine aw_istore_n (n := 9) [some (.ref t), some (.int 0), some (.int 0), none, none, none, none] dX11_slippery_8 rfl rfl (Nat.le_of_ble_eq_true rfl) (Nat.le_of_ble_eq_true rfl) rfl ?_
  exact aw_weak (c_X11_slippery_9 l F t ht F (0, 0, μ31)) (aw_ss (aw_ss (aw_ss (aw_sn (aw_sn (aw_sn (aw_sn aw_s0)))))))
abbrev k_X11_dry : aw_K := (RX11, cX11_dry, 2, (some .int), 2, 142)
def f_X11_dry (F : Nat) (t : Nat) (a0 : Int32) (μ : aw_M) : Option (Int32 × aw_M) :=
  aw_let (aw_wI μ t 0 0) fun μ1 =>
  (f_X11_isIn F a0 0 ((μ1.1 t 38) - 1) μ1).bind fun r2 =>
  (if r2.1 = true then
  aw_g (aw_in a0 9) (some ((r2.2.1 (aw_rf t 37) a0.toNatClampNeg), r2.2))
  else
  some ((-1), r2.2))
theorem m_X11_dry (l : Launch) (F : Nat) (t : Nat) (ht : (aw_sh t).1 = 16) (a0 : Int32) (μ : aw_M) : AM l yX11_dry cX11_dry 2 (some .int) 2 142 aw_gi [.ref t, .int a0] μ (f_X11_dry F t a0 μ) := by
  refine aw_met [some (.ref t), some (.int a0)] (by decide) (fun _ => rfl) (fun _ => Nat.le_of_ble_eq_true rfl) ?_
  show AW l k_X11_dry aw_gi 0 [some (.ref t), some (.int a0)] [] μ _
  unfold f_X11_dry
  refine aw_aload_n (n := 1) dX11_dry_0 rfl rfl ?_
  refine aw_iconst (n := 2) 0 dX11_dry_1 rfl (by decide) ?_
  refine aw_putI (n := 5) (RX11, TX11, 52) 11 0 dX11_dry_2 rfl ht (by decide) fp_RX11_1 (fun μ1 => ?_)
  refine aw_iload_n (n := 6) dX11_dry_5 rfl rfl ?_
  refine aw_iconst (n := 7) 0 dX11_dry_6 rfl (by decide) ?_
  refine aw_aload_n (n := 8) dX11_dry_7 rfl rfl ?_
  refine aw_getI (n := 11) (RX11, TX11, 52) 11 38 dX11_dry_8 rfl ht (by decide) fd_RX11_371 ?_
  refine aw_iconst (n := 12) 1 dX11_dry_11 rfl (by decide) ?_
  refine aw_isub (n := 13) dX11_dry_12 rfl ?_
  refine aw_callSz (n := 16) (as := [.int a0, .int 0, .int ((μ1.1 t 38) - 1)]) (st := []) dX11_dry_13 rfl rfl (m_X11_isIn l F a0 0 ((μ1.1 t 38) - 1) μ1) cw_RX11_194 ⟨Nat.le_of_ble_eq_true rfl, Nat.le_of_ble_eq_true rfl⟩ (fun _ => Nat.le_of_ble_eq_true rfl) (fun r2 => ?_)
  refine aw_ifb_eq (n := 19) 28 dX11_dry_16 (by decide) rfl ?_ ?_
  · refine aw_iconst (n := 29) (-1) dX11_dry_28 rfl (by decide) ?_
    exact aw_ireturn dX11_dry_29 rfl rfl
  · refine aw_aload_n (n := 20) dX11_dry_19 rfl rfl ?_
    refine aw_getR (n := 23) (RX11, TX11, 52) 11 37 dX11_dry_20 rfl ht (by decide) fd_RX11_87 ?_
    refine aw_iload_n (n := 24) dX11_dry_23 rfl rfl ?_
    refine aw_iaload (n := 25) 9 dX11_dry_24 rfl (sf_11_37 ht) ?_
    refine aw_goto 29 dX11_dry_25 (by decide) ?_
    exact aw_ireturn dX11_dry_29 rfl rfl
abbrev k_X11_table : aw_K := (RX11, cX11_table, 4, (some .int), 7, 263)
def f_X11_table_318 (F : Nat) (t : Nat) (k318 : Int32 × Int32 × aw_M → Option (Int32 × aw_M)) (x1 : Int32) (x2 : Int32) (μ : aw_M) : Option (Int32 × aw_M) :=
  (if 2 ≤ x2 then
  aw_let (aw_wI μ t 41 x1) fun μ55 =>
  some (x1, μ55)
  else
  aw_g (aw_in (3 * x2) 6) (aw_g (aw_in (427 + x2) 1155) (aw_let (aw_wI μ (aw_rf t 6) (427 + x2).toNatClampNeg (μ.1 (aw_rf t 40) (3 * x2).toNatClampNeg)) fun μ56 =>
  aw_g (aw_in ((3 * x2) + 1) 6) (aw_g (aw_in (436 + x2) 1155) (aw_let (aw_wI μ56 (aw_rf t 6) (436 + x2).toNatClampNeg (μ56.1 (aw_rf t 40) ((3 * x2) + 1).toNatClampNeg)) fun μ57 =>
  aw_g (aw_in ((3 * x2) + 2) 6) (aw_g (aw_in (445 + x2) 1155) (aw_let (aw_wI μ57 (aw_rf t 6) (445 + x2).toNatClampNeg (μ57.1 (aw_rf t 40) ((3 * x2) + 2).toNatClampNeg)) fun μ58 =>
  k318 (x1, (x2 + 1), μ58))))))))
theorem c_X11_table_318 (l : Launch) (F : Nat) (t : Nat) (ht : (aw_sh t).1 = 16) : ∀ (N : Nat) (s : Int32 × Int32 × aw_M), AW l k_X11_table aw_gi 318 [some (.ref t), some (.int s.1), some (.int s.2.1), none] [] s.2.2 (aw_loop (fun k s => f_X11_table_318 F t k s.1 s.2.1 s.2.2) N s) := by
  refine aw_loop_ok (f := fun k s => f_X11_table_318 F t k s.1 s.2.1 s.2.2) (Ls := fun s => [some (.ref t), some (.int s.1), some (.int s.2.1), none]) (ms := fun s => s.2.2) ?_
  intro k318 hk318 s
  obtain ⟨x1, x2, μ⟩ := s
  show AW l k_X11_table aw_gi 318 [some (.ref t), some (.int x1), some (.int x2), none] [] μ (f_X11_table_318 F t k318 x1 x2 μ)
  unfold f_X11_table_318
  refine aw_iload_n (n := 319) dX11_table_318 rfl rfl ?_
  refine aw_iconst (n := 320) 2 dX11_table_319 rfl (by decide) ?_
  refine aw_icmp_ge (n := 323) 387 dX11_table_320 (by decide) rfl ?_ ?_
  · refine aw_aload_n (n := 388) dX11_table_387 rfl rfl ?_
    refine aw_iload_n (n := 389) dX11_table_388 rfl rfl ?_
    refine aw_putI (n := 392) (RX11, TX11, 52) 11 41 dX11_table_389 rfl ht (by decide) fp_RX11_374 (fun μ55 => ?_)
    refine aw_iload_n (n := 393) dX11_table_392 rfl rfl ?_
    exact aw_ireturn dX11_table_393 rfl rfl
  · refine aw_aload_n (n := 324) dX11_table_323 rfl rfl ?_
    refine aw_getR (n := 327) (RX11, TX11, 52) 11 6 dX11_table_324 rfl ht (by decide) fd_RX11_33 ?_
    refine aw_sipush (n := 330) 427 dX11_table_327 rfl (by decide) ?_
    refine aw_iload_n (n := 331) dX11_table_330 rfl rfl ?_
    refine aw_iadd (n := 332) dX11_table_331 rfl ?_
    refine aw_aload_n (n := 333) dX11_table_332 rfl rfl ?_
    refine aw_getR (n := 336) (RX11, TX11, 52) 11 40 dX11_table_333 rfl ht (by decide) fd_RX11_93 ?_
    refine aw_iconst (n := 337) 3 dX11_table_336 rfl (by decide) ?_
    refine aw_iload_n (n := 338) dX11_table_337 rfl rfl ?_
    refine aw_imul (n := 339) dX11_table_338 rfl ?_
    refine aw_iaload (n := 340) 6 dX11_table_339 rfl (sf_11_40 ht) ?_
    refine aw_iastore (n := 341) 1155 dX11_table_340 rfl (sf_11_6 ht) (fun μ56 => ?_)
    refine aw_aload_n (n := 342) dX11_table_341 rfl rfl ?_
    refine aw_getR (n := 345) (RX11, TX11, 52) 11 6 dX11_table_342 rfl ht (by decide) fd_RX11_33 ?_
    refine aw_sipush (n := 348) 436 dX11_table_345 rfl (by decide) ?_
    refine aw_iload_n (n := 349) dX11_table_348 rfl rfl ?_
    refine aw_iadd (n := 350) dX11_table_349 rfl ?_
    refine aw_aload_n (n := 351) dX11_table_350 rfl rfl ?_
    refine aw_getR (n := 354) (RX11, TX11, 52) 11 40 dX11_table_351 rfl ht (by decide) fd_RX11_93 ?_
    refine aw_iconst (n := 355) 3 dX11_table_354 rfl (by decide) ?_
    refine aw_iload_n (n := 356) dX11_table_355 rfl rfl ?_
    refine aw_imul (n := 357) dX11_table_356 rfl ?_
    refine aw_iconst (n := 358) 1 dX11_table_357 rfl (by decide) ?_
    refine aw_iadd (n := 359) dX11_table_358 rfl ?_
    refine aw_iaload (n := 360) 6 dX11_table_359 rfl (sf_11_40 ht) ?_
    refine aw_iastore (n := 361) 1155 dX11_table_360 rfl (sf_11_6 ht) (fun μ57 => ?_)
    refine aw_aload_n (n := 362) dX11_table_361 rfl rfl ?_
    refine aw_getR (n := 365) (RX11, TX11, 52) 11 6 dX11_table_362 rfl ht (by decide) fd_RX11_33 ?_
    refine aw_sipush (n := 368) 445 dX11_table_365 rfl (by decide) ?_
    refine aw_iload_n (n := 369) dX11_table_368 rfl rfl ?_
    refine aw_iadd (n := 370) dX11_table_369 rfl ?_
    refine aw_aload_n (n := 371) dX11_table_370 rfl rfl ?_
    refine aw_getR (n := 374) (RX11, TX11, 52) 11 40 dX11_table_371 rfl ht (by decide) fd_RX11_93 ?_
    refine aw_iconst (n := 375) 3 dX11_table_374 rfl (by decide) ?_
    refine aw_iload_n (n := 376) dX11_table_375 rfl rfl ?_
    refine aw_imul (n := 377) dX11_table_376 rfl ?_
    refine aw_iconst (n := 378) 2 dX11_table_377 rfl (by decide) ?_
    refine aw_iadd (n := 379) dX11_table_378 rfl ?_
    refine aw_iaload (n := 380) 6 dX11_table_379 rfl (sf_11_40 ht) ?_
    refine aw_iastore (n := 381) 1155 dX11_table_380 rfl (sf_11_6 ht) (fun μ58 => ?_)
    refine aw_iinc (n := 384) (x2 + 1) [some (.ref t), some (.int x1), some (.int (x2 + 1)), none] dX11_table_381 rfl rfl (by rfl) rfl (Nat.le_of_ble_eq_true rfl) rfl ?_
    refine aw_goto 318 dX11_table_384 (by decide) ?_
    exact aw_weak (hk318 (x1, (x2 + 1), μ58)) (aw_ss (aw_ss (aw_ss (aw_sn aw_s0))))
def f_X11_table_316 (F : Nat) (t : Nat) (x1 : Int32) (μ : aw_M) : Option (Int32 × aw_M) :=
  aw_loop (fun k s => f_X11_table_318 F t k s.1 s.2.1 s.2.2) F (x1, 0, μ)
theorem c_X11_table_316 (l : Launch) (F : Nat) (t : Nat) (ht : (aw_sh t).1 = 16) (x1 : Int32) (μ : aw_M) : AW l k_X11_table aw_gi 316 [some (.ref t), some (.int x1), none, none] [] μ (f_X11_table_316 F t x1 μ) := by
  unfold f_X11_table_316
  refine aw_iconst (n := 317) 0 dX11_table_316 rfl (by decide) ?_
  refine aw_istore_n (n := 318) [some (.ref t), some (.int x1), some (.int 0), none] dX11_table_317 rfl rfl (Nat.le_of_ble_eq_true rfl) (Nat.le_of_ble_eq_true rfl) rfl ?_
  exact aw_weak (c_X11_table_318 l F t ht F (x1, 0, μ)) (aw_ss (aw_ss (aw_ss (aw_sn aw_s0))))
def f_X11_table_310 (F : Nat) (t : Nat) (k180 : Int32 × Int32 × aw_M → Option (Int32 × aw_M)) (x1 : Int32) (x2 : Int32) (μ : aw_M) : Option (Int32 × aw_M) :=
  k180 (x1, (x2 + 1), μ)
theorem c_X11_table_310 (l : Launch) (F : Nat) (t : Nat) (ht : (aw_sh t).1 = 16) (k180 : Int32 × Int32 × aw_M → Option (Int32 × aw_M)) (hk180 : ∀ s : Int32 × Int32 × aw_M, AW l k_X11_table aw_gi 180 [some (.ref t), some (.int s.1), some (.int s.2.1), none] [] s.2.2 (k180 s)) (x1 : Int32) (x2 : Int32) (μ : aw_M) : AW l k_X11_table aw_gi 310 [some (.ref t), some (.int x1), some (.int x2), none] [] μ (f_X11_table_310 F t k180 x1 x2 μ) := by
  unfold f_X11_table_310
  refine aw_iinc (n := 313) (x2 + 1) [some (.ref t), some (.int x1), some (.int (x2 + 1)), none] dX11_table_310 rfl rfl (by rfl) rfl (Nat.le_of_ble_eq_true rfl) rfl ?_
  refine aw_goto 180 dX11_table_313 (by decide) ?_
  exact aw_weak (hk180 (x1, (x2 + 1), μ)) (aw_ss (aw_ss (aw_ss (aw_sn aw_s0))))
def f_X11_table_187 (F : Nat) (t : Nat) (k187 : Int32 × Int32 × Int32 × aw_M → Option (Int32 × aw_M)) (k180 : Int32 × Int32 × aw_M → Option (Int32 × aw_M)) (x1 : Int32) (x2 : Int32) (x3 : Int32) (μ : aw_M) : Option (Int32 × aw_M) :=
  (if x1 ≤ x3 then
  f_X11_table_310 F t k180 x1 x2 μ
  else
  (f_X11_octet F t (2 * x2) μ).bind fun r59 =>
  aw_g (aw_in 427 1155) (aw_let (aw_wI r59.2 (aw_rf t 6) (427 : Int32).toNatClampNeg (r59.1 + 1)) fun μ60 =>
  (f_X11_octet F t ((2 * x2) + 1) μ60).bind fun r61 =>
  aw_g (aw_in 436 1155) (aw_let (aw_wI r61.2 (aw_rf t 6) (436 : Int32).toNatClampNeg r61.1) fun μ62 =>
  (f_X11_octet F t (2 * x3) μ62).bind fun r63 =>
  aw_g (aw_in 428 1155) (aw_let (aw_wI r63.2 (aw_rf t 6) (428 : Int32).toNatClampNeg (r63.1 + 1)) fun μ64 =>
  (f_X11_octet F t ((2 * x3) + 1) μ64).bind fun r65 =>
  aw_g (aw_in 437 1155) (aw_let (aw_wI r65.2 (aw_rf t 6) (437 : Int32).toNatClampNeg r65.1) fun μ66 =>
  (f_X11_sureDay F t μ66).bind fun r67 =>
  aw_g (aw_in 0 9) (aw_g (aw_in ((12 * x2) + (2 * x3)) 72) (aw_let (aw_wI r67 (aw_rf t 39) ((12 * x2) + (2 * x3)).toNatClampNeg (r67.1 (aw_rf t 23) (0 : Int32).toNatClampNeg)) fun μ68 =>
  aw_g (aw_in 1 9) (aw_g (aw_in (((12 * x2) + (2 * x3)) + 1) 72) (aw_let (aw_wI μ68 (aw_rf t 39) (((12 * x2) + (2 * x3)) + 1).toNatClampNeg (μ68.1 (aw_rf t 23) (1 : Int32).toNatClampNeg)) fun μ69 =>
  k187 (x1, x2, (x3 + 1), μ69))))))))))
theorem c_X11_table_187 (l : Launch) (F : Nat) (t : Nat) (ht : (aw_sh t).1 = 16) (k180 : Int32 × Int32 × aw_M → Option (Int32 × aw_M)) (hk180 : ∀ s : Int32 × Int32 × aw_M, AW l k_X11_table aw_gi 180 [some (.ref t), some (.int s.1), some (.int s.2.1), none] [] s.2.2 (k180 s)) : ∀ (N : Nat) (s : Int32 × Int32 × Int32 × aw_M), AW l k_X11_table aw_gi 187 [some (.ref t), some (.int s.1), some (.int s.2.1), some (.int s.2.2.1)] [] s.2.2.2 (aw_loop (fun k s => f_X11_table_187 F t k k180 s.1 s.2.1 s.2.2.1 s.2.2.2) N s) := by
  refine aw_loop_ok (f := fun k s => f_X11_table_187 F t k k180 s.1 s.2.1 s.2.2.1 s.2.2.2) (Ls := fun s => [some (.ref t), some (.int s.1), some (.int s.2.1), some (.int s.2.2.1)]) (ms := fun s => s.2.2.2) ?_
  intro k187 hk187 s
  obtain ⟨x1, x2, x3, μ⟩ := s
  show AW l k_X11_table aw_gi 187 [some (.ref t), some (.int x1), some (.int x2), some (.int x3)] [] μ (f_X11_table_187 F t k187 k180 x1 x2 x3 μ)
  unfold f_X11_table_187
  refine aw_iload_n (n := 188) dX11_table_187 rfl rfl ?_
  refine aw_iload_n (n := 189) dX11_table_188 rfl rfl ?_
  refine aw_icmp_ge (n := 192) 310 dX11_table_189 (by decide) rfl ?_ ?_
  · exact aw_weak (c_X11_table_310 l F t ht k180 hk180 x1 x2 μ) (aw_ss (aw_ss (aw_ss (aw_sn aw_s0))))
  · refine aw_aload_n (n := 193) dX11_table_192 rfl rfl ?_
    refine aw_getR (n := 196) (RX11, TX11, 52) 11 6 dX11_table_193 rfl ht (by decide) fd_RX11_33 ?_
    refine aw_sipush (n := 199) 427 dX11_table_196 rfl (by decide) ?_
    refine aw_aload_n (n := 200) dX11_table_199 rfl rfl ?_
    refine aw_iconst (n := 201) 2 dX11_table_200 rfl (by decide) ?_
    refine aw_iload_n (n := 202) dX11_table_201 rfl rfl ?_
    refine aw_imul (n := 203) dX11_table_202 rfl ?_
    refine aw_callVi (n := 206) (as := [.int (2 * x2)]) (st := [.int 427, .ref (aw_rf t 6)]) (RX11, TX11, 52) 11 dX11_table_203 rfl rfl (m_X11_octet l F t ht (2 * x2) μ) ht (by decide) rfl rfl cw_RX11_330 ⟨Nat.le_of_ble_eq_true rfl, Nat.le_of_ble_eq_true rfl⟩ (fun _ => Nat.le_of_ble_eq_true rfl) (fun r59 => ?_)
    refine aw_iconst (n := 207) 1 dX11_table_206 rfl (by decide) ?_
    refine aw_iadd (n := 208) dX11_table_207 rfl ?_
    refine aw_iastore (n := 209) 1155 dX11_table_208 rfl (sf_11_6 ht) (fun μ60 => ?_)
    refine aw_aload_n (n := 210) dX11_table_209 rfl rfl ?_
    refine aw_getR (n := 213) (RX11, TX11, 52) 11 6 dX11_table_210 rfl ht (by decide) fd_RX11_33 ?_
    refine aw_sipush (n := 216) 436 dX11_table_213 rfl (by decide) ?_
    refine aw_aload_n (n := 217) dX11_table_216 rfl rfl ?_
    refine aw_iconst (n := 218) 2 dX11_table_217 rfl (by decide) ?_
    refine aw_iload_n (n := 219) dX11_table_218 rfl rfl ?_
    refine aw_imul (n := 220) dX11_table_219 rfl ?_
    refine aw_iconst (n := 221) 1 dX11_table_220 rfl (by decide) ?_
    refine aw_iadd (n := 222) dX11_table_221 rfl ?_
    refine aw_callVi (n := 225) (as := [.int ((2 * x2) + 1)]) (st := [.int 436, .ref (aw_rf t 6)]) (RX11, TX11, 52) 11 dX11_table_222 rfl rfl (m_X11_octet l F t ht ((2 * x2) + 1) μ60) ht (by decide) rfl rfl cw_RX11_330 ⟨Nat.le_of_ble_eq_true rfl, Nat.le_of_ble_eq_true rfl⟩ (fun _ => Nat.le_of_ble_eq_true rfl) (fun r61 => ?_)
    refine aw_iastore (n := 226) 1155 dX11_table_225 rfl (sf_11_6 ht) (fun μ62 => ?_)
    refine aw_aload_n (n := 227) dX11_table_226 rfl rfl ?_
    refine aw_getR (n := 230) (RX11, TX11, 52) 11 6 dX11_table_227 rfl ht (by decide) fd_RX11_33 ?_
    refine aw_sipush (n := 233) 428 dX11_table_230 rfl (by decide) ?_
    refine aw_aload_n (n := 234) dX11_table_233 rfl rfl ?_
    refine aw_iconst (n := 235) 2 dX11_table_234 rfl (by decide) ?_
    refine aw_iload_n (n := 236) dX11_table_235 rfl rfl ?_
    refine aw_imul (n := 237) dX11_table_236 rfl ?_
    refine aw_callVi (n := 240) (as := [.int (2 * x3)]) (st := [.int 428, .ref (aw_rf t 6)]) (RX11, TX11, 52) 11 dX11_table_237 rfl rfl (m_X11_octet l F t ht (2 * x3) μ62) ht (by decide) rfl rfl cw_RX11_330 ⟨Nat.le_of_ble_eq_true rfl, Nat.le_of_ble_eq_true rfl⟩ (fun _ => Nat.le_of_ble_eq_true rfl) (fun r63 => ?_)
    refine aw_iconst (n := 241) 1 dX11_table_240 rfl (by decide) ?_
    refine aw_iadd (n := 242) dX11_table_241 rfl ?_
    refine aw_iastore (n := 243) 1155 dX11_table_242 rfl (sf_11_6 ht) (fun μ64 => ?_)
    refine aw_aload_n (n := 244) dX11_table_243 rfl rfl ?_
    refine aw_getR (n := 247) (RX11, TX11, 52) 11 6 dX11_table_244 rfl ht (by decide) fd_RX11_33 ?_
    refine aw_sipush (n := 250) 437 dX11_table_247 rfl (by decide) ?_
    refine aw_aload_n (n := 251) dX11_table_250 rfl rfl ?_
    refine aw_iconst (n := 252) 2 dX11_table_251 rfl (by decide) ?_
    refine aw_iload_n (n := 253) dX11_table_252 rfl rfl ?_
    refine aw_imul (n := 254) dX11_table_253 rfl ?_
    refine aw_iconst (n := 255) 1 dX11_table_254 rfl (by decide) ?_
    refine aw_iadd (n := 256) dX11_table_255 rfl ?_
    refine aw_callVi (n := 259) (as := [.int ((2 * x3) + 1)]) (st := [.int 437, .ref (aw_rf t 6)]) (RX11, TX11, 52) 11 dX11_table_256 rfl rfl (m_X11_octet l F t ht ((2 * x3) + 1) μ64) ht (by decide) rfl rfl cw_RX11_330 ⟨Nat.le_of_ble_eq_true rfl, Nat.le_of_ble_eq_true rfl⟩ (fun _ => Nat.le_of_ble_eq_true rfl) (fun r65 => ?_)
    refine aw_iastore (n := 260) 1155 dX11_table_259 rfl (sf_11_6 ht) (fun μ66 => ?_)
    refine aw_aload_n (n := 261) dX11_table_260 rfl rfl ?_
    refine aw_callVv (n := 264) (as := []) (st := []) (RX11, TX11, 52) 11 dX11_table_261 rfl rfl (m_X11_sureDay l F t ht μ66) ht (by decide) rfl rfl cw_RX11_323 ⟨Nat.le_of_ble_eq_true rfl, Nat.le_of_ble_eq_true rfl⟩ (fun _ => Nat.le_of_ble_eq_true rfl) (fun r67 => ?_)
    refine aw_aload_n (n := 265) dX11_table_264 rfl rfl ?_
    refine aw_getR (n := 268) (RX11, TX11, 52) 11 39 dX11_table_265 rfl ht (by decide) fd_RX11_90 ?_
    refine aw_bipush (n := 270) 12 dX11_table_268 rfl (by decide) ?_
    refine aw_iload_n (n := 271) dX11_table_270 rfl rfl ?_
    refine aw_imul (n := 272) dX11_table_271 rfl ?_
    refine aw_iconst (n := 273) 2 dX11_table_272 rfl (by decide) ?_
    refine aw_iload_n (n := 274) dX11_table_273 rfl rfl ?_
    refine aw_imul (n := 275) dX11_table_274 rfl ?_
    refine aw_iadd (n := 276) dX11_table_275 rfl ?_
    refine aw_aload_n (n := 277) dX11_table_276 rfl rfl ?_
    refine aw_getR (n := 280) (RX11, TX11, 52) 11 23 dX11_table_277 rfl ht (by decide) fd_RX11_53 ?_
    refine aw_iconst (n := 281) 0 dX11_table_280 rfl (by decide) ?_
    refine aw_iaload (n := 282) 9 dX11_table_281 rfl (sf_11_23 ht) ?_
    refine aw_iastore (n := 283) 72 dX11_table_282 rfl (sf_11_39 ht) (fun μ68 => ?_)
    refine aw_aload_n (n := 284) dX11_table_283 rfl rfl ?_
    refine aw_getR (n := 287) (RX11, TX11, 52) 11 39 dX11_table_284 rfl ht (by decide) fd_RX11_90 ?_
    refine aw_bipush (n := 289) 12 dX11_table_287 rfl (by decide) ?_
    refine aw_iload_n (n := 290) dX11_table_289 rfl rfl ?_
    refine aw_imul (n := 291) dX11_table_290 rfl ?_
    refine aw_iconst (n := 292) 2 dX11_table_291 rfl (by decide) ?_
    refine aw_iload_n (n := 293) dX11_table_292 rfl rfl ?_
    refine aw_imul (n := 294) dX11_table_293 rfl ?_
    refine aw_iadd (n := 295) dX11_table_294 rfl ?_
    refine aw_iconst (n := 296) 1 dX11_table_295 rfl (by decide) ?_
    refine aw_iadd (n := 297) dX11_table_296 rfl ?_
    refine aw_aload_n (n := 298) dX11_table_297 rfl rfl ?_
    refine aw_getR (n := 301) (RX11, TX11, 52) 11 23 dX11_table_298 rfl ht (by decide) fd_RX11_53 ?_
    refine aw_iconst (n := 302) 1 dX11_table_301 rfl (by decide) ?_
    refine aw_iaload (n := 303) 9 dX11_table_302 rfl (sf_11_23 ht) ?_
    refine aw_iastore (n := 304) 72 dX11_table_303 rfl (sf_11_39 ht) (fun μ69 => ?_)
    refine aw_iinc (n := 307) (x3 + 1) [some (.ref t), some (.int x1), some (.int x2), some (.int (x3 + 1))] dX11_table_304 rfl rfl (by rfl) rfl (Nat.le_of_ble_eq_true rfl) rfl ?_
    refine aw_goto 187 dX11_table_307 (by decide) ?_
    exact aw_weak (hk187 (x1, x2, (x3 + 1), μ69)) (aw_ss (aw_ss (aw_ss (aw_ss aw_s0))))
def f_X11_table_180 (F : Nat) (t : Nat) (k180 : Int32 × Int32 × aw_M → Option (Int32 × aw_M)) (x1 : Int32) (x2 : Int32) (μ : aw_M) : Option (Int32 × aw_M) :=
  (if x1 ≤ x2 then
  f_X11_table_316 F t x1 μ
  else
  aw_loop (fun k s => f_X11_table_187 F t k k180 s.1 s.2.1 s.2.2.1 s.2.2.2) F (x1, x2, 0, μ))
theorem c_X11_table_180 (l : Launch) (F : Nat) (t : Nat) (ht : (aw_sh t).1 = 16) : ∀ (N : Nat) (s : Int32 × Int32 × aw_M), AW l k_X11_table aw_gi 180 [some (.ref t), some (.int s.1), some (.int s.2.1), none] [] s.2.2 (aw_loop (fun k s => f_X11_table_180 F t k s.1 s.2.1 s.2.2) N s) := by
  refine aw_loop_ok (f := fun k s => f_X11_table_180 F t k s.1 s.2.1 s.2.2) (Ls := fun s => [some (.ref t), some (.int s.1), some (.int s.2.1), none]) (ms := fun s => s.2.2) ?_
  intro k180 hk180 s
  obtain ⟨x1, x2, μ⟩ := s
  show AW l k_X11_table aw_gi 180 [some (.ref t), some (.int x1), some (.int x2), none] [] μ (f_X11_table_180 F t k180 x1 x2 μ)
  unfold f_X11_table_180
  refine aw_iload_n (n := 181) dX11_table_180 rfl rfl ?_
  refine aw_iload_n (n := 182) dX11_table_181 rfl rfl ?_
  refine aw_icmp_ge (n := 185) 316 dX11_table_182 (by decide) rfl ?_ ?_
  · exact aw_weak (c_X11_table_316 l F t ht x1 μ) (aw_ss (aw_ss (aw_sn (aw_sn aw_s0))))
  · refine aw_iconst (n := 186) 0 dX11_table_185 rfl (by decide) ?_
    refine aw_istore_n (n := 187) [some (.ref t), some (.int x1), some (.int x2), some (.int 0)] dX11_table_186 rfl rfl (Nat.le_of_ble_eq_true rfl) (Nat.le_of_ble_eq_true rfl) rfl ?_
    exact aw_weak (c_X11_table_187 l F t ht k180 hk180 F (x1, x2, 0, μ)) (aw_ss (aw_ss (aw_ss (aw_ss aw_s0))))
def f_X11_table_178 (F : Nat) (t : Nat) (x1 : Int32) (μ : aw_M) : Option (Int32 × aw_M) :=
  aw_loop (fun k s => f_X11_table_180 F t k s.1 s.2.1 s.2.2) F (x1, 0, μ)
theorem c_X11_table_178 (l : Launch) (F : Nat) (t : Nat) (ht : (aw_sh t).1 = 16) (x1 : Int32) (μ : aw_M) : AW l k_X11_table aw_gi 178 [some (.ref t), some (.int x1), none, none] [] μ (f_X11_table_178 F t x1 μ) := by
  unfold f_X11_table_178
  refine aw_iconst (n := 179) 0 dX11_table_178 rfl (by decide) ?_
  refine aw_istore_n (n := 180) [some (.ref t), some (.int x1), some (.int 0), none] dX11_table_179 rfl rfl (Nat.le_of_ble_eq_true rfl) (Nat.le_of_ble_eq_true rfl) rfl ?_
  exact aw_weak (c_X11_table_180 l F t ht F (x1, 0, μ)) (aw_ss (aw_ss (aw_ss (aw_sn aw_s0))))
def f_X11_table_98 (F : Nat) (t : Nat) (k98 : Int32 × Int32 × aw_M → Option (Int32 × aw_M)) (x1 : Int32) (x2 : Int32) (μ : aw_M) : Option (Int32 × aw_M) :=
  (if 2 ≤ x2 then
  f_X11_table_178 F t x1 μ
  else
  aw_g (aw_in (427 + x2) 1155) (aw_g (aw_in (3 * x2) 6) (aw_let (aw_wI μ (aw_rf t 40) (3 * x2).toNatClampNeg (μ.1 (aw_rf t 6) (427 + x2).toNatClampNeg)) fun μ70 =>
  aw_g (aw_in (436 + x2) 1155) (aw_g (aw_in ((3 * x2) + 1) 6) (aw_let (aw_wI μ70 (aw_rf t 40) ((3 * x2) + 1).toNatClampNeg (μ70.1 (aw_rf t 6) (436 + x2).toNatClampNeg)) fun μ71 =>
  aw_g (aw_in (445 + x2) 1155) (aw_g (aw_in ((3 * x2) + 2) 6) (aw_let (aw_wI μ71 (aw_rf t 40) ((3 * x2) + 2).toNatClampNeg (μ71.1 (aw_rf t 6) (445 + x2).toNatClampNeg)) fun μ72 =>
  aw_g (aw_in (445 + x2) 1155) (aw_let (aw_wI μ72 (aw_rf t 6) (445 + x2).toNatClampNeg 0) fun μ73 =>
  k98 (x1, (x2 + 1), μ73)))))))))
theorem c_X11_table_98 (l : Launch) (F : Nat) (t : Nat) (ht : (aw_sh t).1 = 16) : ∀ (N : Nat) (s : Int32 × Int32 × aw_M), AW l k_X11_table aw_gi 98 [some (.ref t), some (.int s.1), some (.int s.2.1), none] [] s.2.2 (aw_loop (fun k s => f_X11_table_98 F t k s.1 s.2.1 s.2.2) N s) := by
  refine aw_loop_ok (f := fun k s => f_X11_table_98 F t k s.1 s.2.1 s.2.2) (Ls := fun s => [some (.ref t), some (.int s.1), some (.int s.2.1), none]) (ms := fun s => s.2.2) ?_
  intro k98 hk98 s
  obtain ⟨x1, x2, μ⟩ := s
  show AW l k_X11_table aw_gi 98 [some (.ref t), some (.int x1), some (.int x2), none] [] μ (f_X11_table_98 F t k98 x1 x2 μ)
  unfold f_X11_table_98
  refine aw_iload_n (n := 99) dX11_table_98 rfl rfl ?_
  refine aw_iconst (n := 100) 2 dX11_table_99 rfl (by decide) ?_
  refine aw_icmp_ge (n := 103) 178 dX11_table_100 (by decide) rfl ?_ ?_
  · exact aw_weak (c_X11_table_178 l F t ht x1 μ) (aw_ss (aw_ss (aw_sn (aw_sn aw_s0))))
  · refine aw_aload_n (n := 104) dX11_table_103 rfl rfl ?_
    refine aw_getR (n := 107) (RX11, TX11, 52) 11 40 dX11_table_104 rfl ht (by decide) fd_RX11_93 ?_
    refine aw_iconst (n := 108) 3 dX11_table_107 rfl (by decide) ?_
    refine aw_iload_n (n := 109) dX11_table_108 rfl rfl ?_
    refine aw_imul (n := 110) dX11_table_109 rfl ?_
    refine aw_aload_n (n := 111) dX11_table_110 rfl rfl ?_
    refine aw_getR (n := 114) (RX11, TX11, 52) 11 6 dX11_table_111 rfl ht (by decide) fd_RX11_33 ?_
    refine aw_sipush (n := 117) 427 dX11_table_114 rfl (by decide) ?_
    refine aw_iload_n (n := 118) dX11_table_117 rfl rfl ?_
    refine aw_iadd (n := 119) dX11_table_118 rfl ?_
    refine aw_iaload (n := 120) 1155 dX11_table_119 rfl (sf_11_6 ht) ?_
    refine aw_iastore (n := 121) 6 dX11_table_120 rfl (sf_11_40 ht) (fun μ70 => ?_)
    refine aw_aload_n (n := 122) dX11_table_121 rfl rfl ?_
    refine aw_getR (n := 125) (RX11, TX11, 52) 11 40 dX11_table_122 rfl ht (by decide) fd_RX11_93 ?_
    refine aw_iconst (n := 126) 3 dX11_table_125 rfl (by decide) ?_
    refine aw_iload_n (n := 127) dX11_table_126 rfl rfl ?_
    refine aw_imul (n := 128) dX11_table_127 rfl ?_
    refine aw_iconst (n := 129) 1 dX11_table_128 rfl (by decide) ?_
    refine aw_iadd (n := 130) dX11_table_129 rfl ?_
    refine aw_aload_n (n := 131) dX11_table_130 rfl rfl ?_
    refine aw_getR (n := 134) (RX11, TX11, 52) 11 6 dX11_table_131 rfl ht (by decide) fd_RX11_33 ?_
    refine aw_sipush (n := 137) 436 dX11_table_134 rfl (by decide) ?_
    refine aw_iload_n (n := 138) dX11_table_137 rfl rfl ?_
    refine aw_iadd (n := 139) dX11_table_138 rfl ?_
    refine aw_iaload (n := 140) 1155 dX11_table_139 rfl (sf_11_6 ht) ?_
    refine aw_iastore (n := 141) 6 dX11_table_140 rfl (sf_11_40 ht) (fun μ71 => ?_)
    refine aw_aload_n (n := 142) dX11_table_141 rfl rfl ?_
    refine aw_getR (n := 145) (RX11, TX11, 52) 11 40 dX11_table_142 rfl ht (by decide) fd_RX11_93 ?_
    refine aw_iconst (n := 146) 3 dX11_table_145 rfl (by decide) ?_
    refine aw_iload_n (n := 147) dX11_table_146 rfl rfl ?_
    refine aw_imul (n := 148) dX11_table_147 rfl ?_
    refine aw_iconst (n := 149) 2 dX11_table_148 rfl (by decide) ?_
    refine aw_iadd (n := 150) dX11_table_149 rfl ?_
    refine aw_aload_n (n := 151) dX11_table_150 rfl rfl ?_
    refine aw_getR (n := 154) (RX11, TX11, 52) 11 6 dX11_table_151 rfl ht (by decide) fd_RX11_33 ?_
    refine aw_sipush (n := 157) 445 dX11_table_154 rfl (by decide) ?_
    refine aw_iload_n (n := 158) dX11_table_157 rfl rfl ?_
    refine aw_iadd (n := 159) dX11_table_158 rfl ?_
    refine aw_iaload (n := 160) 1155 dX11_table_159 rfl (sf_11_6 ht) ?_
    refine aw_iastore (n := 161) 6 dX11_table_160 rfl (sf_11_40 ht) (fun μ72 => ?_)
    refine aw_aload_n (n := 162) dX11_table_161 rfl rfl ?_
    refine aw_getR (n := 165) (RX11, TX11, 52) 11 6 dX11_table_162 rfl ht (by decide) fd_RX11_33 ?_
    refine aw_sipush (n := 168) 445 dX11_table_165 rfl (by decide) ?_
    refine aw_iload_n (n := 169) dX11_table_168 rfl rfl ?_
    refine aw_iadd (n := 170) dX11_table_169 rfl ?_
    refine aw_iconst (n := 171) 0 dX11_table_170 rfl (by decide) ?_
    refine aw_iastore (n := 172) 1155 dX11_table_171 rfl (sf_11_6 ht) (fun μ73 => ?_)
    refine aw_iinc (n := 175) (x2 + 1) [some (.ref t), some (.int x1), some (.int (x2 + 1)), none] dX11_table_172 rfl rfl (by rfl) rfl (Nat.le_of_ble_eq_true rfl) rfl ?_
    refine aw_goto 98 dX11_table_175 (by decide) ?_
    exact aw_weak (hk98 (x1, (x2 + 1), μ73)) (aw_ss (aw_ss (aw_ss (aw_sn aw_s0))))
def f_X11_table_96 (F : Nat) (t : Nat) (x1 : Int32) (μ : aw_M) : Option (Int32 × aw_M) :=
  aw_loop (fun k s => f_X11_table_98 F t k s.1 s.2.1 s.2.2) F (x1, 0, μ)
theorem c_X11_table_96 (l : Launch) (F : Nat) (t : Nat) (ht : (aw_sh t).1 = 16) (x1 : Int32) (μ : aw_M) : AW l k_X11_table aw_gi 96 [some (.ref t), some (.int x1), none, none] [] μ (f_X11_table_96 F t x1 μ) := by
  unfold f_X11_table_96
  refine aw_iconst (n := 97) 0 dX11_table_96 rfl (by decide) ?_
  refine aw_istore_n (n := 98) [some (.ref t), some (.int x1), some (.int 0), none] dX11_table_97 rfl rfl (Nat.le_of_ble_eq_true rfl) (Nat.le_of_ble_eq_true rfl) rfl ?_
  exact aw_weak (c_X11_table_98 l F t ht F (x1, 0, μ)) (aw_ss (aw_ss (aw_ss (aw_sn aw_s0))))
def f_X11_table_57 (F : Nat) (t : Nat) (k57 : Int32 × Int32 × aw_M → Option (Int32 × aw_M)) (x1 : Int32) (x2 : Int32) (μ : aw_M) : Option (Int32 × aw_M) :=
  (if x1 ≤ x2 then
  f_X11_table_96 F t x1 μ
  else
  (f_X11_octet F t (2 * x2) μ).bind fun r74 =>
  (if 18 < r74.1 then
  some ((-1), r74.2)
  else
  (f_X11_octet F t ((2 * x2) + 1) r74.2).bind fun r75 =>
  (if r75.1 ≤ 99 then
  k57 (x1, (x2 + 1), r75.2)
  else
  some ((-1), r75.2))))
theorem c_X11_table_57 (l : Launch) (F : Nat) (t : Nat) (ht : (aw_sh t).1 = 16) : ∀ (N : Nat) (s : Int32 × Int32 × aw_M), AW l k_X11_table aw_gi 57 [some (.ref t), some (.int s.1), some (.int s.2.1), none] [] s.2.2 (aw_loop (fun k s => f_X11_table_57 F t k s.1 s.2.1 s.2.2) N s) := by
  refine aw_loop_ok (f := fun k s => f_X11_table_57 F t k s.1 s.2.1 s.2.2) (Ls := fun s => [some (.ref t), some (.int s.1), some (.int s.2.1), none]) (ms := fun s => s.2.2) ?_
  intro k57 hk57 s
  obtain ⟨x1, x2, μ⟩ := s
  show AW l k_X11_table aw_gi 57 [some (.ref t), some (.int x1), some (.int x2), none] [] μ (f_X11_table_57 F t k57 x1 x2 μ)
  unfold f_X11_table_57
  refine aw_iload_n (n := 58) dX11_table_57 rfl rfl ?_
  refine aw_iload_n (n := 59) dX11_table_58 rfl rfl ?_
  refine aw_icmp_ge (n := 62) 96 dX11_table_59 (by decide) rfl ?_ ?_
  · exact aw_weak (c_X11_table_96 l F t ht x1 μ) (aw_ss (aw_ss (aw_sn (aw_sn aw_s0))))
  · refine aw_aload_n (n := 63) dX11_table_62 rfl rfl ?_
    refine aw_iconst (n := 64) 2 dX11_table_63 rfl (by decide) ?_
    refine aw_iload_n (n := 65) dX11_table_64 rfl rfl ?_
    refine aw_imul (n := 66) dX11_table_65 rfl ?_
    refine aw_callVi (n := 69) (as := [.int (2 * x2)]) (st := []) (RX11, TX11, 52) 11 dX11_table_66 rfl rfl (m_X11_octet l F t ht (2 * x2) μ) ht (by decide) rfl rfl cw_RX11_330 ⟨Nat.le_of_ble_eq_true rfl, Nat.le_of_ble_eq_true rfl⟩ (fun _ => Nat.le_of_ble_eq_true rfl) (fun r74 => ?_)
    refine aw_bipush (n := 71) 18 dX11_table_69 rfl (by decide) ?_
    refine aw_icmp_gt (n := 74) 88 dX11_table_71 (by decide) rfl ?_ ?_
    · refine aw_iconst (n := 89) (-1) dX11_table_88 rfl (by decide) ?_
      exact aw_ireturn dX11_table_89 rfl rfl
    · refine aw_aload_n (n := 75) dX11_table_74 rfl rfl ?_
      refine aw_iconst (n := 76) 2 dX11_table_75 rfl (by decide) ?_
      refine aw_iload_n (n := 77) dX11_table_76 rfl rfl ?_
      refine aw_imul (n := 78) dX11_table_77 rfl ?_
      refine aw_iconst (n := 79) 1 dX11_table_78 rfl (by decide) ?_
      refine aw_iadd (n := 80) dX11_table_79 rfl ?_
      refine aw_callVi (n := 83) (as := [.int ((2 * x2) + 1)]) (st := []) (RX11, TX11, 52) 11 dX11_table_80 rfl rfl (m_X11_octet l F t ht ((2 * x2) + 1) r74.2) ht (by decide) rfl rfl cw_RX11_330 ⟨Nat.le_of_ble_eq_true rfl, Nat.le_of_ble_eq_true rfl⟩ (fun _ => Nat.le_of_ble_eq_true rfl) (fun r75 => ?_)
      refine aw_bipush (n := 85) 99 dX11_table_83 rfl (by decide) ?_
      refine aw_icmp_le (n := 88) 90 dX11_table_85 (by decide) rfl ?_ ?_
      · refine aw_iinc (n := 93) (x2 + 1) [some (.ref t), some (.int x1), some (.int (x2 + 1)), none] dX11_table_90 rfl rfl (by rfl) rfl (Nat.le_of_ble_eq_true rfl) rfl ?_
        refine aw_goto 57 dX11_table_93 (by decide) ?_
        exact aw_weak (hk57 (x1, (x2 + 1), r75.2)) (aw_ss (aw_ss (aw_ss (aw_sn aw_s0))))
      · refine aw_iconst (n := 89) (-1) dX11_table_88 rfl (by decide) ?_
        exact aw_ireturn dX11_table_89 rfl rfl
def f_X11_table (F : Nat) (t : Nat) (μ : aw_M) : Option (Int32 × aw_M) :=
  aw_let (aw_wI μ t 0 0) fun μ51 =>
  (f_X11_taken F t 940 μ51).bind fun r52 =>
  aw_g (aw_in 2 1155) ((if (r52.1 (aw_rf t 6) (2 : Int32).toNatClampNeg) < 2 then
  some ((-1), r52)
  else
  (if ((r52.1 t 3) - (r52.1 t 3) / 2 * 2) = 0 then
  (f_X11_isIn F ((r52.1 t 3) / 2) 1 6 r52).bind fun r53 =>
  (if r53.1 = true then
  aw_let (((r53.2.1 t 3) / 2)) fun v54 =>
  aw_loop (fun k s => f_X11_table_57 F t k s.1 s.2.1 s.2.2) F (v54, 0, r53.2)
  else
  some ((-1), r53.2))
  else
  some ((-1), r52))))
theorem m_X11_table (l : Launch) (F : Nat) (t : Nat) (ht : (aw_sh t).1 = 16) (μ : aw_M) : AM l yX11_table cX11_table 4 (some .int) 7 263 aw_gi [.ref t] μ (f_X11_table F t μ) := by
  refine aw_met [some (.ref t), none, none, none] (by decide) (fun _ => rfl) (fun _ => Nat.le_of_ble_eq_true rfl) ?_
  show AW l k_X11_table aw_gi 0 [some (.ref t), none, none, none] [] μ _
  unfold f_X11_table
  refine aw_aload_n (n := 1) dX11_table_0 rfl rfl ?_
  refine aw_iconst (n := 2) 0 dX11_table_1 rfl (by decide) ?_
  refine aw_putI (n := 5) (RX11, TX11, 52) 11 0 dX11_table_2 rfl ht (by decide) fp_RX11_1 (fun μ51 => ?_)
  refine aw_aload_n (n := 6) dX11_table_5 rfl rfl ?_
  refine aw_sipush (n := 9) 940 dX11_table_6 rfl (by decide) ?_
  refine aw_callVv (n := 12) (as := [.int 940]) (st := []) (RX11, TX11, 52) 11 dX11_table_9 rfl rfl (m_X11_taken l F t ht 940 μ51) ht (by decide) rfl rfl cw_RX11_236 ⟨Nat.le_of_ble_eq_true rfl, Nat.le_of_ble_eq_true rfl⟩ (fun _ => Nat.le_of_ble_eq_true rfl) (fun r52 => ?_)
  refine aw_aload_n (n := 13) dX11_table_12 rfl rfl ?_
  refine aw_getR (n := 16) (RX11, TX11, 52) 11 6 dX11_table_13 rfl ht (by decide) fd_RX11_33 ?_
  refine aw_iconst (n := 17) 2 dX11_table_16 rfl (by decide) ?_
  refine aw_iaload (n := 18) 1155 dX11_table_17 rfl (sf_11_6 ht) ?_
  refine aw_iconst (n := 19) 2 dX11_table_18 rfl (by decide) ?_
  refine aw_icmp_lt (n := 22) 46 dX11_table_19 (by decide) rfl ?_ ?_
  · refine aw_iconst (n := 47) (-1) dX11_table_46 rfl (by decide) ?_
    exact aw_ireturn dX11_table_47 rfl rfl
  · refine aw_aload_n (n := 23) dX11_table_22 rfl rfl ?_
    refine aw_getI (n := 26) (RX11, TX11, 52) 11 3 dX11_table_23 rfl ht (by decide) fd_RX11_18 ?_
    refine aw_iconst (n := 27) 2 dX11_table_26 rfl (by decide) ?_
    refine aw_iremK (n := 28) dX11_table_27 rfl (by decide) ?_
    refine aw_if_ne (n := 31) 46 dX11_table_28 (by decide) rfl ?_ ?_
    · refine aw_iconst (n := 47) (-1) dX11_table_46 rfl (by decide) ?_
      exact aw_ireturn dX11_table_47 rfl rfl
    · refine aw_aload_n (n := 32) dX11_table_31 rfl rfl ?_
      refine aw_getI (n := 35) (RX11, TX11, 52) 11 3 dX11_table_32 rfl ht (by decide) fd_RX11_18 ?_
      refine aw_iconst (n := 36) 2 dX11_table_35 rfl (by decide) ?_
      refine aw_idivK (n := 37) dX11_table_36 rfl (by decide) ?_
      refine aw_iconst (n := 38) 1 dX11_table_37 rfl (by decide) ?_
      refine aw_bipush (n := 40) 6 dX11_table_38 rfl (by decide) ?_
      refine aw_callSz (n := 43) (as := [.int ((r52.1 t 3) / 2), .int 1, .int 6]) (st := []) dX11_table_40 rfl rfl (m_X11_isIn l F ((r52.1 t 3) / 2) 1 6 r52) cw_RX11_194 ⟨Nat.le_of_ble_eq_true rfl, Nat.le_of_ble_eq_true rfl⟩ (fun _ => Nat.le_of_ble_eq_true rfl) (fun r53 => ?_)
      refine aw_ifb_ne (n := 46) 48 dX11_table_43 (by decide) rfl ?_ ?_
      · refine aw_aload_n (n := 49) dX11_table_48 rfl rfl ?_
        refine aw_getI (n := 52) (RX11, TX11, 52) 11 3 dX11_table_49 rfl ht (by decide) fd_RX11_18 ?_
        refine aw_iconst (n := 53) 2 dX11_table_52 rfl (by decide) ?_
        refine aw_idivK (n := 54) dX11_table_53 rfl (by decide) ?_
        refine aw_nmI (fun v54 => ?_)
        refine aw_istore_n (n := 55) [some (.ref t), some (.int v54), none, none] dX11_table_54 rfl rfl (Nat.le_of_ble_eq_true rfl) (Nat.le_of_ble_eq_true rfl) rfl ?_
        refine aw_iconst (n := 56) 0 dX11_table_55 rfl (by decide) ?_
        refine aw_istore_n (n := 57) [some (.ref t), some (.int v54), some (.int 0), none] dX11_table_56 rfl rfl (Nat.le_of_ble_eq_true rfl) (Nat.le_of_ble_eq_true rfl) rfl ?_
        exact aw_weak (c_X11_table_57 l F t ht F (v54, 0, r53.2)) (aw_ss (aw_ss (aw_ss (aw_sn aw_s0))))
      · refine aw_iconst (n := 47) (-1) dX11_table_46 rfl (by decide) ?_
        exact aw_ireturn dX11_table_47 rfl rfl
