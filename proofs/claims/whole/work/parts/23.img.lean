theorem tb_611 : Cond.fieldLink RX10 23 "OrangeFight" "kept" "[LOrangeFight$Scene;" ∈ aw_TB := aw_tb 611 (by decide +kernel) (by decide +kernel)
theorem fd_RX10_23 : aw_fd (RX10, TX10, 12) 10 2 RX10 23 2 := ⟨rfl, by decide, tb_611, inTB_10, rfl⟩
theorem sf_10_2 {a : Nat} (h : (aw_sh a).1 = 15) : aw_sh (aw_rf a 2) = (4, 2) := aw_fld 2 (ci := 10) h (by decide) rfl
theorem tb_1330 : Cond.code yX4_takeFrom cX4_takeFrom 2 none ∈ aw_TB := aw_tb 1330 (by decide +kernel) (by decide +kernel)
theorem tb_1327 : Cond.methodLink RX10 323 yX4_takeFrom ∈ aw_TB := aw_tb 1327 (by decide +kernel) (by decide +kernel)
theorem tb_1328 : Cond.instanceMethod yX4_takeFrom ∈ aw_TB := aw_tb 1328 (by decide +kernel) (by decide +kernel)
theorem tb_1329 : Cond.selects RX4 yX4_takeFrom yX4_takeFrom ∈ aw_TB := aw_tb 1329 (by decide +kernel) (by decide +kernel)
theorem cw_RX10_323 : aw_cv RX10 323 yX4_takeFrom cX4_takeFrom 2 none 1 := ⟨⟨tb_1330, tb_7, ⟨by decide, by decide⟩, by decide +kernel, tb_1327⟩, tb_1328, tb_1329⟩
theorem tb_612 : Cond.fieldLink RX10 27 "OrangeFight" "filled" "[Z" ∈ aw_TB := aw_tb 612 (by decide +kernel) (by decide +kernel)
theorem fd_RX10_27 : aw_fd (RX10, TX10, 12) 10 3 RX10 27 2 := ⟨rfl, by decide, tb_612, inTB_10, rfl⟩
theorem sf_10_3 {a : Nat} (h : (aw_sh a).1 = 15) : aw_sh (aw_rf a 3) = (2, 2) := aw_fld 3 (ci := 10) h (by decide) rfl
section aw_img
variable {ρ : Type} {l : Launch} {K : aw_K} {g : ρ → Option Value × aw_M} {pc n : Nat} {L : List (Option Value)} {st : List Value} {μ : aw_M} {o : Option ρ}
theorem aw_aaloadH (len : Nat) {a : Nat} {i : Int32} (hd : decode K.2.1 pc = .ok (.aaload, 1)) (hn : pc + 1 = n) (ha : aw_sh a = (4, len)) (k : aw_in i len = true → AW l K g n L (.ref (aw_rf a i.toNatClampNeg) :: st) μ o) : AW l K g pc L (.int i :: .ref a :: st) μ (aw_g (aw_in i len) o) := by
  intro p e R s m args below meth c E D C ad A H locs X ls hl r hr
  exact aw_aaload len hd hn ha (k (aw_g_some hr).1) p e R s m args below meth c E D C ad A H locs X ls hl r hr
end aw_img
theorem sf_S_all : ∀ a < 231, (aw_sh a).1 = 4 → ∀ j < 2, (aw_sh (aw_rf a j)).1 = 9 := by decide +kernel
theorem sf_S {a : Nat} {i : Int32} (h : (aw_sh a).1 = 4) (hi : aw_in i 2 = true) : (aw_sh (aw_rf a i.toNatClampNeg)).1 = 9 := by
  obtain ⟨j, hj, rfl⟩ := vp_in_of (aw_in_vp hi) (by decide)
  rw [nI_clamp (by omega)]
  exact sf_S_all a (aw_sh_lt h (by decide)) h j hj
theorem dX10_image_0 : decode cX10_image 0 = .ok (.iload_n 1, 1) := by decide +kernel
theorem dX10_image_1 : decode cX10_image 1 = .ok (.ifCond .lt 8, 3) := by decide +kernel
theorem dX10_image_4 : decode cX10_image 4 = .ok (.iload_n 1, 1) := by decide +kernel
theorem dX10_image_5 : decode cX10_image 5 = .ok (.iconst 2, 1) := by decide +kernel
theorem dX10_image_6 : decode cX10_image 6 = .ok (.if_icmp .lt 5, 3) := by decide +kernel
theorem dX10_image_9 : decode cX10_image 9 = .ok (.iconst 0, 1) := by decide +kernel
theorem dX10_image_10 : decode cX10_image 10 = .ok (.ireturn, 1) := by decide +kernel
theorem dX10_image_11 : decode cX10_image 11 = .ok (.aload_n 0, 1) := by decide +kernel
theorem dX10_image_12 : decode cX10_image 12 = .ok (.getfield 23, 3) := by decide +kernel
theorem dX10_image_15 : decode cX10_image 15 = .ok (.iload_n 1, 1) := by decide +kernel
theorem dX10_image_16 : decode cX10_image 16 = .ok (.aaload, 1) := by decide +kernel
theorem dX10_image_17 : decode cX10_image 17 = .ok (.aload_n 0, 1) := by decide +kernel
theorem dX10_image_18 : decode cX10_image 18 = .ok (.getfield 19, 3) := by decide +kernel
theorem dX10_image_21 : decode cX10_image 21 = .ok (.invokevirtual 323, 3) := by decide +kernel
theorem dX10_image_24 : decode cX10_image 24 = .ok (.aload_n 0, 1) := by decide +kernel
theorem dX10_image_25 : decode cX10_image 25 = .ok (.getfield 27, 3) := by decide +kernel
theorem dX10_image_28 : decode cX10_image 28 = .ok (.iload_n 1, 1) := by decide +kernel
theorem dX10_image_29 : decode cX10_image 29 = .ok (.iconst 1, 1) := by decide +kernel
theorem dX10_image_30 : decode cX10_image 30 = .ok (.bastore, 1) := by decide +kernel
theorem dX10_image_31 : decode cX10_image 31 = .ok (.iconst 1, 1) := by decide +kernel
theorem dX10_image_32 : decode cX10_image 32 = .ok (.ireturn, 1) := by decide +kernel
theorem dX10_restore_0 : decode cX10_restore 0 = .ok (.iload_n 1, 1) := by decide +kernel
theorem dX10_restore_1 : decode cX10_restore 1 = .ok (.ifCond .lt 17, 3) := by decide +kernel
theorem dX10_restore_4 : decode cX10_restore 4 = .ok (.iload_n 1, 1) := by decide +kernel
theorem dX10_restore_5 : decode cX10_restore 5 = .ok (.iconst 2, 1) := by decide +kernel
theorem dX10_restore_6 : decode cX10_restore 6 = .ok (.if_icmp .ge 12, 3) := by decide +kernel
theorem dX10_restore_9 : decode cX10_restore 9 = .ok (.aload_n 0, 1) := by decide +kernel
theorem dX10_restore_10 : decode cX10_restore 10 = .ok (.getfield 27, 3) := by decide +kernel
theorem dX10_restore_13 : decode cX10_restore 13 = .ok (.iload_n 1, 1) := by decide +kernel
theorem dX10_restore_14 : decode cX10_restore 14 = .ok (.baload, 1) := by decide +kernel
theorem dX10_restore_15 : decode cX10_restore 15 = .ok (.ifCond .ne 5, 3) := by decide +kernel
theorem dX10_restore_18 : decode cX10_restore 18 = .ok (.iconst 0, 1) := by decide +kernel
theorem dX10_restore_19 : decode cX10_restore 19 = .ok (.ireturn, 1) := by decide +kernel
theorem dX10_restore_20 : decode cX10_restore 20 = .ok (.aload_n 0, 1) := by decide +kernel
theorem dX10_restore_21 : decode cX10_restore 21 = .ok (.getfield 19, 3) := by decide +kernel
theorem dX10_restore_24 : decode cX10_restore 24 = .ok (.aload_n 0, 1) := by decide +kernel
theorem dX10_restore_25 : decode cX10_restore 25 = .ok (.getfield 23, 3) := by decide +kernel
theorem dX10_restore_28 : decode cX10_restore 28 = .ok (.iload_n 1, 1) := by decide +kernel
theorem dX10_restore_29 : decode cX10_restore 29 = .ok (.aaload, 1) := by decide +kernel
theorem dX10_restore_30 : decode cX10_restore 30 = .ok (.invokevirtual 323, 3) := by decide +kernel
theorem dX10_restore_33 : decode cX10_restore 33 = .ok (.iconst 1, 1) := by decide +kernel
theorem dX10_restore_34 : decode cX10_restore 34 = .ok (.ireturn, 1) := by decide +kernel
abbrev k_X10_image : aw_K := (RX10, cX10_image, 2, (some .boolean), 5, 210)
def f_X10_image (F : Nat) (t : Nat) (a0 : Int32) (μ : aw_M) : Option (Bool × aw_M) :=
  (if a0 < 0 then
  some (false, μ)
  else
  (if a0 < 2 then
  aw_g (aw_in a0 2) ((f_X4_takeFrom F (aw_rf (aw_rf t 2) a0.toNatClampNeg) (aw_rf t 1) μ).bind fun r2 =>
  aw_g (aw_in a0 2) (aw_let (aw_wI r2 (aw_rf t 3) a0.toNatClampNeg (vp_nar .boolean 1)) fun μ3 =>
  some (true, μ3)))
  else
  some (false, μ)))
theorem m_X10_image (l : Launch) (F : Nat) (t : Nat) (ht : (aw_sh t).1 = 15) (a0 : Int32) (μ : aw_M) : AM l yX10_image cX10_image 2 (some .boolean) (5) (210) aw_gz [.ref t, .int a0] μ (f_X10_image F t a0 μ) := by
  refine aw_met [some (.ref t), some (.int a0)] (by decide) (fun _ => rfl) (fun _ => Nat.le_of_ble_eq_true rfl) ?_
  show AW l k_X10_image aw_gz 0 [some (.ref t), some (.int a0)] [] μ _
  unfold f_X10_image
  refine aw_iload_n (n := 1) dX10_image_0 rfl rfl ?_
  refine aw_if_lt (n := 4) 9 dX10_image_1 (by decide) rfl ?_ ?_
  · refine aw_iconst (n := 10) 0 dX10_image_9 rfl (by decide) ?_
    exact aw_zreturn (b := false) dX10_image_10 rfl rfl
  · refine aw_iload_n (n := 5) dX10_image_4 rfl rfl ?_
    refine aw_iconst (n := 6) 2 dX10_image_5 rfl (by decide) ?_
    refine aw_icmp_lt (n := 9) 11 dX10_image_6 (by decide) rfl ?_ ?_
    · refine aw_aload_n (n := 12) dX10_image_11 rfl rfl ?_
      refine aw_getR (n := 15) (RX10, TX10, 12) 10 2 dX10_image_12 rfl ht (by decide) fd_RX10_23 ?_
      refine aw_iload_n (n := 16) dX10_image_15 rfl rfl ?_
      refine aw_aaloadH (n := 17) 2 dX10_image_16 rfl (sf_10_2 ht) (fun hi1 => ?_)
      refine aw_aload_n (n := 18) dX10_image_17 rfl rfl ?_
      refine aw_getR (n := 21) (RX10, TX10, 12) 10 1 dX10_image_18 rfl ht (by decide) fd_RX10_19 ?_
      refine aw_callVv (n := 24) (as := [.ref (aw_rf t 1)]) (st := []) (RX4, TX4, 5) 4 dX10_image_21 rfl rfl (m_X4_takeFrom l F (aw_rf (aw_rf t 2) a0.toNatClampNeg) (sf_S (congrArg Prod.fst (sf_10_2 ht)) hi1) (aw_rf t 1) (sf_10_1 ht) μ) (sf_S (congrArg Prod.fst (sf_10_2 ht)) hi1) (by decide) rfl rfl cw_RX10_323 ⟨Nat.le_of_ble_eq_true rfl, Nat.le_of_ble_eq_true rfl⟩ (fun _ => Nat.le_of_ble_eq_true rfl) (fun r2 => ?_)
      refine aw_aload_n (n := 25) dX10_image_24 rfl rfl ?_
      refine aw_getR (n := 28) (RX10, TX10, 12) 10 3 dX10_image_25 rfl ht (by decide) fd_RX10_27 ?_
      refine aw_iload_n (n := 29) dX10_image_28 rfl rfl ?_
      refine aw_iconst (n := 30) 1 dX10_image_29 rfl (by decide) ?_
      refine aw_zastore (n := 31) 2 dX10_image_30 rfl (sf_10_3 ht) (fun μ3 => ?_)
      refine aw_iconst (n := 32) 1 dX10_image_31 rfl (by decide) ?_
      exact aw_zreturn (b := true) dX10_image_32 rfl rfl
    · refine aw_iconst (n := 10) 0 dX10_image_9 rfl (by decide) ?_
      exact aw_zreturn (b := false) dX10_image_10 rfl rfl
abbrev k_X10_restore : aw_K := (RX10, cX10_restore, 2, (some .boolean), 5, 210)
def f_X10_restore (F : Nat) (t : Nat) (a0 : Int32) (μ : aw_M) : Option (Bool × aw_M) :=
  (if a0 < 0 then
  some (false, μ)
  else
  (if 2 ≤ a0 then
  some (false, μ)
  else
  aw_g (aw_in a0 2) ((if (μ.1 (aw_rf t 3) a0.toNatClampNeg) = 0 then
  some (false, μ)
  else
  aw_g (aw_in a0 2) ((f_X4_takeFrom F (aw_rf t 1) (aw_rf (aw_rf t 2) a0.toNatClampNeg) μ).bind fun r2 =>
  some (true, r2))))))
theorem m_X10_restore (l : Launch) (F : Nat) (t : Nat) (ht : (aw_sh t).1 = 15) (a0 : Int32) (μ : aw_M) : AM l yX10_restore cX10_restore 2 (some .boolean) (5) (210) aw_gz [.ref t, .int a0] μ (f_X10_restore F t a0 μ) := by
  refine aw_met [some (.ref t), some (.int a0)] (by decide) (fun _ => rfl) (fun _ => Nat.le_of_ble_eq_true rfl) ?_
  show AW l k_X10_restore aw_gz 0 [some (.ref t), some (.int a0)] [] μ _
  unfold f_X10_restore
  refine aw_iload_n (n := 1) dX10_restore_0 rfl rfl ?_
  refine aw_if_lt (n := 4) 18 dX10_restore_1 (by decide) rfl ?_ ?_
  · refine aw_iconst (n := 19) 0 dX10_restore_18 rfl (by decide) ?_
    exact aw_zreturn (b := false) dX10_restore_19 rfl rfl
  · refine aw_iload_n (n := 5) dX10_restore_4 rfl rfl ?_
    refine aw_iconst (n := 6) 2 dX10_restore_5 rfl (by decide) ?_
    refine aw_icmp_ge (n := 9) 18 dX10_restore_6 (by decide) rfl ?_ ?_
    · refine aw_iconst (n := 19) 0 dX10_restore_18 rfl (by decide) ?_
      exact aw_zreturn (b := false) dX10_restore_19 rfl rfl
    · refine aw_aload_n (n := 10) dX10_restore_9 rfl rfl ?_
      refine aw_getR (n := 13) (RX10, TX10, 12) 10 3 dX10_restore_10 rfl ht (by decide) fd_RX10_27 ?_
      refine aw_iload_n (n := 14) dX10_restore_13 rfl rfl ?_
      refine aw_zaload (n := 15) 2 dX10_restore_14 rfl (sf_10_3 ht) ?_
      refine aw_if_ne (n := 18) 20 dX10_restore_15 (by decide) rfl ?_ ?_
      · refine aw_aload_n (n := 21) dX10_restore_20 rfl rfl ?_
        refine aw_getR (n := 24) (RX10, TX10, 12) 10 1 dX10_restore_21 rfl ht (by decide) fd_RX10_19 ?_
        refine aw_aload_n (n := 25) dX10_restore_24 rfl rfl ?_
        refine aw_getR (n := 28) (RX10, TX10, 12) 10 2 dX10_restore_25 rfl ht (by decide) fd_RX10_23 ?_
        refine aw_iload_n (n := 29) dX10_restore_28 rfl rfl ?_
        refine aw_aaloadH (n := 30) 2 dX10_restore_29 rfl (sf_10_2 ht) (fun hi1 => ?_)
        refine aw_callVv (n := 33) (as := [.ref (aw_rf (aw_rf t 2) a0.toNatClampNeg)]) (st := []) (RX4, TX4, 5) 4 dX10_restore_30 rfl rfl (m_X4_takeFrom l F (aw_rf t 1) (sf_10_1 ht) (aw_rf (aw_rf t 2) a0.toNatClampNeg) (sf_S (congrArg Prod.fst (sf_10_2 ht)) hi1) μ) (sf_10_1 ht) (by decide) rfl rfl cw_RX10_323 ⟨Nat.le_of_ble_eq_true rfl, Nat.le_of_ble_eq_true rfl⟩ (fun _ => Nat.le_of_ble_eq_true rfl) (fun r2 => ?_)
        refine aw_iconst (n := 34) 1 dX10_restore_33 rfl (by decide) ?_
        exact aw_zreturn (b := true) dX10_restore_34 rfl rfl
      · refine aw_iconst (n := 19) 0 dX10_restore_18 rfl (by decide) ?_
        exact aw_zreturn (b := false) dX10_restore_19 rfl rfl
