theorem aw_inl {ws : List Cond} (ix : List Nat) (h : ws = ix.filterMap (fun i => tables_1[i]?)) (hg : ws.all goodWord = true) : ∀ w ∈ ws, w ∈ aw_TB := by
  intro w hw
  have h1 := List.all_eq_true.mp hg w hw
  rw [h] at hw
  obtain ⟨i, -, hi⟩ := List.mem_filterMap.mp hw
  exact aw_tb i hi h1
theorem aw_b01 (b : Bool) : aw_b b = 0 ∨ aw_b b = 1 := by cases b <;> simp [aw_b]
theorem tb_216 : Cond.fieldLink RX8 43 "OrangeFight$Town" "things" "[I" ∈ aw_TB := aw_tb 216 (by decide +kernel) (by decide +kernel)
theorem inTB_8 : ∀ w ∈ u_ws RX8 TX8 20, w ∈ aw_TB := aw_inl [223, 225, 227, 229, 231, 233, 235, 237, 239, 241, 243, 245, 247, 249, 251, 253, 255, 257, 259, 261] (by decide +kernel) (by decide +kernel)
theorem fd_RX8_43 : aw_fd (RX8, TX8, 20) 8 15 RX8 43 2 := ⟨rfl, by decide, tb_216, inTB_8, rfl⟩
theorem sf_8_15 {a : Nat} (h : (aw_sh a).1 = 13) : aw_sh (aw_rf a 15) = (0, 100) := aw_fld 15 (ci := 8) h (by decide) rfl
theorem tb_795 : Cond.methodLink RX8 91 Lib.Math.abs.name ∈ aw_TB := aw_tb 795 (by decide +kernel) (by decide +kernel)
theorem tb_173 : Cond.fieldLink RX8 59 "OrangeFight$Town" "width" "I" ∈ aw_TB := aw_tb 173 (by decide +kernel) (by decide +kernel)
theorem fd_RX8_59 : aw_fd (RX8, TX8, 20) 8 1 RX8 59 0 := ⟨rfl, by decide, tb_173, inTB_8, rfl⟩
theorem tb_175 : Cond.fieldLink RX8 62 "OrangeFight$Town" "height" "I" ∈ aw_TB := aw_tb 175 (by decide +kernel) (by decide +kernel)
theorem fd_RX8_62 : aw_fd (RX8, TX8, 20) 8 2 RX8 62 0 := ⟨rfl, by decide, tb_175, inTB_8, rfl⟩
theorem tb_1491 : Cond.fieldLink RX11 33 "OrangeFightModel" "s" "[I" ∈ aw_TB := aw_tb 1491 (by decide +kernel) (by decide +kernel)
theorem inTB_11 : ∀ w ∈ u_ws RX11 TX11 52, w ∈ aw_TB := aw_inl [1537, 1539, 1541, 1543, 1545, 1547, 1549, 1551, 1553, 1555, 1557, 1559, 1561, 1563, 1565, 1567, 1569, 1571, 1573, 1575, 1577, 1579, 1581, 1583, 1585, 1587, 1589, 1591, 1593, 1595, 1597, 1599, 1601, 1603, 1605, 1607, 1609, 1611, 1613, 1615, 1617, 1619, 1621, 1623, 1625, 1627, 1629, 1631, 1633, 1635, 1637, 1639] (by decide +kernel) (by decide +kernel)
theorem fd_RX11_33 : aw_fd (RX11, TX11, 52) 11 6 RX11 33 2 := ⟨rfl, by decide, tb_1491, inTB_11, rfl⟩
theorem sf_11_6 {a : Nat} (h : (aw_sh a).1 = 16) : aw_sh (aw_rf a 6) = (0, 1155) := aw_fld 6 (ci := 11) h (by decide) rfl
theorem tb_1682 : Cond.code yX11_isIn cX11_isIn 3 (some .boolean) ∈ aw_TB := aw_tb 1682 (by decide +kernel) (by decide +kernel)
theorem tb_17 : Cond.initialized RX11 ∈ aw_TB := aw_tb 17 (by decide +kernel) (by decide +kernel)
theorem tb_1680 : Cond.methodLink RX11 194 yX11_isIn ∈ aw_TB := aw_tb 1680 (by decide +kernel) (by decide +kernel)
theorem tb_1681 : Cond.static yX11_isIn ∈ aw_TB := aw_tb 1681 (by decide +kernel) (by decide +kernel)
theorem cw_RX11_194 : aw_ct RX11 194 yX11_isIn cX11_isIn 3 (some .boolean) 3 := ⟨⟨tb_1682, tb_17, ⟨by decide, by decide⟩, by decide +kernel, tb_1680⟩, tb_1681⟩
theorem dX8_hasOn_0 : decode cX8_hasOn 0 = .ok (.iload_n 2, 1) := by decide +kernel
theorem dX8_hasOn_1 : decode cX8_hasOn 1 = .ok (.ifCond .lt 26, 3) := by decide +kernel
theorem dX8_hasOn_4 : decode cX8_hasOn 4 = .ok (.iload_n 2, 1) := by decide +kernel
theorem dX8_hasOn_5 : decode cX8_hasOn 5 = .ok (.bipush 100, 2) := by decide +kernel
theorem dX8_hasOn_7 : decode cX8_hasOn 7 = .ok (.if_icmp .ge 20, 3) := by decide +kernel
theorem dX8_hasOn_10 : decode cX8_hasOn 10 = .ok (.aload_n 0, 1) := by decide +kernel
theorem dX8_hasOn_11 : decode cX8_hasOn 11 = .ok (.getfield 43, 3) := by decide +kernel
theorem dX8_hasOn_14 : decode cX8_hasOn 14 = .ok (.iload_n 2, 1) := by decide +kernel
theorem dX8_hasOn_15 : decode cX8_hasOn 15 = .ok (.iaload, 1) := by decide +kernel
theorem dX8_hasOn_16 : decode cX8_hasOn 16 = .ok (.iload_n 1, 1) := by decide +kernel
theorem dX8_hasOn_17 : decode cX8_hasOn 17 = .ok (.ishr, 1) := by decide +kernel
theorem dX8_hasOn_18 : decode cX8_hasOn 18 = .ok (.iconst 1, 1) := by decide +kernel
theorem dX8_hasOn_19 : decode cX8_hasOn 19 = .ok (.iand, 1) := by decide +kernel
theorem dX8_hasOn_20 : decode cX8_hasOn 20 = .ok (.ifCond .eq 7, 3) := by decide +kernel
theorem dX8_hasOn_23 : decode cX8_hasOn 23 = .ok (.iconst 1, 1) := by decide +kernel
theorem dX8_hasOn_24 : decode cX8_hasOn 24 = .ok (.goto 4, 3) := by decide +kernel
theorem dX8_hasOn_27 : decode cX8_hasOn 27 = .ok (.iconst 0, 1) := by decide +kernel
theorem dX8_hasOn_28 : decode cX8_hasOn 28 = .ok (.ireturn, 1) := by decide +kernel
theorem dX8_distance_0 : decode cX8_distance 0 = .ok (.iload_n 0, 1) := by decide +kernel
theorem dX8_distance_1 : decode cX8_distance 1 = .ok (.bipush 10, 2) := by decide +kernel
theorem dX8_distance_3 : decode cX8_distance 3 = .ok (.irem, 1) := by decide +kernel
theorem dX8_distance_4 : decode cX8_distance 4 = .ok (.iload_n 1, 1) := by decide +kernel
theorem dX8_distance_5 : decode cX8_distance 5 = .ok (.bipush 10, 2) := by decide +kernel
theorem dX8_distance_7 : decode cX8_distance 7 = .ok (.irem, 1) := by decide +kernel
theorem dX8_distance_8 : decode cX8_distance 8 = .ok (.isub, 1) := by decide +kernel
theorem dX8_distance_9 : decode cX8_distance 9 = .ok (.invokestatic 91, 3) := by decide +kernel
theorem dX8_distance_12 : decode cX8_distance 12 = .ok (.iload_n 0, 1) := by decide +kernel
theorem dX8_distance_13 : decode cX8_distance 13 = .ok (.bipush 10, 2) := by decide +kernel
theorem dX8_distance_15 : decode cX8_distance 15 = .ok (.idiv, 1) := by decide +kernel
theorem dX8_distance_16 : decode cX8_distance 16 = .ok (.iload_n 1, 1) := by decide +kernel
theorem dX8_distance_17 : decode cX8_distance 17 = .ok (.bipush 10, 2) := by decide +kernel
theorem dX8_distance_19 : decode cX8_distance 19 = .ok (.idiv, 1) := by decide +kernel
theorem dX8_distance_20 : decode cX8_distance 20 = .ok (.isub, 1) := by decide +kernel
theorem dX8_distance_21 : decode cX8_distance 21 = .ok (.invokestatic 91, 3) := by decide +kernel
theorem dX8_distance_24 : decode cX8_distance 24 = .ok (.iadd, 1) := by decide +kernel
theorem dX8_distance_25 : decode cX8_distance 25 = .ok (.ireturn, 1) := by decide +kernel
theorem dX8_hasCell_0 : decode cX8_hasCell 0 = .ok (.iload_n 1, 1) := by decide +kernel
theorem dX8_hasCell_1 : decode cX8_hasCell 1 = .ok (.ifCond .lt 35, 3) := by decide +kernel
theorem dX8_hasCell_4 : decode cX8_hasCell 4 = .ok (.iload_n 1, 1) := by decide +kernel
theorem dX8_hasCell_5 : decode cX8_hasCell 5 = .ok (.bipush 100, 2) := by decide +kernel
theorem dX8_hasCell_7 : decode cX8_hasCell 7 = .ok (.if_icmp .ge 29, 3) := by decide +kernel
theorem dX8_hasCell_10 : decode cX8_hasCell 10 = .ok (.iload_n 1, 1) := by decide +kernel
theorem dX8_hasCell_11 : decode cX8_hasCell 11 = .ok (.bipush 10, 2) := by decide +kernel
theorem dX8_hasCell_13 : decode cX8_hasCell 13 = .ok (.irem, 1) := by decide +kernel
theorem dX8_hasCell_14 : decode cX8_hasCell 14 = .ok (.aload_n 0, 1) := by decide +kernel
theorem dX8_hasCell_15 : decode cX8_hasCell 15 = .ok (.getfield 59, 3) := by decide +kernel
theorem dX8_hasCell_18 : decode cX8_hasCell 18 = .ok (.if_icmp .ge 18, 3) := by decide +kernel
theorem dX8_hasCell_21 : decode cX8_hasCell 21 = .ok (.iload_n 1, 1) := by decide +kernel
theorem dX8_hasCell_22 : decode cX8_hasCell 22 = .ok (.bipush 10, 2) := by decide +kernel
theorem dX8_hasCell_24 : decode cX8_hasCell 24 = .ok (.idiv, 1) := by decide +kernel
theorem dX8_hasCell_25 : decode cX8_hasCell 25 = .ok (.aload_n 0, 1) := by decide +kernel
theorem dX8_hasCell_26 : decode cX8_hasCell 26 = .ok (.getfield 62, 3) := by decide +kernel
theorem dX8_hasCell_29 : decode cX8_hasCell 29 = .ok (.if_icmp .ge 7, 3) := by decide +kernel
theorem dX8_hasCell_32 : decode cX8_hasCell 32 = .ok (.iconst 1, 1) := by decide +kernel
theorem dX8_hasCell_33 : decode cX8_hasCell 33 = .ok (.goto 4, 3) := by decide +kernel
theorem dX8_hasCell_36 : decode cX8_hasCell 36 = .ok (.iconst 0, 1) := by decide +kernel
theorem dX8_hasCell_37 : decode cX8_hasCell 37 = .ok (.ireturn, 1) := by decide +kernel
theorem dX8_sideOf_0 : decode cX8_sideOf 0 = .ok (.iload_n 1, 1) := by decide +kernel
theorem dX8_sideOf_1 : decode cX8_sideOf 1 = .ok (.bipush 10, 2) := by decide +kernel
theorem dX8_sideOf_3 : decode cX8_sideOf 3 = .ok (.irem, 1) := by decide +kernel
theorem dX8_sideOf_4 : decode cX8_sideOf 4 = .ok (.iload_n 2, 1) := by decide +kernel
theorem dX8_sideOf_5 : decode cX8_sideOf 5 = .ok (.iconst 1, 1) := by decide +kernel
theorem dX8_sideOf_6 : decode cX8_sideOf 6 = .ok (.if_icmp .ne 7, 3) := by decide +kernel
theorem dX8_sideOf_9 : decode cX8_sideOf 9 = .ok (.iconst 1, 1) := by decide +kernel
theorem dX8_sideOf_10 : decode cX8_sideOf 10 = .ok (.goto 13, 3) := by decide +kernel
theorem dX8_sideOf_13 : decode cX8_sideOf 13 = .ok (.iload_n 2, 1) := by decide +kernel
theorem dX8_sideOf_14 : decode cX8_sideOf 14 = .ok (.iconst 2, 1) := by decide +kernel
theorem dX8_sideOf_15 : decode cX8_sideOf 15 = .ok (.if_icmp .ne 7, 3) := by decide +kernel
theorem dX8_sideOf_18 : decode cX8_sideOf 18 = .ok (.iconst (-1), 1) := by decide +kernel
theorem dX8_sideOf_19 : decode cX8_sideOf 19 = .ok (.goto 4, 3) := by decide +kernel
theorem dX8_sideOf_22 : decode cX8_sideOf 22 = .ok (.iconst 0, 1) := by decide +kernel
theorem dX8_sideOf_23 : decode cX8_sideOf 23 = .ok (.iadd, 1) := by decide +kernel
theorem dX8_sideOf_24 : decode cX8_sideOf 24 = .ok (.istore_n 3, 1) := by decide +kernel
theorem dX8_sideOf_25 : decode cX8_sideOf 25 = .ok (.iload_n 1, 1) := by decide +kernel
theorem dX8_sideOf_26 : decode cX8_sideOf 26 = .ok (.bipush 10, 2) := by decide +kernel
theorem dX8_sideOf_28 : decode cX8_sideOf 28 = .ok (.idiv, 1) := by decide +kernel
theorem dX8_sideOf_29 : decode cX8_sideOf 29 = .ok (.iload_n 2, 1) := by decide +kernel
theorem dX8_sideOf_30 : decode cX8_sideOf 30 = .ok (.iconst 3, 1) := by decide +kernel
theorem dX8_sideOf_31 : decode cX8_sideOf 31 = .ok (.if_icmp .ne 7, 3) := by decide +kernel
theorem dX8_sideOf_34 : decode cX8_sideOf 34 = .ok (.iconst 1, 1) := by decide +kernel
theorem dX8_sideOf_35 : decode cX8_sideOf 35 = .ok (.goto 13, 3) := by decide +kernel
theorem dX8_sideOf_38 : decode cX8_sideOf 38 = .ok (.iload_n 2, 1) := by decide +kernel
theorem dX8_sideOf_39 : decode cX8_sideOf 39 = .ok (.iconst 4, 1) := by decide +kernel
theorem dX8_sideOf_40 : decode cX8_sideOf 40 = .ok (.if_icmp .ne 7, 3) := by decide +kernel
theorem dX8_sideOf_43 : decode cX8_sideOf 43 = .ok (.iconst (-1), 1) := by decide +kernel
theorem dX8_sideOf_44 : decode cX8_sideOf 44 = .ok (.goto 4, 3) := by decide +kernel
theorem dX8_sideOf_47 : decode cX8_sideOf 47 = .ok (.iconst 0, 1) := by decide +kernel
theorem dX8_sideOf_48 : decode cX8_sideOf 48 = .ok (.iadd, 1) := by decide +kernel
theorem dX8_sideOf_49 : decode cX8_sideOf 49 = .ok (.istore 4, 2) := by decide +kernel
theorem dX8_sideOf_51 : decode cX8_sideOf 51 = .ok (.iload_n 3, 1) := by decide +kernel
theorem dX8_sideOf_52 : decode cX8_sideOf 52 = .ok (.ifCond .lt 35, 3) := by decide +kernel
theorem dX8_sideOf_55 : decode cX8_sideOf 55 = .ok (.iload_n 3, 1) := by decide +kernel
theorem dX8_sideOf_56 : decode cX8_sideOf 56 = .ok (.aload_n 0, 1) := by decide +kernel
theorem dX8_sideOf_57 : decode cX8_sideOf 57 = .ok (.getfield 59, 3) := by decide +kernel
theorem dX8_sideOf_60 : decode cX8_sideOf 60 = .ok (.if_icmp .ge 27, 3) := by decide +kernel
theorem dX8_sideOf_63 : decode cX8_sideOf 63 = .ok (.iload 4, 2) := by decide +kernel
theorem dX8_sideOf_65 : decode cX8_sideOf 65 = .ok (.ifCond .lt 22, 3) := by decide +kernel
theorem dX8_sideOf_68 : decode cX8_sideOf 68 = .ok (.iload 4, 2) := by decide +kernel
theorem dX8_sideOf_70 : decode cX8_sideOf 70 = .ok (.aload_n 0, 1) := by decide +kernel
theorem dX8_sideOf_71 : decode cX8_sideOf 71 = .ok (.getfield 62, 3) := by decide +kernel
theorem dX8_sideOf_74 : decode cX8_sideOf 74 = .ok (.if_icmp .ge 13, 3) := by decide +kernel
theorem dX8_sideOf_77 : decode cX8_sideOf 77 = .ok (.bipush 10, 2) := by decide +kernel
theorem dX8_sideOf_79 : decode cX8_sideOf 79 = .ok (.iload 4, 2) := by decide +kernel
theorem dX8_sideOf_81 : decode cX8_sideOf 81 = .ok (.imul, 1) := by decide +kernel
theorem dX8_sideOf_82 : decode cX8_sideOf 82 = .ok (.iload_n 3, 1) := by decide +kernel
theorem dX8_sideOf_83 : decode cX8_sideOf 83 = .ok (.iadd, 1) := by decide +kernel
theorem dX8_sideOf_84 : decode cX8_sideOf 84 = .ok (.goto 4, 3) := by decide +kernel
theorem dX8_sideOf_87 : decode cX8_sideOf 87 = .ok (.iconst (-1), 1) := by decide +kernel
theorem dX8_sideOf_88 : decode cX8_sideOf 88 = .ok (.ireturn, 1) := by decide +kernel
theorem dX11_isIn_0 : decode cX11_isIn 0 = .ok (.iload_n 0, 1) := by decide +kernel
theorem dX11_isIn_1 : decode cX11_isIn 1 = .ok (.iload_n 1, 1) := by decide +kernel
theorem dX11_isIn_2 : decode cX11_isIn 2 = .ok (.if_icmp .lt 12, 3) := by decide +kernel
theorem dX11_isIn_5 : decode cX11_isIn 5 = .ok (.iload_n 0, 1) := by decide +kernel
theorem dX11_isIn_6 : decode cX11_isIn 6 = .ok (.iload_n 2, 1) := by decide +kernel
theorem dX11_isIn_7 : decode cX11_isIn 7 = .ok (.if_icmp .gt 7, 3) := by decide +kernel
theorem dX11_isIn_10 : decode cX11_isIn 10 = .ok (.iconst 1, 1) := by decide +kernel
theorem dX11_isIn_11 : decode cX11_isIn 11 = .ok (.goto 4, 3) := by decide +kernel
theorem dX11_isIn_14 : decode cX11_isIn 14 = .ok (.iconst 0, 1) := by decide +kernel
theorem dX11_isIn_15 : decode cX11_isIn 15 = .ok (.ireturn, 1) := by decide +kernel
theorem dX11_rounds_0 : decode cX11_rounds 0 = .ok (.iconst 1, 1) := by decide +kernel
theorem dX11_rounds_1 : decode cX11_rounds 1 = .ok (.istore_n 2, 1) := by decide +kernel
theorem dX11_rounds_2 : decode cX11_rounds 2 = .ok (.iload_n 2, 1) := by decide +kernel
theorem dX11_rounds_3 : decode cX11_rounds 3 = .ok (.iload_n 0, 1) := by decide +kernel
theorem dX11_rounds_4 : decode cX11_rounds 4 = .ok (.imul, 1) := by decide +kernel
theorem dX11_rounds_5 : decode cX11_rounds 5 = .ok (.iload_n 1, 1) := by decide +kernel
theorem dX11_rounds_6 : decode cX11_rounds 6 = .ok (.irem, 1) := by decide +kernel
theorem dX11_rounds_7 : decode cX11_rounds 7 = .ok (.ifCond .eq 9, 3) := by decide +kernel
theorem dX11_rounds_10 : decode cX11_rounds 10 = .ok (.iinc 2 1, 3) := by decide +kernel
theorem dX11_rounds_13 : decode cX11_rounds 13 = .ok (.goto (-11), 3) := by decide +kernel
theorem dX11_rounds_16 : decode cX11_rounds 16 = .ok (.iload_n 2, 1) := by decide +kernel
theorem dX11_rounds_17 : decode cX11_rounds 17 = .ok (.ireturn, 1) := by decide +kernel
theorem dX11_isThere_0 : decode cX11_isThere 0 = .ok (.iload_n 2, 1) := by decide +kernel
theorem dX11_isThere_1 : decode cX11_isThere 1 = .ok (.aload_n 0, 1) := by decide +kernel
theorem dX11_isThere_2 : decode cX11_isThere 2 = .ok (.getfield 33, 3) := by decide +kernel
theorem dX11_isThere_5 : decode cX11_isThere 5 = .ok (.bipush 47, 2) := by decide +kernel
theorem dX11_isThere_7 : decode cX11_isThere 7 = .ok (.iload_n 1, 1) := by decide +kernel
theorem dX11_isThere_8 : decode cX11_isThere 8 = .ok (.iadd, 1) := by decide +kernel
theorem dX11_isThere_9 : decode cX11_isThere 9 = .ok (.iaload, 1) := by decide +kernel
theorem dX11_isThere_10 : decode cX11_isThere 10 = .ok (.isub, 1) := by decide +kernel
theorem dX11_isThere_11 : decode cX11_isThere 11 = .ok (.iconst 0, 1) := by decide +kernel
theorem dX11_isThere_12 : decode cX11_isThere 12 = .ok (.iconst 3, 1) := by decide +kernel
theorem dX11_isThere_13 : decode cX11_isThere 13 = .ok (.invokestatic 194, 3) := by decide +kernel
theorem dX11_isThere_16 : decode cX11_isThere 16 = .ok (.ireturn, 1) := by decide +kernel
abbrev k_X8_hasOn : aw_K := (RX8, cX8_hasOn, 3, (some .boolean), 1, 120)
def f_X8_hasOn (F : Nat) (t : Nat) (a0 : Int32) (a1 : Int32) (μ : aw_M) : Option (Bool × aw_M) :=
  (if a1 < 0 then
  some (false, μ)
  else
  (if 100 ≤ a1 then
  some (false, μ)
  else
  aw_g (aw_in a1 100) ((if (((μ.1 (aw_rf t 15) a1.toNatClampNeg) >>> (a0 &&& 31)) &&& 1) = 0 then
  some (false, μ)
  else
  some (true, μ)))))
theorem m_X8_hasOn (l : Launch) (F : Nat) (t : Nat) (ht : (aw_sh t).1 = 13) (a0 : Int32) (a1 : Int32) (μ : aw_M) : AM l yX8_hasOn cX8_hasOn 3 (some .boolean) 1 120 aw_gz [.ref t, .int a0, .int a1] μ (f_X8_hasOn F t a0 a1 μ) := by
  refine aw_met [some (.ref t), some (.int a0), some (.int a1)] (by decide) (fun _ => rfl) (fun _ => Nat.le_of_ble_eq_true rfl) ?_
  show AW l k_X8_hasOn aw_gz 0 [some (.ref t), some (.int a0), some (.int a1)] [] μ _
  unfold f_X8_hasOn
  refine aw_iload_n (n := 1) dX8_hasOn_0 rfl rfl ?_
  refine aw_if_lt (n := 4) 27 dX8_hasOn_1 (by decide) rfl ?_ ?_
  · refine aw_iconst (n := 28) 0 dX8_hasOn_27 rfl (by decide) ?_
    exact aw_zreturn (b := false) dX8_hasOn_28 rfl rfl
  · refine aw_iload_n (n := 5) dX8_hasOn_4 rfl rfl ?_
    refine aw_bipush (n := 7) 100 dX8_hasOn_5 rfl (by decide) ?_
    refine aw_icmp_ge (n := 10) 27 dX8_hasOn_7 (by decide) rfl ?_ ?_
    · refine aw_iconst (n := 28) 0 dX8_hasOn_27 rfl (by decide) ?_
      exact aw_zreturn (b := false) dX8_hasOn_28 rfl rfl
    · refine aw_aload_n (n := 11) dX8_hasOn_10 rfl rfl ?_
      refine aw_getR (n := 14) (RX8, TX8, 20) 8 15 dX8_hasOn_11 rfl ht (by decide) fd_RX8_43 ?_
      refine aw_iload_n (n := 15) dX8_hasOn_14 rfl rfl ?_
      refine aw_iaload (n := 16) 100 dX8_hasOn_15 rfl (sf_8_15 ht) ?_
      refine aw_iload_n (n := 17) dX8_hasOn_16 rfl rfl ?_
      refine aw_ishr (n := 18) dX8_hasOn_17 rfl ?_
      refine aw_iconst (n := 19) 1 dX8_hasOn_18 rfl (by decide) ?_
      refine aw_iand (n := 20) dX8_hasOn_19 rfl ?_
      refine aw_if_eq (n := 23) 27 dX8_hasOn_20 (by decide) rfl ?_ ?_
      · refine aw_iconst (n := 28) 0 dX8_hasOn_27 rfl (by decide) ?_
        exact aw_zreturn (b := false) dX8_hasOn_28 rfl rfl
      · refine aw_iconst (n := 24) 1 dX8_hasOn_23 rfl (by decide) ?_
        refine aw_goto 28 dX8_hasOn_24 (by decide) ?_
        exact aw_zreturn (b := true) dX8_hasOn_28 rfl rfl
abbrev k_X8_distance : aw_K := (RX8, cX8_distance, 2, (some .int), 1, 120)
def f_X8_distance (F : Nat)  (a0 : Int32) (a1 : Int32) (μ : aw_M) : Option (Int32 × aw_M) :=
  some (((if 0 ≤ ((a0 - a0 / 10 * 10) - (a1 - a1 / 10 * 10)) then ((a0 - a0 / 10 * 10) - (a1 - a1 / 10 * 10)) else 0 - ((a0 - a0 / 10 * 10) - (a1 - a1 / 10 * 10))) + (if 0 ≤ ((a0 / 10) - (a1 / 10)) then ((a0 / 10) - (a1 / 10)) else 0 - ((a0 / 10) - (a1 / 10)))), μ)
theorem m_X8_distance (l : Launch) (F : Nat) (a0 : Int32) (a1 : Int32) (μ : aw_M) : AM l yX8_distance cX8_distance 2 (some .int) 1 120 aw_gi [.int a0, .int a1] μ (f_X8_distance F  a0 a1 μ) := by
  refine aw_met [some (.int a0), some (.int a1)] (by decide) (fun _ => rfl) (fun _ => Nat.le_of_ble_eq_true rfl) ?_
  show AW l k_X8_distance aw_gi 0 [some (.int a0), some (.int a1)] [] μ _
  unfold f_X8_distance
  refine aw_iload_n (n := 1) dX8_distance_0 rfl rfl ?_
  refine aw_bipush (n := 3) 10 dX8_distance_1 rfl (by decide) ?_
  refine aw_iremK (n := 4) dX8_distance_3 rfl (by decide) ?_
  refine aw_iload_n (n := 5) dX8_distance_4 rfl rfl ?_
  refine aw_bipush (n := 7) 10 dX8_distance_5 rfl (by decide) ?_
  refine aw_iremK (n := 8) dX8_distance_7 rfl (by decide) ?_
  refine aw_isub (n := 9) dX8_distance_8 rfl ?_
  refine aw_mabs (n := 12) dX8_distance_9 rfl tb_795 (Nat.le_of_ble_eq_true rfl) (fun _ => Nat.le_of_ble_eq_true rfl) ?_
  refine aw_iload_n (n := 13) dX8_distance_12 rfl rfl ?_
  refine aw_bipush (n := 15) 10 dX8_distance_13 rfl (by decide) ?_
  refine aw_idivK (n := 16) dX8_distance_15 rfl (by decide) ?_
  refine aw_iload_n (n := 17) dX8_distance_16 rfl rfl ?_
  refine aw_bipush (n := 19) 10 dX8_distance_17 rfl (by decide) ?_
  refine aw_idivK (n := 20) dX8_distance_19 rfl (by decide) ?_
  refine aw_isub (n := 21) dX8_distance_20 rfl ?_
  refine aw_mabs (n := 24) dX8_distance_21 rfl tb_795 (Nat.le_of_ble_eq_true rfl) (fun _ => Nat.le_of_ble_eq_true rfl) ?_
  refine aw_iadd (n := 25) dX8_distance_24 rfl ?_
  exact aw_ireturn dX8_distance_25 rfl rfl
abbrev k_X8_hasCell : aw_K := (RX8, cX8_hasCell, 2, (some .boolean), 1, 120)
def f_X8_hasCell (F : Nat) (t : Nat) (a0 : Int32) (μ : aw_M) : Option (Bool × aw_M) :=
  (if a0 < 0 then
  some (false, μ)
  else
  (if 100 ≤ a0 then
  some (false, μ)
  else
  (if (μ.1 t 1) ≤ (a0 - a0 / 10 * 10) then
  some (false, μ)
  else
  (if (μ.1 t 2) ≤ (a0 / 10) then
  some (false, μ)
  else
  some (true, μ)))))
theorem m_X8_hasCell (l : Launch) (F : Nat) (t : Nat) (ht : (aw_sh t).1 = 13) (a0 : Int32) (μ : aw_M) : AM l yX8_hasCell cX8_hasCell 2 (some .boolean) 1 120 aw_gz [.ref t, .int a0] μ (f_X8_hasCell F t a0 μ) := by
  refine aw_met [some (.ref t), some (.int a0)] (by decide) (fun _ => rfl) (fun _ => Nat.le_of_ble_eq_true rfl) ?_
  show AW l k_X8_hasCell aw_gz 0 [some (.ref t), some (.int a0)] [] μ _
  unfold f_X8_hasCell
  refine aw_iload_n (n := 1) dX8_hasCell_0 rfl rfl ?_
  refine aw_if_lt (n := 4) 36 dX8_hasCell_1 (by decide) rfl ?_ ?_
  · refine aw_iconst (n := 37) 0 dX8_hasCell_36 rfl (by decide) ?_
    exact aw_zreturn (b := false) dX8_hasCell_37 rfl rfl
  · refine aw_iload_n (n := 5) dX8_hasCell_4 rfl rfl ?_
    refine aw_bipush (n := 7) 100 dX8_hasCell_5 rfl (by decide) ?_
    refine aw_icmp_ge (n := 10) 36 dX8_hasCell_7 (by decide) rfl ?_ ?_
    · refine aw_iconst (n := 37) 0 dX8_hasCell_36 rfl (by decide) ?_
      exact aw_zreturn (b := false) dX8_hasCell_37 rfl rfl
    · refine aw_iload_n (n := 11) dX8_hasCell_10 rfl rfl ?_
      refine aw_bipush (n := 13) 10 dX8_hasCell_11 rfl (by decide) ?_
      refine aw_iremK (n := 14) dX8_hasCell_13 rfl (by decide) ?_
      refine aw_aload_n (n := 15) dX8_hasCell_14 rfl rfl ?_
      refine aw_getI (n := 18) (RX8, TX8, 20) 8 1 dX8_hasCell_15 rfl ht (by decide) fd_RX8_59 ?_
      refine aw_icmp_ge (n := 21) 36 dX8_hasCell_18 (by decide) rfl ?_ ?_
      · refine aw_iconst (n := 37) 0 dX8_hasCell_36 rfl (by decide) ?_
        exact aw_zreturn (b := false) dX8_hasCell_37 rfl rfl
      · refine aw_iload_n (n := 22) dX8_hasCell_21 rfl rfl ?_
        refine aw_bipush (n := 24) 10 dX8_hasCell_22 rfl (by decide) ?_
        refine aw_idivK (n := 25) dX8_hasCell_24 rfl (by decide) ?_
        refine aw_aload_n (n := 26) dX8_hasCell_25 rfl rfl ?_
        refine aw_getI (n := 29) (RX8, TX8, 20) 8 2 dX8_hasCell_26 rfl ht (by decide) fd_RX8_62 ?_
        refine aw_icmp_ge (n := 32) 36 dX8_hasCell_29 (by decide) rfl ?_ ?_
        · refine aw_iconst (n := 37) 0 dX8_hasCell_36 rfl (by decide) ?_
          exact aw_zreturn (b := false) dX8_hasCell_37 rfl rfl
        · refine aw_iconst (n := 33) 1 dX8_hasCell_32 rfl (by decide) ?_
          refine aw_goto 37 dX8_hasCell_33 (by decide) ?_
          exact aw_zreturn (b := true) dX8_hasCell_37 rfl rfl
abbrev k_X8_sideOf : aw_K := (RX8, cX8_sideOf, 5, (some .int), 1, 120)
def f_X8_sideOf_48 (F : Nat) (t : Nat) (x3 : Int32) (z0 : Int32) (z1 : Int32) (μ : aw_M) : Option (Int32 × aw_M) :=
  aw_let ((z1 + z0)) fun v4 =>
  (if x3 < 0 then
  some ((-1), μ)
  else
  (if (μ.1 t 1) ≤ x3 then
  some ((-1), μ)
  else
  (if v4 < 0 then
  some ((-1), μ)
  else
  (if (μ.1 t 2) ≤ v4 then
  some ((-1), μ)
  else
  some (((10 * v4) + x3), μ)))))
theorem c_X8_sideOf_48 (l : Launch) (F : Nat) (t : Nat) (ht : (aw_sh t).1 = 13) (x3 : Int32) (z0 : Int32) (z1 : Int32) (μ : aw_M) : AW l k_X8_sideOf aw_gi 48 [some (.ref t), none, none, some (.int x3), none] [.int z0, .int z1] μ (f_X8_sideOf_48 F t x3 z0 z1 μ) := by
  unfold f_X8_sideOf_48
  refine aw_iadd (n := 49) dX8_sideOf_48 rfl ?_
  refine aw_nmI (fun v4 => ?_)
  refine aw_istore (n := 51) [some (.ref t), none, none, some (.int x3), some (.int v4)] dX8_sideOf_49 rfl rfl (Nat.le_of_ble_eq_true rfl) (Nat.le_of_ble_eq_true rfl) rfl ?_
  refine aw_iload_n (n := 52) dX8_sideOf_51 rfl rfl ?_
  refine aw_if_lt (n := 55) 87 dX8_sideOf_52 (by decide) rfl ?_ ?_
  · refine aw_iconst (n := 88) (-1) dX8_sideOf_87 rfl (by decide) ?_
    exact aw_ireturn dX8_sideOf_88 rfl rfl
  · refine aw_iload_n (n := 56) dX8_sideOf_55 rfl rfl ?_
    refine aw_aload_n (n := 57) dX8_sideOf_56 rfl rfl ?_
    refine aw_getI (n := 60) (RX8, TX8, 20) 8 1 dX8_sideOf_57 rfl ht (by decide) fd_RX8_59 ?_
    refine aw_icmp_ge (n := 63) 87 dX8_sideOf_60 (by decide) rfl ?_ ?_
    · refine aw_iconst (n := 88) (-1) dX8_sideOf_87 rfl (by decide) ?_
      exact aw_ireturn dX8_sideOf_88 rfl rfl
    · refine aw_iload (n := 65) dX8_sideOf_63 rfl rfl ?_
      refine aw_if_lt (n := 68) 87 dX8_sideOf_65 (by decide) rfl ?_ ?_
      · refine aw_iconst (n := 88) (-1) dX8_sideOf_87 rfl (by decide) ?_
        exact aw_ireturn dX8_sideOf_88 rfl rfl
      · refine aw_iload (n := 70) dX8_sideOf_68 rfl rfl ?_
        refine aw_aload_n (n := 71) dX8_sideOf_70 rfl rfl ?_
        refine aw_getI (n := 74) (RX8, TX8, 20) 8 2 dX8_sideOf_71 rfl ht (by decide) fd_RX8_62 ?_
        refine aw_icmp_ge (n := 77) 87 dX8_sideOf_74 (by decide) rfl ?_ ?_
        · refine aw_iconst (n := 88) (-1) dX8_sideOf_87 rfl (by decide) ?_
          exact aw_ireturn dX8_sideOf_88 rfl rfl
        · refine aw_bipush (n := 79) 10 dX8_sideOf_77 rfl (by decide) ?_
          refine aw_iload (n := 81) dX8_sideOf_79 rfl rfl ?_
          refine aw_imul (n := 82) dX8_sideOf_81 rfl ?_
          refine aw_iload_n (n := 83) dX8_sideOf_82 rfl rfl ?_
          refine aw_iadd (n := 84) dX8_sideOf_83 rfl ?_
          refine aw_goto 88 dX8_sideOf_84 (by decide) ?_
          exact aw_ireturn dX8_sideOf_88 rfl rfl
def f_X8_sideOf_23 (F : Nat) (t : Nat) (x1 : Int32) (x2 : Int32) (z0 : Int32) (z1 : Int32) (μ : aw_M) : Option (Int32 × aw_M) :=
  aw_let ((z1 + z0)) fun v3 =>
  (if x2 = 3 then
  f_X8_sideOf_48 F t v3 1 (x1 / 10) μ
  else
  (if x2 = 4 then
  f_X8_sideOf_48 F t v3 (-1) (x1 / 10) μ
  else
  f_X8_sideOf_48 F t v3 0 (x1 / 10) μ))
theorem c_X8_sideOf_23 (l : Launch) (F : Nat) (t : Nat) (ht : (aw_sh t).1 = 13) (x1 : Int32) (x2 : Int32) (z0 : Int32) (z1 : Int32) (μ : aw_M) : AW l k_X8_sideOf aw_gi 23 [some (.ref t), some (.int x1), some (.int x2), none, none] [.int z0, .int z1] μ (f_X8_sideOf_23 F t x1 x2 z0 z1 μ) := by
  unfold f_X8_sideOf_23
  refine aw_iadd (n := 24) dX8_sideOf_23 rfl ?_
  refine aw_nmI (fun v3 => ?_)
  refine aw_istore_n (n := 25) [some (.ref t), some (.int x1), some (.int x2), some (.int v3), none] dX8_sideOf_24 rfl rfl (Nat.le_of_ble_eq_true rfl) (Nat.le_of_ble_eq_true rfl) rfl ?_
  refine aw_iload_n (n := 26) dX8_sideOf_25 rfl rfl ?_
  refine aw_bipush (n := 28) 10 dX8_sideOf_26 rfl (by decide) ?_
  refine aw_idivK (n := 29) dX8_sideOf_28 rfl (by decide) ?_
  refine aw_iload_n (n := 30) dX8_sideOf_29 rfl rfl ?_
  refine aw_iconst (n := 31) 3 dX8_sideOf_30 rfl (by decide) ?_
  refine aw_icmp_ne (n := 34) 38 dX8_sideOf_31 (by decide) rfl ?_ ?_
  · refine aw_iload_n (n := 39) dX8_sideOf_38 rfl rfl ?_
    refine aw_iconst (n := 40) 4 dX8_sideOf_39 rfl (by decide) ?_
    refine aw_icmp_ne (n := 43) 47 dX8_sideOf_40 (by decide) rfl ?_ ?_
    · refine aw_iconst (n := 48) 0 dX8_sideOf_47 rfl (by decide) ?_
      exact aw_weak (c_X8_sideOf_48 l F t ht v3 0 (x1 / 10) μ) (aw_ss (aw_sn (aw_sn (aw_ss (aw_sn aw_s0)))))
    · refine aw_iconst (n := 44) (-1) dX8_sideOf_43 rfl (by decide) ?_
      refine aw_goto 48 dX8_sideOf_44 (by decide) ?_
      exact aw_weak (c_X8_sideOf_48 l F t ht v3 (-1) (x1 / 10) μ) (aw_ss (aw_sn (aw_sn (aw_ss (aw_sn aw_s0)))))
  · refine aw_iconst (n := 35) 1 dX8_sideOf_34 rfl (by decide) ?_
    refine aw_goto 48 dX8_sideOf_35 (by decide) ?_
    exact aw_weak (c_X8_sideOf_48 l F t ht v3 1 (x1 / 10) μ) (aw_ss (aw_sn (aw_sn (aw_ss (aw_sn aw_s0)))))
def f_X8_sideOf (F : Nat) (t : Nat) (a0 : Int32) (a1 : Int32) (μ : aw_M) : Option (Int32 × aw_M) :=
  (if a1 = 1 then
  f_X8_sideOf_23 F t a0 a1 1 (a0 - a0 / 10 * 10) μ
  else
  (if a1 = 2 then
  f_X8_sideOf_23 F t a0 a1 (-1) (a0 - a0 / 10 * 10) μ
  else
  f_X8_sideOf_23 F t a0 a1 0 (a0 - a0 / 10 * 10) μ))
theorem m_X8_sideOf (l : Launch) (F : Nat) (t : Nat) (ht : (aw_sh t).1 = 13) (a0 : Int32) (a1 : Int32) (μ : aw_M) : AM l yX8_sideOf cX8_sideOf 5 (some .int) 1 120 aw_gi [.ref t, .int a0, .int a1] μ (f_X8_sideOf F t a0 a1 μ) := by
  refine aw_met [some (.ref t), some (.int a0), some (.int a1), none, none] (by decide) (fun _ => rfl) (fun _ => Nat.le_of_ble_eq_true rfl) ?_
  show AW l k_X8_sideOf aw_gi 0 [some (.ref t), some (.int a0), some (.int a1), none, none] [] μ _
  unfold f_X8_sideOf
  refine aw_iload_n (n := 1) dX8_sideOf_0 rfl rfl ?_
  refine aw_bipush (n := 3) 10 dX8_sideOf_1 rfl (by decide) ?_
  refine aw_iremK (n := 4) dX8_sideOf_3 rfl (by decide) ?_
  refine aw_iload_n (n := 5) dX8_sideOf_4 rfl rfl ?_
  refine aw_iconst (n := 6) 1 dX8_sideOf_5 rfl (by decide) ?_
  refine aw_icmp_ne (n := 9) 13 dX8_sideOf_6 (by decide) rfl ?_ ?_
  · refine aw_iload_n (n := 14) dX8_sideOf_13 rfl rfl ?_
    refine aw_iconst (n := 15) 2 dX8_sideOf_14 rfl (by decide) ?_
    refine aw_icmp_ne (n := 18) 22 dX8_sideOf_15 (by decide) rfl ?_ ?_
    · refine aw_iconst (n := 23) 0 dX8_sideOf_22 rfl (by decide) ?_
      exact aw_weak (c_X8_sideOf_23 l F t ht a0 a1 0 (a0 - a0 / 10 * 10) μ) (aw_ss (aw_ss (aw_ss (aw_sn (aw_sn aw_s0)))))
    · refine aw_iconst (n := 19) (-1) dX8_sideOf_18 rfl (by decide) ?_
      refine aw_goto 23 dX8_sideOf_19 (by decide) ?_
      exact aw_weak (c_X8_sideOf_23 l F t ht a0 a1 (-1) (a0 - a0 / 10 * 10) μ) (aw_ss (aw_ss (aw_ss (aw_sn (aw_sn aw_s0)))))
  · refine aw_iconst (n := 10) 1 dX8_sideOf_9 rfl (by decide) ?_
    refine aw_goto 23 dX8_sideOf_10 (by decide) ?_
    exact aw_weak (c_X8_sideOf_23 l F t ht a0 a1 1 (a0 - a0 / 10 * 10) μ) (aw_ss (aw_ss (aw_ss (aw_sn (aw_sn aw_s0)))))
abbrev k_X11_isIn : aw_K := (RX11, cX11_isIn, 3, (some .boolean), 1, 120)
def f_X11_isIn (F : Nat)  (a0 : Int32) (a1 : Int32) (a2 : Int32) (μ : aw_M) : Option (Bool × aw_M) :=
  (if a0 < a1 then
  some (false, μ)
  else
  (if a2 < a0 then
  some (false, μ)
  else
  some (true, μ)))
theorem m_X11_isIn (l : Launch) (F : Nat) (a0 : Int32) (a1 : Int32) (a2 : Int32) (μ : aw_M) : AM l yX11_isIn cX11_isIn 3 (some .boolean) 1 120 aw_gz [.int a0, .int a1, .int a2] μ (f_X11_isIn F  a0 a1 a2 μ) := by
  refine aw_met [some (.int a0), some (.int a1), some (.int a2)] (by decide) (fun _ => rfl) (fun _ => Nat.le_of_ble_eq_true rfl) ?_
  show AW l k_X11_isIn aw_gz 0 [some (.int a0), some (.int a1), some (.int a2)] [] μ _
  unfold f_X11_isIn
  refine aw_iload_n (n := 1) dX11_isIn_0 rfl rfl ?_
  refine aw_iload_n (n := 2) dX11_isIn_1 rfl rfl ?_
  refine aw_icmp_lt (n := 5) 14 dX11_isIn_2 (by decide) rfl ?_ ?_
  · refine aw_iconst (n := 15) 0 dX11_isIn_14 rfl (by decide) ?_
    exact aw_zreturn (b := false) dX11_isIn_15 rfl rfl
  · refine aw_iload_n (n := 6) dX11_isIn_5 rfl rfl ?_
    refine aw_iload_n (n := 7) dX11_isIn_6 rfl rfl ?_
    refine aw_icmp_gt (n := 10) 14 dX11_isIn_7 (by decide) rfl ?_ ?_
    · refine aw_iconst (n := 15) 0 dX11_isIn_14 rfl (by decide) ?_
      exact aw_zreturn (b := false) dX11_isIn_15 rfl rfl
    · refine aw_iconst (n := 11) 1 dX11_isIn_10 rfl (by decide) ?_
      refine aw_goto 15 dX11_isIn_11 (by decide) ?_
      exact aw_zreturn (b := true) dX11_isIn_15 rfl rfl
abbrev k_X11_rounds : aw_K := (RX11, cX11_rounds, 3, (some .int), 1, 120)
def f_X11_rounds_2 (F : Nat)  (k2 : Int32 × Int32 × Int32 × aw_M → Option (Int32 × aw_M)) (x0 : Int32) (x1 : Int32) (x2 : Int32) (μ : aw_M) : Option (Int32 × aw_M) :=
  aw_g (aw_nz x1) ((if ((x2 * x0) - (x2 * x0) / x1 * x1) = 0 then
  some (x2, μ)
  else
  k2 (x0, x1, (x2 + 1), μ)))
theorem c_X11_rounds_2 (l : Launch) (F : Nat) : ∀ (N : Nat) (s : Int32 × Int32 × Int32 × aw_M), AW l k_X11_rounds aw_gi 2 [some (.int s.1), some (.int s.2.1), some (.int s.2.2.1)] [] s.2.2.2 (aw_loop (fun k s => f_X11_rounds_2 F  k s.1 s.2.1 s.2.2.1 s.2.2.2) N s) := by
  refine aw_loop_ok (f := fun k s => f_X11_rounds_2 F  k s.1 s.2.1 s.2.2.1 s.2.2.2) (Ls := fun s => [some (.int s.1), some (.int s.2.1), some (.int s.2.2.1)]) (ms := fun s => s.2.2.2) ?_
  intro k2 hk2 s
  obtain ⟨x0, x1, x2, μ⟩ := s
  show AW l k_X11_rounds aw_gi 2 [some (.int x0), some (.int x1), some (.int x2)] [] μ (f_X11_rounds_2 F  k2 x0 x1 x2 μ)
  unfold f_X11_rounds_2
  refine aw_iload_n (n := 3) dX11_rounds_2 rfl rfl ?_
  refine aw_iload_n (n := 4) dX11_rounds_3 rfl rfl ?_
  refine aw_imul (n := 5) dX11_rounds_4 rfl ?_
  refine aw_iload_n (n := 6) dX11_rounds_5 rfl rfl ?_
  refine aw_irem (n := 7) dX11_rounds_6 rfl ?_
  refine aw_if_eq (n := 10) 16 dX11_rounds_7 (by decide) rfl ?_ ?_
  · refine aw_iload_n (n := 17) dX11_rounds_16 rfl rfl ?_
    exact aw_ireturn dX11_rounds_17 rfl rfl
  · refine aw_iinc (n := 13) (x2 + 1) [some (.int x0), some (.int x1), some (.int (x2 + 1))] dX11_rounds_10 rfl rfl (by rfl) rfl (Nat.le_of_ble_eq_true rfl) rfl ?_
    refine aw_goto 2 dX11_rounds_13 (by decide) ?_
    exact aw_weak (hk2 (x0, x1, (x2 + 1), μ)) (aw_ss (aw_ss (aw_ss aw_s0)))
def f_X11_rounds (F : Nat)  (a0 : Int32) (a1 : Int32) (μ : aw_M) : Option (Int32 × aw_M) :=
  aw_loop (fun k s => f_X11_rounds_2 F  k s.1 s.2.1 s.2.2.1 s.2.2.2) F (a0, a1, 1, μ)
theorem m_X11_rounds (l : Launch) (F : Nat) (a0 : Int32) (a1 : Int32) (μ : aw_M) : AM l yX11_rounds cX11_rounds 3 (some .int) 1 120 aw_gi [.int a0, .int a1] μ (f_X11_rounds F  a0 a1 μ) := by
  refine aw_met [some (.int a0), some (.int a1), none] (by decide) (fun _ => rfl) (fun _ => Nat.le_of_ble_eq_true rfl) ?_
  show AW l k_X11_rounds aw_gi 0 [some (.int a0), some (.int a1), none] [] μ _
  unfold f_X11_rounds
  refine aw_iconst (n := 1) 1 dX11_rounds_0 rfl (by decide) ?_
  refine aw_istore_n (n := 2) [some (.int a0), some (.int a1), some (.int 1)] dX11_rounds_1 rfl rfl (Nat.le_of_ble_eq_true rfl) (Nat.le_of_ble_eq_true rfl) rfl ?_
  exact aw_weak (c_X11_rounds_2 l F  F (a0, a1, 1, μ)) (aw_ss (aw_ss (aw_ss aw_s0)))
abbrev k_X11_isThere : aw_K := (RX11, cX11_isThere, 3, (some .boolean), 2, 142)
def f_X11_isThere (F : Nat) (t : Nat) (a0 : Int32) (a1 : Int32) (μ : aw_M) : Option (Bool × aw_M) :=
  aw_g (aw_in (47 + a0) 1155) ((f_X11_isIn F (a1 - (μ.1 (aw_rf t 6) (47 + a0).toNatClampNeg)) 0 3 μ).bind fun r1 =>
  some (r1.1, r1.2))
theorem m_X11_isThere (l : Launch) (F : Nat) (t : Nat) (ht : (aw_sh t).1 = 16) (a0 : Int32) (a1 : Int32) (μ : aw_M) : AM l yX11_isThere cX11_isThere 3 (some .boolean) 2 142 aw_gz [.ref t, .int a0, .int a1] μ (f_X11_isThere F t a0 a1 μ) := by
  refine aw_met [some (.ref t), some (.int a0), some (.int a1)] (by decide) (fun _ => rfl) (fun _ => Nat.le_of_ble_eq_true rfl) ?_
  show AW l k_X11_isThere aw_gz 0 [some (.ref t), some (.int a0), some (.int a1)] [] μ _
  unfold f_X11_isThere
  refine aw_iload_n (n := 1) dX11_isThere_0 rfl rfl ?_
  refine aw_aload_n (n := 2) dX11_isThere_1 rfl rfl ?_
  refine aw_getR (n := 5) (RX11, TX11, 52) 11 6 dX11_isThere_2 rfl ht (by decide) fd_RX11_33 ?_
  refine aw_bipush (n := 7) 47 dX11_isThere_5 rfl (by decide) ?_
  refine aw_iload_n (n := 8) dX11_isThere_7 rfl rfl ?_
  refine aw_iadd (n := 9) dX11_isThere_8 rfl ?_
  refine aw_iaload (n := 10) 1155 dX11_isThere_9 rfl (sf_11_6 ht) ?_
  refine aw_isub (n := 11) dX11_isThere_10 rfl ?_
  refine aw_iconst (n := 12) 0 dX11_isThere_11 rfl (by decide) ?_
  refine aw_iconst (n := 13) 3 dX11_isThere_12 rfl (by decide) ?_
  refine aw_callSz (n := 16) (as := [.int (a1 - (μ.1 (aw_rf t 6) (47 + a0).toNatClampNeg)), .int 0, .int 3]) (st := []) dX11_isThere_13 rfl rfl (m_X11_isIn l F (a1 - (μ.1 (aw_rf t 6) (47 + a0).toNatClampNeg)) 0 3 μ) cw_RX11_194 ⟨Nat.le_of_ble_eq_true rfl, Nat.le_of_ble_eq_true rfl⟩ (fun _ => Nat.le_of_ble_eq_true rfl) (fun r1 => ?_)
  exact aw_zreturn (b := r1.1) dX11_isThere_16 rfl rfl
