theorem tb_29 : Cond.methodLink RX10 3 objectInit ∈ aw_TB := aw_tb 29 (by decide +kernel) (by decide +kernel)
theorem tb_32 : Cond.classLink RX10 9 RX6 ∈ aw_TB := aw_tb 32 (by decide +kernel) (by decide +kernel)
theorem tb_33 : Cond.instantiable RX6 13 ∈ aw_TB := aw_tb 33 (by decide +kernel) (by decide +kernel)
theorem tb_35 : Cond.instanceMethod yX6_init ∈ aw_TB := aw_tb 35 (by decide +kernel) (by decide +kernel)
theorem tb_36 : Cond.code yX6_init cX6_init 6 none ∈ aw_TB := aw_tb 36 (by decide +kernel) (by decide +kernel)
theorem tb_34 : Cond.methodLink RX10 11 yX6_init ∈ aw_TB := aw_tb 34 (by decide +kernel) (by decide +kernel)
theorem tb_149 : Cond.classLink RX10 16 RX4 ∈ aw_TB := aw_tb 149 (by decide +kernel) (by decide +kernel)
theorem tb_150 : Cond.instantiable RX4 5 ∈ aw_TB := aw_tb 150 (by decide +kernel) (by decide +kernel)
theorem tb_154 : Cond.methodLink RX4 1 objectInit ∈ aw_TB := aw_tb 154 (by decide +kernel) (by decide +kernel)
theorem tb_155 : Cond.classLink RX4 7 RX8 ∈ aw_TB := aw_tb 155 (by decide +kernel) (by decide +kernel)
theorem tb_156 : Cond.instantiable RX8 20 ∈ aw_TB := aw_tb 156 (by decide +kernel) (by decide +kernel)
theorem tb_160 : Cond.methodLink RX8 3 objectInit ∈ aw_TB := aw_tb 160 (by decide +kernel) (by decide +kernel)
theorem tb_158 : Cond.instanceMethod yX8_init ∈ aw_TB := aw_tb 158 (by decide +kernel) (by decide +kernel)
theorem tb_159 : Cond.code yX8_init cX8_init 1 none ∈ aw_TB := aw_tb 159 (by decide +kernel) (by decide +kernel)
theorem tb_157 : Cond.methodLink RX4 9 yX8_init ∈ aw_TB := aw_tb 157 (by decide +kernel) (by decide +kernel)
theorem tb_261 : Cond.classLink RX4 16 RX2 ∈ aw_TB := aw_tb 261 (by decide +kernel) (by decide +kernel)
theorem tb_262 : Cond.instantiable RX2 4 ∈ aw_TB := aw_tb 262 (by decide +kernel) (by decide +kernel)
theorem tb_266 : Cond.methodLink RX2 3 objectInit ∈ aw_TB := aw_tb 266 (by decide +kernel) (by decide +kernel)
theorem tb_264 : Cond.instanceMethod yX2_init ∈ aw_TB := aw_tb 264 (by decide +kernel) (by decide +kernel)
theorem tb_265 : Cond.code yX2_init cX2_init 1 none ∈ aw_TB := aw_tb 265 (by decide +kernel) (by decide +kernel)
theorem tb_263 : Cond.methodLink RX4 18 yX2_init ∈ aw_TB := aw_tb 263 (by decide +kernel) (by decide +kernel)
theorem tb_296 : Cond.classLink RX4 23 RX3 ∈ aw_TB := aw_tb 296 (by decide +kernel) (by decide +kernel)
theorem tb_297 : Cond.instantiable RX3 6 ∈ aw_TB := aw_tb 297 (by decide +kernel) (by decide +kernel)
theorem tb_301 : Cond.methodLink RX3 5 objectInit ∈ aw_TB := aw_tb 301 (by decide +kernel) (by decide +kernel)
theorem tb_322 : Cond.arrayClass .boolean ∈ aw_TB := aw_tb 322 (by decide +kernel) (by decide +kernel)
theorem tb_299 : Cond.instanceMethod yX3_init ∈ aw_TB := aw_tb 299 (by decide +kernel) (by decide +kernel)
theorem tb_300 : Cond.code yX3_init cX3_init 1 none ∈ aw_TB := aw_tb 300 (by decide +kernel) (by decide +kernel)
theorem tb_323 : Cond.classLink RX4 30 RX1 ∈ aw_TB := aw_tb 323 (by decide +kernel) (by decide +kernel)
theorem tb_324 : Cond.instantiable RX1 12 ∈ aw_TB := aw_tb 324 (by decide +kernel) (by decide +kernel)
theorem tb_328 : Cond.methodLink RX1 3 objectInit ∈ aw_TB := aw_tb 328 (by decide +kernel) (by decide +kernel)
theorem tb_329 : Cond.methodLink RX1 43 yJ7_fill_53178 ∈ aw_TB := aw_tb 329 (by decide +kernel) (by decide +kernel)
theorem cw_RX1_43 : aw_ct RX1 43 yJ7_fill_53178 cJ7_fill_53178 4 none 2 := ⟨⟨tb_167, tb_9, ⟨by decide, by decide⟩, by decide +kernel, tb_329⟩, tb_166⟩
theorem tb_326 : Cond.instanceMethod yX1_init ∈ aw_TB := aw_tb 326 (by decide +kernel) (by decide +kernel)
theorem tb_327 : Cond.code yX1_init cX1_init 1 none ∈ aw_TB := aw_tb 327 (by decide +kernel) (by decide +kernel)
theorem tb_325 : Cond.methodLink RX4 32 yX1_init ∈ aw_TB := aw_tb 325 (by decide +kernel) (by decide +kernel)
theorem tb_382 : Cond.classLink RX4 37 RX0 ∈ aw_TB := aw_tb 382 (by decide +kernel) (by decide +kernel)
theorem tb_383 : Cond.instantiable RX0 20 ∈ aw_TB := aw_tb 383 (by decide +kernel) (by decide +kernel)
theorem tb_387 : Cond.methodLink RX0 3 objectInit ∈ aw_TB := aw_tb 387 (by decide +kernel) (by decide +kernel)
theorem tb_385 : Cond.instanceMethod yX0_init ∈ aw_TB := aw_tb 385 (by decide +kernel) (by decide +kernel)
theorem tb_386 : Cond.code yX0_init cX0_init 4 none ∈ aw_TB := aw_tb 386 (by decide +kernel) (by decide +kernel)
theorem tb_384 : Cond.methodLink RX4 39 yX0_init ∈ aw_TB := aw_tb 384 (by decide +kernel) (by decide +kernel)
theorem tb_152 : Cond.instanceMethod yX4_init ∈ aw_TB := aw_tb 152 (by decide +kernel) (by decide +kernel)
theorem tb_153 : Cond.code yX4_init cX4_init 1 none ∈ aw_TB := aw_tb 153 (by decide +kernel) (by decide +kernel)
theorem tb_489 : Cond.classLink RX10 31 RX8 ∈ aw_TB := aw_tb 489 (by decide +kernel) (by decide +kernel)
theorem tb_490 : Cond.methodLink RX10 33 yX8_init ∈ aw_TB := aw_tb 490 (by decide +kernel) (by decide +kernel)
theorem tb_491 : Cond.classLink RX10 38 RX2 ∈ aw_TB := aw_tb 491 (by decide +kernel) (by decide +kernel)
theorem tb_492 : Cond.methodLink RX10 40 yX2_init ∈ aw_TB := aw_tb 492 (by decide +kernel) (by decide +kernel)
theorem tb_493 : Cond.classLink RX10 45 RX3 ∈ aw_TB := aw_tb 493 (by decide +kernel) (by decide +kernel)
theorem tb_495 : Cond.classLink RX10 52 RX0 ∈ aw_TB := aw_tb 495 (by decide +kernel) (by decide +kernel)
theorem tb_496 : Cond.methodLink RX10 64 yX0_init ∈ aw_TB := aw_tb 496 (by decide +kernel) (by decide +kernel)
theorem tb_497 : Cond.classLink RX10 71 RX5 ∈ aw_TB := aw_tb 497 (by decide +kernel) (by decide +kernel)
theorem tb_498 : Cond.instantiable RX5 12 ∈ aw_TB := aw_tb 498 (by decide +kernel) (by decide +kernel)
theorem tb_502 : Cond.methodLink RX5 3 objectInit ∈ aw_TB := aw_tb 502 (by decide +kernel) (by decide +kernel)
theorem tb_500 : Cond.instanceMethod yX5_init ∈ aw_TB := aw_tb 500 (by decide +kernel) (by decide +kernel)
theorem tb_501 : Cond.code yX5_init cX5_init 4 none ∈ aw_TB := aw_tb 501 (by decide +kernel) (by decide +kernel)
theorem tb_499 : Cond.methodLink RX10 73 yX5_init ∈ aw_TB := aw_tb 499 (by decide +kernel) (by decide +kernel)
theorem tb_540 : Cond.classLink RX10 78 RX7 ∈ aw_TB := aw_tb 540 (by decide +kernel) (by decide +kernel)
theorem tb_541 : Cond.instantiable RX7 4 ∈ aw_TB := aw_tb 541 (by decide +kernel) (by decide +kernel)
theorem tb_545 : Cond.methodLink RX7 3 objectInit ∈ aw_TB := aw_tb 545 (by decide +kernel) (by decide +kernel)
theorem tb_546 : Cond.methodLink RX7 21 yJ7_fill_53178 ∈ aw_TB := aw_tb 546 (by decide +kernel) (by decide +kernel)
theorem cw_RX7_21 : aw_ct RX7 21 yJ7_fill_53178 cJ7_fill_53178 4 none 2 := ⟨⟨tb_167, tb_9, ⟨by decide, by decide⟩, by decide +kernel, tb_546⟩, tb_166⟩
theorem tb_543 : Cond.instanceMethod yX7_init ∈ aw_TB := aw_tb 543 (by decide +kernel) (by decide +kernel)
theorem tb_544 : Cond.code yX7_init cX7_init 1 none ∈ aw_TB := aw_tb 544 (by decide +kernel) (by decide +kernel)
theorem tb_542 : Cond.methodLink RX10 80 yX7_init ∈ aw_TB := aw_tb 542 (by decide +kernel) (by decide +kernel)
theorem tb_561 : Cond.classLink RX10 85 RX9 ∈ aw_TB := aw_tb 561 (by decide +kernel) (by decide +kernel)
theorem tb_562 : Cond.instantiable RX9 13 ∈ aw_TB := aw_tb 562 (by decide +kernel) (by decide +kernel)
theorem tb_566 : Cond.methodLink RX9 3 objectInit ∈ aw_TB := aw_tb 566 (by decide +kernel) (by decide +kernel)
theorem tb_564 : Cond.instanceMethod yX9_init ∈ aw_TB := aw_tb 564 (by decide +kernel) (by decide +kernel)
theorem tb_565 : Cond.code yX9_init cX9_init 1 none ∈ aw_TB := aw_tb 565 (by decide +kernel) (by decide +kernel)
theorem tb_1460 : Cond.methodLink RX11 27 objectInit ∈ aw_TB := aw_tb 1460 (by decide +kernel) (by decide +kernel)
theorem tb_148 : Cond.arrayClass .byte ∈ aw_TB := aw_tb 148 (by decide +kernel) (by decide +kernel)
theorem tb_1461 : Cond.constant RX11 83 (51712 : Int32) ∈ aw_TB := aw_tb 1461 (by decide +kernel) (by decide +kernel)
theorem bnf_0 : ∀ j, j < 20 → ∃ t, (aw_ty 0)[j]? = some t ∧ defaultValue (tyX0 j) = (match t with | 0 => .int 0 | 1 => .long 0 | _ => .null) := by
  intro j hj
  rcases (show j = 0 ∨ j = 1 ∨ j = 2 ∨ j = 3 ∨ j = 4 ∨ j = 5 ∨ j = 6 ∨ j = 7 ∨ j = 8 ∨ j = 9 ∨ j = 10 ∨ j = 11 ∨ j = 12 ∨ j = 13 ∨ j = 14 ∨ j = 15 ∨ j = 16 ∨ j = 17 ∨ j = 18 ∨ j = 19 by omega) with rfl | rfl | rfl | rfl | rfl | rfl | rfl | rfl | rfl | rfl | rfl | rfl | rfl | rfl | rfl | rfl | rfl | rfl | rfl | rfl <;> exact ⟨_, rfl, rfl⟩
theorem bnf_1 : ∀ j, j < 12 → ∃ t, (aw_ty 1)[j]? = some t ∧ defaultValue (tyX1 j) = (match t with | 0 => .int 0 | 1 => .long 0 | _ => .null) := by
  intro j hj
  rcases (show j = 0 ∨ j = 1 ∨ j = 2 ∨ j = 3 ∨ j = 4 ∨ j = 5 ∨ j = 6 ∨ j = 7 ∨ j = 8 ∨ j = 9 ∨ j = 10 ∨ j = 11 by omega) with rfl | rfl | rfl | rfl | rfl | rfl | rfl | rfl | rfl | rfl | rfl | rfl <;> exact ⟨_, rfl, rfl⟩
theorem bnf_2 : ∀ j, j < 4 → ∃ t, (aw_ty 2)[j]? = some t ∧ defaultValue (tyX2 j) = (match t with | 0 => .int 0 | 1 => .long 0 | _ => .null) := by
  intro j hj
  rcases (show j = 0 ∨ j = 1 ∨ j = 2 ∨ j = 3 by omega) with rfl | rfl | rfl | rfl <;> exact ⟨_, rfl, rfl⟩
theorem bnf_3 : ∀ j, j < 6 → ∃ t, (aw_ty 3)[j]? = some t ∧ defaultValue (tyX3 j) = (match t with | 0 => .int 0 | 1 => .long 0 | _ => .null) := by
  intro j hj
  rcases (show j = 0 ∨ j = 1 ∨ j = 2 ∨ j = 3 ∨ j = 4 ∨ j = 5 by omega) with rfl | rfl | rfl | rfl | rfl | rfl <;> exact ⟨_, rfl, rfl⟩
theorem bnf_4 : ∀ j, j < 5 → ∃ t, (aw_ty 4)[j]? = some t ∧ defaultValue (tyX4 j) = (match t with | 0 => .int 0 | 1 => .long 0 | _ => .null) := by
  intro j hj
  rcases (show j = 0 ∨ j = 1 ∨ j = 2 ∨ j = 3 ∨ j = 4 by omega) with rfl | rfl | rfl | rfl | rfl <;> exact ⟨_, rfl, rfl⟩
theorem bnf_5 : ∀ j, j < 12 → ∃ t, (aw_ty 5)[j]? = some t ∧ defaultValue (tyX5 j) = (match t with | 0 => .int 0 | 1 => .long 0 | _ => .null) := by
  intro j hj
  rcases (show j = 0 ∨ j = 1 ∨ j = 2 ∨ j = 3 ∨ j = 4 ∨ j = 5 ∨ j = 6 ∨ j = 7 ∨ j = 8 ∨ j = 9 ∨ j = 10 ∨ j = 11 by omega) with rfl | rfl | rfl | rfl | rfl | rfl | rfl | rfl | rfl | rfl | rfl | rfl <;> exact ⟨_, rfl, rfl⟩
theorem bnf_6 : ∀ j, j < 13 → ∃ t, (aw_ty 6)[j]? = some t ∧ defaultValue (tyX6 j) = (match t with | 0 => .int 0 | 1 => .long 0 | _ => .null) := by
  intro j hj
  rcases (show j = 0 ∨ j = 1 ∨ j = 2 ∨ j = 3 ∨ j = 4 ∨ j = 5 ∨ j = 6 ∨ j = 7 ∨ j = 8 ∨ j = 9 ∨ j = 10 ∨ j = 11 ∨ j = 12 by omega) with rfl | rfl | rfl | rfl | rfl | rfl | rfl | rfl | rfl | rfl | rfl | rfl | rfl <;> exact ⟨_, rfl, rfl⟩
theorem bnf_7 : ∀ j, j < 4 → ∃ t, (aw_ty 7)[j]? = some t ∧ defaultValue (tyX7 j) = (match t with | 0 => .int 0 | 1 => .long 0 | _ => .null) := by
  intro j hj
  rcases (show j = 0 ∨ j = 1 ∨ j = 2 ∨ j = 3 by omega) with rfl | rfl | rfl | rfl <;> exact ⟨_, rfl, rfl⟩
theorem bnf_8 : ∀ j, j < 20 → ∃ t, (aw_ty 8)[j]? = some t ∧ defaultValue (tyX8 j) = (match t with | 0 => .int 0 | 1 => .long 0 | _ => .null) := by
  intro j hj
  rcases (show j = 0 ∨ j = 1 ∨ j = 2 ∨ j = 3 ∨ j = 4 ∨ j = 5 ∨ j = 6 ∨ j = 7 ∨ j = 8 ∨ j = 9 ∨ j = 10 ∨ j = 11 ∨ j = 12 ∨ j = 13 ∨ j = 14 ∨ j = 15 ∨ j = 16 ∨ j = 17 ∨ j = 18 ∨ j = 19 by omega) with rfl | rfl | rfl | rfl | rfl | rfl | rfl | rfl | rfl | rfl | rfl | rfl | rfl | rfl | rfl | rfl | rfl | rfl | rfl | rfl <;> exact ⟨_, rfl, rfl⟩
theorem bnf_9 : ∀ j, j < 13 → ∃ t, (aw_ty 9)[j]? = some t ∧ defaultValue (tyX9 j) = (match t with | 0 => .int 0 | 1 => .long 0 | _ => .null) := by
  intro j hj
  rcases (show j = 0 ∨ j = 1 ∨ j = 2 ∨ j = 3 ∨ j = 4 ∨ j = 5 ∨ j = 6 ∨ j = 7 ∨ j = 8 ∨ j = 9 ∨ j = 10 ∨ j = 11 ∨ j = 12 by omega) with rfl | rfl | rfl | rfl | rfl | rfl | rfl | rfl | rfl | rfl | rfl | rfl | rfl <;> exact ⟨_, rfl, rfl⟩
theorem bnf_10 : ∀ j, j < 12 → ∃ t, (aw_ty 10)[j]? = some t ∧ defaultValue (tyX10 j) = (match t with | 0 => .int 0 | 1 => .long 0 | _ => .null) := by
  intro j hj
  rcases (show j = 0 ∨ j = 1 ∨ j = 2 ∨ j = 3 ∨ j = 4 ∨ j = 5 ∨ j = 6 ∨ j = 7 ∨ j = 8 ∨ j = 9 ∨ j = 10 ∨ j = 11 by omega) with rfl | rfl | rfl | rfl | rfl | rfl | rfl | rfl | rfl | rfl | rfl | rfl <;> exact ⟨_, rfl, rfl⟩
theorem bnf_11 : ∀ j, j < 52 → ∃ t, (aw_ty 11)[j]? = some t ∧ defaultValue (tyX11 j) = (match t with | 0 => .int 0 | 1 => .long 0 | _ => .null) := by
  intro j hj
  rcases (show j = 0 ∨ j = 1 ∨ j = 2 ∨ j = 3 ∨ j = 4 ∨ j = 5 ∨ j = 6 ∨ j = 7 ∨ j = 8 ∨ j = 9 ∨ j = 10 ∨ j = 11 ∨ j = 12 ∨ j = 13 ∨ j = 14 ∨ j = 15 ∨ j = 16 ∨ j = 17 ∨ j = 18 ∨ j = 19 ∨ j = 20 ∨ j = 21 ∨ j = 22 ∨ j = 23 ∨ j = 24 ∨ j = 25 ∨ j = 26 ∨ j = 27 ∨ j = 28 ∨ j = 29 ∨ j = 30 ∨ j = 31 ∨ j = 32 ∨ j = 33 ∨ j = 34 ∨ j = 35 ∨ j = 36 ∨ j = 37 ∨ j = 38 ∨ j = 39 ∨ j = 40 ∨ j = 41 ∨ j = 42 ∨ j = 43 ∨ j = 44 ∨ j = 45 ∨ j = 46 ∨ j = 47 ∨ j = 48 ∨ j = 49 ∨ j = 50 ∨ j = 51 by omega) with rfl | rfl | rfl | rfl | rfl | rfl | rfl | rfl | rfl | rfl | rfl | rfl | rfl | rfl | rfl | rfl | rfl | rfl | rfl | rfl | rfl | rfl | rfl | rfl | rfl | rfl | rfl | rfl | rfl | rfl | rfl | rfl | rfl | rfl | rfl | rfl | rfl | rfl | rfl | rfl | rfl | rfl | rfl | rfl | rfl | rfl | rfl | rfl | rfl | rfl | rfl | rfl <;> exact ⟨_, rfl, rfl⟩
theorem dX10_init_0 : decode cX10_init 0 = .ok (.aload_n 0, 1) := by decide +kernel
theorem dX10_init_1 : decode cX10_init 1 = .ok (.invokespecial 3, 3) := by decide +kernel
theorem dX10_init_4 : decode cX10_init 4 = .ok (.aload_n 0, 1) := by decide +kernel
theorem dX10_init_5 : decode cX10_init 5 = .ok (.new 9, 3) := by decide +kernel
theorem dX10_init_8 : decode cX10_init 8 = .ok (.dup, 1) := by decide +kernel
theorem dX10_init_9 : decode cX10_init 9 = .ok (.invokespecial 11, 3) := by decide +kernel
theorem dX10_init_12 : decode cX10_init 12 = .ok (.putfield 12, 3) := by decide +kernel
theorem dX10_init_15 : decode cX10_init 15 = .ok (.aload_n 0, 1) := by decide +kernel
theorem dX10_init_16 : decode cX10_init 16 = .ok (.new 16, 3) := by decide +kernel
theorem dX10_init_19 : decode cX10_init 19 = .ok (.dup, 1) := by decide +kernel
theorem dX10_init_20 : decode cX10_init 20 = .ok (.invokespecial 18, 3) := by decide +kernel
theorem dX10_init_23 : decode cX10_init 23 = .ok (.putfield 19, 3) := by decide +kernel
theorem dX10_init_26 : decode cX10_init 26 = .ok (.aload_n 0, 1) := by decide +kernel
theorem dX10_init_27 : decode cX10_init 27 = .ok (.iconst 2, 1) := by decide +kernel
theorem dX10_init_28 : decode cX10_init 28 = .ok (.anewarray 16, 3) := by decide +kernel
theorem dX10_init_31 : decode cX10_init 31 = .ok (.putfield 23, 3) := by decide +kernel
theorem dX10_init_34 : decode cX10_init 34 = .ok (.aload_n 0, 1) := by decide +kernel
theorem dX10_init_35 : decode cX10_init 35 = .ok (.iconst 2, 1) := by decide +kernel
theorem dX10_init_36 : decode cX10_init 36 = .ok (.newarray .boolean, 2) := by decide +kernel
theorem dX10_init_38 : decode cX10_init 38 = .ok (.putfield 27, 3) := by decide +kernel
theorem dX10_init_41 : decode cX10_init 41 = .ok (.aload_n 0, 1) := by decide +kernel
theorem dX10_init_42 : decode cX10_init 42 = .ok (.new 31, 3) := by decide +kernel
theorem dX10_init_45 : decode cX10_init 45 = .ok (.dup, 1) := by decide +kernel
theorem dX10_init_46 : decode cX10_init 46 = .ok (.invokespecial 33, 3) := by decide +kernel
theorem dX10_init_49 : decode cX10_init 49 = .ok (.putfield 34, 3) := by decide +kernel
theorem dX10_init_52 : decode cX10_init 52 = .ok (.aload_n 0, 1) := by decide +kernel
theorem dX10_init_53 : decode cX10_init 53 = .ok (.new 38, 3) := by decide +kernel
theorem dX10_init_56 : decode cX10_init 56 = .ok (.dup, 1) := by decide +kernel
theorem dX10_init_57 : decode cX10_init 57 = .ok (.invokespecial 40, 3) := by decide +kernel
theorem dX10_init_60 : decode cX10_init 60 = .ok (.putfield 41, 3) := by decide +kernel
theorem dX10_init_63 : decode cX10_init 63 = .ok (.aload_n 0, 1) := by decide +kernel
theorem dX10_init_64 : decode cX10_init 64 = .ok (.new 45, 3) := by decide +kernel
theorem dX10_init_67 : decode cX10_init 67 = .ok (.dup, 1) := by decide +kernel
theorem dX10_init_68 : decode cX10_init 68 = .ok (.invokespecial 47, 3) := by decide +kernel
theorem dX10_init_71 : decode cX10_init 71 = .ok (.putfield 48, 3) := by decide +kernel
theorem dX10_init_74 : decode cX10_init 74 = .ok (.aload_n 0, 1) := by decide +kernel
theorem dX10_init_75 : decode cX10_init 75 = .ok (.new 52, 3) := by decide +kernel
theorem dX10_init_78 : decode cX10_init 78 = .ok (.dup, 1) := by decide +kernel
theorem dX10_init_79 : decode cX10_init 79 = .ok (.aload_n 0, 1) := by decide +kernel
theorem dX10_init_80 : decode cX10_init 80 = .ok (.getfield 19, 3) := by decide +kernel
theorem dX10_init_83 : decode cX10_init 83 = .ok (.getfield 54, 3) := by decide +kernel
theorem dX10_init_86 : decode cX10_init 86 = .ok (.aload_n 0, 1) := by decide +kernel
theorem dX10_init_87 : decode cX10_init 87 = .ok (.getfield 19, 3) := by decide +kernel
theorem dX10_init_90 : decode cX10_init 90 = .ok (.getfield 57, 3) := by decide +kernel
theorem dX10_init_93 : decode cX10_init 93 = .ok (.aload_n 0, 1) := by decide +kernel
theorem dX10_init_94 : decode cX10_init 94 = .ok (.getfield 19, 3) := by decide +kernel
theorem dX10_init_97 : decode cX10_init 97 = .ok (.getfield 60, 3) := by decide +kernel
theorem dX10_init_100 : decode cX10_init 100 = .ok (.invokespecial 64, 3) := by decide +kernel
theorem dX10_init_103 : decode cX10_init 103 = .ok (.putfield 67, 3) := by decide +kernel
theorem dX10_init_106 : decode cX10_init 106 = .ok (.aload_n 0, 1) := by decide +kernel
theorem dX10_init_107 : decode cX10_init 107 = .ok (.new 71, 3) := by decide +kernel
theorem dX10_init_110 : decode cX10_init 110 = .ok (.dup, 1) := by decide +kernel
theorem dX10_init_111 : decode cX10_init 111 = .ok (.aload_n 0, 1) := by decide +kernel
theorem dX10_init_112 : decode cX10_init 112 = .ok (.getfield 19, 3) := by decide +kernel
theorem dX10_init_115 : decode cX10_init 115 = .ok (.getfield 54, 3) := by decide +kernel
theorem dX10_init_118 : decode cX10_init 118 = .ok (.aload_n 0, 1) := by decide +kernel
theorem dX10_init_119 : decode cX10_init 119 = .ok (.getfield 19, 3) := by decide +kernel
theorem dX10_init_122 : decode cX10_init 122 = .ok (.getfield 57, 3) := by decide +kernel
theorem dX10_init_125 : decode cX10_init 125 = .ok (.aload_n 0, 1) := by decide +kernel
theorem dX10_init_126 : decode cX10_init 126 = .ok (.getfield 19, 3) := by decide +kernel
theorem dX10_init_129 : decode cX10_init 129 = .ok (.getfield 60, 3) := by decide +kernel
theorem dX10_init_132 : decode cX10_init 132 = .ok (.invokespecial 73, 3) := by decide +kernel
theorem dX10_init_135 : decode cX10_init 135 = .ok (.putfield 74, 3) := by decide +kernel
theorem dX10_init_138 : decode cX10_init 138 = .ok (.aload_n 0, 1) := by decide +kernel
theorem dX10_init_139 : decode cX10_init 139 = .ok (.new 78, 3) := by decide +kernel
theorem dX10_init_142 : decode cX10_init 142 = .ok (.dup, 1) := by decide +kernel
theorem dX10_init_143 : decode cX10_init 143 = .ok (.invokespecial 80, 3) := by decide +kernel
theorem dX10_init_146 : decode cX10_init 146 = .ok (.putfield 81, 3) := by decide +kernel
theorem dX10_init_149 : decode cX10_init 149 = .ok (.aload_n 0, 1) := by decide +kernel
theorem dX10_init_150 : decode cX10_init 150 = .ok (.new 85, 3) := by decide +kernel
theorem dX10_init_153 : decode cX10_init 153 = .ok (.dup, 1) := by decide +kernel
theorem dX10_init_154 : decode cX10_init 154 = .ok (.invokespecial 87, 3) := by decide +kernel
theorem dX10_init_157 : decode cX10_init 157 = .ok (.putfield 88, 3) := by decide +kernel
theorem dX10_init_160 : decode cX10_init 160 = .ok (.iconst 0, 1) := by decide +kernel
theorem dX10_init_161 : decode cX10_init 161 = .ok (.istore_n 1, 1) := by decide +kernel
theorem dX10_init_162 : decode cX10_init 162 = .ok (.iload_n 1, 1) := by decide +kernel
theorem dX10_init_163 : decode cX10_init 163 = .ok (.iconst 2, 1) := by decide +kernel
theorem dX10_init_164 : decode cX10_init 164 = .ok (.if_icmp .ge 22, 3) := by decide +kernel
theorem dX10_init_167 : decode cX10_init 167 = .ok (.aload_n 0, 1) := by decide +kernel
theorem dX10_init_168 : decode cX10_init 168 = .ok (.getfield 23, 3) := by decide +kernel
theorem dX10_init_171 : decode cX10_init 171 = .ok (.iload_n 1, 1) := by decide +kernel
theorem dX10_init_172 : decode cX10_init 172 = .ok (.new 16, 3) := by decide +kernel
theorem dX10_init_175 : decode cX10_init 175 = .ok (.dup, 1) := by decide +kernel
theorem dX10_init_176 : decode cX10_init 176 = .ok (.invokespecial 18, 3) := by decide +kernel
theorem dX10_init_179 : decode cX10_init 179 = .ok (.aastore, 1) := by decide +kernel
theorem dX10_init_180 : decode cX10_init 180 = .ok (.iinc 1 1, 3) := by decide +kernel
theorem dX10_init_183 : decode cX10_init 183 = .ok (.goto (-21), 3) := by decide +kernel
theorem dX10_init_186 : decode cX10_init 186 = .ok (.return_, 1) := by decide +kernel
theorem dX4_init_0 : decode cX4_init 0 = .ok (.aload_n 0, 1) := by decide +kernel
theorem dX4_init_1 : decode cX4_init 1 = .ok (.invokespecial 1, 3) := by decide +kernel
theorem dX4_init_4 : decode cX4_init 4 = .ok (.aload_n 0, 1) := by decide +kernel
theorem dX4_init_5 : decode cX4_init 5 = .ok (.new 7, 3) := by decide +kernel
theorem dX4_init_8 : decode cX4_init 8 = .ok (.dup, 1) := by decide +kernel
theorem dX4_init_9 : decode cX4_init 9 = .ok (.invokespecial 9, 3) := by decide +kernel
theorem dX4_init_12 : decode cX4_init 12 = .ok (.putfield 10, 3) := by decide +kernel
theorem dX4_init_15 : decode cX4_init 15 = .ok (.aload_n 0, 1) := by decide +kernel
theorem dX4_init_16 : decode cX4_init 16 = .ok (.new 16, 3) := by decide +kernel
theorem dX4_init_19 : decode cX4_init 19 = .ok (.dup, 1) := by decide +kernel
theorem dX4_init_20 : decode cX4_init 20 = .ok (.invokespecial 18, 3) := by decide +kernel
theorem dX4_init_23 : decode cX4_init 23 = .ok (.putfield 19, 3) := by decide +kernel
theorem dX4_init_26 : decode cX4_init 26 = .ok (.aload_n 0, 1) := by decide +kernel
theorem dX4_init_27 : decode cX4_init 27 = .ok (.new 23, 3) := by decide +kernel
theorem dX4_init_30 : decode cX4_init 30 = .ok (.dup, 1) := by decide +kernel
theorem dX4_init_31 : decode cX4_init 31 = .ok (.invokespecial 25, 3) := by decide +kernel
theorem dX4_init_34 : decode cX4_init 34 = .ok (.putfield 26, 3) := by decide +kernel
theorem dX4_init_37 : decode cX4_init 37 = .ok (.aload_n 0, 1) := by decide +kernel
theorem dX4_init_38 : decode cX4_init 38 = .ok (.new 30, 3) := by decide +kernel
theorem dX4_init_41 : decode cX4_init 41 = .ok (.dup, 1) := by decide +kernel
theorem dX4_init_42 : decode cX4_init 42 = .ok (.invokespecial 32, 3) := by decide +kernel
theorem dX4_init_45 : decode cX4_init 45 = .ok (.putfield 33, 3) := by decide +kernel
theorem dX4_init_48 : decode cX4_init 48 = .ok (.aload_n 0, 1) := by decide +kernel
theorem dX4_init_49 : decode cX4_init 49 = .ok (.new 37, 3) := by decide +kernel
theorem dX4_init_52 : decode cX4_init 52 = .ok (.dup, 1) := by decide +kernel
theorem dX4_init_53 : decode cX4_init 53 = .ok (.aload_n 0, 1) := by decide +kernel
theorem dX4_init_54 : decode cX4_init 54 = .ok (.getfield 10, 3) := by decide +kernel
theorem dX4_init_57 : decode cX4_init 57 = .ok (.aload_n 0, 1) := by decide +kernel
theorem dX4_init_58 : decode cX4_init 58 = .ok (.getfield 19, 3) := by decide +kernel
theorem dX4_init_61 : decode cX4_init 61 = .ok (.aload_n 0, 1) := by decide +kernel
theorem dX4_init_62 : decode cX4_init 62 = .ok (.getfield 33, 3) := by decide +kernel
theorem dX4_init_65 : decode cX4_init 65 = .ok (.invokespecial 39, 3) := by decide +kernel
theorem dX4_init_68 : decode cX4_init 68 = .ok (.putfield 42, 3) := by decide +kernel
theorem dX4_init_71 : decode cX4_init 71 = .ok (.return_, 1) := by decide +kernel
theorem dX8_init_0 : decode cX8_init 0 = .ok (.aload_n 0, 1) := by decide +kernel
theorem dX8_init_1 : decode cX8_init 1 = .ok (.invokespecial 3, 3) := by decide +kernel
theorem dX8_init_4 : decode cX8_init 4 = .ok (.aload_n 0, 1) := by decide +kernel
theorem dX8_init_5 : decode cX8_init 5 = .ok (.bipush 9, 2) := by decide +kernel
theorem dX8_init_7 : decode cX8_init 7 = .ok (.newarray .long, 2) := by decide +kernel
theorem dX8_init_9 : decode cX8_init 9 = .ok (.putfield 9, 3) := by decide +kernel
theorem dX8_init_12 : decode cX8_init 12 = .ok (.aload_n 0, 1) := by decide +kernel
theorem dX8_init_13 : decode cX8_init 13 = .ok (.bipush 9, 2) := by decide +kernel
theorem dX8_init_15 : decode cX8_init 15 = .ok (.newarray .int, 2) := by decide +kernel
theorem dX8_init_17 : decode cX8_init 17 = .ok (.putfield 15, 3) := by decide +kernel
theorem dX8_init_20 : decode cX8_init 20 = .ok (.aload_n 0, 1) := by decide +kernel
theorem dX8_init_21 : decode cX8_init 21 = .ok (.bipush 9, 2) := by decide +kernel
theorem dX8_init_23 : decode cX8_init 23 = .ok (.newarray .int, 2) := by decide +kernel
theorem dX8_init_25 : decode cX8_init 25 = .ok (.putfield 19, 3) := by decide +kernel
theorem dX8_init_28 : decode cX8_init 28 = .ok (.aload_n 0, 1) := by decide +kernel
theorem dX8_init_29 : decode cX8_init 29 = .ok (.bipush 9, 2) := by decide +kernel
theorem dX8_init_31 : decode cX8_init 31 = .ok (.newarray .int, 2) := by decide +kernel
theorem dX8_init_33 : decode cX8_init 33 = .ok (.putfield 22, 3) := by decide +kernel
theorem dX8_init_36 : decode cX8_init 36 = .ok (.aload_n 0, 1) := by decide +kernel
theorem dX8_init_37 : decode cX8_init 37 = .ok (.bipush 9, 2) := by decide +kernel
theorem dX8_init_39 : decode cX8_init 39 = .ok (.newarray .int, 2) := by decide +kernel
theorem dX8_init_41 : decode cX8_init 41 = .ok (.putfield 25, 3) := by decide +kernel
theorem dX8_init_44 : decode cX8_init 44 = .ok (.aload_n 0, 1) := by decide +kernel
theorem dX8_init_45 : decode cX8_init 45 = .ok (.bipush 20, 2) := by decide +kernel
theorem dX8_init_47 : decode cX8_init 47 = .ok (.newarray .int, 2) := by decide +kernel
theorem dX8_init_49 : decode cX8_init 49 = .ok (.putfield 28, 3) := by decide +kernel
theorem dX8_init_52 : decode cX8_init 52 = .ok (.aload_n 0, 1) := by decide +kernel
theorem dX8_init_53 : decode cX8_init 53 = .ok (.bipush 20, 2) := by decide +kernel
theorem dX8_init_55 : decode cX8_init 55 = .ok (.newarray .int, 2) := by decide +kernel
theorem dX8_init_57 : decode cX8_init 57 = .ok (.putfield 31, 3) := by decide +kernel
theorem dX8_init_60 : decode cX8_init 60 = .ok (.aload_n 0, 1) := by decide +kernel
theorem dX8_init_61 : decode cX8_init 61 = .ok (.bipush 20, 2) := by decide +kernel
theorem dX8_init_63 : decode cX8_init 63 = .ok (.newarray .int, 2) := by decide +kernel
theorem dX8_init_65 : decode cX8_init 65 = .ok (.putfield 34, 3) := by decide +kernel
theorem dX8_init_68 : decode cX8_init 68 = .ok (.aload_n 0, 1) := by decide +kernel
theorem dX8_init_69 : decode cX8_init 69 = .ok (.bipush 20, 2) := by decide +kernel
theorem dX8_init_71 : decode cX8_init 71 = .ok (.newarray .int, 2) := by decide +kernel
theorem dX8_init_73 : decode cX8_init 73 = .ok (.putfield 37, 3) := by decide +kernel
theorem dX8_init_76 : decode cX8_init 76 = .ok (.aload_n 0, 1) := by decide +kernel
theorem dX8_init_77 : decode cX8_init 77 = .ok (.iconst 4, 1) := by decide +kernel
theorem dX8_init_78 : decode cX8_init 78 = .ok (.newarray .int, 2) := by decide +kernel
theorem dX8_init_80 : decode cX8_init 80 = .ok (.putfield 40, 3) := by decide +kernel
theorem dX8_init_83 : decode cX8_init 83 = .ok (.aload_n 0, 1) := by decide +kernel
theorem dX8_init_84 : decode cX8_init 84 = .ok (.bipush 100, 2) := by decide +kernel
theorem dX8_init_86 : decode cX8_init 86 = .ok (.newarray .int, 2) := by decide +kernel
theorem dX8_init_88 : decode cX8_init 88 = .ok (.putfield 43, 3) := by decide +kernel
theorem dX8_init_91 : decode cX8_init 91 = .ok (.aload_n 0, 1) := by decide +kernel
theorem dX8_init_92 : decode cX8_init 92 = .ok (.bipush 100, 2) := by decide +kernel
theorem dX8_init_94 : decode cX8_init 94 = .ok (.newarray .int, 2) := by decide +kernel
theorem dX8_init_96 : decode cX8_init 96 = .ok (.putfield 46, 3) := by decide +kernel
theorem dX8_init_99 : decode cX8_init 99 = .ok (.aload_n 0, 1) := by decide +kernel
theorem dX8_init_100 : decode cX8_init 100 = .ok (.iconst 4, 1) := by decide +kernel
theorem dX8_init_101 : decode cX8_init 101 = .ok (.newarray .int, 2) := by decide +kernel
theorem dX8_init_103 : decode cX8_init 103 = .ok (.putfield 49, 3) := by decide +kernel
theorem dX8_init_106 : decode cX8_init 106 = .ok (.aload_n 0, 1) := by decide +kernel
theorem dX8_init_107 : decode cX8_init 107 = .ok (.invokevirtual 52, 3) := by decide +kernel
theorem dX8_init_110 : decode cX8_init 110 = .ok (.return_, 1) := by decide +kernel
theorem dX2_init_0 : decode cX2_init 0 = .ok (.aload_n 0, 1) := by decide +kernel
theorem dX2_init_1 : decode cX2_init 1 = .ok (.invokespecial 3, 3) := by decide +kernel
theorem dX2_init_4 : decode cX2_init 4 = .ok (.aload_n 0, 1) := by decide +kernel
theorem dX2_init_5 : decode cX2_init 5 = .ok (.bipush 9, 2) := by decide +kernel
theorem dX2_init_7 : decode cX2_init 7 = .ok (.newarray .int, 2) := by decide +kernel
theorem dX2_init_9 : decode cX2_init 9 = .ok (.putfield 9, 3) := by decide +kernel
theorem dX2_init_12 : decode cX2_init 12 = .ok (.aload_n 0, 1) := by decide +kernel
theorem dX2_init_13 : decode cX2_init 13 = .ok (.bipush 9, 2) := by decide +kernel
theorem dX2_init_15 : decode cX2_init 15 = .ok (.newarray .int, 2) := by decide +kernel
theorem dX2_init_17 : decode cX2_init 17 = .ok (.putfield 15, 3) := by decide +kernel
theorem dX2_init_20 : decode cX2_init 20 = .ok (.aload_n 0, 1) := by decide +kernel
theorem dX2_init_21 : decode cX2_init 21 = .ok (.bipush 9, 2) := by decide +kernel
theorem dX2_init_23 : decode cX2_init 23 = .ok (.newarray .int, 2) := by decide +kernel
theorem dX2_init_25 : decode cX2_init 25 = .ok (.putfield 18, 3) := by decide +kernel
theorem dX2_init_28 : decode cX2_init 28 = .ok (.aload_n 0, 1) := by decide +kernel
theorem dX2_init_29 : decode cX2_init 29 = .ok (.invokevirtual 21, 3) := by decide +kernel
theorem dX2_init_32 : decode cX2_init 32 = .ok (.return_, 1) := by decide +kernel
theorem dX3_init_0 : decode cX3_init 0 = .ok (.aload_n 0, 1) := by decide +kernel
theorem dX3_init_1 : decode cX3_init 1 = .ok (.invokespecial 5, 3) := by decide +kernel
theorem dX3_init_4 : decode cX3_init 4 = .ok (.aload_n 0, 1) := by decide +kernel
theorem dX3_init_5 : decode cX3_init 5 = .ok (.bipush 40, 2) := by decide +kernel
theorem dX3_init_7 : decode cX3_init 7 = .ok (.newarray .int, 2) := by decide +kernel
theorem dX3_init_9 : decode cX3_init 9 = .ok (.putfield 11, 3) := by decide +kernel
theorem dX3_init_12 : decode cX3_init 12 = .ok (.aload_n 0, 1) := by decide +kernel
theorem dX3_init_13 : decode cX3_init 13 = .ok (.bipush 40, 2) := by decide +kernel
theorem dX3_init_15 : decode cX3_init 15 = .ok (.newarray .int, 2) := by decide +kernel
theorem dX3_init_17 : decode cX3_init 17 = .ok (.putfield 15, 3) := by decide +kernel
theorem dX3_init_20 : decode cX3_init 20 = .ok (.aload_n 0, 1) := by decide +kernel
theorem dX3_init_21 : decode cX3_init 21 = .ok (.bipush 40, 2) := by decide +kernel
theorem dX3_init_23 : decode cX3_init 23 = .ok (.newarray .int, 2) := by decide +kernel
theorem dX3_init_25 : decode cX3_init 25 = .ok (.putfield 18, 3) := by decide +kernel
theorem dX3_init_28 : decode cX3_init 28 = .ok (.aload_n 0, 1) := by decide +kernel
theorem dX3_init_29 : decode cX3_init 29 = .ok (.bipush 20, 2) := by decide +kernel
theorem dX3_init_31 : decode cX3_init 31 = .ok (.newarray .boolean, 2) := by decide +kernel
theorem dX3_init_33 : decode cX3_init 33 = .ok (.putfield 21, 3) := by decide +kernel
theorem dX3_init_36 : decode cX3_init 36 = .ok (.return_, 1) := by decide +kernel
theorem dX1_init_0 : decode cX1_init 0 = .ok (.aload_n 0, 1) := by decide +kernel
theorem dX1_init_1 : decode cX1_init 1 = .ok (.invokespecial 3, 3) := by decide +kernel
theorem dX1_init_4 : decode cX1_init 4 = .ok (.aload_n 0, 1) := by decide +kernel
theorem dX1_init_5 : decode cX1_init 5 = .ok (.sipush 360, 3) := by decide +kernel
theorem dX1_init_8 : decode cX1_init 8 = .ok (.newarray .int, 2) := by decide +kernel
theorem dX1_init_10 : decode cX1_init 10 = .ok (.putfield 11, 3) := by decide +kernel
theorem dX1_init_13 : decode cX1_init 13 = .ok (.aload_n 0, 1) := by decide +kernel
theorem dX1_init_14 : decode cX1_init 14 = .ok (.bipush 18, 2) := by decide +kernel
theorem dX1_init_16 : decode cX1_init 16 = .ok (.newarray .int, 2) := by decide +kernel
theorem dX1_init_18 : decode cX1_init 18 = .ok (.putfield 15, 3) := by decide +kernel
theorem dX1_init_21 : decode cX1_init 21 = .ok (.aload_n 0, 1) := by decide +kernel
theorem dX1_init_22 : decode cX1_init 22 = .ok (.bipush 20, 2) := by decide +kernel
theorem dX1_init_24 : decode cX1_init 24 = .ok (.newarray .boolean, 2) := by decide +kernel
theorem dX1_init_26 : decode cX1_init 26 = .ok (.putfield 18, 3) := by decide +kernel
theorem dX1_init_29 : decode cX1_init 29 = .ok (.aload_n 0, 1) := by decide +kernel
theorem dX1_init_30 : decode cX1_init 30 = .ok (.bipush 20, 2) := by decide +kernel
theorem dX1_init_32 : decode cX1_init 32 = .ok (.newarray .int, 2) := by decide +kernel
theorem dX1_init_34 : decode cX1_init 34 = .ok (.putfield 22, 3) := by decide +kernel
theorem dX1_init_37 : decode cX1_init 37 = .ok (.aload_n 0, 1) := by decide +kernel
theorem dX1_init_38 : decode cX1_init 38 = .ok (.bipush 60, 2) := by decide +kernel
theorem dX1_init_40 : decode cX1_init 40 = .ok (.newarray .int, 2) := by decide +kernel
theorem dX1_init_42 : decode cX1_init 42 = .ok (.putfield 25, 3) := by decide +kernel
theorem dX1_init_45 : decode cX1_init 45 = .ok (.aload_n 0, 1) := by decide +kernel
theorem dX1_init_46 : decode cX1_init 46 = .ok (.bipush 100, 2) := by decide +kernel
theorem dX1_init_48 : decode cX1_init 48 = .ok (.newarray .int, 2) := by decide +kernel
theorem dX1_init_50 : decode cX1_init 50 = .ok (.putfield 28, 3) := by decide +kernel
theorem dX1_init_53 : decode cX1_init 53 = .ok (.aload_n 0, 1) := by decide +kernel
theorem dX1_init_54 : decode cX1_init 54 = .ok (.sipush 240, 3) := by decide +kernel
theorem dX1_init_57 : decode cX1_init 57 = .ok (.newarray .int, 2) := by decide +kernel
theorem dX1_init_59 : decode cX1_init 59 = .ok (.putfield 31, 3) := by decide +kernel
theorem dX1_init_62 : decode cX1_init 62 = .ok (.aload_n 0, 1) := by decide +kernel
theorem dX1_init_63 : decode cX1_init 63 = .ok (.bipush 80, 2) := by decide +kernel
theorem dX1_init_65 : decode cX1_init 65 = .ok (.newarray .int, 2) := by decide +kernel
theorem dX1_init_67 : decode cX1_init 67 = .ok (.putfield 34, 3) := by decide +kernel
theorem dX1_init_70 : decode cX1_init 70 = .ok (.aload_n 0, 1) := by decide +kernel
theorem dX1_init_71 : decode cX1_init 71 = .ok (.bipush 81, 2) := by decide +kernel
theorem dX1_init_73 : decode cX1_init 73 = .ok (.newarray .int, 2) := by decide +kernel
theorem dX1_init_75 : decode cX1_init 75 = .ok (.putfield 37, 3) := by decide +kernel
theorem dX1_init_78 : decode cX1_init 78 = .ok (.aload_n 0, 1) := by decide +kernel
theorem dX1_init_79 : decode cX1_init 79 = .ok (.bipush 80, 2) := by decide +kernel
theorem dX1_init_81 : decode cX1_init 81 = .ok (.newarray .int, 2) := by decide +kernel
theorem dX1_init_83 : decode cX1_init 83 = .ok (.putfield 40, 3) := by decide +kernel
theorem dX1_init_86 : decode cX1_init 86 = .ok (.aload_n 0, 1) := by decide +kernel
theorem dX1_init_87 : decode cX1_init 87 = .ok (.getfield 31, 3) := by decide +kernel
theorem dX1_init_90 : decode cX1_init 90 = .ok (.iconst (-1), 1) := by decide +kernel
theorem dX1_init_91 : decode cX1_init 91 = .ok (.invokestatic 43, 3) := by decide +kernel
theorem dX1_init_94 : decode cX1_init 94 = .ok (.return_, 1) := by decide +kernel
theorem dX0_init_0 : decode cX0_init 0 = .ok (.aload_n 0, 1) := by decide +kernel
theorem dX0_init_1 : decode cX0_init 1 = .ok (.invokespecial 3, 3) := by decide +kernel
theorem dX0_init_4 : decode cX0_init 4 = .ok (.aload_n 0, 1) := by decide +kernel
theorem dX0_init_5 : decode cX0_init 5 = .ok (.iconst 5, 1) := by decide +kernel
theorem dX0_init_6 : decode cX0_init 6 = .ok (.newarray .int, 2) := by decide +kernel
theorem dX0_init_8 : decode cX0_init 8 = .ok (.putfield 9, 3) := by decide +kernel
theorem dX0_init_11 : decode cX0_init 11 = .ok (.aload_n 0, 1) := by decide +kernel
theorem dX0_init_12 : decode cX0_init 12 = .ok (.bipush 9, 2) := by decide +kernel
theorem dX0_init_14 : decode cX0_init 14 = .ok (.newarray .int, 2) := by decide +kernel
theorem dX0_init_16 : decode cX0_init 16 = .ok (.putfield 15, 3) := by decide +kernel
theorem dX0_init_19 : decode cX0_init 19 = .ok (.aload_n 0, 1) := by decide +kernel
theorem dX0_init_20 : decode cX0_init 20 = .ok (.bipush 9, 2) := by decide +kernel
theorem dX0_init_22 : decode cX0_init 22 = .ok (.newarray .int, 2) := by decide +kernel
theorem dX0_init_24 : decode cX0_init 24 = .ok (.putfield 18, 3) := by decide +kernel
theorem dX0_init_27 : decode cX0_init 27 = .ok (.aload_n 0, 1) := by decide +kernel
theorem dX0_init_28 : decode cX0_init 28 = .ok (.bipush 9, 2) := by decide +kernel
theorem dX0_init_30 : decode cX0_init 30 = .ok (.newarray .int, 2) := by decide +kernel
theorem dX0_init_32 : decode cX0_init 32 = .ok (.putfield 21, 3) := by decide +kernel
theorem dX0_init_35 : decode cX0_init 35 = .ok (.aload_n 0, 1) := by decide +kernel
theorem dX0_init_36 : decode cX0_init 36 = .ok (.bipush 9, 2) := by decide +kernel
theorem dX0_init_38 : decode cX0_init 38 = .ok (.newarray .int, 2) := by decide +kernel
theorem dX0_init_40 : decode cX0_init 40 = .ok (.putfield 24, 3) := by decide +kernel
theorem dX0_init_43 : decode cX0_init 43 = .ok (.aload_n 0, 1) := by decide +kernel
theorem dX0_init_44 : decode cX0_init 44 = .ok (.sipush 180, 3) := by decide +kernel
theorem dX0_init_47 : decode cX0_init 47 = .ok (.newarray .int, 2) := by decide +kernel
theorem dX0_init_49 : decode cX0_init 49 = .ok (.putfield 27, 3) := by decide +kernel
theorem dX0_init_52 : decode cX0_init 52 = .ok (.aload_n 0, 1) := by decide +kernel
theorem dX0_init_53 : decode cX0_init 53 = .ok (.bipush 20, 2) := by decide +kernel
theorem dX0_init_55 : decode cX0_init 55 = .ok (.newarray .int, 2) := by decide +kernel
theorem dX0_init_57 : decode cX0_init 57 = .ok (.putfield 30, 3) := by decide +kernel
theorem dX0_init_60 : decode cX0_init 60 = .ok (.aload_n 0, 1) := by decide +kernel
theorem dX0_init_61 : decode cX0_init 61 = .ok (.bipush 20, 2) := by decide +kernel
theorem dX0_init_63 : decode cX0_init 63 = .ok (.newarray .int, 2) := by decide +kernel
theorem dX0_init_65 : decode cX0_init 65 = .ok (.putfield 33, 3) := by decide +kernel
theorem dX0_init_68 : decode cX0_init 68 = .ok (.aload_n 0, 1) := by decide +kernel
theorem dX0_init_69 : decode cX0_init 69 = .ok (.bipush 100, 2) := by decide +kernel
theorem dX0_init_71 : decode cX0_init 71 = .ok (.newarray .int, 2) := by decide +kernel
theorem dX0_init_73 : decode cX0_init 73 = .ok (.putfield 36, 3) := by decide +kernel
theorem dX0_init_76 : decode cX0_init 76 = .ok (.aload_n 0, 1) := by decide +kernel
theorem dX0_init_77 : decode cX0_init 77 = .ok (.bipush 100, 2) := by decide +kernel
theorem dX0_init_79 : decode cX0_init 79 = .ok (.newarray .int, 2) := by decide +kernel
theorem dX0_init_81 : decode cX0_init 81 = .ok (.putfield 39, 3) := by decide +kernel
theorem dX0_init_84 : decode cX0_init 84 = .ok (.aload_n 0, 1) := by decide +kernel
theorem dX0_init_85 : decode cX0_init 85 = .ok (.bipush 54, 2) := by decide +kernel
theorem dX0_init_87 : decode cX0_init 87 = .ok (.newarray .int, 2) := by decide +kernel
theorem dX0_init_89 : decode cX0_init 89 = .ok (.putfield 42, 3) := by decide +kernel
theorem dX0_init_92 : decode cX0_init 92 = .ok (.aload_n 0, 1) := by decide +kernel
theorem dX0_init_93 : decode cX0_init 93 = .ok (.aload_n 1, 1) := by decide +kernel
theorem dX0_init_94 : decode cX0_init 94 = .ok (.putfield 45, 3) := by decide +kernel
theorem dX0_init_97 : decode cX0_init 97 = .ok (.aload_n 0, 1) := by decide +kernel
theorem dX0_init_98 : decode cX0_init 98 = .ok (.aload_n 2, 1) := by decide +kernel
theorem dX0_init_99 : decode cX0_init 99 = .ok (.putfield 49, 3) := by decide +kernel
theorem dX0_init_102 : decode cX0_init 102 = .ok (.aload_n 0, 1) := by decide +kernel
theorem dX0_init_103 : decode cX0_init 103 = .ok (.aload_n 3, 1) := by decide +kernel
theorem dX0_init_104 : decode cX0_init 104 = .ok (.putfield 53, 3) := by decide +kernel
theorem dX0_init_107 : decode cX0_init 107 = .ok (.return_, 1) := by decide +kernel
theorem dX5_init_0 : decode cX5_init 0 = .ok (.aload_n 0, 1) := by decide +kernel
theorem dX5_init_1 : decode cX5_init 1 = .ok (.invokespecial 3, 3) := by decide +kernel
theorem dX5_init_4 : decode cX5_init 4 = .ok (.aload_n 0, 1) := by decide +kernel
theorem dX5_init_5 : decode cX5_init 5 = .ok (.sipush 720, 3) := by decide +kernel
theorem dX5_init_8 : decode cX5_init 8 = .ok (.newarray .int, 2) := by decide +kernel
theorem dX5_init_10 : decode cX5_init 10 = .ok (.putfield 9, 3) := by decide +kernel
theorem dX5_init_13 : decode cX5_init 13 = .ok (.aload_n 0, 1) := by decide +kernel
theorem dX5_init_14 : decode cX5_init 14 = .ok (.bipush 80, 2) := by decide +kernel
theorem dX5_init_16 : decode cX5_init 16 = .ok (.newarray .int, 2) := by decide +kernel
theorem dX5_init_18 : decode cX5_init 18 = .ok (.putfield 15, 3) := by decide +kernel
theorem dX5_init_21 : decode cX5_init 21 = .ok (.aload_n 0, 1) := by decide +kernel
theorem dX5_init_22 : decode cX5_init 22 = .ok (.bipush 9, 2) := by decide +kernel
theorem dX5_init_24 : decode cX5_init 24 = .ok (.newarray .int, 2) := by decide +kernel
theorem dX5_init_26 : decode cX5_init 26 = .ok (.putfield 18, 3) := by decide +kernel
theorem dX5_init_29 : decode cX5_init 29 = .ok (.aload_n 0, 1) := by decide +kernel
theorem dX5_init_30 : decode cX5_init 30 = .ok (.bipush 9, 2) := by decide +kernel
theorem dX5_init_32 : decode cX5_init 32 = .ok (.newarray .int, 2) := by decide +kernel
theorem dX5_init_34 : decode cX5_init 34 = .ok (.putfield 21, 3) := by decide +kernel
theorem dX5_init_37 : decode cX5_init 37 = .ok (.aload_n 0, 1) := by decide +kernel
theorem dX5_init_38 : decode cX5_init 38 = .ok (.bipush 20, 2) := by decide +kernel
theorem dX5_init_40 : decode cX5_init 40 = .ok (.newarray .int, 2) := by decide +kernel
theorem dX5_init_42 : decode cX5_init 42 = .ok (.putfield 24, 3) := by decide +kernel
theorem dX5_init_45 : decode cX5_init 45 = .ok (.aload_n 0, 1) := by decide +kernel
theorem dX5_init_46 : decode cX5_init 46 = .ok (.bipush 6, 2) := by decide +kernel
theorem dX5_init_48 : decode cX5_init 48 = .ok (.newarray .int, 2) := by decide +kernel
theorem dX5_init_50 : decode cX5_init 50 = .ok (.putfield 27, 3) := by decide +kernel
theorem dX5_init_53 : decode cX5_init 53 = .ok (.aload_n 0, 1) := by decide +kernel
theorem dX5_init_54 : decode cX5_init 54 = .ok (.sipush 384, 3) := by decide +kernel
theorem dX5_init_57 : decode cX5_init 57 = .ok (.newarray .int, 2) := by decide +kernel
theorem dX5_init_59 : decode cX5_init 59 = .ok (.putfield 30, 3) := by decide +kernel
theorem dX5_init_62 : decode cX5_init 62 = .ok (.aload_n 0, 1) := by decide +kernel
theorem dX5_init_63 : decode cX5_init 63 = .ok (.bipush 72, 2) := by decide +kernel
theorem dX5_init_65 : decode cX5_init 65 = .ok (.newarray .int, 2) := by decide +kernel
theorem dX5_init_67 : decode cX5_init 67 = .ok (.putfield 33, 3) := by decide +kernel
theorem dX5_init_70 : decode cX5_init 70 = .ok (.aload_n 0, 1) := by decide +kernel
theorem dX5_init_71 : decode cX5_init 71 = .ok (.aload_n 1, 1) := by decide +kernel
theorem dX5_init_72 : decode cX5_init 72 = .ok (.putfield 36, 3) := by decide +kernel
theorem dX5_init_75 : decode cX5_init 75 = .ok (.aload_n 0, 1) := by decide +kernel
theorem dX5_init_76 : decode cX5_init 76 = .ok (.aload_n 2, 1) := by decide +kernel
theorem dX5_init_77 : decode cX5_init 77 = .ok (.putfield 40, 3) := by decide +kernel
theorem dX5_init_80 : decode cX5_init 80 = .ok (.aload_n 0, 1) := by decide +kernel
theorem dX5_init_81 : decode cX5_init 81 = .ok (.aload_n 3, 1) := by decide +kernel
theorem dX5_init_82 : decode cX5_init 82 = .ok (.putfield 44, 3) := by decide +kernel
theorem dX5_init_85 : decode cX5_init 85 = .ok (.return_, 1) := by decide +kernel
theorem dX7_init_0 : decode cX7_init 0 = .ok (.aload_n 0, 1) := by decide +kernel
theorem dX7_init_1 : decode cX7_init 1 = .ok (.invokespecial 3, 3) := by decide +kernel
theorem dX7_init_4 : decode cX7_init 4 = .ok (.aload_n 0, 1) := by decide +kernel
theorem dX7_init_5 : decode cX7_init 5 = .ok (.iconst 3, 1) := by decide +kernel
theorem dX7_init_6 : decode cX7_init 6 = .ok (.newarray .int, 2) := by decide +kernel
theorem dX7_init_8 : decode cX7_init 8 = .ok (.putfield 9, 3) := by decide +kernel
theorem dX7_init_11 : decode cX7_init 11 = .ok (.aload_n 0, 1) := by decide +kernel
theorem dX7_init_12 : decode cX7_init 12 = .ok (.bipush 10, 2) := by decide +kernel
theorem dX7_init_14 : decode cX7_init 14 = .ok (.newarray .int, 2) := by decide +kernel
theorem dX7_init_16 : decode cX7_init 16 = .ok (.putfield 15, 3) := by decide +kernel
theorem dX7_init_19 : decode cX7_init 19 = .ok (.aload_n 0, 1) := by decide +kernel
theorem dX7_init_20 : decode cX7_init 20 = .ok (.bipush 100, 2) := by decide +kernel
theorem dX7_init_22 : decode cX7_init 22 = .ok (.newarray .int, 2) := by decide +kernel
theorem dX7_init_24 : decode cX7_init 24 = .ok (.putfield 18, 3) := by decide +kernel
theorem dX7_init_27 : decode cX7_init 27 = .ok (.aload_n 0, 1) := by decide +kernel
theorem dX7_init_28 : decode cX7_init 28 = .ok (.getfield 9, 3) := by decide +kernel
theorem dX7_init_31 : decode cX7_init 31 = .ok (.iconst (-1), 1) := by decide +kernel
theorem dX7_init_32 : decode cX7_init 32 = .ok (.invokestatic 21, 3) := by decide +kernel
theorem dX7_init_35 : decode cX7_init 35 = .ok (.return_, 1) := by decide +kernel
theorem dX9_init_0 : decode cX9_init 0 = .ok (.aload_n 0, 1) := by decide +kernel
theorem dX9_init_1 : decode cX9_init 1 = .ok (.invokespecial 3, 3) := by decide +kernel
theorem dX9_init_4 : decode cX9_init 4 = .ok (.aload_n 0, 1) := by decide +kernel
theorem dX9_init_5 : decode cX9_init 5 = .ok (.bipush 8, 2) := by decide +kernel
theorem dX9_init_7 : decode cX9_init 7 = .ok (.newarray .int, 2) := by decide +kernel
theorem dX9_init_9 : decode cX9_init 9 = .ok (.putfield 11, 3) := by decide +kernel
theorem dX9_init_12 : decode cX9_init 12 = .ok (.aload_n 0, 1) := by decide +kernel
theorem dX9_init_13 : decode cX9_init 13 = .ok (.bipush 8, 2) := by decide +kernel
theorem dX9_init_15 : decode cX9_init 15 = .ok (.newarray .int, 2) := by decide +kernel
theorem dX9_init_17 : decode cX9_init 17 = .ok (.putfield 15, 3) := by decide +kernel
theorem dX9_init_20 : decode cX9_init 20 = .ok (.aload_n 0, 1) := by decide +kernel
theorem dX9_init_21 : decode cX9_init 21 = .ok (.bipush 8, 2) := by decide +kernel
theorem dX9_init_23 : decode cX9_init 23 = .ok (.newarray .int, 2) := by decide +kernel
theorem dX9_init_25 : decode cX9_init 25 = .ok (.putfield 18, 3) := by decide +kernel
theorem dX9_init_28 : decode cX9_init 28 = .ok (.aload_n 0, 1) := by decide +kernel
theorem dX9_init_29 : decode cX9_init 29 = .ok (.bipush 81, 2) := by decide +kernel
theorem dX9_init_31 : decode cX9_init 31 = .ok (.newarray .int, 2) := by decide +kernel
theorem dX9_init_33 : decode cX9_init 33 = .ok (.putfield 21, 3) := by decide +kernel
theorem dX9_init_36 : decode cX9_init 36 = .ok (.aload_n 0, 1) := by decide +kernel
theorem dX9_init_37 : decode cX9_init 37 = .ok (.bipush 100, 2) := by decide +kernel
theorem dX9_init_39 : decode cX9_init 39 = .ok (.newarray .int, 2) := by decide +kernel
theorem dX9_init_41 : decode cX9_init 41 = .ok (.putfield 24, 3) := by decide +kernel
theorem dX9_init_44 : decode cX9_init 44 = .ok (.aload_n 0, 1) := by decide +kernel
theorem dX9_init_45 : decode cX9_init 45 = .ok (.sipush 512, 3) := by decide +kernel
theorem dX9_init_48 : decode cX9_init 48 = .ok (.newarray .int, 2) := by decide +kernel
theorem dX9_init_50 : decode cX9_init 50 = .ok (.putfield 27, 3) := by decide +kernel
theorem dX9_init_53 : decode cX9_init 53 = .ok (.aload_n 0, 1) := by decide +kernel
theorem dX9_init_54 : decode cX9_init 54 = .ok (.sipush 512, 3) := by decide +kernel
theorem dX9_init_57 : decode cX9_init 57 = .ok (.newarray .long, 2) := by decide +kernel
theorem dX9_init_59 : decode cX9_init 59 = .ok (.putfield 30, 3) := by decide +kernel
theorem dX9_init_62 : decode cX9_init 62 = .ok (.return_, 1) := by decide +kernel
theorem dX11_init_0 : decode cX11_init 0 = .ok (.aload_n 0, 1) := by decide +kernel
theorem dX11_init_1 : decode cX11_init 1 = .ok (.invokespecial 27, 3) := by decide +kernel
theorem dX11_init_4 : decode cX11_init 4 = .ok (.aload_n 0, 1) := by decide +kernel
theorem dX11_init_5 : decode cX11_init 5 = .ok (.sipush 940, 3) := by decide +kernel
theorem dX11_init_8 : decode cX11_init 8 = .ok (.newarray .byte, 2) := by decide +kernel
theorem dX11_init_10 : decode cX11_init 10 = .ok (.putfield 14, 3) := by decide +kernel
theorem dX11_init_13 : decode cX11_init 13 = .ok (.aload_n 0, 1) := by decide +kernel
theorem dX11_init_14 : decode cX11_init 14 = .ok (.sipush 1155, 3) := by decide +kernel
theorem dX11_init_17 : decode cX11_init 17 = .ok (.newarray .int, 2) := by decide +kernel
theorem dX11_init_19 : decode cX11_init 19 = .ok (.putfield 33, 3) := by decide +kernel
theorem dX11_init_22 : decode cX11_init 22 = .ok (.aload_n 0, 1) := by decide +kernel
theorem dX11_init_23 : decode cX11_init 23 = .ok (.sipush 427, 3) := by decide +kernel
theorem dX11_init_26 : decode cX11_init 26 = .ok (.newarray .int, 2) := by decide +kernel
theorem dX11_init_28 : decode cX11_init 28 = .ok (.putfield 37, 3) := by decide +kernel
theorem dX11_init_31 : decode cX11_init 31 = .ok (.aload_n 0, 1) := by decide +kernel
theorem dX11_init_32 : decode cX11_init 32 = .ok (.sipush 135, 3) := by decide +kernel
theorem dX11_init_35 : decode cX11_init 35 = .ok (.newarray .int, 2) := by decide +kernel
theorem dX11_init_37 : decode cX11_init 37 = .ok (.putfield 40, 3) := by decide +kernel
theorem dX11_init_40 : decode cX11_init 40 = .ok (.aload_n 0, 1) := by decide +kernel
theorem dX11_init_41 : decode cX11_init 41 = .ok (.bipush 18, 2) := by decide +kernel
theorem dX11_init_43 : decode cX11_init 43 = .ok (.newarray .long, 2) := by decide +kernel
theorem dX11_init_45 : decode cX11_init 45 = .ok (.putfield 43, 3) := by decide +kernel
theorem dX11_init_48 : decode cX11_init 48 = .ok (.aload_n 0, 1) := by decide +kernel
theorem dX11_init_49 : decode cX11_init 49 = .ok (.bipush 20, 2) := by decide +kernel
theorem dX11_init_51 : decode cX11_init 51 = .ok (.newarray .long, 2) := by decide +kernel
theorem dX11_init_53 : decode cX11_init 53 = .ok (.putfield 47, 3) := by decide +kernel
theorem dX11_init_56 : decode cX11_init 56 = .ok (.aload_n 0, 1) := by decide +kernel
theorem dX11_init_57 : decode cX11_init 57 = .ok (.sipush 519, 3) := by decide +kernel
theorem dX11_init_60 : decode cX11_init 60 = .ok (.newarray .int, 2) := by decide +kernel
theorem dX11_init_62 : decode cX11_init 62 = .ok (.putfield 50, 3) := by decide +kernel
theorem dX11_init_65 : decode cX11_init 65 = .ok (.aload_n 0, 1) := by decide +kernel
theorem dX11_init_66 : decode cX11_init 66 = .ok (.bipush 9, 2) := by decide +kernel
theorem dX11_init_68 : decode cX11_init 68 = .ok (.newarray .int, 2) := by decide +kernel
theorem dX11_init_70 : decode cX11_init 70 = .ok (.putfield 53, 3) := by decide +kernel
theorem dX11_init_73 : decode cX11_init 73 = .ok (.aload_n 0, 1) := by decide +kernel
theorem dX11_init_74 : decode cX11_init 74 = .ok (.iconst 3, 1) := by decide +kernel
theorem dX11_init_75 : decode cX11_init 75 = .ok (.newarray .int, 2) := by decide +kernel
theorem dX11_init_77 : decode cX11_init 77 = .ok (.putfield 56, 3) := by decide +kernel
theorem dX11_init_80 : decode cX11_init 80 = .ok (.aload_n 0, 1) := by decide +kernel
theorem dX11_init_81 : decode cX11_init 81 = .ok (.bipush 10, 2) := by decide +kernel
theorem dX11_init_83 : decode cX11_init 83 = .ok (.newarray .int, 2) := by decide +kernel
theorem dX11_init_85 : decode cX11_init 85 = .ok (.putfield 59, 3) := by decide +kernel
theorem dX11_init_88 : decode cX11_init 88 = .ok (.aload_n 0, 1) := by decide +kernel
theorem dX11_init_89 : decode cX11_init 89 = .ok (.bipush 9, 2) := by decide +kernel
theorem dX11_init_91 : decode cX11_init 91 = .ok (.newarray .int, 2) := by decide +kernel
theorem dX11_init_93 : decode cX11_init 93 = .ok (.putfield 62, 3) := by decide +kernel
theorem dX11_init_96 : decode cX11_init 96 = .ok (.aload_n 0, 1) := by decide +kernel
theorem dX11_init_97 : decode cX11_init 97 = .ok (.sipush 576, 3) := by decide +kernel
theorem dX11_init_100 : decode cX11_init 100 = .ok (.newarray .int, 2) := by decide +kernel
theorem dX11_init_102 : decode cX11_init 102 = .ok (.putfield 65, 3) := by decide +kernel
theorem dX11_init_105 : decode cX11_init 105 = .ok (.aload_n 0, 1) := by decide +kernel
theorem dX11_init_106 : decode cX11_init 106 = .ok (.bipush 64, 2) := by decide +kernel
theorem dX11_init_108 : decode cX11_init 108 = .ok (.newarray .int, 2) := by decide +kernel
theorem dX11_init_110 : decode cX11_init 110 = .ok (.putfield 68, 3) := by decide +kernel
theorem dX11_init_113 : decode cX11_init 113 = .ok (.aload_n 0, 1) := by decide +kernel
theorem dX11_init_114 : decode cX11_init 114 = .ok (.bipush 100, 2) := by decide +kernel
theorem dX11_init_116 : decode cX11_init 116 = .ok (.newarray .int, 2) := by decide +kernel
theorem dX11_init_118 : decode cX11_init 118 = .ok (.putfield 71, 3) := by decide +kernel
theorem dX11_init_121 : decode cX11_init 121 = .ok (.aload_n 0, 1) := by decide +kernel
theorem dX11_init_122 : decode cX11_init 122 = .ok (.bipush 8, 2) := by decide +kernel
theorem dX11_init_124 : decode cX11_init 124 = .ok (.newarray .int, 2) := by decide +kernel
theorem dX11_init_126 : decode cX11_init 126 = .ok (.putfield 74, 3) := by decide +kernel
theorem dX11_init_129 : decode cX11_init 129 = .ok (.aload_n 0, 1) := by decide +kernel
theorem dX11_init_130 : decode cX11_init 130 = .ok (.bipush 8, 2) := by decide +kernel
theorem dX11_init_132 : decode cX11_init 132 = .ok (.newarray .int, 2) := by decide +kernel
theorem dX11_init_134 : decode cX11_init 134 = .ok (.putfield 77, 3) := by decide +kernel
theorem dX11_init_137 : decode cX11_init 137 = .ok (.aload_n 0, 1) := by decide +kernel
theorem dX11_init_138 : decode cX11_init 138 = .ok (.bipush 9, 2) := by decide +kernel
theorem dX11_init_140 : decode cX11_init 140 = .ok (.newarray .int, 2) := by decide +kernel
theorem dX11_init_142 : decode cX11_init 142 = .ok (.putfield 80, 3) := by decide +kernel
theorem dX11_init_145 : decode cX11_init 145 = .ok (.aload_n 0, 1) := by decide +kernel
theorem dX11_init_146 : decode cX11_init 146 = .ok (.ldc 83, 2) := by decide +kernel
theorem dX11_init_148 : decode cX11_init 148 = .ok (.newarray .int, 2) := by decide +kernel
theorem dX11_init_150 : decode cX11_init 150 = .ok (.putfield 84, 3) := by decide +kernel
theorem dX11_init_153 : decode cX11_init 153 = .ok (.aload_n 0, 1) := by decide +kernel
theorem dX11_init_154 : decode cX11_init 154 = .ok (.bipush 9, 2) := by decide +kernel
theorem dX11_init_156 : decode cX11_init 156 = .ok (.newarray .int, 2) := by decide +kernel
theorem dX11_init_158 : decode cX11_init 158 = .ok (.putfield 87, 3) := by decide +kernel
theorem dX11_init_161 : decode cX11_init 161 = .ok (.aload_n 0, 1) := by decide +kernel
theorem dX11_init_162 : decode cX11_init 162 = .ok (.bipush 72, 2) := by decide +kernel
theorem dX11_init_164 : decode cX11_init 164 = .ok (.newarray .int, 2) := by decide +kernel
theorem dX11_init_166 : decode cX11_init 166 = .ok (.putfield 90, 3) := by decide +kernel
theorem dX11_init_169 : decode cX11_init 169 = .ok (.aload_n 0, 1) := by decide +kernel
theorem dX11_init_170 : decode cX11_init 170 = .ok (.bipush 6, 2) := by decide +kernel
theorem dX11_init_172 : decode cX11_init 172 = .ok (.newarray .int, 2) := by decide +kernel
theorem dX11_init_174 : decode cX11_init 174 = .ok (.putfield 93, 3) := by decide +kernel
theorem dX11_init_177 : decode cX11_init 177 = .ok (.aload_n 0, 1) := by decide +kernel
theorem dX11_init_178 : decode cX11_init 178 = .ok (.bipush 45, 2) := by decide +kernel
theorem dX11_init_180 : decode cX11_init 180 = .ok (.newarray .int, 2) := by decide +kernel
theorem dX11_init_182 : decode cX11_init 182 = .ok (.putfield 96, 3) := by decide +kernel
theorem dX11_init_185 : decode cX11_init 185 = .ok (.aload_n 0, 1) := by decide +kernel
theorem dX11_init_186 : decode cX11_init 186 = .ok (.bipush 45, 2) := by decide +kernel
theorem dX11_init_188 : decode cX11_init 188 = .ok (.newarray .boolean, 2) := by decide +kernel
theorem dX11_init_190 : decode cX11_init 190 = .ok (.putfield 99, 3) := by decide +kernel
theorem dX11_init_193 : decode cX11_init 193 = .ok (.aload_n 0, 1) := by decide +kernel
theorem dX11_init_194 : decode cX11_init 194 = .ok (.sipush 2310, 3) := by decide +kernel
theorem dX11_init_197 : decode cX11_init 197 = .ok (.newarray .int, 2) := by decide +kernel
theorem dX11_init_199 : decode cX11_init 199 = .ok (.putfield 103, 3) := by decide +kernel
theorem dX11_init_202 : decode cX11_init 202 = .ok (.aload_n 0, 1) := by decide +kernel
theorem dX11_init_203 : decode cX11_init 203 = .ok (.bipush 18, 2) := by decide +kernel
theorem dX11_init_205 : decode cX11_init 205 = .ok (.newarray .long, 2) := by decide +kernel
theorem dX11_init_207 : decode cX11_init 207 = .ok (.putfield 106, 3) := by decide +kernel
theorem dX11_init_210 : decode cX11_init 210 = .ok (.aload_n 0, 1) := by decide +kernel
theorem dX11_init_211 : decode cX11_init 211 = .ok (.iconst 2, 1) := by decide +kernel
theorem dX11_init_212 : decode cX11_init 212 = .ok (.newarray .boolean, 2) := by decide +kernel
theorem dX11_init_214 : decode cX11_init 214 = .ok (.putfield 109, 3) := by decide +kernel
theorem dX11_init_217 : decode cX11_init 217 = .ok (.aload_n 0, 1) := by decide +kernel
theorem dX11_init_218 : decode cX11_init 218 = .ok (.getfield 47, 3) := by decide +kernel
theorem dX11_init_221 : decode cX11_init 221 = .ok (.iconst 0, 1) := by decide +kernel
theorem dX11_init_222 : decode cX11_init 222 = .ok (.ldc2_w 112, 3) := by decide +kernel
theorem dX11_init_225 : decode cX11_init 225 = .ok (.lastore, 1) := by decide +kernel
theorem dX11_init_226 : decode cX11_init 226 = .ok (.aload_n 0, 1) := by decide +kernel
theorem dX11_init_227 : decode cX11_init 227 = .ok (.getfield 47, 3) := by decide +kernel
theorem dX11_init_230 : decode cX11_init 230 = .ok (.iconst 1, 1) := by decide +kernel
theorem dX11_init_231 : decode cX11_init 231 = .ok (.ldc2_w 114, 3) := by decide +kernel
theorem dX11_init_234 : decode cX11_init 234 = .ok (.lastore, 1) := by decide +kernel
theorem dX11_init_235 : decode cX11_init 235 = .ok (.aload_n 0, 1) := by decide +kernel
theorem dX11_init_236 : decode cX11_init 236 = .ok (.getfield 47, 3) := by decide +kernel
theorem dX11_init_239 : decode cX11_init 239 = .ok (.iconst 2, 1) := by decide +kernel
theorem dX11_init_240 : decode cX11_init 240 = .ok (.ldc2_w 116, 3) := by decide +kernel
theorem dX11_init_243 : decode cX11_init 243 = .ok (.lastore, 1) := by decide +kernel
theorem dX11_init_244 : decode cX11_init 244 = .ok (.aload_n 0, 1) := by decide +kernel
theorem dX11_init_245 : decode cX11_init 245 = .ok (.getfield 47, 3) := by decide +kernel
theorem dX11_init_248 : decode cX11_init 248 = .ok (.iconst 3, 1) := by decide +kernel
theorem dX11_init_249 : decode cX11_init 249 = .ok (.ldc2_w 118, 3) := by decide +kernel
theorem dX11_init_252 : decode cX11_init 252 = .ok (.lastore, 1) := by decide +kernel
theorem dX11_init_253 : decode cX11_init 253 = .ok (.aload_n 0, 1) := by decide +kernel
theorem dX11_init_254 : decode cX11_init 254 = .ok (.getfield 47, 3) := by decide +kernel
theorem dX11_init_257 : decode cX11_init 257 = .ok (.iconst 4, 1) := by decide +kernel
theorem dX11_init_258 : decode cX11_init 258 = .ok (.ldc2_w 120, 3) := by decide +kernel
theorem dX11_init_261 : decode cX11_init 261 = .ok (.lastore, 1) := by decide +kernel
theorem dX11_init_262 : decode cX11_init 262 = .ok (.aload_n 0, 1) := by decide +kernel
theorem dX11_init_263 : decode cX11_init 263 = .ok (.getfield 47, 3) := by decide +kernel
theorem dX11_init_266 : decode cX11_init 266 = .ok (.iconst 5, 1) := by decide +kernel
theorem dX11_init_267 : decode cX11_init 267 = .ok (.ldc2_w 122, 3) := by decide +kernel
theorem dX11_init_270 : decode cX11_init 270 = .ok (.lastore, 1) := by decide +kernel
theorem dX11_init_271 : decode cX11_init 271 = .ok (.aload_n 0, 1) := by decide +kernel
theorem dX11_init_272 : decode cX11_init 272 = .ok (.getfield 47, 3) := by decide +kernel
theorem dX11_init_275 : decode cX11_init 275 = .ok (.bipush 6, 2) := by decide +kernel
theorem dX11_init_277 : decode cX11_init 277 = .ok (.ldc2_w 124, 3) := by decide +kernel
theorem dX11_init_280 : decode cX11_init 280 = .ok (.lastore, 1) := by decide +kernel
theorem dX11_init_281 : decode cX11_init 281 = .ok (.aload_n 0, 1) := by decide +kernel
theorem dX11_init_282 : decode cX11_init 282 = .ok (.getfield 47, 3) := by decide +kernel
theorem dX11_init_285 : decode cX11_init 285 = .ok (.bipush 7, 2) := by decide +kernel
theorem dX11_init_287 : decode cX11_init 287 = .ok (.ldc2_w 126, 3) := by decide +kernel
theorem dX11_init_290 : decode cX11_init 290 = .ok (.lastore, 1) := by decide +kernel
theorem dX11_init_291 : decode cX11_init 291 = .ok (.aload_n 0, 1) := by decide +kernel
theorem dX11_init_292 : decode cX11_init 292 = .ok (.getfield 47, 3) := by decide +kernel
theorem dX11_init_295 : decode cX11_init 295 = .ok (.bipush 8, 2) := by decide +kernel
theorem dX11_init_297 : decode cX11_init 297 = .ok (.ldc2_w 128, 3) := by decide +kernel
theorem dX11_init_300 : decode cX11_init 300 = .ok (.lastore, 1) := by decide +kernel
theorem dX11_init_301 : decode cX11_init 301 = .ok (.aload_n 0, 1) := by decide +kernel
theorem dX11_init_302 : decode cX11_init 302 = .ok (.getfield 47, 3) := by decide +kernel
theorem dX11_init_305 : decode cX11_init 305 = .ok (.bipush 9, 2) := by decide +kernel
theorem dX11_init_307 : decode cX11_init 307 = .ok (.ldc2_w 130, 3) := by decide +kernel
theorem dX11_init_310 : decode cX11_init 310 = .ok (.lastore, 1) := by decide +kernel
theorem dX11_init_311 : decode cX11_init 311 = .ok (.aload_n 0, 1) := by decide +kernel
theorem dX11_init_312 : decode cX11_init 312 = .ok (.getfield 47, 3) := by decide +kernel
theorem dX11_init_315 : decode cX11_init 315 = .ok (.bipush 10, 2) := by decide +kernel
theorem dX11_init_317 : decode cX11_init 317 = .ok (.ldc2_w 132, 3) := by decide +kernel
theorem dX11_init_320 : decode cX11_init 320 = .ok (.lastore, 1) := by decide +kernel
theorem dX11_init_321 : decode cX11_init 321 = .ok (.aload_n 0, 1) := by decide +kernel
theorem dX11_init_322 : decode cX11_init 322 = .ok (.getfield 47, 3) := by decide +kernel
theorem dX11_init_325 : decode cX11_init 325 = .ok (.bipush 11, 2) := by decide +kernel
theorem dX11_init_327 : decode cX11_init 327 = .ok (.ldc2_w 134, 3) := by decide +kernel
theorem dX11_init_330 : decode cX11_init 330 = .ok (.lastore, 1) := by decide +kernel
theorem dX11_init_331 : decode cX11_init 331 = .ok (.aload_n 0, 1) := by decide +kernel
theorem dX11_init_332 : decode cX11_init 332 = .ok (.getfield 47, 3) := by decide +kernel
theorem dX11_init_335 : decode cX11_init 335 = .ok (.bipush 12, 2) := by decide +kernel
theorem dX11_init_337 : decode cX11_init 337 = .ok (.ldc2_w 136, 3) := by decide +kernel
theorem dX11_init_340 : decode cX11_init 340 = .ok (.lastore, 1) := by decide +kernel
theorem dX11_init_341 : decode cX11_init 341 = .ok (.aload_n 0, 1) := by decide +kernel
theorem dX11_init_342 : decode cX11_init 342 = .ok (.getfield 47, 3) := by decide +kernel
theorem dX11_init_345 : decode cX11_init 345 = .ok (.bipush 13, 2) := by decide +kernel
theorem dX11_init_347 : decode cX11_init 347 = .ok (.ldc2_w 138, 3) := by decide +kernel
theorem dX11_init_350 : decode cX11_init 350 = .ok (.lastore, 1) := by decide +kernel
theorem dX11_init_351 : decode cX11_init 351 = .ok (.aload_n 0, 1) := by decide +kernel
theorem dX11_init_352 : decode cX11_init 352 = .ok (.getfield 47, 3) := by decide +kernel
theorem dX11_init_355 : decode cX11_init 355 = .ok (.bipush 14, 2) := by decide +kernel
theorem dX11_init_357 : decode cX11_init 357 = .ok (.ldc2_w 140, 3) := by decide +kernel
theorem dX11_init_360 : decode cX11_init 360 = .ok (.lastore, 1) := by decide +kernel
theorem dX11_init_361 : decode cX11_init 361 = .ok (.aload_n 0, 1) := by decide +kernel
theorem dX11_init_362 : decode cX11_init 362 = .ok (.getfield 47, 3) := by decide +kernel
theorem dX11_init_365 : decode cX11_init 365 = .ok (.bipush 15, 2) := by decide +kernel
theorem dX11_init_367 : decode cX11_init 367 = .ok (.ldc2_w 142, 3) := by decide +kernel
theorem dX11_init_370 : decode cX11_init 370 = .ok (.lastore, 1) := by decide +kernel
theorem dX11_init_371 : decode cX11_init 371 = .ok (.aload_n 0, 1) := by decide +kernel
theorem dX11_init_372 : decode cX11_init 372 = .ok (.getfield 47, 3) := by decide +kernel
theorem dX11_init_375 : decode cX11_init 375 = .ok (.bipush 16, 2) := by decide +kernel
theorem dX11_init_377 : decode cX11_init 377 = .ok (.ldc2_w 144, 3) := by decide +kernel
theorem dX11_init_380 : decode cX11_init 380 = .ok (.lastore, 1) := by decide +kernel
theorem dX11_init_381 : decode cX11_init 381 = .ok (.aload_n 0, 1) := by decide +kernel
theorem dX11_init_382 : decode cX11_init 382 = .ok (.getfield 47, 3) := by decide +kernel
theorem dX11_init_385 : decode cX11_init 385 = .ok (.bipush 17, 2) := by decide +kernel
theorem dX11_init_387 : decode cX11_init 387 = .ok (.ldc2_w 146, 3) := by decide +kernel
theorem dX11_init_390 : decode cX11_init 390 = .ok (.lastore, 1) := by decide +kernel
theorem dX11_init_391 : decode cX11_init 391 = .ok (.aload_n 0, 1) := by decide +kernel
theorem dX11_init_392 : decode cX11_init 392 = .ok (.getfield 47, 3) := by decide +kernel
theorem dX11_init_395 : decode cX11_init 395 = .ok (.bipush 18, 2) := by decide +kernel
theorem dX11_init_397 : decode cX11_init 397 = .ok (.ldc2_w 148, 3) := by decide +kernel
theorem dX11_init_400 : decode cX11_init 400 = .ok (.lastore, 1) := by decide +kernel
theorem dX11_init_401 : decode cX11_init 401 = .ok (.aload_n 0, 1) := by decide +kernel
theorem dX11_init_402 : decode cX11_init 402 = .ok (.getfield 47, 3) := by decide +kernel
theorem dX11_init_405 : decode cX11_init 405 = .ok (.bipush 19, 2) := by decide +kernel
theorem dX11_init_407 : decode cX11_init 407 = .ok (.ldc2_w 150, 3) := by decide +kernel
theorem dX11_init_410 : decode cX11_init 410 = .ok (.lastore, 1) := by decide +kernel
theorem dX11_init_411 : decode cX11_init 411 = .ok (.iconst 0, 1) := by decide +kernel
theorem dX11_init_412 : decode cX11_init 412 = .ok (.istore_n 1, 1) := by decide +kernel
theorem dX11_init_413 : decode cX11_init 413 = .ok (.iload_n 1, 1) := by decide +kernel
theorem dX11_init_414 : decode cX11_init 414 = .ok (.iconst 3, 1) := by decide +kernel
theorem dX11_init_415 : decode cX11_init 415 = .ok (.if_icmp .ge 19, 3) := by decide +kernel
theorem dX11_init_418 : decode cX11_init 418 = .ok (.aload_n 0, 1) := by decide +kernel
theorem dX11_init_419 : decode cX11_init 419 = .ok (.getfield 33, 3) := by decide +kernel
theorem dX11_init_422 : decode cX11_init 422 = .ok (.bipush 7, 2) := by decide +kernel
theorem dX11_init_424 : decode cX11_init 424 = .ok (.iload_n 1, 1) := by decide +kernel
theorem dX11_init_425 : decode cX11_init 425 = .ok (.iadd, 1) := by decide +kernel
theorem dX11_init_426 : decode cX11_init 426 = .ok (.iconst 1, 1) := by decide +kernel
theorem dX11_init_427 : decode cX11_init 427 = .ok (.iastore, 1) := by decide +kernel
theorem dX11_init_428 : decode cX11_init 428 = .ok (.iinc 1 1, 3) := by decide +kernel
theorem dX11_init_431 : decode cX11_init 431 = .ok (.goto (-18), 3) := by decide +kernel
theorem dX11_init_434 : decode cX11_init 434 = .ok (.return_, 1) := by decide +kernel
def bi_X8_empty_5 (w : bw_T) : bw_T := (bI (bF (bF (bF (bF (bF (bI (bI (bI (bI (bI (bI w 5 0 0) 5 1 0) 5 2 0) 5 3 0) 5 4 0) 5 18 0) 10 (-1) 9) 15 0 4) 16 0 100) 17 (-1) 100) 18 1 4) 18 3 0)
theorem mbi_X8_empty_5 (l : Launch) (w : bw_T) (h5_9 : w.2 5 9 = some 10) (h5_14 : w.2 5 14 = some 15) (h5_15 : w.2 5 15 = some 16) (h5_16 : w.2 5 16 = some 17) (h5_17 : w.2 5 17 = some 18) : BM l yX8_empty cX8_empty 1 2 143 0 0 [.ref 5] 19 w 19 (bi_X8_empty_5 w) := by
  refine bw_met [some (.ref 5)] (Nat.le_of_ble_eq_true rfl) (by decide) (fun _ => rfl) (fun _ => Nat.le_of_ble_eq_true rfl) ?_
  show BW l ((yX8_empty.cls, cX8_empty, 1, none, 2, 143), yX8_empty.name, 0, 0) 0 [some (.ref 5)] [] 19 0 0 w 19 (bi_X8_empty_5 w)
  refine bw_aload_n (z := 1) dX8_empty_0 rfl rfl ?_
  refine bw_iconst (z := 2) 0 dX8_empty_1 rfl (by decide) ?_
  refine bw_putI (z := 5) (RX8, TX8, 20) 8 0 dX8_empty_2 rfl rfl (Nat.le_of_ble_eq_true rfl) fp_RX8_55 rfl rfl ?_
  refine bw_aload_n (z := 6) dX8_empty_5 rfl rfl ?_
  refine bw_iconst (z := 7) 0 dX8_empty_6 rfl (by decide) ?_
  refine bw_putI (z := 10) (RX8, TX8, 20) 8 1 dX8_empty_7 rfl rfl (Nat.le_of_ble_eq_true rfl) fp_RX8_59 rfl rfl ?_
  refine bw_aload_n (z := 11) dX8_empty_10 rfl rfl ?_
  refine bw_iconst (z := 12) 0 dX8_empty_11 rfl (by decide) ?_
  refine bw_putI (z := 15) (RX8, TX8, 20) 8 2 dX8_empty_12 rfl rfl (Nat.le_of_ble_eq_true rfl) fp_RX8_62 rfl rfl ?_
  refine bw_aload_n (z := 16) dX8_empty_15 rfl rfl ?_
  refine bw_iconst (z := 17) 0 dX8_empty_16 rfl (by decide) ?_
  refine bw_putI (z := 20) (RX8, TX8, 20) 8 3 dX8_empty_17 rfl rfl (Nat.le_of_ble_eq_true rfl) fp_RX8_65 rfl rfl ?_
  refine bw_aload_n (z := 21) dX8_empty_20 rfl rfl ?_
  refine bw_iconst (z := 22) 0 dX8_empty_21 rfl (by decide) ?_
  refine bw_putI (z := 25) (RX8, TX8, 20) 8 4 dX8_empty_22 rfl rfl (Nat.le_of_ble_eq_true rfl) fp_RX8_68 rfl rfl ?_
  refine bw_aload_n (z := 26) dX8_empty_25 rfl rfl ?_
  refine bw_iconst (z := 27) 0 dX8_empty_26 rfl (by decide) ?_
  refine bw_putI (z := 30) (RX8, TX8, 20) 8 18 dX8_empty_27 rfl rfl (Nat.le_of_ble_eq_true rfl) fp_RX8_71 rfl rfl ?_
  refine bw_aload_n (z := 31) dX8_empty_30 rfl rfl ?_
  refine bw_getR (z := 34) (RX8, TX8, 20) 8 9 (b := 10) dX8_empty_31 rfl rfl (Nat.le_of_ble_eq_true rfl) fd_RX8_25 h5_9 ?_
  refine bw_iconst (z := 35) (-1) dX8_empty_34 rfl (by decide) ?_
  refine bw_callS (z := 38) (as := [.ref 10, .int (-1)]) (st := []) dX8_empty_35 rfl rfl (bm_fill l 10 9 19 (-1) _ rfl (Nat.le_of_ble_eq_true rfl) (Nat.lt_of_lt_of_le (Nat.le_of_ble_eq_true rfl : 9 < 1000000) (by decide))) cw_RX8_75 ⟨Nat.le_of_ble_eq_true rfl, Nat.le_of_ble_eq_true rfl⟩ (fun _ => Nat.le_of_ble_eq_true rfl) rfl (Nat.le_of_ble_eq_true rfl) (Nat.le_of_ble_eq_true rfl) ?_
  refine bw_aload_n (z := 39) dX8_empty_38 rfl rfl ?_
  refine bw_getR (z := 42) (RX8, TX8, 20) 8 14 (b := 15) dX8_empty_39 rfl rfl (Nat.le_of_ble_eq_true rfl) fd_RX8_40 h5_14 ?_
  refine bw_iconst (z := 43) 0 dX8_empty_42 rfl (by decide) ?_
  refine bw_callS (z := 46) (as := [.ref 15, .int 0]) (st := []) dX8_empty_43 rfl rfl (bm_fill l 15 4 19 0 _ rfl (Nat.le_of_ble_eq_true rfl) (Nat.lt_of_lt_of_le (Nat.le_of_ble_eq_true rfl : 4 < 1000000) (by decide))) cw_RX8_75 ⟨Nat.le_of_ble_eq_true rfl, Nat.le_of_ble_eq_true rfl⟩ (fun _ => Nat.le_of_ble_eq_true rfl) rfl (Nat.le_of_ble_eq_true rfl) (Nat.le_of_ble_eq_true rfl) ?_
  refine bw_aload_n (z := 47) dX8_empty_46 rfl rfl ?_
  refine bw_getR (z := 50) (RX8, TX8, 20) 8 15 (b := 16) dX8_empty_47 rfl rfl (Nat.le_of_ble_eq_true rfl) fd_RX8_43 h5_15 ?_
  refine bw_iconst (z := 51) 0 dX8_empty_50 rfl (by decide) ?_
  refine bw_callS (z := 54) (as := [.ref 16, .int 0]) (st := []) dX8_empty_51 rfl rfl (bm_fill l 16 100 19 0 _ rfl (Nat.le_of_ble_eq_true rfl) (Nat.lt_of_lt_of_le (Nat.le_of_ble_eq_true rfl : 100 < 1000000) (by decide))) cw_RX8_75 ⟨Nat.le_of_ble_eq_true rfl, Nat.le_of_ble_eq_true rfl⟩ (fun _ => Nat.le_of_ble_eq_true rfl) rfl (Nat.le_of_ble_eq_true rfl) (Nat.le_of_ble_eq_true rfl) ?_
  refine bw_aload_n (z := 55) dX8_empty_54 rfl rfl ?_
  refine bw_getR (z := 58) (RX8, TX8, 20) 8 16 (b := 17) dX8_empty_55 rfl rfl (Nat.le_of_ble_eq_true rfl) fd_RX8_46 h5_16 ?_
  refine bw_iconst (z := 59) (-1) dX8_empty_58 rfl (by decide) ?_
  refine bw_callS (z := 62) (as := [.ref 17, .int (-1)]) (st := []) dX8_empty_59 rfl rfl (bm_fill l 17 100 19 (-1) _ rfl (Nat.le_of_ble_eq_true rfl) (Nat.lt_of_lt_of_le (Nat.le_of_ble_eq_true rfl : 100 < 1000000) (by decide))) cw_RX8_75 ⟨Nat.le_of_ble_eq_true rfl, Nat.le_of_ble_eq_true rfl⟩ (fun _ => Nat.le_of_ble_eq_true rfl) rfl (Nat.le_of_ble_eq_true rfl) (Nat.le_of_ble_eq_true rfl) ?_
  refine bw_aload_n (z := 63) dX8_empty_62 rfl rfl ?_
  refine bw_getR (z := 66) (RX8, TX8, 20) 8 17 (b := 18) dX8_empty_63 rfl rfl (Nat.le_of_ble_eq_true rfl) fd_RX8_49 h5_17 ?_
  refine bw_iconst (z := 67) 1 dX8_empty_66 rfl (by decide) ?_
  refine bw_callS (z := 70) (as := [.ref 18, .int 1]) (st := []) dX8_empty_67 rfl rfl (bm_fill l 18 4 19 1 _ rfl (Nat.le_of_ble_eq_true rfl) (Nat.lt_of_lt_of_le (Nat.le_of_ble_eq_true rfl : 4 < 1000000) (by decide))) cw_RX8_75 ⟨Nat.le_of_ble_eq_true rfl, Nat.le_of_ble_eq_true rfl⟩ (fun _ => Nat.le_of_ble_eq_true rfl) rfl (Nat.le_of_ble_eq_true rfl) (Nat.le_of_ble_eq_true rfl) ?_
  refine bw_aload_n (z := 71) dX8_empty_70 rfl rfl ?_
  refine bw_getR (z := 74) (RX8, TX8, 20) 8 17 (b := 18) dX8_empty_71 rfl rfl (Nat.le_of_ble_eq_true rfl) fd_RX8_49 h5_17 ?_
  refine bw_iconst (z := 75) 3 dX8_empty_74 rfl (by decide) ?_
  refine bw_iconst (z := 76) 0 dX8_empty_75 rfl (by decide) ?_
  refine bw_iastore (z := 77) 4 dX8_empty_76 rfl rfl (Nat.le_of_ble_eq_true rfl) (bw_in (by decide)) ?_
  exact bw_vret rfl dX8_empty_77 rfl rfl rfl rfl
def bi_X8_init_5 (w : bw_T) : bw_T := (bi_X8_empty_5 (bp (bz (bp (bz (bp (bz (bp (bz (bp (bz (bp (bz (bp (bz (bp (bz (bp (bz (bp (bz (bp (bz (bp (bz (bp (bz w 6) 5 5 6) 7) 5 6 7) 8) 5 7 8) 9) 5 8 9) 10) 5 9 10) 11) 5 10 11) 12) 5 11 12) 13) 5 12 13) 14) 5 13 14) 15) 5 14 15) 16) 5 15 16) 17) 5 16 17) 18) 5 17 18))
theorem mbi_X8_init_5 (l : Launch) (w : bw_T) : BM l yX8_init cX8_init 1 3 163 13 333 [.ref 5] 6 w 19 (bi_X8_init_5 w) := by
  refine bw_met [some (.ref 5)] (Nat.le_of_ble_eq_true rfl) (by decide) (fun _ => rfl) (fun _ => Nat.le_of_ble_eq_true rfl) ?_
  show BW l ((yX8_init.cls, cX8_init, 1, none, 3, 163), yX8_init.name, 13, 333) 0 [some (.ref 5)] [] 6 0 0 w 19 (bi_X8_init_5 w)
  refine bw_aload_n (z := 1) dX8_init_0 rfl rfl ?_
  refine bw_objInit (z := 4) dX8_init_1 rfl tb_160 tb_30 tb_31 ⟨Nat.le_of_ble_eq_true rfl, Nat.le_of_ble_eq_true rfl⟩ (fun _ => Nat.le_of_ble_eq_true rfl) ?_
  refine bw_aload_n (z := 5) dX8_init_4 rfl rfl ?_
  refine bw_bipush (z := 7) 9 dX8_init_5 rfl (by decide) ?_
  refine bw_newJ (z := 9) 9 dX8_init_7 rfl tb_147 rfl (by decide) (by decide) (Nat.le_of_ble_eq_true rfl) (Nat.le_of_ble_eq_true rfl) (Nat.le_of_ble_eq_true rfl) ?_
  refine bw_putR (z := 12) (RX8, TX8, 20) 8 5 (b := 6) (ty := (.array .long)) dX8_init_9 rfl rfl (Nat.le_of_ble_eq_true rfl) fd_RX8_9 ⟨tyX8, tyX8_ok⟩ nmX8 rfl rfl rfl (by decide +kernel) (fun _ => rfl) (fun _ => rfl) ?_
  refine bw_aload_n (z := 13) dX8_init_12 rfl rfl ?_
  refine bw_bipush (z := 15) 9 dX8_init_13 rfl (by decide) ?_
  refine bw_newI (z := 17) 9 dX8_init_15 rfl tb_146 rfl (by decide) (by decide) (Nat.le_of_ble_eq_true rfl) (Nat.le_of_ble_eq_true rfl) (Nat.le_of_ble_eq_true rfl) ?_
  refine bw_putR (z := 20) (RX8, TX8, 20) 8 6 (b := 7) (ty := (.array .int)) dX8_init_17 rfl rfl (Nat.le_of_ble_eq_true rfl) fd_RX8_15 ⟨tyX8, tyX8_ok⟩ nmX8 rfl rfl rfl (by decide +kernel) (fun _ => rfl) (fun _ => rfl) ?_
  refine bw_aload_n (z := 21) dX8_init_20 rfl rfl ?_
  refine bw_bipush (z := 23) 9 dX8_init_21 rfl (by decide) ?_
  refine bw_newI (z := 25) 9 dX8_init_23 rfl tb_146 rfl (by decide) (by decide) (Nat.le_of_ble_eq_true rfl) (Nat.le_of_ble_eq_true rfl) (Nat.le_of_ble_eq_true rfl) ?_
  refine bw_putR (z := 28) (RX8, TX8, 20) 8 7 (b := 8) (ty := (.array .int)) dX8_init_25 rfl rfl (Nat.le_of_ble_eq_true rfl) fd_RX8_19 ⟨tyX8, tyX8_ok⟩ nmX8 rfl rfl rfl (by decide +kernel) (fun _ => rfl) (fun _ => rfl) ?_
  refine bw_aload_n (z := 29) dX8_init_28 rfl rfl ?_
  refine bw_bipush (z := 31) 9 dX8_init_29 rfl (by decide) ?_
  refine bw_newI (z := 33) 9 dX8_init_31 rfl tb_146 rfl (by decide) (by decide) (Nat.le_of_ble_eq_true rfl) (Nat.le_of_ble_eq_true rfl) (Nat.le_of_ble_eq_true rfl) ?_
  refine bw_putR (z := 36) (RX8, TX8, 20) 8 8 (b := 9) (ty := (.array .int)) dX8_init_33 rfl rfl (Nat.le_of_ble_eq_true rfl) fd_RX8_22 ⟨tyX8, tyX8_ok⟩ nmX8 rfl rfl rfl (by decide +kernel) (fun _ => rfl) (fun _ => rfl) ?_
  refine bw_aload_n (z := 37) dX8_init_36 rfl rfl ?_
  refine bw_bipush (z := 39) 9 dX8_init_37 rfl (by decide) ?_
  refine bw_newI (z := 41) 9 dX8_init_39 rfl tb_146 rfl (by decide) (by decide) (Nat.le_of_ble_eq_true rfl) (Nat.le_of_ble_eq_true rfl) (Nat.le_of_ble_eq_true rfl) ?_
  refine bw_putR (z := 44) (RX8, TX8, 20) 8 9 (b := 10) (ty := (.array .int)) dX8_init_41 rfl rfl (Nat.le_of_ble_eq_true rfl) fd_RX8_25 ⟨tyX8, tyX8_ok⟩ nmX8 rfl rfl rfl (by decide +kernel) (fun _ => rfl) (fun _ => rfl) ?_
  refine bw_aload_n (z := 45) dX8_init_44 rfl rfl ?_
  refine bw_bipush (z := 47) 20 dX8_init_45 rfl (by decide) ?_
  refine bw_newI (z := 49) 20 dX8_init_47 rfl tb_146 rfl (by decide) (by decide) (Nat.le_of_ble_eq_true rfl) (Nat.le_of_ble_eq_true rfl) (Nat.le_of_ble_eq_true rfl) ?_
  refine bw_putR (z := 52) (RX8, TX8, 20) 8 10 (b := 11) (ty := (.array .int)) dX8_init_49 rfl rfl (Nat.le_of_ble_eq_true rfl) fd_RX8_28 ⟨tyX8, tyX8_ok⟩ nmX8 rfl rfl rfl (by decide +kernel) (fun _ => rfl) (fun _ => rfl) ?_
  refine bw_aload_n (z := 53) dX8_init_52 rfl rfl ?_
  refine bw_bipush (z := 55) 20 dX8_init_53 rfl (by decide) ?_
  refine bw_newI (z := 57) 20 dX8_init_55 rfl tb_146 rfl (by decide) (by decide) (Nat.le_of_ble_eq_true rfl) (Nat.le_of_ble_eq_true rfl) (Nat.le_of_ble_eq_true rfl) ?_
  refine bw_putR (z := 60) (RX8, TX8, 20) 8 11 (b := 12) (ty := (.array .int)) dX8_init_57 rfl rfl (Nat.le_of_ble_eq_true rfl) fd_RX8_31 ⟨tyX8, tyX8_ok⟩ nmX8 rfl rfl rfl (by decide +kernel) (fun _ => rfl) (fun _ => rfl) ?_
  refine bw_aload_n (z := 61) dX8_init_60 rfl rfl ?_
  refine bw_bipush (z := 63) 20 dX8_init_61 rfl (by decide) ?_
  refine bw_newI (z := 65) 20 dX8_init_63 rfl tb_146 rfl (by decide) (by decide) (Nat.le_of_ble_eq_true rfl) (Nat.le_of_ble_eq_true rfl) (Nat.le_of_ble_eq_true rfl) ?_
  refine bw_putR (z := 68) (RX8, TX8, 20) 8 12 (b := 13) (ty := (.array .int)) dX8_init_65 rfl rfl (Nat.le_of_ble_eq_true rfl) fd_RX8_34 ⟨tyX8, tyX8_ok⟩ nmX8 rfl rfl rfl (by decide +kernel) (fun _ => rfl) (fun _ => rfl) ?_
  refine bw_aload_n (z := 69) dX8_init_68 rfl rfl ?_
  refine bw_bipush (z := 71) 20 dX8_init_69 rfl (by decide) ?_
  refine bw_newI (z := 73) 20 dX8_init_71 rfl tb_146 rfl (by decide) (by decide) (Nat.le_of_ble_eq_true rfl) (Nat.le_of_ble_eq_true rfl) (Nat.le_of_ble_eq_true rfl) ?_
  refine bw_putR (z := 76) (RX8, TX8, 20) 8 13 (b := 14) (ty := (.array .int)) dX8_init_73 rfl rfl (Nat.le_of_ble_eq_true rfl) fd_RX8_37 ⟨tyX8, tyX8_ok⟩ nmX8 rfl rfl rfl (by decide +kernel) (fun _ => rfl) (fun _ => rfl) ?_
  refine bw_aload_n (z := 77) dX8_init_76 rfl rfl ?_
  refine bw_iconst (z := 78) 4 dX8_init_77 rfl (by decide) ?_
  refine bw_newI (z := 80) 4 dX8_init_78 rfl tb_146 rfl (by decide) (by decide) (Nat.le_of_ble_eq_true rfl) (Nat.le_of_ble_eq_true rfl) (Nat.le_of_ble_eq_true rfl) ?_
  refine bw_putR (z := 83) (RX8, TX8, 20) 8 14 (b := 15) (ty := (.array .int)) dX8_init_80 rfl rfl (Nat.le_of_ble_eq_true rfl) fd_RX8_40 ⟨tyX8, tyX8_ok⟩ nmX8 rfl rfl rfl (by decide +kernel) (fun _ => rfl) (fun _ => rfl) ?_
  refine bw_aload_n (z := 84) dX8_init_83 rfl rfl ?_
  refine bw_bipush (z := 86) 100 dX8_init_84 rfl (by decide) ?_
  refine bw_newI (z := 88) 100 dX8_init_86 rfl tb_146 rfl (by decide) (by decide) (Nat.le_of_ble_eq_true rfl) (Nat.le_of_ble_eq_true rfl) (Nat.le_of_ble_eq_true rfl) ?_
  refine bw_putR (z := 91) (RX8, TX8, 20) 8 15 (b := 16) (ty := (.array .int)) dX8_init_88 rfl rfl (Nat.le_of_ble_eq_true rfl) fd_RX8_43 ⟨tyX8, tyX8_ok⟩ nmX8 rfl rfl rfl (by decide +kernel) (fun _ => rfl) (fun _ => rfl) ?_
  refine bw_aload_n (z := 92) dX8_init_91 rfl rfl ?_
  refine bw_bipush (z := 94) 100 dX8_init_92 rfl (by decide) ?_
  refine bw_newI (z := 96) 100 dX8_init_94 rfl tb_146 rfl (by decide) (by decide) (Nat.le_of_ble_eq_true rfl) (Nat.le_of_ble_eq_true rfl) (Nat.le_of_ble_eq_true rfl) ?_
  refine bw_putR (z := 99) (RX8, TX8, 20) 8 16 (b := 17) (ty := (.array .int)) dX8_init_96 rfl rfl (Nat.le_of_ble_eq_true rfl) fd_RX8_46 ⟨tyX8, tyX8_ok⟩ nmX8 rfl rfl rfl (by decide +kernel) (fun _ => rfl) (fun _ => rfl) ?_
  refine bw_aload_n (z := 100) dX8_init_99 rfl rfl ?_
  refine bw_iconst (z := 101) 4 dX8_init_100 rfl (by decide) ?_
  refine bw_newI (z := 103) 4 dX8_init_101 rfl tb_146 rfl (by decide) (by decide) (Nat.le_of_ble_eq_true rfl) (Nat.le_of_ble_eq_true rfl) (Nat.le_of_ble_eq_true rfl) ?_
  refine bw_putR (z := 106) (RX8, TX8, 20) 8 17 (b := 18) (ty := (.array .int)) dX8_init_103 rfl rfl (Nat.le_of_ble_eq_true rfl) fd_RX8_49 ⟨tyX8, tyX8_ok⟩ nmX8 rfl rfl rfl (by decide +kernel) (fun _ => rfl) (fun _ => rfl) ?_
  refine bw_aload_n (z := 107) dX8_init_106 rfl rfl ?_
  refine bw_callV (z := 110) (as := []) (st := []) (RX8, TX8, 20) 8 dX8_init_107 rfl rfl (mbi_X8_empty_5 l _ rfl rfl rfl rfl rfl) rfl (Nat.le_of_ble_eq_true rfl) rfl rfl cw_RX8_52 ⟨Nat.le_of_ble_eq_true rfl, Nat.le_of_ble_eq_true rfl⟩ (fun _ => Nat.le_of_ble_eq_true rfl) rfl (Nat.le_of_ble_eq_true rfl) (Nat.le_of_ble_eq_true rfl) ?_
  exact bw_vret rfl dX8_init_110 rfl rfl rfl rfl
def bi_X2_empty_19 (w : bw_T) : bw_T := (bF (bF (bF (bI w 19 0 0) 20 (-1) 9) 21 (-1) 9) 22 (-1) 9)
theorem mbi_X2_empty_19 (l : Launch) (w : bw_T) (h19_1 : w.2 19 1 = some 20) (h19_2 : w.2 19 2 = some 21) (h19_3 : w.2 19 3 = some 22) : BM l yX2_empty cX2_empty 1 2 143 0 0 [.ref 19] 23 w 23 (bi_X2_empty_19 w) := by
  refine bw_met [some (.ref 19)] (Nat.le_of_ble_eq_true rfl) (by decide) (fun _ => rfl) (fun _ => Nat.le_of_ble_eq_true rfl) ?_
  show BW l ((yX2_empty.cls, cX2_empty, 1, none, 2, 143), yX2_empty.name, 0, 0) 0 [some (.ref 19)] [] 23 0 0 w 23 (bi_X2_empty_19 w)
  refine bw_aload_n (z := 1) dX2_empty_0 rfl rfl ?_
  refine bw_iconst (z := 2) 0 dX2_empty_1 rfl (by decide) ?_
  refine bw_putI (z := 5) (RX2, TX2, 4) 2 0 dX2_empty_2 rfl rfl (Nat.le_of_ble_eq_true rfl) fp_RX2_24 rfl rfl ?_
  refine bw_aload_n (z := 6) dX2_empty_5 rfl rfl ?_
  refine bw_getR (z := 9) (RX2, TX2, 4) 2 1 (b := 20) dX2_empty_6 rfl rfl (Nat.le_of_ble_eq_true rfl) fd_RX2_9 h19_1 ?_
  refine bw_iconst (z := 10) (-1) dX2_empty_9 rfl (by decide) ?_
  refine bw_callS (z := 13) (as := [.ref 20, .int (-1)]) (st := []) dX2_empty_10 rfl rfl (bm_fill l 20 9 23 (-1) _ rfl (Nat.le_of_ble_eq_true rfl) (Nat.lt_of_lt_of_le (Nat.le_of_ble_eq_true rfl : 9 < 1000000) (by decide))) cw_RX2_28 ⟨Nat.le_of_ble_eq_true rfl, Nat.le_of_ble_eq_true rfl⟩ (fun _ => Nat.le_of_ble_eq_true rfl) rfl (Nat.le_of_ble_eq_true rfl) (Nat.le_of_ble_eq_true rfl) ?_
  refine bw_aload_n (z := 14) dX2_empty_13 rfl rfl ?_
  refine bw_getR (z := 17) (RX2, TX2, 4) 2 2 (b := 21) dX2_empty_14 rfl rfl (Nat.le_of_ble_eq_true rfl) fd_RX2_15 h19_2 ?_
  refine bw_iconst (z := 18) (-1) dX2_empty_17 rfl (by decide) ?_
  refine bw_callS (z := 21) (as := [.ref 21, .int (-1)]) (st := []) dX2_empty_18 rfl rfl (bm_fill l 21 9 23 (-1) _ rfl (Nat.le_of_ble_eq_true rfl) (Nat.lt_of_lt_of_le (Nat.le_of_ble_eq_true rfl : 9 < 1000000) (by decide))) cw_RX2_28 ⟨Nat.le_of_ble_eq_true rfl, Nat.le_of_ble_eq_true rfl⟩ (fun _ => Nat.le_of_ble_eq_true rfl) rfl (Nat.le_of_ble_eq_true rfl) (Nat.le_of_ble_eq_true rfl) ?_
  refine bw_aload_n (z := 22) dX2_empty_21 rfl rfl ?_
  refine bw_getR (z := 25) (RX2, TX2, 4) 2 3 (b := 22) dX2_empty_22 rfl rfl (Nat.le_of_ble_eq_true rfl) fd_RX2_18 h19_3 ?_
  refine bw_iconst (z := 26) (-1) dX2_empty_25 rfl (by decide) ?_
  refine bw_callS (z := 29) (as := [.ref 22, .int (-1)]) (st := []) dX2_empty_26 rfl rfl (bm_fill l 22 9 23 (-1) _ rfl (Nat.le_of_ble_eq_true rfl) (Nat.lt_of_lt_of_le (Nat.le_of_ble_eq_true rfl : 9 < 1000000) (by decide))) cw_RX2_28 ⟨Nat.le_of_ble_eq_true rfl, Nat.le_of_ble_eq_true rfl⟩ (fun _ => Nat.le_of_ble_eq_true rfl) rfl (Nat.le_of_ble_eq_true rfl) (Nat.le_of_ble_eq_true rfl) ?_
  exact bw_vret rfl dX2_empty_29 rfl rfl rfl rfl
def bi_X2_init_19 (w : bw_T) : bw_T := (bi_X2_empty_19 (bp (bz (bp (bz (bp (bz w 20) 19 1 20) 21) 19 2 21) 22) 19 3 22))
theorem mbi_X2_init_19 (l : Launch) (w : bw_T) : BM l yX2_init cX2_init 1 3 163 3 27 [.ref 19] 20 w 23 (bi_X2_init_19 w) := by
  refine bw_met [some (.ref 19)] (Nat.le_of_ble_eq_true rfl) (by decide) (fun _ => rfl) (fun _ => Nat.le_of_ble_eq_true rfl) ?_
  show BW l ((yX2_init.cls, cX2_init, 1, none, 3, 163), yX2_init.name, 3, 27) 0 [some (.ref 19)] [] 20 0 0 w 23 (bi_X2_init_19 w)
  refine bw_aload_n (z := 1) dX2_init_0 rfl rfl ?_
  refine bw_objInit (z := 4) dX2_init_1 rfl tb_266 tb_30 tb_31 ⟨Nat.le_of_ble_eq_true rfl, Nat.le_of_ble_eq_true rfl⟩ (fun _ => Nat.le_of_ble_eq_true rfl) ?_
  refine bw_aload_n (z := 5) dX2_init_4 rfl rfl ?_
  refine bw_bipush (z := 7) 9 dX2_init_5 rfl (by decide) ?_
  refine bw_newI (z := 9) 9 dX2_init_7 rfl tb_146 rfl (by decide) (by decide) (Nat.le_of_ble_eq_true rfl) (Nat.le_of_ble_eq_true rfl) (Nat.le_of_ble_eq_true rfl) ?_
  refine bw_putR (z := 12) (RX2, TX2, 4) 2 1 (b := 20) (ty := (.array .int)) dX2_init_9 rfl rfl (Nat.le_of_ble_eq_true rfl) fd_RX2_9 ⟨tyX2, tyX2_ok⟩ nmX2 rfl rfl rfl (by decide +kernel) (fun _ => rfl) (fun _ => rfl) ?_
  refine bw_aload_n (z := 13) dX2_init_12 rfl rfl ?_
  refine bw_bipush (z := 15) 9 dX2_init_13 rfl (by decide) ?_
  refine bw_newI (z := 17) 9 dX2_init_15 rfl tb_146 rfl (by decide) (by decide) (Nat.le_of_ble_eq_true rfl) (Nat.le_of_ble_eq_true rfl) (Nat.le_of_ble_eq_true rfl) ?_
  refine bw_putR (z := 20) (RX2, TX2, 4) 2 2 (b := 21) (ty := (.array .int)) dX2_init_17 rfl rfl (Nat.le_of_ble_eq_true rfl) fd_RX2_15 ⟨tyX2, tyX2_ok⟩ nmX2 rfl rfl rfl (by decide +kernel) (fun _ => rfl) (fun _ => rfl) ?_
  refine bw_aload_n (z := 21) dX2_init_20 rfl rfl ?_
  refine bw_bipush (z := 23) 9 dX2_init_21 rfl (by decide) ?_
  refine bw_newI (z := 25) 9 dX2_init_23 rfl tb_146 rfl (by decide) (by decide) (Nat.le_of_ble_eq_true rfl) (Nat.le_of_ble_eq_true rfl) (Nat.le_of_ble_eq_true rfl) ?_
  refine bw_putR (z := 28) (RX2, TX2, 4) 2 3 (b := 22) (ty := (.array .int)) dX2_init_25 rfl rfl (Nat.le_of_ble_eq_true rfl) fd_RX2_18 ⟨tyX2, tyX2_ok⟩ nmX2 rfl rfl rfl (by decide +kernel) (fun _ => rfl) (fun _ => rfl) ?_
  refine bw_aload_n (z := 29) dX2_init_28 rfl rfl ?_
  refine bw_callV (z := 32) (as := []) (st := []) (RX2, TX2, 4) 2 dX2_init_29 rfl rfl (mbi_X2_empty_19 l _ rfl rfl rfl) rfl (Nat.le_of_ble_eq_true rfl) rfl rfl cw_RX2_21 ⟨Nat.le_of_ble_eq_true rfl, Nat.le_of_ble_eq_true rfl⟩ (fun _ => Nat.le_of_ble_eq_true rfl) rfl (Nat.le_of_ble_eq_true rfl) (Nat.le_of_ble_eq_true rfl) ?_
  exact bw_vret rfl dX2_init_32 rfl rfl rfl rfl
def bi_X3_init_23 (w : bw_T) : bw_T := (bp (bz (bp (bz (bp (bz (bp (bz w 24) 23 2 24) 25) 23 3 25) 26) 23 4 26) 27) 23 5 27)
theorem mbi_X3_init_23 (l : Launch) (w : bw_T) : BM l yX3_init cX3_init 1 1 120 4 140 [.ref 23] 24 w 28 (bi_X3_init_23 w) := by
  refine bw_met [some (.ref 23)] (Nat.le_of_ble_eq_true rfl) (by decide) (fun _ => rfl) (fun _ => Nat.le_of_ble_eq_true rfl) ?_
  show BW l ((yX3_init.cls, cX3_init, 1, none, 1, 120), yX3_init.name, 4, 140) 0 [some (.ref 23)] [] 24 0 0 w 28 (bi_X3_init_23 w)
  refine bw_aload_n (z := 1) dX3_init_0 rfl rfl ?_
  refine bw_objInit (z := 4) dX3_init_1 rfl tb_301 tb_30 tb_31 ⟨Nat.le_of_ble_eq_true rfl, Nat.le_of_ble_eq_true rfl⟩ (fun _ => Nat.le_of_ble_eq_true rfl) ?_
  refine bw_aload_n (z := 5) dX3_init_4 rfl rfl ?_
  refine bw_bipush (z := 7) 40 dX3_init_5 rfl (by decide) ?_
  refine bw_newI (z := 9) 40 dX3_init_7 rfl tb_146 rfl (by decide) (by decide) (Nat.le_of_ble_eq_true rfl) (Nat.le_of_ble_eq_true rfl) (Nat.le_of_ble_eq_true rfl) ?_
  refine bw_putR (z := 12) (RX3, TX3, 6) 3 2 (b := 24) (ty := (.array .int)) dX3_init_9 rfl rfl (Nat.le_of_ble_eq_true rfl) fd_RX3_11 ⟨tyX3, tyX3_ok⟩ nmX3 rfl rfl rfl (by decide +kernel) (fun _ => rfl) (fun _ => rfl) ?_
  refine bw_aload_n (z := 13) dX3_init_12 rfl rfl ?_
  refine bw_bipush (z := 15) 40 dX3_init_13 rfl (by decide) ?_
  refine bw_newI (z := 17) 40 dX3_init_15 rfl tb_146 rfl (by decide) (by decide) (Nat.le_of_ble_eq_true rfl) (Nat.le_of_ble_eq_true rfl) (Nat.le_of_ble_eq_true rfl) ?_
  refine bw_putR (z := 20) (RX3, TX3, 6) 3 3 (b := 25) (ty := (.array .int)) dX3_init_17 rfl rfl (Nat.le_of_ble_eq_true rfl) fd_RX3_15 ⟨tyX3, tyX3_ok⟩ nmX3 rfl rfl rfl (by decide +kernel) (fun _ => rfl) (fun _ => rfl) ?_
  refine bw_aload_n (z := 21) dX3_init_20 rfl rfl ?_
  refine bw_bipush (z := 23) 40 dX3_init_21 rfl (by decide) ?_
  refine bw_newI (z := 25) 40 dX3_init_23 rfl tb_146 rfl (by decide) (by decide) (Nat.le_of_ble_eq_true rfl) (Nat.le_of_ble_eq_true rfl) (Nat.le_of_ble_eq_true rfl) ?_
  refine bw_putR (z := 28) (RX3, TX3, 6) 3 4 (b := 26) (ty := (.array .int)) dX3_init_25 rfl rfl (Nat.le_of_ble_eq_true rfl) fd_RX3_18 ⟨tyX3, tyX3_ok⟩ nmX3 rfl rfl rfl (by decide +kernel) (fun _ => rfl) (fun _ => rfl) ?_
  refine bw_aload_n (z := 29) dX3_init_28 rfl rfl ?_
  refine bw_bipush (z := 31) 20 dX3_init_29 rfl (by decide) ?_
  refine bw_newZ (z := 33) 20 dX3_init_31 rfl tb_322 rfl (by decide) (by decide) (Nat.le_of_ble_eq_true rfl) (Nat.le_of_ble_eq_true rfl) (Nat.le_of_ble_eq_true rfl) ?_
  refine bw_putR (z := 36) (RX3, TX3, 6) 3 5 (b := 27) (ty := (.array .boolean)) dX3_init_33 rfl rfl (Nat.le_of_ble_eq_true rfl) fd_RX3_21 ⟨tyX3, tyX3_ok⟩ nmX3 rfl rfl rfl (by decide +kernel) (fun _ => rfl) (fun _ => rfl) ?_
  exact bw_vret rfl dX3_init_36 rfl rfl rfl rfl
def bi_X1_init_28 (w : bw_T) : bw_T := (bF (bp (bz (bp (bz (bp (bz (bp (bz (bp (bz (bp (bz (bp (bz (bp (bz (bp (bz (bp (bz w 29) 28 0 29) 30) 28 1 30) 31) 28 2 31) 32) 28 3 32) 33) 28 5 33) 34) 28 6 34) 35) 28 8 35) 36) 28 9 36) 37) 28 10 37) 38) 28 11 38) 35 (-1) 240)
theorem mbi_X1_init_28 (l : Launch) (w : bw_T) : BM l yX1_init cX1_init 1 2 143 10 1059 [.ref 28] 29 w 39 (bi_X1_init_28 w) := by
  refine bw_met [some (.ref 28)] (Nat.le_of_ble_eq_true rfl) (by decide) (fun _ => rfl) (fun _ => Nat.le_of_ble_eq_true rfl) ?_
  show BW l ((yX1_init.cls, cX1_init, 1, none, 2, 143), yX1_init.name, 10, 1059) 0 [some (.ref 28)] [] 29 0 0 w 39 (bi_X1_init_28 w)
  refine bw_aload_n (z := 1) dX1_init_0 rfl rfl ?_
  refine bw_objInit (z := 4) dX1_init_1 rfl tb_328 tb_30 tb_31 ⟨Nat.le_of_ble_eq_true rfl, Nat.le_of_ble_eq_true rfl⟩ (fun _ => Nat.le_of_ble_eq_true rfl) ?_
  refine bw_aload_n (z := 5) dX1_init_4 rfl rfl ?_
  refine bw_sipush (z := 8) 360 dX1_init_5 rfl (by decide) ?_
  refine bw_newI (z := 10) 360 dX1_init_8 rfl tb_146 rfl (by decide) (by decide) (Nat.le_of_ble_eq_true rfl) (Nat.le_of_ble_eq_true rfl) (Nat.le_of_ble_eq_true rfl) ?_
  refine bw_putR (z := 13) (RX1, TX1, 12) 1 0 (b := 29) (ty := (.array .int)) dX1_init_10 rfl rfl (Nat.le_of_ble_eq_true rfl) fd_RX1_11 ⟨tyX1, tyX1_ok⟩ nmX1 rfl rfl rfl (by decide +kernel) (fun _ => rfl) (fun _ => rfl) ?_
  refine bw_aload_n (z := 14) dX1_init_13 rfl rfl ?_
  refine bw_bipush (z := 16) 18 dX1_init_14 rfl (by decide) ?_
  refine bw_newI (z := 18) 18 dX1_init_16 rfl tb_146 rfl (by decide) (by decide) (Nat.le_of_ble_eq_true rfl) (Nat.le_of_ble_eq_true rfl) (Nat.le_of_ble_eq_true rfl) ?_
  refine bw_putR (z := 21) (RX1, TX1, 12) 1 1 (b := 30) (ty := (.array .int)) dX1_init_18 rfl rfl (Nat.le_of_ble_eq_true rfl) fd_RX1_15 ⟨tyX1, tyX1_ok⟩ nmX1 rfl rfl rfl (by decide +kernel) (fun _ => rfl) (fun _ => rfl) ?_
  refine bw_aload_n (z := 22) dX1_init_21 rfl rfl ?_
  refine bw_bipush (z := 24) 20 dX1_init_22 rfl (by decide) ?_
  refine bw_newZ (z := 26) 20 dX1_init_24 rfl tb_322 rfl (by decide) (by decide) (Nat.le_of_ble_eq_true rfl) (Nat.le_of_ble_eq_true rfl) (Nat.le_of_ble_eq_true rfl) ?_
  refine bw_putR (z := 29) (RX1, TX1, 12) 1 2 (b := 31) (ty := (.array .boolean)) dX1_init_26 rfl rfl (Nat.le_of_ble_eq_true rfl) fd_RX1_18 ⟨tyX1, tyX1_ok⟩ nmX1 rfl rfl rfl (by decide +kernel) (fun _ => rfl) (fun _ => rfl) ?_
  refine bw_aload_n (z := 30) dX1_init_29 rfl rfl ?_
  refine bw_bipush (z := 32) 20 dX1_init_30 rfl (by decide) ?_
  refine bw_newI (z := 34) 20 dX1_init_32 rfl tb_146 rfl (by decide) (by decide) (Nat.le_of_ble_eq_true rfl) (Nat.le_of_ble_eq_true rfl) (Nat.le_of_ble_eq_true rfl) ?_
  refine bw_putR (z := 37) (RX1, TX1, 12) 1 3 (b := 32) (ty := (.array .int)) dX1_init_34 rfl rfl (Nat.le_of_ble_eq_true rfl) fd_RX1_22 ⟨tyX1, tyX1_ok⟩ nmX1 rfl rfl rfl (by decide +kernel) (fun _ => rfl) (fun _ => rfl) ?_
  refine bw_aload_n (z := 38) dX1_init_37 rfl rfl ?_
  refine bw_bipush (z := 40) 60 dX1_init_38 rfl (by decide) ?_
  refine bw_newI (z := 42) 60 dX1_init_40 rfl tb_146 rfl (by decide) (by decide) (Nat.le_of_ble_eq_true rfl) (Nat.le_of_ble_eq_true rfl) (Nat.le_of_ble_eq_true rfl) ?_
  refine bw_putR (z := 45) (RX1, TX1, 12) 1 5 (b := 33) (ty := (.array .int)) dX1_init_42 rfl rfl (Nat.le_of_ble_eq_true rfl) fd_RX1_25 ⟨tyX1, tyX1_ok⟩ nmX1 rfl rfl rfl (by decide +kernel) (fun _ => rfl) (fun _ => rfl) ?_
  refine bw_aload_n (z := 46) dX1_init_45 rfl rfl ?_
  refine bw_bipush (z := 48) 100 dX1_init_46 rfl (by decide) ?_
  refine bw_newI (z := 50) 100 dX1_init_48 rfl tb_146 rfl (by decide) (by decide) (Nat.le_of_ble_eq_true rfl) (Nat.le_of_ble_eq_true rfl) (Nat.le_of_ble_eq_true rfl) ?_
  refine bw_putR (z := 53) (RX1, TX1, 12) 1 6 (b := 34) (ty := (.array .int)) dX1_init_50 rfl rfl (Nat.le_of_ble_eq_true rfl) fd_RX1_28 ⟨tyX1, tyX1_ok⟩ nmX1 rfl rfl rfl (by decide +kernel) (fun _ => rfl) (fun _ => rfl) ?_
  refine bw_aload_n (z := 54) dX1_init_53 rfl rfl ?_
  refine bw_sipush (z := 57) 240 dX1_init_54 rfl (by decide) ?_
  refine bw_newI (z := 59) 240 dX1_init_57 rfl tb_146 rfl (by decide) (by decide) (Nat.le_of_ble_eq_true rfl) (Nat.le_of_ble_eq_true rfl) (Nat.le_of_ble_eq_true rfl) ?_
  refine bw_putR (z := 62) (RX1, TX1, 12) 1 8 (b := 35) (ty := (.array .int)) dX1_init_59 rfl rfl (Nat.le_of_ble_eq_true rfl) fd_RX1_31 ⟨tyX1, tyX1_ok⟩ nmX1 rfl rfl rfl (by decide +kernel) (fun _ => rfl) (fun _ => rfl) ?_
  refine bw_aload_n (z := 63) dX1_init_62 rfl rfl ?_
  refine bw_bipush (z := 65) 80 dX1_init_63 rfl (by decide) ?_
  refine bw_newI (z := 67) 80 dX1_init_65 rfl tb_146 rfl (by decide) (by decide) (Nat.le_of_ble_eq_true rfl) (Nat.le_of_ble_eq_true rfl) (Nat.le_of_ble_eq_true rfl) ?_
  refine bw_putR (z := 70) (RX1, TX1, 12) 1 9 (b := 36) (ty := (.array .int)) dX1_init_67 rfl rfl (Nat.le_of_ble_eq_true rfl) fd_RX1_34 ⟨tyX1, tyX1_ok⟩ nmX1 rfl rfl rfl (by decide +kernel) (fun _ => rfl) (fun _ => rfl) ?_
  refine bw_aload_n (z := 71) dX1_init_70 rfl rfl ?_
  refine bw_bipush (z := 73) 81 dX1_init_71 rfl (by decide) ?_
  refine bw_newI (z := 75) 81 dX1_init_73 rfl tb_146 rfl (by decide) (by decide) (Nat.le_of_ble_eq_true rfl) (Nat.le_of_ble_eq_true rfl) (Nat.le_of_ble_eq_true rfl) ?_
  refine bw_putR (z := 78) (RX1, TX1, 12) 1 10 (b := 37) (ty := (.array .int)) dX1_init_75 rfl rfl (Nat.le_of_ble_eq_true rfl) fd_RX1_37 ⟨tyX1, tyX1_ok⟩ nmX1 rfl rfl rfl (by decide +kernel) (fun _ => rfl) (fun _ => rfl) ?_
  refine bw_aload_n (z := 79) dX1_init_78 rfl rfl ?_
  refine bw_bipush (z := 81) 80 dX1_init_79 rfl (by decide) ?_
  refine bw_newI (z := 83) 80 dX1_init_81 rfl tb_146 rfl (by decide) (by decide) (Nat.le_of_ble_eq_true rfl) (Nat.le_of_ble_eq_true rfl) (Nat.le_of_ble_eq_true rfl) ?_
  refine bw_putR (z := 86) (RX1, TX1, 12) 1 11 (b := 38) (ty := (.array .int)) dX1_init_83 rfl rfl (Nat.le_of_ble_eq_true rfl) fd_RX1_40 ⟨tyX1, tyX1_ok⟩ nmX1 rfl rfl rfl (by decide +kernel) (fun _ => rfl) (fun _ => rfl) ?_
  refine bw_aload_n (z := 87) dX1_init_86 rfl rfl ?_
  refine bw_getR (z := 90) (RX1, TX1, 12) 1 8 (b := 35) dX1_init_87 rfl rfl (Nat.le_of_ble_eq_true rfl) fd_RX1_31 rfl ?_
  refine bw_iconst (z := 91) (-1) dX1_init_90 rfl (by decide) ?_
  refine bw_callS (z := 94) (as := [.ref 35, .int (-1)]) (st := []) dX1_init_91 rfl rfl (bm_fill l 35 240 39 (-1) _ rfl (Nat.le_of_ble_eq_true rfl) (Nat.lt_of_lt_of_le (Nat.le_of_ble_eq_true rfl : 240 < 1000000) (by decide))) cw_RX1_43 ⟨Nat.le_of_ble_eq_true rfl, Nat.le_of_ble_eq_true rfl⟩ (fun _ => Nat.le_of_ble_eq_true rfl) rfl (Nat.le_of_ble_eq_true rfl) (Nat.le_of_ble_eq_true rfl) ?_
  exact bw_vret rfl dX1_init_94 rfl rfl rfl rfl
def bi_X0_init_39 (w : bw_T) : bw_T := (bp (bp (bp (bp (bz (bp (bz (bp (bz (bp (bz (bp (bz (bp (bz (bp (bz (bp (bz (bp (bz (bp (bz (bp (bz w 40) 39 8 40) 41) 39 9 41) 42) 39 10 42) 43) 39 11 43) 44) 39 12 44) 45) 39 13 45) 46) 39 14 46) 47) 39 15 47) 48) 39 16 48) 49) 39 17 49) 50) 39 19 50) 39 0 5) 39 1 19) 39 2 28)
theorem mbi_X0_init_39 (l : Launch) (w : bw_T) : BM l yX0_init cX0_init 4 1 120 11 515 [.ref 39, .ref 5, .ref 19, .ref 28] 40 w 51 (bi_X0_init_39 w) := by
  refine bw_met [some (.ref 39), some (.ref 5), some (.ref 19), some (.ref 28)] (Nat.le_of_ble_eq_true rfl) (by decide) (fun _ => rfl) (fun _ => Nat.le_of_ble_eq_true rfl) ?_
  show BW l ((yX0_init.cls, cX0_init, 4, none, 1, 120), yX0_init.name, 11, 515) 0 [some (.ref 39), some (.ref 5), some (.ref 19), some (.ref 28)] [] 40 0 0 w 51 (bi_X0_init_39 w)
  refine bw_aload_n (z := 1) dX0_init_0 rfl rfl ?_
  refine bw_objInit (z := 4) dX0_init_1 rfl tb_387 tb_30 tb_31 ⟨Nat.le_of_ble_eq_true rfl, Nat.le_of_ble_eq_true rfl⟩ (fun _ => Nat.le_of_ble_eq_true rfl) ?_
  refine bw_aload_n (z := 5) dX0_init_4 rfl rfl ?_
  refine bw_iconst (z := 6) 5 dX0_init_5 rfl (by decide) ?_
  refine bw_newI (z := 8) 5 dX0_init_6 rfl tb_146 rfl (by decide) (by decide) (Nat.le_of_ble_eq_true rfl) (Nat.le_of_ble_eq_true rfl) (Nat.le_of_ble_eq_true rfl) ?_
  refine bw_putR (z := 11) (RX0, TX0, 20) 0 8 (b := 40) (ty := (.array .int)) dX0_init_8 rfl rfl (Nat.le_of_ble_eq_true rfl) fd_RX0_9 ⟨tyX0, tyX0_ok⟩ nmX0 rfl rfl rfl (by decide +kernel) (fun _ => rfl) (fun _ => rfl) ?_
  refine bw_aload_n (z := 12) dX0_init_11 rfl rfl ?_
  refine bw_bipush (z := 14) 9 dX0_init_12 rfl (by decide) ?_
  refine bw_newI (z := 16) 9 dX0_init_14 rfl tb_146 rfl (by decide) (by decide) (Nat.le_of_ble_eq_true rfl) (Nat.le_of_ble_eq_true rfl) (Nat.le_of_ble_eq_true rfl) ?_
  refine bw_putR (z := 19) (RX0, TX0, 20) 0 9 (b := 41) (ty := (.array .int)) dX0_init_16 rfl rfl (Nat.le_of_ble_eq_true rfl) fd_RX0_15 ⟨tyX0, tyX0_ok⟩ nmX0 rfl rfl rfl (by decide +kernel) (fun _ => rfl) (fun _ => rfl) ?_
  refine bw_aload_n (z := 20) dX0_init_19 rfl rfl ?_
  refine bw_bipush (z := 22) 9 dX0_init_20 rfl (by decide) ?_
  refine bw_newI (z := 24) 9 dX0_init_22 rfl tb_146 rfl (by decide) (by decide) (Nat.le_of_ble_eq_true rfl) (Nat.le_of_ble_eq_true rfl) (Nat.le_of_ble_eq_true rfl) ?_
  refine bw_putR (z := 27) (RX0, TX0, 20) 0 10 (b := 42) (ty := (.array .int)) dX0_init_24 rfl rfl (Nat.le_of_ble_eq_true rfl) fd_RX0_18 ⟨tyX0, tyX0_ok⟩ nmX0 rfl rfl rfl (by decide +kernel) (fun _ => rfl) (fun _ => rfl) ?_
  refine bw_aload_n (z := 28) dX0_init_27 rfl rfl ?_
  refine bw_bipush (z := 30) 9 dX0_init_28 rfl (by decide) ?_
  refine bw_newI (z := 32) 9 dX0_init_30 rfl tb_146 rfl (by decide) (by decide) (Nat.le_of_ble_eq_true rfl) (Nat.le_of_ble_eq_true rfl) (Nat.le_of_ble_eq_true rfl) ?_
  refine bw_putR (z := 35) (RX0, TX0, 20) 0 11 (b := 43) (ty := (.array .int)) dX0_init_32 rfl rfl (Nat.le_of_ble_eq_true rfl) fd_RX0_21 ⟨tyX0, tyX0_ok⟩ nmX0 rfl rfl rfl (by decide +kernel) (fun _ => rfl) (fun _ => rfl) ?_
  refine bw_aload_n (z := 36) dX0_init_35 rfl rfl ?_
  refine bw_bipush (z := 38) 9 dX0_init_36 rfl (by decide) ?_
  refine bw_newI (z := 40) 9 dX0_init_38 rfl tb_146 rfl (by decide) (by decide) (Nat.le_of_ble_eq_true rfl) (Nat.le_of_ble_eq_true rfl) (Nat.le_of_ble_eq_true rfl) ?_
  refine bw_putR (z := 43) (RX0, TX0, 20) 0 12 (b := 44) (ty := (.array .int)) dX0_init_40 rfl rfl (Nat.le_of_ble_eq_true rfl) fd_RX0_24 ⟨tyX0, tyX0_ok⟩ nmX0 rfl rfl rfl (by decide +kernel) (fun _ => rfl) (fun _ => rfl) ?_
  refine bw_aload_n (z := 44) dX0_init_43 rfl rfl ?_
  refine bw_sipush (z := 47) 180 dX0_init_44 rfl (by decide) ?_
  refine bw_newI (z := 49) 180 dX0_init_47 rfl tb_146 rfl (by decide) (by decide) (Nat.le_of_ble_eq_true rfl) (Nat.le_of_ble_eq_true rfl) (Nat.le_of_ble_eq_true rfl) ?_
  refine bw_putR (z := 52) (RX0, TX0, 20) 0 13 (b := 45) (ty := (.array .int)) dX0_init_49 rfl rfl (Nat.le_of_ble_eq_true rfl) fd_RX0_27 ⟨tyX0, tyX0_ok⟩ nmX0 rfl rfl rfl (by decide +kernel) (fun _ => rfl) (fun _ => rfl) ?_
  refine bw_aload_n (z := 53) dX0_init_52 rfl rfl ?_
  refine bw_bipush (z := 55) 20 dX0_init_53 rfl (by decide) ?_
  refine bw_newI (z := 57) 20 dX0_init_55 rfl tb_146 rfl (by decide) (by decide) (Nat.le_of_ble_eq_true rfl) (Nat.le_of_ble_eq_true rfl) (Nat.le_of_ble_eq_true rfl) ?_
  refine bw_putR (z := 60) (RX0, TX0, 20) 0 14 (b := 46) (ty := (.array .int)) dX0_init_57 rfl rfl (Nat.le_of_ble_eq_true rfl) fd_RX0_30 ⟨tyX0, tyX0_ok⟩ nmX0 rfl rfl rfl (by decide +kernel) (fun _ => rfl) (fun _ => rfl) ?_
  refine bw_aload_n (z := 61) dX0_init_60 rfl rfl ?_
  refine bw_bipush (z := 63) 20 dX0_init_61 rfl (by decide) ?_
  refine bw_newI (z := 65) 20 dX0_init_63 rfl tb_146 rfl (by decide) (by decide) (Nat.le_of_ble_eq_true rfl) (Nat.le_of_ble_eq_true rfl) (Nat.le_of_ble_eq_true rfl) ?_
  refine bw_putR (z := 68) (RX0, TX0, 20) 0 15 (b := 47) (ty := (.array .int)) dX0_init_65 rfl rfl (Nat.le_of_ble_eq_true rfl) fd_RX0_33 ⟨tyX0, tyX0_ok⟩ nmX0 rfl rfl rfl (by decide +kernel) (fun _ => rfl) (fun _ => rfl) ?_
  refine bw_aload_n (z := 69) dX0_init_68 rfl rfl ?_
  refine bw_bipush (z := 71) 100 dX0_init_69 rfl (by decide) ?_
  refine bw_newI (z := 73) 100 dX0_init_71 rfl tb_146 rfl (by decide) (by decide) (Nat.le_of_ble_eq_true rfl) (Nat.le_of_ble_eq_true rfl) (Nat.le_of_ble_eq_true rfl) ?_
  refine bw_putR (z := 76) (RX0, TX0, 20) 0 16 (b := 48) (ty := (.array .int)) dX0_init_73 rfl rfl (Nat.le_of_ble_eq_true rfl) fd_RX0_36 ⟨tyX0, tyX0_ok⟩ nmX0 rfl rfl rfl (by decide +kernel) (fun _ => rfl) (fun _ => rfl) ?_
  refine bw_aload_n (z := 77) dX0_init_76 rfl rfl ?_
  refine bw_bipush (z := 79) 100 dX0_init_77 rfl (by decide) ?_
  refine bw_newI (z := 81) 100 dX0_init_79 rfl tb_146 rfl (by decide) (by decide) (Nat.le_of_ble_eq_true rfl) (Nat.le_of_ble_eq_true rfl) (Nat.le_of_ble_eq_true rfl) ?_
  refine bw_putR (z := 84) (RX0, TX0, 20) 0 17 (b := 49) (ty := (.array .int)) dX0_init_81 rfl rfl (Nat.le_of_ble_eq_true rfl) fd_RX0_39 ⟨tyX0, tyX0_ok⟩ nmX0 rfl rfl rfl (by decide +kernel) (fun _ => rfl) (fun _ => rfl) ?_
  refine bw_aload_n (z := 85) dX0_init_84 rfl rfl ?_
  refine bw_bipush (z := 87) 54 dX0_init_85 rfl (by decide) ?_
  refine bw_newI (z := 89) 54 dX0_init_87 rfl tb_146 rfl (by decide) (by decide) (Nat.le_of_ble_eq_true rfl) (Nat.le_of_ble_eq_true rfl) (Nat.le_of_ble_eq_true rfl) ?_
  refine bw_putR (z := 92) (RX0, TX0, 20) 0 19 (b := 50) (ty := (.array .int)) dX0_init_89 rfl rfl (Nat.le_of_ble_eq_true rfl) fd_RX0_42 ⟨tyX0, tyX0_ok⟩ nmX0 rfl rfl rfl (by decide +kernel) (fun _ => rfl) (fun _ => rfl) ?_
  refine bw_aload_n (z := 93) dX0_init_92 rfl rfl ?_
  refine bw_aload_n (z := 94) dX0_init_93 rfl rfl ?_
  refine bw_putR (z := 97) (RX0, TX0, 20) 0 0 (b := 5) (ty := (.object "OrangeFight$Town")) dX0_init_94 rfl rfl (Nat.le_of_ble_eq_true rfl) fd_RX0_45 ⟨tyX0, tyX0_ok⟩ nmX0 rfl rfl rfl (by decide +kernel) (fun _ => rfl) (fun _ => rfl) ?_
  refine bw_aload_n (z := 98) dX0_init_97 rfl rfl ?_
  refine bw_aload_n (z := 99) dX0_init_98 rfl rfl ?_
  refine bw_putR (z := 102) (RX0, TX0, 20) 0 1 (b := 19) (ty := (.object "OrangeFight$Plans")) dX0_init_99 rfl rfl (Nat.le_of_ble_eq_true rfl) fd_RX0_49 ⟨tyX0, tyX0_ok⟩ nmX0 rfl rfl rfl (by decide +kernel) (fun _ => rfl) (fun _ => rfl) ?_
  refine bw_aload_n (z := 103) dX0_init_102 rfl rfl ?_
  refine bw_aload_n (z := 104) dX0_init_103 rfl rfl ?_
  refine bw_putR (z := 107) (RX0, TX0, 20) 0 2 (b := 28) (ty := (.object "OrangeFight$Ground")) dX0_init_104 rfl rfl (Nat.le_of_ble_eq_true rfl) fd_RX0_53 ⟨tyX0, tyX0_ok⟩ nmX0 rfl rfl rfl (by decide +kernel) (fun _ => rfl) (fun _ => rfl) ?_
  exact bw_vret rfl dX0_init_107 rfl rfl rfl rfl
def bi_X4_init_4 (w : bw_T) : bw_T := (bp (bi_X0_init_39 (bz (bp (bi_X1_init_28 (bz (bp (bi_X3_init_23 (bz (bp (bi_X2_init_19 (bz (bp (bi_X8_init_5 (bz w 5)) 4 0 5) 19)) 4 1 19) 23)) 4 2 23) 28)) 4 3 28) 39)) 4 4 39)
theorem mbi_X4_init_4 (l : Launch) (w : bw_T) : BM l yX4_init cX4_init 1 4 183 46 2136 [.ref 4] 5 w 51 (bi_X4_init_4 w) := by
  refine bw_met [some (.ref 4)] (Nat.le_of_ble_eq_true rfl) (by decide) (fun _ => rfl) (fun _ => Nat.le_of_ble_eq_true rfl) ?_
  show BW l ((yX4_init.cls, cX4_init, 1, none, 4, 183), yX4_init.name, 46, 2136) 0 [some (.ref 4)] [] 5 0 0 w 51 (bi_X4_init_4 w)
  refine bw_aload_n (z := 1) dX4_init_0 rfl rfl ?_
  refine bw_objInit (z := 4) dX4_init_1 rfl tb_154 tb_30 tb_31 ⟨Nat.le_of_ble_eq_true rfl, Nat.le_of_ble_eq_true rfl⟩ (fun _ => Nat.le_of_ble_eq_true rfl) ?_
  refine bw_aload_n (z := 5) dX4_init_4 rfl rfl ?_
  refine bw_new (z := 8) 8 (RX8, TX8, 20) tyX8 dX4_init_5 rfl rfl tb_155 tb_156 tb_8 inTB_8 tyX8_ok rfl bnf_8 (Nat.le_of_ble_eq_true rfl) (Nat.le_of_ble_eq_true rfl) ?_
  refine bw_dup (z := 9) dX4_init_8 rfl (fun _ => rfl) ?_
  refine bw_callI (z := 12) (as := []) (st := [.ref 5, .ref 4]) dX4_init_9 rfl rfl (mbi_X8_init_5 l _) ⟨tb_159, tb_8, ⟨by decide, by decide⟩, by decide +kernel, tb_157⟩ rfl tb_158 ⟨Nat.le_of_ble_eq_true rfl, Nat.le_of_ble_eq_true rfl⟩ (fun _ => Nat.le_of_ble_eq_true rfl) rfl (Nat.le_of_ble_eq_true rfl) (Nat.le_of_ble_eq_true rfl) ?_
  refine bw_putR (z := 15) (RX4, TX4, 5) 4 0 (b := 5) (ty := (.object "OrangeFight$Town")) dX4_init_12 rfl rfl (Nat.le_of_ble_eq_true rfl) fd_RX4_10 ⟨tyX4, tyX4_ok⟩ nmX4 rfl rfl rfl (by decide +kernel) (fun _ => rfl) (fun _ => rfl) ?_
  refine bw_aload_n (z := 16) dX4_init_15 rfl rfl ?_
  refine bw_new (z := 19) 2 (RX2, TX2, 4) tyX2 dX4_init_16 rfl rfl tb_261 tb_262 tb_10 inTB_2 tyX2_ok rfl bnf_2 (Nat.le_of_ble_eq_true rfl) (Nat.le_of_ble_eq_true rfl) ?_
  refine bw_dup (z := 20) dX4_init_19 rfl (fun _ => rfl) ?_
  refine bw_callI (z := 23) (as := []) (st := [.ref 19, .ref 4]) dX4_init_20 rfl rfl (mbi_X2_init_19 l _) ⟨tb_265, tb_10, ⟨by decide, by decide⟩, by decide +kernel, tb_263⟩ rfl tb_264 ⟨Nat.le_of_ble_eq_true rfl, Nat.le_of_ble_eq_true rfl⟩ (fun _ => Nat.le_of_ble_eq_true rfl) rfl (Nat.le_of_ble_eq_true rfl) (Nat.le_of_ble_eq_true rfl) ?_
  refine bw_putR (z := 26) (RX4, TX4, 5) 4 1 (b := 19) (ty := (.object "OrangeFight$Plans")) dX4_init_23 rfl rfl (Nat.le_of_ble_eq_true rfl) fd_RX4_19 ⟨tyX4, tyX4_ok⟩ nmX4 rfl rfl rfl (by decide +kernel) (fun _ => rfl) (fun _ => rfl) ?_
  refine bw_aload_n (z := 27) dX4_init_26 rfl rfl ?_
  refine bw_new (z := 30) 3 (RX3, TX3, 6) tyX3 dX4_init_27 rfl rfl tb_296 tb_297 tb_11 inTB_3 tyX3_ok rfl bnf_3 (Nat.le_of_ble_eq_true rfl) (Nat.le_of_ble_eq_true rfl) ?_
  refine bw_dup (z := 31) dX4_init_30 rfl (fun _ => rfl) ?_
  refine bw_callIN (z := 34) RX10 (as := []) (st := [.ref 23, .ref 4]) dX4_init_31 rfl rfl (mbi_X3_init_23 l _) ⟨tb_300, tb_11, ⟨by decide, by decide⟩, by decide +kernel, by decide +kernel⟩ rfl tb_299 ⟨Nat.le_of_ble_eq_true rfl, Nat.le_of_ble_eq_true rfl⟩ (fun _ => Nat.le_of_ble_eq_true rfl) rfl (Nat.le_of_ble_eq_true rfl) (Nat.le_of_ble_eq_true rfl) ?_
  refine bw_putR (z := 37) (RX4, TX4, 5) 4 2 (b := 23) (ty := (.object "OrangeFight$Saying")) dX4_init_34 rfl rfl (Nat.le_of_ble_eq_true rfl) fd_RX4_26 ⟨tyX4, tyX4_ok⟩ nmX4 rfl rfl rfl (by decide +kernel) (fun _ => rfl) (fun _ => rfl) ?_
  refine bw_aload_n (z := 38) dX4_init_37 rfl rfl ?_
  refine bw_new (z := 41) 1 (RX1, TX1, 12) tyX1 dX4_init_38 rfl rfl tb_323 tb_324 tb_12 inTB_1 tyX1_ok rfl bnf_1 (Nat.le_of_ble_eq_true rfl) (Nat.le_of_ble_eq_true rfl) ?_
  refine bw_dup (z := 42) dX4_init_41 rfl (fun _ => rfl) ?_
  refine bw_callI (z := 45) (as := []) (st := [.ref 28, .ref 4]) dX4_init_42 rfl rfl (mbi_X1_init_28 l _) ⟨tb_327, tb_12, ⟨by decide, by decide⟩, by decide +kernel, tb_325⟩ rfl tb_326 ⟨Nat.le_of_ble_eq_true rfl, Nat.le_of_ble_eq_true rfl⟩ (fun _ => Nat.le_of_ble_eq_true rfl) rfl (Nat.le_of_ble_eq_true rfl) (Nat.le_of_ble_eq_true rfl) ?_
  refine bw_putR (z := 48) (RX4, TX4, 5) 4 3 (b := 28) (ty := (.object "OrangeFight$Ground")) dX4_init_45 rfl rfl (Nat.le_of_ble_eq_true rfl) fd_RX4_33 ⟨tyX4, tyX4_ok⟩ nmX4 rfl rfl rfl (by decide +kernel) (fun _ => rfl) (fun _ => rfl) ?_
  refine bw_aload_n (z := 49) dX4_init_48 rfl rfl ?_
  refine bw_new (z := 52) 0 (RX0, TX0, 20) tyX0 dX4_init_49 rfl rfl tb_382 tb_383 tb_13 inTB_0 tyX0_ok rfl bnf_0 (Nat.le_of_ble_eq_true rfl) (Nat.le_of_ble_eq_true rfl) ?_
  refine bw_dup (z := 53) dX4_init_52 rfl (fun _ => rfl) ?_
  refine bw_aload_n (z := 54) dX4_init_53 rfl rfl ?_
  refine bw_getR (z := 57) (RX4, TX4, 5) 4 0 (b := 5) dX4_init_54 rfl rfl (Nat.le_of_ble_eq_true rfl) fd_RX4_10 rfl ?_
  refine bw_aload_n (z := 58) dX4_init_57 rfl rfl ?_
  refine bw_getR (z := 61) (RX4, TX4, 5) 4 1 (b := 19) dX4_init_58 rfl rfl (Nat.le_of_ble_eq_true rfl) fd_RX4_19 rfl ?_
  refine bw_aload_n (z := 62) dX4_init_61 rfl rfl ?_
  refine bw_getR (z := 65) (RX4, TX4, 5) 4 3 (b := 28) dX4_init_62 rfl rfl (Nat.le_of_ble_eq_true rfl) fd_RX4_33 rfl ?_
  refine bw_callI (z := 68) (as := [.ref 5, .ref 19, .ref 28]) (st := [.ref 39, .ref 4]) dX4_init_65 rfl rfl (mbi_X0_init_39 l _) ⟨tb_386, tb_13, ⟨by decide, by decide⟩, by decide +kernel, tb_384⟩ rfl tb_385 ⟨Nat.le_of_ble_eq_true rfl, Nat.le_of_ble_eq_true rfl⟩ (fun _ => Nat.le_of_ble_eq_true rfl) rfl (Nat.le_of_ble_eq_true rfl) (Nat.le_of_ble_eq_true rfl) ?_
  refine bw_putR (z := 71) (RX4, TX4, 5) 4 4 (b := 39) (ty := (.object "OrangeFight$Fight")) dX4_init_68 rfl rfl (Nat.le_of_ble_eq_true rfl) fd_RX4_42 ⟨tyX4, tyX4_ok⟩ nmX4 rfl rfl rfl (by decide +kernel) (fun _ => rfl) (fun _ => rfl) ?_
  exact bw_vret rfl dX4_init_71 rfl rfl rfl rfl
def bi_X8_empty_53 (w : bw_T) : bw_T := (bI (bF (bF (bF (bF (bF (bI (bI (bI (bI (bI (bI w 53 0 0) 53 1 0) 53 2 0) 53 3 0) 53 4 0) 53 18 0) 58 (-1) 9) 63 0 4) 64 0 100) 65 (-1) 100) 66 1 4) 66 3 0)
theorem mbi_X8_empty_53 (l : Launch) (w : bw_T) (h53_9 : w.2 53 9 = some 58) (h53_14 : w.2 53 14 = some 63) (h53_15 : w.2 53 15 = some 64) (h53_16 : w.2 53 16 = some 65) (h53_17 : w.2 53 17 = some 66) : BM l yX8_empty cX8_empty 1 2 143 0 0 [.ref 53] 67 w 67 (bi_X8_empty_53 w) := by
  refine bw_met [some (.ref 53)] (Nat.le_of_ble_eq_true rfl) (by decide) (fun _ => rfl) (fun _ => Nat.le_of_ble_eq_true rfl) ?_
  show BW l ((yX8_empty.cls, cX8_empty, 1, none, 2, 143), yX8_empty.name, 0, 0) 0 [some (.ref 53)] [] 67 0 0 w 67 (bi_X8_empty_53 w)
  refine bw_aload_n (z := 1) dX8_empty_0 rfl rfl ?_
  refine bw_iconst (z := 2) 0 dX8_empty_1 rfl (by decide) ?_
  refine bw_putI (z := 5) (RX8, TX8, 20) 8 0 dX8_empty_2 rfl rfl (Nat.le_of_ble_eq_true rfl) fp_RX8_55 rfl rfl ?_
  refine bw_aload_n (z := 6) dX8_empty_5 rfl rfl ?_
  refine bw_iconst (z := 7) 0 dX8_empty_6 rfl (by decide) ?_
  refine bw_putI (z := 10) (RX8, TX8, 20) 8 1 dX8_empty_7 rfl rfl (Nat.le_of_ble_eq_true rfl) fp_RX8_59 rfl rfl ?_
  refine bw_aload_n (z := 11) dX8_empty_10 rfl rfl ?_
  refine bw_iconst (z := 12) 0 dX8_empty_11 rfl (by decide) ?_
  refine bw_putI (z := 15) (RX8, TX8, 20) 8 2 dX8_empty_12 rfl rfl (Nat.le_of_ble_eq_true rfl) fp_RX8_62 rfl rfl ?_
  refine bw_aload_n (z := 16) dX8_empty_15 rfl rfl ?_
  refine bw_iconst (z := 17) 0 dX8_empty_16 rfl (by decide) ?_
  refine bw_putI (z := 20) (RX8, TX8, 20) 8 3 dX8_empty_17 rfl rfl (Nat.le_of_ble_eq_true rfl) fp_RX8_65 rfl rfl ?_
  refine bw_aload_n (z := 21) dX8_empty_20 rfl rfl ?_
  refine bw_iconst (z := 22) 0 dX8_empty_21 rfl (by decide) ?_
  refine bw_putI (z := 25) (RX8, TX8, 20) 8 4 dX8_empty_22 rfl rfl (Nat.le_of_ble_eq_true rfl) fp_RX8_68 rfl rfl ?_
  refine bw_aload_n (z := 26) dX8_empty_25 rfl rfl ?_
  refine bw_iconst (z := 27) 0 dX8_empty_26 rfl (by decide) ?_
  refine bw_putI (z := 30) (RX8, TX8, 20) 8 18 dX8_empty_27 rfl rfl (Nat.le_of_ble_eq_true rfl) fp_RX8_71 rfl rfl ?_
  refine bw_aload_n (z := 31) dX8_empty_30 rfl rfl ?_
  refine bw_getR (z := 34) (RX8, TX8, 20) 8 9 (b := 58) dX8_empty_31 rfl rfl (Nat.le_of_ble_eq_true rfl) fd_RX8_25 h53_9 ?_
  refine bw_iconst (z := 35) (-1) dX8_empty_34 rfl (by decide) ?_
  refine bw_callS (z := 38) (as := [.ref 58, .int (-1)]) (st := []) dX8_empty_35 rfl rfl (bm_fill l 58 9 67 (-1) _ rfl (Nat.le_of_ble_eq_true rfl) (Nat.lt_of_lt_of_le (Nat.le_of_ble_eq_true rfl : 9 < 1000000) (by decide))) cw_RX8_75 ⟨Nat.le_of_ble_eq_true rfl, Nat.le_of_ble_eq_true rfl⟩ (fun _ => Nat.le_of_ble_eq_true rfl) rfl (Nat.le_of_ble_eq_true rfl) (Nat.le_of_ble_eq_true rfl) ?_
  refine bw_aload_n (z := 39) dX8_empty_38 rfl rfl ?_
  refine bw_getR (z := 42) (RX8, TX8, 20) 8 14 (b := 63) dX8_empty_39 rfl rfl (Nat.le_of_ble_eq_true rfl) fd_RX8_40 h53_14 ?_
  refine bw_iconst (z := 43) 0 dX8_empty_42 rfl (by decide) ?_
  refine bw_callS (z := 46) (as := [.ref 63, .int 0]) (st := []) dX8_empty_43 rfl rfl (bm_fill l 63 4 67 0 _ rfl (Nat.le_of_ble_eq_true rfl) (Nat.lt_of_lt_of_le (Nat.le_of_ble_eq_true rfl : 4 < 1000000) (by decide))) cw_RX8_75 ⟨Nat.le_of_ble_eq_true rfl, Nat.le_of_ble_eq_true rfl⟩ (fun _ => Nat.le_of_ble_eq_true rfl) rfl (Nat.le_of_ble_eq_true rfl) (Nat.le_of_ble_eq_true rfl) ?_
  refine bw_aload_n (z := 47) dX8_empty_46 rfl rfl ?_
  refine bw_getR (z := 50) (RX8, TX8, 20) 8 15 (b := 64) dX8_empty_47 rfl rfl (Nat.le_of_ble_eq_true rfl) fd_RX8_43 h53_15 ?_
  refine bw_iconst (z := 51) 0 dX8_empty_50 rfl (by decide) ?_
  refine bw_callS (z := 54) (as := [.ref 64, .int 0]) (st := []) dX8_empty_51 rfl rfl (bm_fill l 64 100 67 0 _ rfl (Nat.le_of_ble_eq_true rfl) (Nat.lt_of_lt_of_le (Nat.le_of_ble_eq_true rfl : 100 < 1000000) (by decide))) cw_RX8_75 ⟨Nat.le_of_ble_eq_true rfl, Nat.le_of_ble_eq_true rfl⟩ (fun _ => Nat.le_of_ble_eq_true rfl) rfl (Nat.le_of_ble_eq_true rfl) (Nat.le_of_ble_eq_true rfl) ?_
  refine bw_aload_n (z := 55) dX8_empty_54 rfl rfl ?_
  refine bw_getR (z := 58) (RX8, TX8, 20) 8 16 (b := 65) dX8_empty_55 rfl rfl (Nat.le_of_ble_eq_true rfl) fd_RX8_46 h53_16 ?_
  refine bw_iconst (z := 59) (-1) dX8_empty_58 rfl (by decide) ?_
  refine bw_callS (z := 62) (as := [.ref 65, .int (-1)]) (st := []) dX8_empty_59 rfl rfl (bm_fill l 65 100 67 (-1) _ rfl (Nat.le_of_ble_eq_true rfl) (Nat.lt_of_lt_of_le (Nat.le_of_ble_eq_true rfl : 100 < 1000000) (by decide))) cw_RX8_75 ⟨Nat.le_of_ble_eq_true rfl, Nat.le_of_ble_eq_true rfl⟩ (fun _ => Nat.le_of_ble_eq_true rfl) rfl (Nat.le_of_ble_eq_true rfl) (Nat.le_of_ble_eq_true rfl) ?_
  refine bw_aload_n (z := 63) dX8_empty_62 rfl rfl ?_
  refine bw_getR (z := 66) (RX8, TX8, 20) 8 17 (b := 66) dX8_empty_63 rfl rfl (Nat.le_of_ble_eq_true rfl) fd_RX8_49 h53_17 ?_
  refine bw_iconst (z := 67) 1 dX8_empty_66 rfl (by decide) ?_
  refine bw_callS (z := 70) (as := [.ref 66, .int 1]) (st := []) dX8_empty_67 rfl rfl (bm_fill l 66 4 67 1 _ rfl (Nat.le_of_ble_eq_true rfl) (Nat.lt_of_lt_of_le (Nat.le_of_ble_eq_true rfl : 4 < 1000000) (by decide))) cw_RX8_75 ⟨Nat.le_of_ble_eq_true rfl, Nat.le_of_ble_eq_true rfl⟩ (fun _ => Nat.le_of_ble_eq_true rfl) rfl (Nat.le_of_ble_eq_true rfl) (Nat.le_of_ble_eq_true rfl) ?_
  refine bw_aload_n (z := 71) dX8_empty_70 rfl rfl ?_
  refine bw_getR (z := 74) (RX8, TX8, 20) 8 17 (b := 66) dX8_empty_71 rfl rfl (Nat.le_of_ble_eq_true rfl) fd_RX8_49 h53_17 ?_
  refine bw_iconst (z := 75) 3 dX8_empty_74 rfl (by decide) ?_
  refine bw_iconst (z := 76) 0 dX8_empty_75 rfl (by decide) ?_
  refine bw_iastore (z := 77) 4 dX8_empty_76 rfl rfl (Nat.le_of_ble_eq_true rfl) (bw_in (by decide)) ?_
  exact bw_vret rfl dX8_empty_77 rfl rfl rfl rfl
def bi_X8_init_53 (w : bw_T) : bw_T := (bi_X8_empty_53 (bp (bz (bp (bz (bp (bz (bp (bz (bp (bz (bp (bz (bp (bz (bp (bz (bp (bz (bp (bz (bp (bz (bp (bz (bp (bz w 54) 53 5 54) 55) 53 6 55) 56) 53 7 56) 57) 53 8 57) 58) 53 9 58) 59) 53 10 59) 60) 53 11 60) 61) 53 12 61) 62) 53 13 62) 63) 53 14 63) 64) 53 15 64) 65) 53 16 65) 66) 53 17 66))
theorem mbi_X8_init_53 (l : Launch) (w : bw_T) : BM l yX8_init cX8_init 1 3 163 13 333 [.ref 53] 54 w 67 (bi_X8_init_53 w) := by
  refine bw_met [some (.ref 53)] (Nat.le_of_ble_eq_true rfl) (by decide) (fun _ => rfl) (fun _ => Nat.le_of_ble_eq_true rfl) ?_
  show BW l ((yX8_init.cls, cX8_init, 1, none, 3, 163), yX8_init.name, 13, 333) 0 [some (.ref 53)] [] 54 0 0 w 67 (bi_X8_init_53 w)
  refine bw_aload_n (z := 1) dX8_init_0 rfl rfl ?_
  refine bw_objInit (z := 4) dX8_init_1 rfl tb_160 tb_30 tb_31 ⟨Nat.le_of_ble_eq_true rfl, Nat.le_of_ble_eq_true rfl⟩ (fun _ => Nat.le_of_ble_eq_true rfl) ?_
  refine bw_aload_n (z := 5) dX8_init_4 rfl rfl ?_
  refine bw_bipush (z := 7) 9 dX8_init_5 rfl (by decide) ?_
  refine bw_newJ (z := 9) 9 dX8_init_7 rfl tb_147 rfl (by decide) (by decide) (Nat.le_of_ble_eq_true rfl) (Nat.le_of_ble_eq_true rfl) (Nat.le_of_ble_eq_true rfl) ?_
  refine bw_putR (z := 12) (RX8, TX8, 20) 8 5 (b := 54) (ty := (.array .long)) dX8_init_9 rfl rfl (Nat.le_of_ble_eq_true rfl) fd_RX8_9 ⟨tyX8, tyX8_ok⟩ nmX8 rfl rfl rfl (by decide +kernel) (fun _ => rfl) (fun _ => rfl) ?_
  refine bw_aload_n (z := 13) dX8_init_12 rfl rfl ?_
  refine bw_bipush (z := 15) 9 dX8_init_13 rfl (by decide) ?_
  refine bw_newI (z := 17) 9 dX8_init_15 rfl tb_146 rfl (by decide) (by decide) (Nat.le_of_ble_eq_true rfl) (Nat.le_of_ble_eq_true rfl) (Nat.le_of_ble_eq_true rfl) ?_
  refine bw_putR (z := 20) (RX8, TX8, 20) 8 6 (b := 55) (ty := (.array .int)) dX8_init_17 rfl rfl (Nat.le_of_ble_eq_true rfl) fd_RX8_15 ⟨tyX8, tyX8_ok⟩ nmX8 rfl rfl rfl (by decide +kernel) (fun _ => rfl) (fun _ => rfl) ?_
  refine bw_aload_n (z := 21) dX8_init_20 rfl rfl ?_
  refine bw_bipush (z := 23) 9 dX8_init_21 rfl (by decide) ?_
  refine bw_newI (z := 25) 9 dX8_init_23 rfl tb_146 rfl (by decide) (by decide) (Nat.le_of_ble_eq_true rfl) (Nat.le_of_ble_eq_true rfl) (Nat.le_of_ble_eq_true rfl) ?_
  refine bw_putR (z := 28) (RX8, TX8, 20) 8 7 (b := 56) (ty := (.array .int)) dX8_init_25 rfl rfl (Nat.le_of_ble_eq_true rfl) fd_RX8_19 ⟨tyX8, tyX8_ok⟩ nmX8 rfl rfl rfl (by decide +kernel) (fun _ => rfl) (fun _ => rfl) ?_
  refine bw_aload_n (z := 29) dX8_init_28 rfl rfl ?_
  refine bw_bipush (z := 31) 9 dX8_init_29 rfl (by decide) ?_
  refine bw_newI (z := 33) 9 dX8_init_31 rfl tb_146 rfl (by decide) (by decide) (Nat.le_of_ble_eq_true rfl) (Nat.le_of_ble_eq_true rfl) (Nat.le_of_ble_eq_true rfl) ?_
  refine bw_putR (z := 36) (RX8, TX8, 20) 8 8 (b := 57) (ty := (.array .int)) dX8_init_33 rfl rfl (Nat.le_of_ble_eq_true rfl) fd_RX8_22 ⟨tyX8, tyX8_ok⟩ nmX8 rfl rfl rfl (by decide +kernel) (fun _ => rfl) (fun _ => rfl) ?_
  refine bw_aload_n (z := 37) dX8_init_36 rfl rfl ?_
  refine bw_bipush (z := 39) 9 dX8_init_37 rfl (by decide) ?_
  refine bw_newI (z := 41) 9 dX8_init_39 rfl tb_146 rfl (by decide) (by decide) (Nat.le_of_ble_eq_true rfl) (Nat.le_of_ble_eq_true rfl) (Nat.le_of_ble_eq_true rfl) ?_
  refine bw_putR (z := 44) (RX8, TX8, 20) 8 9 (b := 58) (ty := (.array .int)) dX8_init_41 rfl rfl (Nat.le_of_ble_eq_true rfl) fd_RX8_25 ⟨tyX8, tyX8_ok⟩ nmX8 rfl rfl rfl (by decide +kernel) (fun _ => rfl) (fun _ => rfl) ?_
  refine bw_aload_n (z := 45) dX8_init_44 rfl rfl ?_
  refine bw_bipush (z := 47) 20 dX8_init_45 rfl (by decide) ?_
  refine bw_newI (z := 49) 20 dX8_init_47 rfl tb_146 rfl (by decide) (by decide) (Nat.le_of_ble_eq_true rfl) (Nat.le_of_ble_eq_true rfl) (Nat.le_of_ble_eq_true rfl) ?_
  refine bw_putR (z := 52) (RX8, TX8, 20) 8 10 (b := 59) (ty := (.array .int)) dX8_init_49 rfl rfl (Nat.le_of_ble_eq_true rfl) fd_RX8_28 ⟨tyX8, tyX8_ok⟩ nmX8 rfl rfl rfl (by decide +kernel) (fun _ => rfl) (fun _ => rfl) ?_
  refine bw_aload_n (z := 53) dX8_init_52 rfl rfl ?_
  refine bw_bipush (z := 55) 20 dX8_init_53 rfl (by decide) ?_
  refine bw_newI (z := 57) 20 dX8_init_55 rfl tb_146 rfl (by decide) (by decide) (Nat.le_of_ble_eq_true rfl) (Nat.le_of_ble_eq_true rfl) (Nat.le_of_ble_eq_true rfl) ?_
  refine bw_putR (z := 60) (RX8, TX8, 20) 8 11 (b := 60) (ty := (.array .int)) dX8_init_57 rfl rfl (Nat.le_of_ble_eq_true rfl) fd_RX8_31 ⟨tyX8, tyX8_ok⟩ nmX8 rfl rfl rfl (by decide +kernel) (fun _ => rfl) (fun _ => rfl) ?_
  refine bw_aload_n (z := 61) dX8_init_60 rfl rfl ?_
  refine bw_bipush (z := 63) 20 dX8_init_61 rfl (by decide) ?_
  refine bw_newI (z := 65) 20 dX8_init_63 rfl tb_146 rfl (by decide) (by decide) (Nat.le_of_ble_eq_true rfl) (Nat.le_of_ble_eq_true rfl) (Nat.le_of_ble_eq_true rfl) ?_
  refine bw_putR (z := 68) (RX8, TX8, 20) 8 12 (b := 61) (ty := (.array .int)) dX8_init_65 rfl rfl (Nat.le_of_ble_eq_true rfl) fd_RX8_34 ⟨tyX8, tyX8_ok⟩ nmX8 rfl rfl rfl (by decide +kernel) (fun _ => rfl) (fun _ => rfl) ?_
  refine bw_aload_n (z := 69) dX8_init_68 rfl rfl ?_
  refine bw_bipush (z := 71) 20 dX8_init_69 rfl (by decide) ?_
  refine bw_newI (z := 73) 20 dX8_init_71 rfl tb_146 rfl (by decide) (by decide) (Nat.le_of_ble_eq_true rfl) (Nat.le_of_ble_eq_true rfl) (Nat.le_of_ble_eq_true rfl) ?_
  refine bw_putR (z := 76) (RX8, TX8, 20) 8 13 (b := 62) (ty := (.array .int)) dX8_init_73 rfl rfl (Nat.le_of_ble_eq_true rfl) fd_RX8_37 ⟨tyX8, tyX8_ok⟩ nmX8 rfl rfl rfl (by decide +kernel) (fun _ => rfl) (fun _ => rfl) ?_
  refine bw_aload_n (z := 77) dX8_init_76 rfl rfl ?_
  refine bw_iconst (z := 78) 4 dX8_init_77 rfl (by decide) ?_
  refine bw_newI (z := 80) 4 dX8_init_78 rfl tb_146 rfl (by decide) (by decide) (Nat.le_of_ble_eq_true rfl) (Nat.le_of_ble_eq_true rfl) (Nat.le_of_ble_eq_true rfl) ?_
  refine bw_putR (z := 83) (RX8, TX8, 20) 8 14 (b := 63) (ty := (.array .int)) dX8_init_80 rfl rfl (Nat.le_of_ble_eq_true rfl) fd_RX8_40 ⟨tyX8, tyX8_ok⟩ nmX8 rfl rfl rfl (by decide +kernel) (fun _ => rfl) (fun _ => rfl) ?_
  refine bw_aload_n (z := 84) dX8_init_83 rfl rfl ?_
  refine bw_bipush (z := 86) 100 dX8_init_84 rfl (by decide) ?_
  refine bw_newI (z := 88) 100 dX8_init_86 rfl tb_146 rfl (by decide) (by decide) (Nat.le_of_ble_eq_true rfl) (Nat.le_of_ble_eq_true rfl) (Nat.le_of_ble_eq_true rfl) ?_
  refine bw_putR (z := 91) (RX8, TX8, 20) 8 15 (b := 64) (ty := (.array .int)) dX8_init_88 rfl rfl (Nat.le_of_ble_eq_true rfl) fd_RX8_43 ⟨tyX8, tyX8_ok⟩ nmX8 rfl rfl rfl (by decide +kernel) (fun _ => rfl) (fun _ => rfl) ?_
  refine bw_aload_n (z := 92) dX8_init_91 rfl rfl ?_
  refine bw_bipush (z := 94) 100 dX8_init_92 rfl (by decide) ?_
  refine bw_newI (z := 96) 100 dX8_init_94 rfl tb_146 rfl (by decide) (by decide) (Nat.le_of_ble_eq_true rfl) (Nat.le_of_ble_eq_true rfl) (Nat.le_of_ble_eq_true rfl) ?_
  refine bw_putR (z := 99) (RX8, TX8, 20) 8 16 (b := 65) (ty := (.array .int)) dX8_init_96 rfl rfl (Nat.le_of_ble_eq_true rfl) fd_RX8_46 ⟨tyX8, tyX8_ok⟩ nmX8 rfl rfl rfl (by decide +kernel) (fun _ => rfl) (fun _ => rfl) ?_
  refine bw_aload_n (z := 100) dX8_init_99 rfl rfl ?_
  refine bw_iconst (z := 101) 4 dX8_init_100 rfl (by decide) ?_
  refine bw_newI (z := 103) 4 dX8_init_101 rfl tb_146 rfl (by decide) (by decide) (Nat.le_of_ble_eq_true rfl) (Nat.le_of_ble_eq_true rfl) (Nat.le_of_ble_eq_true rfl) ?_
  refine bw_putR (z := 106) (RX8, TX8, 20) 8 17 (b := 66) (ty := (.array .int)) dX8_init_103 rfl rfl (Nat.le_of_ble_eq_true rfl) fd_RX8_49 ⟨tyX8, tyX8_ok⟩ nmX8 rfl rfl rfl (by decide +kernel) (fun _ => rfl) (fun _ => rfl) ?_
  refine bw_aload_n (z := 107) dX8_init_106 rfl rfl ?_
  refine bw_callV (z := 110) (as := []) (st := []) (RX8, TX8, 20) 8 dX8_init_107 rfl rfl (mbi_X8_empty_53 l _ rfl rfl rfl rfl rfl) rfl (Nat.le_of_ble_eq_true rfl) rfl rfl cw_RX8_52 ⟨Nat.le_of_ble_eq_true rfl, Nat.le_of_ble_eq_true rfl⟩ (fun _ => Nat.le_of_ble_eq_true rfl) rfl (Nat.le_of_ble_eq_true rfl) (Nat.le_of_ble_eq_true rfl) ?_
  exact bw_vret rfl dX8_init_110 rfl rfl rfl rfl
def bi_X2_empty_67 (w : bw_T) : bw_T := (bF (bF (bF (bI w 67 0 0) 68 (-1) 9) 69 (-1) 9) 70 (-1) 9)
theorem mbi_X2_empty_67 (l : Launch) (w : bw_T) (h67_1 : w.2 67 1 = some 68) (h67_2 : w.2 67 2 = some 69) (h67_3 : w.2 67 3 = some 70) : BM l yX2_empty cX2_empty 1 2 143 0 0 [.ref 67] 71 w 71 (bi_X2_empty_67 w) := by
  refine bw_met [some (.ref 67)] (Nat.le_of_ble_eq_true rfl) (by decide) (fun _ => rfl) (fun _ => Nat.le_of_ble_eq_true rfl) ?_
  show BW l ((yX2_empty.cls, cX2_empty, 1, none, 2, 143), yX2_empty.name, 0, 0) 0 [some (.ref 67)] [] 71 0 0 w 71 (bi_X2_empty_67 w)
  refine bw_aload_n (z := 1) dX2_empty_0 rfl rfl ?_
  refine bw_iconst (z := 2) 0 dX2_empty_1 rfl (by decide) ?_
  refine bw_putI (z := 5) (RX2, TX2, 4) 2 0 dX2_empty_2 rfl rfl (Nat.le_of_ble_eq_true rfl) fp_RX2_24 rfl rfl ?_
  refine bw_aload_n (z := 6) dX2_empty_5 rfl rfl ?_
  refine bw_getR (z := 9) (RX2, TX2, 4) 2 1 (b := 68) dX2_empty_6 rfl rfl (Nat.le_of_ble_eq_true rfl) fd_RX2_9 h67_1 ?_
  refine bw_iconst (z := 10) (-1) dX2_empty_9 rfl (by decide) ?_
  refine bw_callS (z := 13) (as := [.ref 68, .int (-1)]) (st := []) dX2_empty_10 rfl rfl (bm_fill l 68 9 71 (-1) _ rfl (Nat.le_of_ble_eq_true rfl) (Nat.lt_of_lt_of_le (Nat.le_of_ble_eq_true rfl : 9 < 1000000) (by decide))) cw_RX2_28 ⟨Nat.le_of_ble_eq_true rfl, Nat.le_of_ble_eq_true rfl⟩ (fun _ => Nat.le_of_ble_eq_true rfl) rfl (Nat.le_of_ble_eq_true rfl) (Nat.le_of_ble_eq_true rfl) ?_
  refine bw_aload_n (z := 14) dX2_empty_13 rfl rfl ?_
  refine bw_getR (z := 17) (RX2, TX2, 4) 2 2 (b := 69) dX2_empty_14 rfl rfl (Nat.le_of_ble_eq_true rfl) fd_RX2_15 h67_2 ?_
  refine bw_iconst (z := 18) (-1) dX2_empty_17 rfl (by decide) ?_
  refine bw_callS (z := 21) (as := [.ref 69, .int (-1)]) (st := []) dX2_empty_18 rfl rfl (bm_fill l 69 9 71 (-1) _ rfl (Nat.le_of_ble_eq_true rfl) (Nat.lt_of_lt_of_le (Nat.le_of_ble_eq_true rfl : 9 < 1000000) (by decide))) cw_RX2_28 ⟨Nat.le_of_ble_eq_true rfl, Nat.le_of_ble_eq_true rfl⟩ (fun _ => Nat.le_of_ble_eq_true rfl) rfl (Nat.le_of_ble_eq_true rfl) (Nat.le_of_ble_eq_true rfl) ?_
  refine bw_aload_n (z := 22) dX2_empty_21 rfl rfl ?_
  refine bw_getR (z := 25) (RX2, TX2, 4) 2 3 (b := 70) dX2_empty_22 rfl rfl (Nat.le_of_ble_eq_true rfl) fd_RX2_18 h67_3 ?_
  refine bw_iconst (z := 26) (-1) dX2_empty_25 rfl (by decide) ?_
  refine bw_callS (z := 29) (as := [.ref 70, .int (-1)]) (st := []) dX2_empty_26 rfl rfl (bm_fill l 70 9 71 (-1) _ rfl (Nat.le_of_ble_eq_true rfl) (Nat.lt_of_lt_of_le (Nat.le_of_ble_eq_true rfl : 9 < 1000000) (by decide))) cw_RX2_28 ⟨Nat.le_of_ble_eq_true rfl, Nat.le_of_ble_eq_true rfl⟩ (fun _ => Nat.le_of_ble_eq_true rfl) rfl (Nat.le_of_ble_eq_true rfl) (Nat.le_of_ble_eq_true rfl) ?_
  exact bw_vret rfl dX2_empty_29 rfl rfl rfl rfl
def bi_X2_init_67 (w : bw_T) : bw_T := (bi_X2_empty_67 (bp (bz (bp (bz (bp (bz w 68) 67 1 68) 69) 67 2 69) 70) 67 3 70))
theorem mbi_X2_init_67 (l : Launch) (w : bw_T) : BM l yX2_init cX2_init 1 3 163 3 27 [.ref 67] 68 w 71 (bi_X2_init_67 w) := by
  refine bw_met [some (.ref 67)] (Nat.le_of_ble_eq_true rfl) (by decide) (fun _ => rfl) (fun _ => Nat.le_of_ble_eq_true rfl) ?_
  show BW l ((yX2_init.cls, cX2_init, 1, none, 3, 163), yX2_init.name, 3, 27) 0 [some (.ref 67)] [] 68 0 0 w 71 (bi_X2_init_67 w)
  refine bw_aload_n (z := 1) dX2_init_0 rfl rfl ?_
  refine bw_objInit (z := 4) dX2_init_1 rfl tb_266 tb_30 tb_31 ⟨Nat.le_of_ble_eq_true rfl, Nat.le_of_ble_eq_true rfl⟩ (fun _ => Nat.le_of_ble_eq_true rfl) ?_
  refine bw_aload_n (z := 5) dX2_init_4 rfl rfl ?_
  refine bw_bipush (z := 7) 9 dX2_init_5 rfl (by decide) ?_
  refine bw_newI (z := 9) 9 dX2_init_7 rfl tb_146 rfl (by decide) (by decide) (Nat.le_of_ble_eq_true rfl) (Nat.le_of_ble_eq_true rfl) (Nat.le_of_ble_eq_true rfl) ?_
  refine bw_putR (z := 12) (RX2, TX2, 4) 2 1 (b := 68) (ty := (.array .int)) dX2_init_9 rfl rfl (Nat.le_of_ble_eq_true rfl) fd_RX2_9 ⟨tyX2, tyX2_ok⟩ nmX2 rfl rfl rfl (by decide +kernel) (fun _ => rfl) (fun _ => rfl) ?_
  refine bw_aload_n (z := 13) dX2_init_12 rfl rfl ?_
  refine bw_bipush (z := 15) 9 dX2_init_13 rfl (by decide) ?_
  refine bw_newI (z := 17) 9 dX2_init_15 rfl tb_146 rfl (by decide) (by decide) (Nat.le_of_ble_eq_true rfl) (Nat.le_of_ble_eq_true rfl) (Nat.le_of_ble_eq_true rfl) ?_
  refine bw_putR (z := 20) (RX2, TX2, 4) 2 2 (b := 69) (ty := (.array .int)) dX2_init_17 rfl rfl (Nat.le_of_ble_eq_true rfl) fd_RX2_15 ⟨tyX2, tyX2_ok⟩ nmX2 rfl rfl rfl (by decide +kernel) (fun _ => rfl) (fun _ => rfl) ?_
  refine bw_aload_n (z := 21) dX2_init_20 rfl rfl ?_
  refine bw_bipush (z := 23) 9 dX2_init_21 rfl (by decide) ?_
  refine bw_newI (z := 25) 9 dX2_init_23 rfl tb_146 rfl (by decide) (by decide) (Nat.le_of_ble_eq_true rfl) (Nat.le_of_ble_eq_true rfl) (Nat.le_of_ble_eq_true rfl) ?_
  refine bw_putR (z := 28) (RX2, TX2, 4) 2 3 (b := 70) (ty := (.array .int)) dX2_init_25 rfl rfl (Nat.le_of_ble_eq_true rfl) fd_RX2_18 ⟨tyX2, tyX2_ok⟩ nmX2 rfl rfl rfl (by decide +kernel) (fun _ => rfl) (fun _ => rfl) ?_
  refine bw_aload_n (z := 29) dX2_init_28 rfl rfl ?_
  refine bw_callV (z := 32) (as := []) (st := []) (RX2, TX2, 4) 2 dX2_init_29 rfl rfl (mbi_X2_empty_67 l _ rfl rfl rfl) rfl (Nat.le_of_ble_eq_true rfl) rfl rfl cw_RX2_21 ⟨Nat.le_of_ble_eq_true rfl, Nat.le_of_ble_eq_true rfl⟩ (fun _ => Nat.le_of_ble_eq_true rfl) rfl (Nat.le_of_ble_eq_true rfl) (Nat.le_of_ble_eq_true rfl) ?_
  exact bw_vret rfl dX2_init_32 rfl rfl rfl rfl
def bi_X3_init_71 (w : bw_T) : bw_T := (bp (bz (bp (bz (bp (bz (bp (bz w 72) 71 2 72) 73) 71 3 73) 74) 71 4 74) 75) 71 5 75)
theorem mbi_X3_init_71 (l : Launch) (w : bw_T) : BM l yX3_init cX3_init 1 1 120 4 140 [.ref 71] 72 w 76 (bi_X3_init_71 w) := by
  refine bw_met [some (.ref 71)] (Nat.le_of_ble_eq_true rfl) (by decide) (fun _ => rfl) (fun _ => Nat.le_of_ble_eq_true rfl) ?_
  show BW l ((yX3_init.cls, cX3_init, 1, none, 1, 120), yX3_init.name, 4, 140) 0 [some (.ref 71)] [] 72 0 0 w 76 (bi_X3_init_71 w)
  refine bw_aload_n (z := 1) dX3_init_0 rfl rfl ?_
  refine bw_objInit (z := 4) dX3_init_1 rfl tb_301 tb_30 tb_31 ⟨Nat.le_of_ble_eq_true rfl, Nat.le_of_ble_eq_true rfl⟩ (fun _ => Nat.le_of_ble_eq_true rfl) ?_
  refine bw_aload_n (z := 5) dX3_init_4 rfl rfl ?_
  refine bw_bipush (z := 7) 40 dX3_init_5 rfl (by decide) ?_
  refine bw_newI (z := 9) 40 dX3_init_7 rfl tb_146 rfl (by decide) (by decide) (Nat.le_of_ble_eq_true rfl) (Nat.le_of_ble_eq_true rfl) (Nat.le_of_ble_eq_true rfl) ?_
  refine bw_putR (z := 12) (RX3, TX3, 6) 3 2 (b := 72) (ty := (.array .int)) dX3_init_9 rfl rfl (Nat.le_of_ble_eq_true rfl) fd_RX3_11 ⟨tyX3, tyX3_ok⟩ nmX3 rfl rfl rfl (by decide +kernel) (fun _ => rfl) (fun _ => rfl) ?_
  refine bw_aload_n (z := 13) dX3_init_12 rfl rfl ?_
  refine bw_bipush (z := 15) 40 dX3_init_13 rfl (by decide) ?_
  refine bw_newI (z := 17) 40 dX3_init_15 rfl tb_146 rfl (by decide) (by decide) (Nat.le_of_ble_eq_true rfl) (Nat.le_of_ble_eq_true rfl) (Nat.le_of_ble_eq_true rfl) ?_
  refine bw_putR (z := 20) (RX3, TX3, 6) 3 3 (b := 73) (ty := (.array .int)) dX3_init_17 rfl rfl (Nat.le_of_ble_eq_true rfl) fd_RX3_15 ⟨tyX3, tyX3_ok⟩ nmX3 rfl rfl rfl (by decide +kernel) (fun _ => rfl) (fun _ => rfl) ?_
  refine bw_aload_n (z := 21) dX3_init_20 rfl rfl ?_
  refine bw_bipush (z := 23) 40 dX3_init_21 rfl (by decide) ?_
  refine bw_newI (z := 25) 40 dX3_init_23 rfl tb_146 rfl (by decide) (by decide) (Nat.le_of_ble_eq_true rfl) (Nat.le_of_ble_eq_true rfl) (Nat.le_of_ble_eq_true rfl) ?_
  refine bw_putR (z := 28) (RX3, TX3, 6) 3 4 (b := 74) (ty := (.array .int)) dX3_init_25 rfl rfl (Nat.le_of_ble_eq_true rfl) fd_RX3_18 ⟨tyX3, tyX3_ok⟩ nmX3 rfl rfl rfl (by decide +kernel) (fun _ => rfl) (fun _ => rfl) ?_
  refine bw_aload_n (z := 29) dX3_init_28 rfl rfl ?_
  refine bw_bipush (z := 31) 20 dX3_init_29 rfl (by decide) ?_
  refine bw_newZ (z := 33) 20 dX3_init_31 rfl tb_322 rfl (by decide) (by decide) (Nat.le_of_ble_eq_true rfl) (Nat.le_of_ble_eq_true rfl) (Nat.le_of_ble_eq_true rfl) ?_
  refine bw_putR (z := 36) (RX3, TX3, 6) 3 5 (b := 75) (ty := (.array .boolean)) dX3_init_33 rfl rfl (Nat.le_of_ble_eq_true rfl) fd_RX3_21 ⟨tyX3, tyX3_ok⟩ nmX3 rfl rfl rfl (by decide +kernel) (fun _ => rfl) (fun _ => rfl) ?_
  exact bw_vret rfl dX3_init_36 rfl rfl rfl rfl
def bi_X0_init_76 (w : bw_T) : bw_T := (bp (bp (bp (bp (bz (bp (bz (bp (bz (bp (bz (bp (bz (bp (bz (bp (bz (bp (bz (bp (bz (bp (bz (bp (bz w 77) 76 8 77) 78) 76 9 78) 79) 76 10 79) 80) 76 11 80) 81) 76 12 81) 82) 76 13 82) 83) 76 14 83) 84) 76 15 84) 85) 76 16 85) 86) 76 17 86) 87) 76 19 87) 76 0 5) 76 1 19) 76 2 28)
theorem mbi_X0_init_76 (l : Launch) (w : bw_T) : BM l yX0_init cX0_init 4 1 120 11 515 [.ref 76, .ref 5, .ref 19, .ref 28] 77 w 88 (bi_X0_init_76 w) := by
  refine bw_met [some (.ref 76), some (.ref 5), some (.ref 19), some (.ref 28)] (Nat.le_of_ble_eq_true rfl) (by decide) (fun _ => rfl) (fun _ => Nat.le_of_ble_eq_true rfl) ?_
  show BW l ((yX0_init.cls, cX0_init, 4, none, 1, 120), yX0_init.name, 11, 515) 0 [some (.ref 76), some (.ref 5), some (.ref 19), some (.ref 28)] [] 77 0 0 w 88 (bi_X0_init_76 w)
  refine bw_aload_n (z := 1) dX0_init_0 rfl rfl ?_
  refine bw_objInit (z := 4) dX0_init_1 rfl tb_387 tb_30 tb_31 ⟨Nat.le_of_ble_eq_true rfl, Nat.le_of_ble_eq_true rfl⟩ (fun _ => Nat.le_of_ble_eq_true rfl) ?_
  refine bw_aload_n (z := 5) dX0_init_4 rfl rfl ?_
  refine bw_iconst (z := 6) 5 dX0_init_5 rfl (by decide) ?_
  refine bw_newI (z := 8) 5 dX0_init_6 rfl tb_146 rfl (by decide) (by decide) (Nat.le_of_ble_eq_true rfl) (Nat.le_of_ble_eq_true rfl) (Nat.le_of_ble_eq_true rfl) ?_
  refine bw_putR (z := 11) (RX0, TX0, 20) 0 8 (b := 77) (ty := (.array .int)) dX0_init_8 rfl rfl (Nat.le_of_ble_eq_true rfl) fd_RX0_9 ⟨tyX0, tyX0_ok⟩ nmX0 rfl rfl rfl (by decide +kernel) (fun _ => rfl) (fun _ => rfl) ?_
  refine bw_aload_n (z := 12) dX0_init_11 rfl rfl ?_
  refine bw_bipush (z := 14) 9 dX0_init_12 rfl (by decide) ?_
  refine bw_newI (z := 16) 9 dX0_init_14 rfl tb_146 rfl (by decide) (by decide) (Nat.le_of_ble_eq_true rfl) (Nat.le_of_ble_eq_true rfl) (Nat.le_of_ble_eq_true rfl) ?_
  refine bw_putR (z := 19) (RX0, TX0, 20) 0 9 (b := 78) (ty := (.array .int)) dX0_init_16 rfl rfl (Nat.le_of_ble_eq_true rfl) fd_RX0_15 ⟨tyX0, tyX0_ok⟩ nmX0 rfl rfl rfl (by decide +kernel) (fun _ => rfl) (fun _ => rfl) ?_
  refine bw_aload_n (z := 20) dX0_init_19 rfl rfl ?_
  refine bw_bipush (z := 22) 9 dX0_init_20 rfl (by decide) ?_
  refine bw_newI (z := 24) 9 dX0_init_22 rfl tb_146 rfl (by decide) (by decide) (Nat.le_of_ble_eq_true rfl) (Nat.le_of_ble_eq_true rfl) (Nat.le_of_ble_eq_true rfl) ?_
  refine bw_putR (z := 27) (RX0, TX0, 20) 0 10 (b := 79) (ty := (.array .int)) dX0_init_24 rfl rfl (Nat.le_of_ble_eq_true rfl) fd_RX0_18 ⟨tyX0, tyX0_ok⟩ nmX0 rfl rfl rfl (by decide +kernel) (fun _ => rfl) (fun _ => rfl) ?_
  refine bw_aload_n (z := 28) dX0_init_27 rfl rfl ?_
  refine bw_bipush (z := 30) 9 dX0_init_28 rfl (by decide) ?_
  refine bw_newI (z := 32) 9 dX0_init_30 rfl tb_146 rfl (by decide) (by decide) (Nat.le_of_ble_eq_true rfl) (Nat.le_of_ble_eq_true rfl) (Nat.le_of_ble_eq_true rfl) ?_
  refine bw_putR (z := 35) (RX0, TX0, 20) 0 11 (b := 80) (ty := (.array .int)) dX0_init_32 rfl rfl (Nat.le_of_ble_eq_true rfl) fd_RX0_21 ⟨tyX0, tyX0_ok⟩ nmX0 rfl rfl rfl (by decide +kernel) (fun _ => rfl) (fun _ => rfl) ?_
  refine bw_aload_n (z := 36) dX0_init_35 rfl rfl ?_
  refine bw_bipush (z := 38) 9 dX0_init_36 rfl (by decide) ?_
  refine bw_newI (z := 40) 9 dX0_init_38 rfl tb_146 rfl (by decide) (by decide) (Nat.le_of_ble_eq_true rfl) (Nat.le_of_ble_eq_true rfl) (Nat.le_of_ble_eq_true rfl) ?_
  refine bw_putR (z := 43) (RX0, TX0, 20) 0 12 (b := 81) (ty := (.array .int)) dX0_init_40 rfl rfl (Nat.le_of_ble_eq_true rfl) fd_RX0_24 ⟨tyX0, tyX0_ok⟩ nmX0 rfl rfl rfl (by decide +kernel) (fun _ => rfl) (fun _ => rfl) ?_
  refine bw_aload_n (z := 44) dX0_init_43 rfl rfl ?_
  refine bw_sipush (z := 47) 180 dX0_init_44 rfl (by decide) ?_
  refine bw_newI (z := 49) 180 dX0_init_47 rfl tb_146 rfl (by decide) (by decide) (Nat.le_of_ble_eq_true rfl) (Nat.le_of_ble_eq_true rfl) (Nat.le_of_ble_eq_true rfl) ?_
  refine bw_putR (z := 52) (RX0, TX0, 20) 0 13 (b := 82) (ty := (.array .int)) dX0_init_49 rfl rfl (Nat.le_of_ble_eq_true rfl) fd_RX0_27 ⟨tyX0, tyX0_ok⟩ nmX0 rfl rfl rfl (by decide +kernel) (fun _ => rfl) (fun _ => rfl) ?_
  refine bw_aload_n (z := 53) dX0_init_52 rfl rfl ?_
  refine bw_bipush (z := 55) 20 dX0_init_53 rfl (by decide) ?_
  refine bw_newI (z := 57) 20 dX0_init_55 rfl tb_146 rfl (by decide) (by decide) (Nat.le_of_ble_eq_true rfl) (Nat.le_of_ble_eq_true rfl) (Nat.le_of_ble_eq_true rfl) ?_
  refine bw_putR (z := 60) (RX0, TX0, 20) 0 14 (b := 83) (ty := (.array .int)) dX0_init_57 rfl rfl (Nat.le_of_ble_eq_true rfl) fd_RX0_30 ⟨tyX0, tyX0_ok⟩ nmX0 rfl rfl rfl (by decide +kernel) (fun _ => rfl) (fun _ => rfl) ?_
  refine bw_aload_n (z := 61) dX0_init_60 rfl rfl ?_
  refine bw_bipush (z := 63) 20 dX0_init_61 rfl (by decide) ?_
  refine bw_newI (z := 65) 20 dX0_init_63 rfl tb_146 rfl (by decide) (by decide) (Nat.le_of_ble_eq_true rfl) (Nat.le_of_ble_eq_true rfl) (Nat.le_of_ble_eq_true rfl) ?_
  refine bw_putR (z := 68) (RX0, TX0, 20) 0 15 (b := 84) (ty := (.array .int)) dX0_init_65 rfl rfl (Nat.le_of_ble_eq_true rfl) fd_RX0_33 ⟨tyX0, tyX0_ok⟩ nmX0 rfl rfl rfl (by decide +kernel) (fun _ => rfl) (fun _ => rfl) ?_
  refine bw_aload_n (z := 69) dX0_init_68 rfl rfl ?_
  refine bw_bipush (z := 71) 100 dX0_init_69 rfl (by decide) ?_
  refine bw_newI (z := 73) 100 dX0_init_71 rfl tb_146 rfl (by decide) (by decide) (Nat.le_of_ble_eq_true rfl) (Nat.le_of_ble_eq_true rfl) (Nat.le_of_ble_eq_true rfl) ?_
  refine bw_putR (z := 76) (RX0, TX0, 20) 0 16 (b := 85) (ty := (.array .int)) dX0_init_73 rfl rfl (Nat.le_of_ble_eq_true rfl) fd_RX0_36 ⟨tyX0, tyX0_ok⟩ nmX0 rfl rfl rfl (by decide +kernel) (fun _ => rfl) (fun _ => rfl) ?_
  refine bw_aload_n (z := 77) dX0_init_76 rfl rfl ?_
  refine bw_bipush (z := 79) 100 dX0_init_77 rfl (by decide) ?_
  refine bw_newI (z := 81) 100 dX0_init_79 rfl tb_146 rfl (by decide) (by decide) (Nat.le_of_ble_eq_true rfl) (Nat.le_of_ble_eq_true rfl) (Nat.le_of_ble_eq_true rfl) ?_
  refine bw_putR (z := 84) (RX0, TX0, 20) 0 17 (b := 86) (ty := (.array .int)) dX0_init_81 rfl rfl (Nat.le_of_ble_eq_true rfl) fd_RX0_39 ⟨tyX0, tyX0_ok⟩ nmX0 rfl rfl rfl (by decide +kernel) (fun _ => rfl) (fun _ => rfl) ?_
  refine bw_aload_n (z := 85) dX0_init_84 rfl rfl ?_
  refine bw_bipush (z := 87) 54 dX0_init_85 rfl (by decide) ?_
  refine bw_newI (z := 89) 54 dX0_init_87 rfl tb_146 rfl (by decide) (by decide) (Nat.le_of_ble_eq_true rfl) (Nat.le_of_ble_eq_true rfl) (Nat.le_of_ble_eq_true rfl) ?_
  refine bw_putR (z := 92) (RX0, TX0, 20) 0 19 (b := 87) (ty := (.array .int)) dX0_init_89 rfl rfl (Nat.le_of_ble_eq_true rfl) fd_RX0_42 ⟨tyX0, tyX0_ok⟩ nmX0 rfl rfl rfl (by decide +kernel) (fun _ => rfl) (fun _ => rfl) ?_
  refine bw_aload_n (z := 93) dX0_init_92 rfl rfl ?_
  refine bw_aload_n (z := 94) dX0_init_93 rfl rfl ?_
  refine bw_putR (z := 97) (RX0, TX0, 20) 0 0 (b := 5) (ty := (.object "OrangeFight$Town")) dX0_init_94 rfl rfl (Nat.le_of_ble_eq_true rfl) fd_RX0_45 ⟨tyX0, tyX0_ok⟩ nmX0 rfl rfl rfl (by decide +kernel) (fun _ => rfl) (fun _ => rfl) ?_
  refine bw_aload_n (z := 98) dX0_init_97 rfl rfl ?_
  refine bw_aload_n (z := 99) dX0_init_98 rfl rfl ?_
  refine bw_putR (z := 102) (RX0, TX0, 20) 0 1 (b := 19) (ty := (.object "OrangeFight$Plans")) dX0_init_99 rfl rfl (Nat.le_of_ble_eq_true rfl) fd_RX0_49 ⟨tyX0, tyX0_ok⟩ nmX0 rfl rfl rfl (by decide +kernel) (fun _ => rfl) (fun _ => rfl) ?_
  refine bw_aload_n (z := 103) dX0_init_102 rfl rfl ?_
  refine bw_aload_n (z := 104) dX0_init_103 rfl rfl ?_
  refine bw_putR (z := 107) (RX0, TX0, 20) 0 2 (b := 28) (ty := (.object "OrangeFight$Ground")) dX0_init_104 rfl rfl (Nat.le_of_ble_eq_true rfl) fd_RX0_53 ⟨tyX0, tyX0_ok⟩ nmX0 rfl rfl rfl (by decide +kernel) (fun _ => rfl) (fun _ => rfl) ?_
  exact bw_vret rfl dX0_init_107 rfl rfl rfl rfl
def bi_X5_init_88 (w : bw_T) : bw_T := (bp (bp (bp (bp (bz (bp (bz (bp (bz (bp (bz (bp (bz (bp (bz (bp (bz (bp (bz w 89) 88 3 89) 90) 88 4 90) 91) 88 5 91) 92) 88 6 92) 93) 88 7 93) 94) 88 8 94) 95) 88 9 95) 96) 88 11 96) 88 0 5) 88 1 19) 88 2 28)
theorem mbi_X5_init_88 (l : Launch) (w : bw_T) : BM l yX5_init cX5_init 4 1 120 8 1300 [.ref 88, .ref 5, .ref 19, .ref 28] 89 w 97 (bi_X5_init_88 w) := by
  refine bw_met [some (.ref 88), some (.ref 5), some (.ref 19), some (.ref 28)] (Nat.le_of_ble_eq_true rfl) (by decide) (fun _ => rfl) (fun _ => Nat.le_of_ble_eq_true rfl) ?_
  show BW l ((yX5_init.cls, cX5_init, 4, none, 1, 120), yX5_init.name, 8, 1300) 0 [some (.ref 88), some (.ref 5), some (.ref 19), some (.ref 28)] [] 89 0 0 w 97 (bi_X5_init_88 w)
  refine bw_aload_n (z := 1) dX5_init_0 rfl rfl ?_
  refine bw_objInit (z := 4) dX5_init_1 rfl tb_502 tb_30 tb_31 ⟨Nat.le_of_ble_eq_true rfl, Nat.le_of_ble_eq_true rfl⟩ (fun _ => Nat.le_of_ble_eq_true rfl) ?_
  refine bw_aload_n (z := 5) dX5_init_4 rfl rfl ?_
  refine bw_sipush (z := 8) 720 dX5_init_5 rfl (by decide) ?_
  refine bw_newI (z := 10) 720 dX5_init_8 rfl tb_146 rfl (by decide) (by decide) (Nat.le_of_ble_eq_true rfl) (Nat.le_of_ble_eq_true rfl) (Nat.le_of_ble_eq_true rfl) ?_
  refine bw_putR (z := 13) (RX5, TX5, 12) 5 3 (b := 89) (ty := (.array .int)) dX5_init_10 rfl rfl (Nat.le_of_ble_eq_true rfl) fd_RX5_9 ⟨tyX5, tyX5_ok⟩ nmX5 rfl rfl rfl (by decide +kernel) (fun _ => rfl) (fun _ => rfl) ?_
  refine bw_aload_n (z := 14) dX5_init_13 rfl rfl ?_
  refine bw_bipush (z := 16) 80 dX5_init_14 rfl (by decide) ?_
  refine bw_newI (z := 18) 80 dX5_init_16 rfl tb_146 rfl (by decide) (by decide) (Nat.le_of_ble_eq_true rfl) (Nat.le_of_ble_eq_true rfl) (Nat.le_of_ble_eq_true rfl) ?_
  refine bw_putR (z := 21) (RX5, TX5, 12) 5 4 (b := 90) (ty := (.array .int)) dX5_init_18 rfl rfl (Nat.le_of_ble_eq_true rfl) fd_RX5_15 ⟨tyX5, tyX5_ok⟩ nmX5 rfl rfl rfl (by decide +kernel) (fun _ => rfl) (fun _ => rfl) ?_
  refine bw_aload_n (z := 22) dX5_init_21 rfl rfl ?_
  refine bw_bipush (z := 24) 9 dX5_init_22 rfl (by decide) ?_
  refine bw_newI (z := 26) 9 dX5_init_24 rfl tb_146 rfl (by decide) (by decide) (Nat.le_of_ble_eq_true rfl) (Nat.le_of_ble_eq_true rfl) (Nat.le_of_ble_eq_true rfl) ?_
  refine bw_putR (z := 29) (RX5, TX5, 12) 5 5 (b := 91) (ty := (.array .int)) dX5_init_26 rfl rfl (Nat.le_of_ble_eq_true rfl) fd_RX5_18 ⟨tyX5, tyX5_ok⟩ nmX5 rfl rfl rfl (by decide +kernel) (fun _ => rfl) (fun _ => rfl) ?_
  refine bw_aload_n (z := 30) dX5_init_29 rfl rfl ?_
  refine bw_bipush (z := 32) 9 dX5_init_30 rfl (by decide) ?_
  refine bw_newI (z := 34) 9 dX5_init_32 rfl tb_146 rfl (by decide) (by decide) (Nat.le_of_ble_eq_true rfl) (Nat.le_of_ble_eq_true rfl) (Nat.le_of_ble_eq_true rfl) ?_
  refine bw_putR (z := 37) (RX5, TX5, 12) 5 6 (b := 92) (ty := (.array .int)) dX5_init_34 rfl rfl (Nat.le_of_ble_eq_true rfl) fd_RX5_21 ⟨tyX5, tyX5_ok⟩ nmX5 rfl rfl rfl (by decide +kernel) (fun _ => rfl) (fun _ => rfl) ?_
  refine bw_aload_n (z := 38) dX5_init_37 rfl rfl ?_
  refine bw_bipush (z := 40) 20 dX5_init_38 rfl (by decide) ?_
  refine bw_newI (z := 42) 20 dX5_init_40 rfl tb_146 rfl (by decide) (by decide) (Nat.le_of_ble_eq_true rfl) (Nat.le_of_ble_eq_true rfl) (Nat.le_of_ble_eq_true rfl) ?_
  refine bw_putR (z := 45) (RX5, TX5, 12) 5 7 (b := 93) (ty := (.array .int)) dX5_init_42 rfl rfl (Nat.le_of_ble_eq_true rfl) fd_RX5_24 ⟨tyX5, tyX5_ok⟩ nmX5 rfl rfl rfl (by decide +kernel) (fun _ => rfl) (fun _ => rfl) ?_
  refine bw_aload_n (z := 46) dX5_init_45 rfl rfl ?_
  refine bw_bipush (z := 48) 6 dX5_init_46 rfl (by decide) ?_
  refine bw_newI (z := 50) 6 dX5_init_48 rfl tb_146 rfl (by decide) (by decide) (Nat.le_of_ble_eq_true rfl) (Nat.le_of_ble_eq_true rfl) (Nat.le_of_ble_eq_true rfl) ?_
  refine bw_putR (z := 53) (RX5, TX5, 12) 5 8 (b := 94) (ty := (.array .int)) dX5_init_50 rfl rfl (Nat.le_of_ble_eq_true rfl) fd_RX5_27 ⟨tyX5, tyX5_ok⟩ nmX5 rfl rfl rfl (by decide +kernel) (fun _ => rfl) (fun _ => rfl) ?_
  refine bw_aload_n (z := 54) dX5_init_53 rfl rfl ?_
  refine bw_sipush (z := 57) 384 dX5_init_54 rfl (by decide) ?_
  refine bw_newI (z := 59) 384 dX5_init_57 rfl tb_146 rfl (by decide) (by decide) (Nat.le_of_ble_eq_true rfl) (Nat.le_of_ble_eq_true rfl) (Nat.le_of_ble_eq_true rfl) ?_
  refine bw_putR (z := 62) (RX5, TX5, 12) 5 9 (b := 95) (ty := (.array .int)) dX5_init_59 rfl rfl (Nat.le_of_ble_eq_true rfl) fd_RX5_30 ⟨tyX5, tyX5_ok⟩ nmX5 rfl rfl rfl (by decide +kernel) (fun _ => rfl) (fun _ => rfl) ?_
  refine bw_aload_n (z := 63) dX5_init_62 rfl rfl ?_
  refine bw_bipush (z := 65) 72 dX5_init_63 rfl (by decide) ?_
  refine bw_newI (z := 67) 72 dX5_init_65 rfl tb_146 rfl (by decide) (by decide) (Nat.le_of_ble_eq_true rfl) (Nat.le_of_ble_eq_true rfl) (Nat.le_of_ble_eq_true rfl) ?_
  refine bw_putR (z := 70) (RX5, TX5, 12) 5 11 (b := 96) (ty := (.array .int)) dX5_init_67 rfl rfl (Nat.le_of_ble_eq_true rfl) fd_RX5_33 ⟨tyX5, tyX5_ok⟩ nmX5 rfl rfl rfl (by decide +kernel) (fun _ => rfl) (fun _ => rfl) ?_
  refine bw_aload_n (z := 71) dX5_init_70 rfl rfl ?_
  refine bw_aload_n (z := 72) dX5_init_71 rfl rfl ?_
  refine bw_putR (z := 75) (RX5, TX5, 12) 5 0 (b := 5) (ty := (.object "OrangeFight$Town")) dX5_init_72 rfl rfl (Nat.le_of_ble_eq_true rfl) fd_RX5_36 ⟨tyX5, tyX5_ok⟩ nmX5 rfl rfl rfl (by decide +kernel) (fun _ => rfl) (fun _ => rfl) ?_
  refine bw_aload_n (z := 76) dX5_init_75 rfl rfl ?_
  refine bw_aload_n (z := 77) dX5_init_76 rfl rfl ?_
  refine bw_putR (z := 80) (RX5, TX5, 12) 5 1 (b := 19) (ty := (.object "OrangeFight$Plans")) dX5_init_77 rfl rfl (Nat.le_of_ble_eq_true rfl) fd_RX5_40 ⟨tyX5, tyX5_ok⟩ nmX5 rfl rfl rfl (by decide +kernel) (fun _ => rfl) (fun _ => rfl) ?_
  refine bw_aload_n (z := 81) dX5_init_80 rfl rfl ?_
  refine bw_aload_n (z := 82) dX5_init_81 rfl rfl ?_
  refine bw_putR (z := 85) (RX5, TX5, 12) 5 2 (b := 28) (ty := (.object "OrangeFight$Ground")) dX5_init_82 rfl rfl (Nat.le_of_ble_eq_true rfl) fd_RX5_44 ⟨tyX5, tyX5_ok⟩ nmX5 rfl rfl rfl (by decide +kernel) (fun _ => rfl) (fun _ => rfl) ?_
  exact bw_vret rfl dX5_init_85 rfl rfl rfl rfl
def bi_X7_init_97 (w : bw_T) : bw_T := (bF (bp (bz (bp (bz (bp (bz w 98) 97 0 98) 99) 97 1 99) 100) 97 3 100) 98 (-1) 3)
theorem mbi_X7_init_97 (l : Launch) (w : bw_T) : BM l yX7_init cX7_init 1 2 143 3 113 [.ref 97] 98 w 101 (bi_X7_init_97 w) := by
  refine bw_met [some (.ref 97)] (Nat.le_of_ble_eq_true rfl) (by decide) (fun _ => rfl) (fun _ => Nat.le_of_ble_eq_true rfl) ?_
  show BW l ((yX7_init.cls, cX7_init, 1, none, 2, 143), yX7_init.name, 3, 113) 0 [some (.ref 97)] [] 98 0 0 w 101 (bi_X7_init_97 w)
  refine bw_aload_n (z := 1) dX7_init_0 rfl rfl ?_
  refine bw_objInit (z := 4) dX7_init_1 rfl tb_545 tb_30 tb_31 ⟨Nat.le_of_ble_eq_true rfl, Nat.le_of_ble_eq_true rfl⟩ (fun _ => Nat.le_of_ble_eq_true rfl) ?_
  refine bw_aload_n (z := 5) dX7_init_4 rfl rfl ?_
  refine bw_iconst (z := 6) 3 dX7_init_5 rfl (by decide) ?_
  refine bw_newI (z := 8) 3 dX7_init_6 rfl tb_146 rfl (by decide) (by decide) (Nat.le_of_ble_eq_true rfl) (Nat.le_of_ble_eq_true rfl) (Nat.le_of_ble_eq_true rfl) ?_
  refine bw_putR (z := 11) (RX7, TX7, 4) 7 0 (b := 98) (ty := (.array .int)) dX7_init_8 rfl rfl (Nat.le_of_ble_eq_true rfl) fd_RX7_9 ⟨tyX7, tyX7_ok⟩ nmX7 rfl rfl rfl (by decide +kernel) (fun _ => rfl) (fun _ => rfl) ?_
  refine bw_aload_n (z := 12) dX7_init_11 rfl rfl ?_
  refine bw_bipush (z := 14) 10 dX7_init_12 rfl (by decide) ?_
  refine bw_newI (z := 16) 10 dX7_init_14 rfl tb_146 rfl (by decide) (by decide) (Nat.le_of_ble_eq_true rfl) (Nat.le_of_ble_eq_true rfl) (Nat.le_of_ble_eq_true rfl) ?_
  refine bw_putR (z := 19) (RX7, TX7, 4) 7 1 (b := 99) (ty := (.array .int)) dX7_init_16 rfl rfl (Nat.le_of_ble_eq_true rfl) fd_RX7_15 ⟨tyX7, tyX7_ok⟩ nmX7 rfl rfl rfl (by decide +kernel) (fun _ => rfl) (fun _ => rfl) ?_
  refine bw_aload_n (z := 20) dX7_init_19 rfl rfl ?_
  refine bw_bipush (z := 22) 100 dX7_init_20 rfl (by decide) ?_
  refine bw_newI (z := 24) 100 dX7_init_22 rfl tb_146 rfl (by decide) (by decide) (Nat.le_of_ble_eq_true rfl) (Nat.le_of_ble_eq_true rfl) (Nat.le_of_ble_eq_true rfl) ?_
  refine bw_putR (z := 27) (RX7, TX7, 4) 7 3 (b := 100) (ty := (.array .int)) dX7_init_24 rfl rfl (Nat.le_of_ble_eq_true rfl) fd_RX7_18 ⟨tyX7, tyX7_ok⟩ nmX7 rfl rfl rfl (by decide +kernel) (fun _ => rfl) (fun _ => rfl) ?_
  refine bw_aload_n (z := 28) dX7_init_27 rfl rfl ?_
  refine bw_getR (z := 31) (RX7, TX7, 4) 7 0 (b := 98) dX7_init_28 rfl rfl (Nat.le_of_ble_eq_true rfl) fd_RX7_9 rfl ?_
  refine bw_iconst (z := 32) (-1) dX7_init_31 rfl (by decide) ?_
  refine bw_callS (z := 35) (as := [.ref 98, .int (-1)]) (st := []) dX7_init_32 rfl rfl (bm_fill l 98 3 101 (-1) _ rfl (Nat.le_of_ble_eq_true rfl) (Nat.lt_of_lt_of_le (Nat.le_of_ble_eq_true rfl : 3 < 1000000) (by decide))) cw_RX7_21 ⟨Nat.le_of_ble_eq_true rfl, Nat.le_of_ble_eq_true rfl⟩ (fun _ => Nat.le_of_ble_eq_true rfl) rfl (Nat.le_of_ble_eq_true rfl) (Nat.le_of_ble_eq_true rfl) ?_
  exact bw_vret rfl dX7_init_35 rfl rfl rfl rfl
def bi_X9_init_101 (w : bw_T) : bw_T := (bp (bz (bp (bz (bp (bz (bp (bz (bp (bz (bp (bz (bp (bz w 102) 101 1 102) 103) 101 5 103) 104) 101 6 104) 105) 101 7 105) 106) 101 10 106) 107) 101 11 107) 108) 101 12 108)
theorem mbi_X9_init_101 (l : Launch) (w : bw_T) : BM l yX9_init cX9_init 1 1 120 7 1229 [.ref 101] 102 w 109 (bi_X9_init_101 w) := by
  refine bw_met [some (.ref 101)] (Nat.le_of_ble_eq_true rfl) (by decide) (fun _ => rfl) (fun _ => Nat.le_of_ble_eq_true rfl) ?_
  show BW l ((yX9_init.cls, cX9_init, 1, none, 1, 120), yX9_init.name, 7, 1229) 0 [some (.ref 101)] [] 102 0 0 w 109 (bi_X9_init_101 w)
  refine bw_aload_n (z := 1) dX9_init_0 rfl rfl ?_
  refine bw_objInit (z := 4) dX9_init_1 rfl tb_566 tb_30 tb_31 ⟨Nat.le_of_ble_eq_true rfl, Nat.le_of_ble_eq_true rfl⟩ (fun _ => Nat.le_of_ble_eq_true rfl) ?_
  refine bw_aload_n (z := 5) dX9_init_4 rfl rfl ?_
  refine bw_bipush (z := 7) 8 dX9_init_5 rfl (by decide) ?_
  refine bw_newI (z := 9) 8 dX9_init_7 rfl tb_146 rfl (by decide) (by decide) (Nat.le_of_ble_eq_true rfl) (Nat.le_of_ble_eq_true rfl) (Nat.le_of_ble_eq_true rfl) ?_
  refine bw_putR (z := 12) (RX9, TX9, 13) 9 1 (b := 102) (ty := (.array .int)) dX9_init_9 rfl rfl (Nat.le_of_ble_eq_true rfl) fd_RX9_11 ⟨tyX9, tyX9_ok⟩ nmX9 rfl rfl rfl (by decide +kernel) (fun _ => rfl) (fun _ => rfl) ?_
  refine bw_aload_n (z := 13) dX9_init_12 rfl rfl ?_
  refine bw_bipush (z := 15) 8 dX9_init_13 rfl (by decide) ?_
  refine bw_newI (z := 17) 8 dX9_init_15 rfl tb_146 rfl (by decide) (by decide) (Nat.le_of_ble_eq_true rfl) (Nat.le_of_ble_eq_true rfl) (Nat.le_of_ble_eq_true rfl) ?_
  refine bw_putR (z := 20) (RX9, TX9, 13) 9 5 (b := 103) (ty := (.array .int)) dX9_init_17 rfl rfl (Nat.le_of_ble_eq_true rfl) fd_RX9_15 ⟨tyX9, tyX9_ok⟩ nmX9 rfl rfl rfl (by decide +kernel) (fun _ => rfl) (fun _ => rfl) ?_
  refine bw_aload_n (z := 21) dX9_init_20 rfl rfl ?_
  refine bw_bipush (z := 23) 8 dX9_init_21 rfl (by decide) ?_
  refine bw_newI (z := 25) 8 dX9_init_23 rfl tb_146 rfl (by decide) (by decide) (Nat.le_of_ble_eq_true rfl) (Nat.le_of_ble_eq_true rfl) (Nat.le_of_ble_eq_true rfl) ?_
  refine bw_putR (z := 28) (RX9, TX9, 13) 9 6 (b := 104) (ty := (.array .int)) dX9_init_25 rfl rfl (Nat.le_of_ble_eq_true rfl) fd_RX9_18 ⟨tyX9, tyX9_ok⟩ nmX9 rfl rfl rfl (by decide +kernel) (fun _ => rfl) (fun _ => rfl) ?_
  refine bw_aload_n (z := 29) dX9_init_28 rfl rfl ?_
  refine bw_bipush (z := 31) 81 dX9_init_29 rfl (by decide) ?_
  refine bw_newI (z := 33) 81 dX9_init_31 rfl tb_146 rfl (by decide) (by decide) (Nat.le_of_ble_eq_true rfl) (Nat.le_of_ble_eq_true rfl) (Nat.le_of_ble_eq_true rfl) ?_
  refine bw_putR (z := 36) (RX9, TX9, 13) 9 7 (b := 105) (ty := (.array .int)) dX9_init_33 rfl rfl (Nat.le_of_ble_eq_true rfl) fd_RX9_21 ⟨tyX9, tyX9_ok⟩ nmX9 rfl rfl rfl (by decide +kernel) (fun _ => rfl) (fun _ => rfl) ?_
  refine bw_aload_n (z := 37) dX9_init_36 rfl rfl ?_
  refine bw_bipush (z := 39) 100 dX9_init_37 rfl (by decide) ?_
  refine bw_newI (z := 41) 100 dX9_init_39 rfl tb_146 rfl (by decide) (by decide) (Nat.le_of_ble_eq_true rfl) (Nat.le_of_ble_eq_true rfl) (Nat.le_of_ble_eq_true rfl) ?_
  refine bw_putR (z := 44) (RX9, TX9, 13) 9 10 (b := 106) (ty := (.array .int)) dX9_init_41 rfl rfl (Nat.le_of_ble_eq_true rfl) fd_RX9_24 ⟨tyX9, tyX9_ok⟩ nmX9 rfl rfl rfl (by decide +kernel) (fun _ => rfl) (fun _ => rfl) ?_
  refine bw_aload_n (z := 45) dX9_init_44 rfl rfl ?_
  refine bw_sipush (z := 48) 512 dX9_init_45 rfl (by decide) ?_
  refine bw_newI (z := 50) 512 dX9_init_48 rfl tb_146 rfl (by decide) (by decide) (Nat.le_of_ble_eq_true rfl) (Nat.le_of_ble_eq_true rfl) (Nat.le_of_ble_eq_true rfl) ?_
  refine bw_putR (z := 53) (RX9, TX9, 13) 9 11 (b := 107) (ty := (.array .int)) dX9_init_50 rfl rfl (Nat.le_of_ble_eq_true rfl) fd_RX9_27 ⟨tyX9, tyX9_ok⟩ nmX9 rfl rfl rfl (by decide +kernel) (fun _ => rfl) (fun _ => rfl) ?_
  refine bw_aload_n (z := 54) dX9_init_53 rfl rfl ?_
  refine bw_sipush (z := 57) 512 dX9_init_54 rfl (by decide) ?_
  refine bw_newJ (z := 59) 512 dX9_init_57 rfl tb_147 rfl (by decide) (by decide) (Nat.le_of_ble_eq_true rfl) (Nat.le_of_ble_eq_true rfl) (Nat.le_of_ble_eq_true rfl) ?_
  refine bw_putR (z := 62) (RX9, TX9, 13) 9 12 (b := 108) (ty := (.array .long)) dX9_init_59 rfl rfl (Nat.le_of_ble_eq_true rfl) fd_RX9_30 ⟨tyX9, tyX9_ok⟩ nmX9 rfl rfl rfl (by decide +kernel) (fun _ => rfl) (fun _ => rfl) ?_
  exact bw_vret rfl dX9_init_62 rfl rfl rfl rfl
def bi_X8_empty_110 (w : bw_T) : bw_T := (bI (bF (bF (bF (bF (bF (bI (bI (bI (bI (bI (bI w 110 0 0) 110 1 0) 110 2 0) 110 3 0) 110 4 0) 110 18 0) 115 (-1) 9) 120 0 4) 121 0 100) 122 (-1) 100) 123 1 4) 123 3 0)
theorem mbi_X8_empty_110 (l : Launch) (w : bw_T) (h110_9 : w.2 110 9 = some 115) (h110_14 : w.2 110 14 = some 120) (h110_15 : w.2 110 15 = some 121) (h110_16 : w.2 110 16 = some 122) (h110_17 : w.2 110 17 = some 123) : BM l yX8_empty cX8_empty 1 2 143 0 0 [.ref 110] 124 w 124 (bi_X8_empty_110 w) := by
  refine bw_met [some (.ref 110)] (Nat.le_of_ble_eq_true rfl) (by decide) (fun _ => rfl) (fun _ => Nat.le_of_ble_eq_true rfl) ?_
  show BW l ((yX8_empty.cls, cX8_empty, 1, none, 2, 143), yX8_empty.name, 0, 0) 0 [some (.ref 110)] [] 124 0 0 w 124 (bi_X8_empty_110 w)
  refine bw_aload_n (z := 1) dX8_empty_0 rfl rfl ?_
  refine bw_iconst (z := 2) 0 dX8_empty_1 rfl (by decide) ?_
  refine bw_putI (z := 5) (RX8, TX8, 20) 8 0 dX8_empty_2 rfl rfl (Nat.le_of_ble_eq_true rfl) fp_RX8_55 rfl rfl ?_
  refine bw_aload_n (z := 6) dX8_empty_5 rfl rfl ?_
  refine bw_iconst (z := 7) 0 dX8_empty_6 rfl (by decide) ?_
  refine bw_putI (z := 10) (RX8, TX8, 20) 8 1 dX8_empty_7 rfl rfl (Nat.le_of_ble_eq_true rfl) fp_RX8_59 rfl rfl ?_
  refine bw_aload_n (z := 11) dX8_empty_10 rfl rfl ?_
  refine bw_iconst (z := 12) 0 dX8_empty_11 rfl (by decide) ?_
  refine bw_putI (z := 15) (RX8, TX8, 20) 8 2 dX8_empty_12 rfl rfl (Nat.le_of_ble_eq_true rfl) fp_RX8_62 rfl rfl ?_
  refine bw_aload_n (z := 16) dX8_empty_15 rfl rfl ?_
  refine bw_iconst (z := 17) 0 dX8_empty_16 rfl (by decide) ?_
  refine bw_putI (z := 20) (RX8, TX8, 20) 8 3 dX8_empty_17 rfl rfl (Nat.le_of_ble_eq_true rfl) fp_RX8_65 rfl rfl ?_
  refine bw_aload_n (z := 21) dX8_empty_20 rfl rfl ?_
  refine bw_iconst (z := 22) 0 dX8_empty_21 rfl (by decide) ?_
  refine bw_putI (z := 25) (RX8, TX8, 20) 8 4 dX8_empty_22 rfl rfl (Nat.le_of_ble_eq_true rfl) fp_RX8_68 rfl rfl ?_
  refine bw_aload_n (z := 26) dX8_empty_25 rfl rfl ?_
  refine bw_iconst (z := 27) 0 dX8_empty_26 rfl (by decide) ?_
  refine bw_putI (z := 30) (RX8, TX8, 20) 8 18 dX8_empty_27 rfl rfl (Nat.le_of_ble_eq_true rfl) fp_RX8_71 rfl rfl ?_
  refine bw_aload_n (z := 31) dX8_empty_30 rfl rfl ?_
  refine bw_getR (z := 34) (RX8, TX8, 20) 8 9 (b := 115) dX8_empty_31 rfl rfl (Nat.le_of_ble_eq_true rfl) fd_RX8_25 h110_9 ?_
  refine bw_iconst (z := 35) (-1) dX8_empty_34 rfl (by decide) ?_
  refine bw_callS (z := 38) (as := [.ref 115, .int (-1)]) (st := []) dX8_empty_35 rfl rfl (bm_fill l 115 9 124 (-1) _ rfl (Nat.le_of_ble_eq_true rfl) (Nat.lt_of_lt_of_le (Nat.le_of_ble_eq_true rfl : 9 < 1000000) (by decide))) cw_RX8_75 ⟨Nat.le_of_ble_eq_true rfl, Nat.le_of_ble_eq_true rfl⟩ (fun _ => Nat.le_of_ble_eq_true rfl) rfl (Nat.le_of_ble_eq_true rfl) (Nat.le_of_ble_eq_true rfl) ?_
  refine bw_aload_n (z := 39) dX8_empty_38 rfl rfl ?_
  refine bw_getR (z := 42) (RX8, TX8, 20) 8 14 (b := 120) dX8_empty_39 rfl rfl (Nat.le_of_ble_eq_true rfl) fd_RX8_40 h110_14 ?_
  refine bw_iconst (z := 43) 0 dX8_empty_42 rfl (by decide) ?_
  refine bw_callS (z := 46) (as := [.ref 120, .int 0]) (st := []) dX8_empty_43 rfl rfl (bm_fill l 120 4 124 0 _ rfl (Nat.le_of_ble_eq_true rfl) (Nat.lt_of_lt_of_le (Nat.le_of_ble_eq_true rfl : 4 < 1000000) (by decide))) cw_RX8_75 ⟨Nat.le_of_ble_eq_true rfl, Nat.le_of_ble_eq_true rfl⟩ (fun _ => Nat.le_of_ble_eq_true rfl) rfl (Nat.le_of_ble_eq_true rfl) (Nat.le_of_ble_eq_true rfl) ?_
  refine bw_aload_n (z := 47) dX8_empty_46 rfl rfl ?_
  refine bw_getR (z := 50) (RX8, TX8, 20) 8 15 (b := 121) dX8_empty_47 rfl rfl (Nat.le_of_ble_eq_true rfl) fd_RX8_43 h110_15 ?_
  refine bw_iconst (z := 51) 0 dX8_empty_50 rfl (by decide) ?_
  refine bw_callS (z := 54) (as := [.ref 121, .int 0]) (st := []) dX8_empty_51 rfl rfl (bm_fill l 121 100 124 0 _ rfl (Nat.le_of_ble_eq_true rfl) (Nat.lt_of_lt_of_le (Nat.le_of_ble_eq_true rfl : 100 < 1000000) (by decide))) cw_RX8_75 ⟨Nat.le_of_ble_eq_true rfl, Nat.le_of_ble_eq_true rfl⟩ (fun _ => Nat.le_of_ble_eq_true rfl) rfl (Nat.le_of_ble_eq_true rfl) (Nat.le_of_ble_eq_true rfl) ?_
  refine bw_aload_n (z := 55) dX8_empty_54 rfl rfl ?_
  refine bw_getR (z := 58) (RX8, TX8, 20) 8 16 (b := 122) dX8_empty_55 rfl rfl (Nat.le_of_ble_eq_true rfl) fd_RX8_46 h110_16 ?_
  refine bw_iconst (z := 59) (-1) dX8_empty_58 rfl (by decide) ?_
  refine bw_callS (z := 62) (as := [.ref 122, .int (-1)]) (st := []) dX8_empty_59 rfl rfl (bm_fill l 122 100 124 (-1) _ rfl (Nat.le_of_ble_eq_true rfl) (Nat.lt_of_lt_of_le (Nat.le_of_ble_eq_true rfl : 100 < 1000000) (by decide))) cw_RX8_75 ⟨Nat.le_of_ble_eq_true rfl, Nat.le_of_ble_eq_true rfl⟩ (fun _ => Nat.le_of_ble_eq_true rfl) rfl (Nat.le_of_ble_eq_true rfl) (Nat.le_of_ble_eq_true rfl) ?_
  refine bw_aload_n (z := 63) dX8_empty_62 rfl rfl ?_
  refine bw_getR (z := 66) (RX8, TX8, 20) 8 17 (b := 123) dX8_empty_63 rfl rfl (Nat.le_of_ble_eq_true rfl) fd_RX8_49 h110_17 ?_
  refine bw_iconst (z := 67) 1 dX8_empty_66 rfl (by decide) ?_
  refine bw_callS (z := 70) (as := [.ref 123, .int 1]) (st := []) dX8_empty_67 rfl rfl (bm_fill l 123 4 124 1 _ rfl (Nat.le_of_ble_eq_true rfl) (Nat.lt_of_lt_of_le (Nat.le_of_ble_eq_true rfl : 4 < 1000000) (by decide))) cw_RX8_75 ⟨Nat.le_of_ble_eq_true rfl, Nat.le_of_ble_eq_true rfl⟩ (fun _ => Nat.le_of_ble_eq_true rfl) rfl (Nat.le_of_ble_eq_true rfl) (Nat.le_of_ble_eq_true rfl) ?_
  refine bw_aload_n (z := 71) dX8_empty_70 rfl rfl ?_
  refine bw_getR (z := 74) (RX8, TX8, 20) 8 17 (b := 123) dX8_empty_71 rfl rfl (Nat.le_of_ble_eq_true rfl) fd_RX8_49 h110_17 ?_
  refine bw_iconst (z := 75) 3 dX8_empty_74 rfl (by decide) ?_
  refine bw_iconst (z := 76) 0 dX8_empty_75 rfl (by decide) ?_
  refine bw_iastore (z := 77) 4 dX8_empty_76 rfl rfl (Nat.le_of_ble_eq_true rfl) (bw_in (by decide)) ?_
  exact bw_vret rfl dX8_empty_77 rfl rfl rfl rfl
def bi_X8_init_110 (w : bw_T) : bw_T := (bi_X8_empty_110 (bp (bz (bp (bz (bp (bz (bp (bz (bp (bz (bp (bz (bp (bz (bp (bz (bp (bz (bp (bz (bp (bz (bp (bz (bp (bz w 111) 110 5 111) 112) 110 6 112) 113) 110 7 113) 114) 110 8 114) 115) 110 9 115) 116) 110 10 116) 117) 110 11 117) 118) 110 12 118) 119) 110 13 119) 120) 110 14 120) 121) 110 15 121) 122) 110 16 122) 123) 110 17 123))
theorem mbi_X8_init_110 (l : Launch) (w : bw_T) : BM l yX8_init cX8_init 1 3 163 13 333 [.ref 110] 111 w 124 (bi_X8_init_110 w) := by
  refine bw_met [some (.ref 110)] (Nat.le_of_ble_eq_true rfl) (by decide) (fun _ => rfl) (fun _ => Nat.le_of_ble_eq_true rfl) ?_
  show BW l ((yX8_init.cls, cX8_init, 1, none, 3, 163), yX8_init.name, 13, 333) 0 [some (.ref 110)] [] 111 0 0 w 124 (bi_X8_init_110 w)
  refine bw_aload_n (z := 1) dX8_init_0 rfl rfl ?_
  refine bw_objInit (z := 4) dX8_init_1 rfl tb_160 tb_30 tb_31 ⟨Nat.le_of_ble_eq_true rfl, Nat.le_of_ble_eq_true rfl⟩ (fun _ => Nat.le_of_ble_eq_true rfl) ?_
  refine bw_aload_n (z := 5) dX8_init_4 rfl rfl ?_
  refine bw_bipush (z := 7) 9 dX8_init_5 rfl (by decide) ?_
  refine bw_newJ (z := 9) 9 dX8_init_7 rfl tb_147 rfl (by decide) (by decide) (Nat.le_of_ble_eq_true rfl) (Nat.le_of_ble_eq_true rfl) (Nat.le_of_ble_eq_true rfl) ?_
  refine bw_putR (z := 12) (RX8, TX8, 20) 8 5 (b := 111) (ty := (.array .long)) dX8_init_9 rfl rfl (Nat.le_of_ble_eq_true rfl) fd_RX8_9 ⟨tyX8, tyX8_ok⟩ nmX8 rfl rfl rfl (by decide +kernel) (fun _ => rfl) (fun _ => rfl) ?_
  refine bw_aload_n (z := 13) dX8_init_12 rfl rfl ?_
  refine bw_bipush (z := 15) 9 dX8_init_13 rfl (by decide) ?_
  refine bw_newI (z := 17) 9 dX8_init_15 rfl tb_146 rfl (by decide) (by decide) (Nat.le_of_ble_eq_true rfl) (Nat.le_of_ble_eq_true rfl) (Nat.le_of_ble_eq_true rfl) ?_
  refine bw_putR (z := 20) (RX8, TX8, 20) 8 6 (b := 112) (ty := (.array .int)) dX8_init_17 rfl rfl (Nat.le_of_ble_eq_true rfl) fd_RX8_15 ⟨tyX8, tyX8_ok⟩ nmX8 rfl rfl rfl (by decide +kernel) (fun _ => rfl) (fun _ => rfl) ?_
  refine bw_aload_n (z := 21) dX8_init_20 rfl rfl ?_
  refine bw_bipush (z := 23) 9 dX8_init_21 rfl (by decide) ?_
  refine bw_newI (z := 25) 9 dX8_init_23 rfl tb_146 rfl (by decide) (by decide) (Nat.le_of_ble_eq_true rfl) (Nat.le_of_ble_eq_true rfl) (Nat.le_of_ble_eq_true rfl) ?_
  refine bw_putR (z := 28) (RX8, TX8, 20) 8 7 (b := 113) (ty := (.array .int)) dX8_init_25 rfl rfl (Nat.le_of_ble_eq_true rfl) fd_RX8_19 ⟨tyX8, tyX8_ok⟩ nmX8 rfl rfl rfl (by decide +kernel) (fun _ => rfl) (fun _ => rfl) ?_
  refine bw_aload_n (z := 29) dX8_init_28 rfl rfl ?_
  refine bw_bipush (z := 31) 9 dX8_init_29 rfl (by decide) ?_
  refine bw_newI (z := 33) 9 dX8_init_31 rfl tb_146 rfl (by decide) (by decide) (Nat.le_of_ble_eq_true rfl) (Nat.le_of_ble_eq_true rfl) (Nat.le_of_ble_eq_true rfl) ?_
  refine bw_putR (z := 36) (RX8, TX8, 20) 8 8 (b := 114) (ty := (.array .int)) dX8_init_33 rfl rfl (Nat.le_of_ble_eq_true rfl) fd_RX8_22 ⟨tyX8, tyX8_ok⟩ nmX8 rfl rfl rfl (by decide +kernel) (fun _ => rfl) (fun _ => rfl) ?_
  refine bw_aload_n (z := 37) dX8_init_36 rfl rfl ?_
  refine bw_bipush (z := 39) 9 dX8_init_37 rfl (by decide) ?_
  refine bw_newI (z := 41) 9 dX8_init_39 rfl tb_146 rfl (by decide) (by decide) (Nat.le_of_ble_eq_true rfl) (Nat.le_of_ble_eq_true rfl) (Nat.le_of_ble_eq_true rfl) ?_
  refine bw_putR (z := 44) (RX8, TX8, 20) 8 9 (b := 115) (ty := (.array .int)) dX8_init_41 rfl rfl (Nat.le_of_ble_eq_true rfl) fd_RX8_25 ⟨tyX8, tyX8_ok⟩ nmX8 rfl rfl rfl (by decide +kernel) (fun _ => rfl) (fun _ => rfl) ?_
  refine bw_aload_n (z := 45) dX8_init_44 rfl rfl ?_
  refine bw_bipush (z := 47) 20 dX8_init_45 rfl (by decide) ?_
  refine bw_newI (z := 49) 20 dX8_init_47 rfl tb_146 rfl (by decide) (by decide) (Nat.le_of_ble_eq_true rfl) (Nat.le_of_ble_eq_true rfl) (Nat.le_of_ble_eq_true rfl) ?_
  refine bw_putR (z := 52) (RX8, TX8, 20) 8 10 (b := 116) (ty := (.array .int)) dX8_init_49 rfl rfl (Nat.le_of_ble_eq_true rfl) fd_RX8_28 ⟨tyX8, tyX8_ok⟩ nmX8 rfl rfl rfl (by decide +kernel) (fun _ => rfl) (fun _ => rfl) ?_
  refine bw_aload_n (z := 53) dX8_init_52 rfl rfl ?_
  refine bw_bipush (z := 55) 20 dX8_init_53 rfl (by decide) ?_
  refine bw_newI (z := 57) 20 dX8_init_55 rfl tb_146 rfl (by decide) (by decide) (Nat.le_of_ble_eq_true rfl) (Nat.le_of_ble_eq_true rfl) (Nat.le_of_ble_eq_true rfl) ?_
  refine bw_putR (z := 60) (RX8, TX8, 20) 8 11 (b := 117) (ty := (.array .int)) dX8_init_57 rfl rfl (Nat.le_of_ble_eq_true rfl) fd_RX8_31 ⟨tyX8, tyX8_ok⟩ nmX8 rfl rfl rfl (by decide +kernel) (fun _ => rfl) (fun _ => rfl) ?_
  refine bw_aload_n (z := 61) dX8_init_60 rfl rfl ?_
  refine bw_bipush (z := 63) 20 dX8_init_61 rfl (by decide) ?_
  refine bw_newI (z := 65) 20 dX8_init_63 rfl tb_146 rfl (by decide) (by decide) (Nat.le_of_ble_eq_true rfl) (Nat.le_of_ble_eq_true rfl) (Nat.le_of_ble_eq_true rfl) ?_
  refine bw_putR (z := 68) (RX8, TX8, 20) 8 12 (b := 118) (ty := (.array .int)) dX8_init_65 rfl rfl (Nat.le_of_ble_eq_true rfl) fd_RX8_34 ⟨tyX8, tyX8_ok⟩ nmX8 rfl rfl rfl (by decide +kernel) (fun _ => rfl) (fun _ => rfl) ?_
  refine bw_aload_n (z := 69) dX8_init_68 rfl rfl ?_
  refine bw_bipush (z := 71) 20 dX8_init_69 rfl (by decide) ?_
  refine bw_newI (z := 73) 20 dX8_init_71 rfl tb_146 rfl (by decide) (by decide) (Nat.le_of_ble_eq_true rfl) (Nat.le_of_ble_eq_true rfl) (Nat.le_of_ble_eq_true rfl) ?_
  refine bw_putR (z := 76) (RX8, TX8, 20) 8 13 (b := 119) (ty := (.array .int)) dX8_init_73 rfl rfl (Nat.le_of_ble_eq_true rfl) fd_RX8_37 ⟨tyX8, tyX8_ok⟩ nmX8 rfl rfl rfl (by decide +kernel) (fun _ => rfl) (fun _ => rfl) ?_
  refine bw_aload_n (z := 77) dX8_init_76 rfl rfl ?_
  refine bw_iconst (z := 78) 4 dX8_init_77 rfl (by decide) ?_
  refine bw_newI (z := 80) 4 dX8_init_78 rfl tb_146 rfl (by decide) (by decide) (Nat.le_of_ble_eq_true rfl) (Nat.le_of_ble_eq_true rfl) (Nat.le_of_ble_eq_true rfl) ?_
  refine bw_putR (z := 83) (RX8, TX8, 20) 8 14 (b := 120) (ty := (.array .int)) dX8_init_80 rfl rfl (Nat.le_of_ble_eq_true rfl) fd_RX8_40 ⟨tyX8, tyX8_ok⟩ nmX8 rfl rfl rfl (by decide +kernel) (fun _ => rfl) (fun _ => rfl) ?_
  refine bw_aload_n (z := 84) dX8_init_83 rfl rfl ?_
  refine bw_bipush (z := 86) 100 dX8_init_84 rfl (by decide) ?_
  refine bw_newI (z := 88) 100 dX8_init_86 rfl tb_146 rfl (by decide) (by decide) (Nat.le_of_ble_eq_true rfl) (Nat.le_of_ble_eq_true rfl) (Nat.le_of_ble_eq_true rfl) ?_
  refine bw_putR (z := 91) (RX8, TX8, 20) 8 15 (b := 121) (ty := (.array .int)) dX8_init_88 rfl rfl (Nat.le_of_ble_eq_true rfl) fd_RX8_43 ⟨tyX8, tyX8_ok⟩ nmX8 rfl rfl rfl (by decide +kernel) (fun _ => rfl) (fun _ => rfl) ?_
  refine bw_aload_n (z := 92) dX8_init_91 rfl rfl ?_
  refine bw_bipush (z := 94) 100 dX8_init_92 rfl (by decide) ?_
  refine bw_newI (z := 96) 100 dX8_init_94 rfl tb_146 rfl (by decide) (by decide) (Nat.le_of_ble_eq_true rfl) (Nat.le_of_ble_eq_true rfl) (Nat.le_of_ble_eq_true rfl) ?_
  refine bw_putR (z := 99) (RX8, TX8, 20) 8 16 (b := 122) (ty := (.array .int)) dX8_init_96 rfl rfl (Nat.le_of_ble_eq_true rfl) fd_RX8_46 ⟨tyX8, tyX8_ok⟩ nmX8 rfl rfl rfl (by decide +kernel) (fun _ => rfl) (fun _ => rfl) ?_
  refine bw_aload_n (z := 100) dX8_init_99 rfl rfl ?_
  refine bw_iconst (z := 101) 4 dX8_init_100 rfl (by decide) ?_
  refine bw_newI (z := 103) 4 dX8_init_101 rfl tb_146 rfl (by decide) (by decide) (Nat.le_of_ble_eq_true rfl) (Nat.le_of_ble_eq_true rfl) (Nat.le_of_ble_eq_true rfl) ?_
  refine bw_putR (z := 106) (RX8, TX8, 20) 8 17 (b := 123) (ty := (.array .int)) dX8_init_103 rfl rfl (Nat.le_of_ble_eq_true rfl) fd_RX8_49 ⟨tyX8, tyX8_ok⟩ nmX8 rfl rfl rfl (by decide +kernel) (fun _ => rfl) (fun _ => rfl) ?_
  refine bw_aload_n (z := 107) dX8_init_106 rfl rfl ?_
  refine bw_callV (z := 110) (as := []) (st := []) (RX8, TX8, 20) 8 dX8_init_107 rfl rfl (mbi_X8_empty_110 l _ rfl rfl rfl rfl rfl) rfl (Nat.le_of_ble_eq_true rfl) rfl rfl cw_RX8_52 ⟨Nat.le_of_ble_eq_true rfl, Nat.le_of_ble_eq_true rfl⟩ (fun _ => Nat.le_of_ble_eq_true rfl) rfl (Nat.le_of_ble_eq_true rfl) (Nat.le_of_ble_eq_true rfl) ?_
  exact bw_vret rfl dX8_init_110 rfl rfl rfl rfl
def bi_X2_empty_124 (w : bw_T) : bw_T := (bF (bF (bF (bI w 124 0 0) 125 (-1) 9) 126 (-1) 9) 127 (-1) 9)
theorem mbi_X2_empty_124 (l : Launch) (w : bw_T) (h124_1 : w.2 124 1 = some 125) (h124_2 : w.2 124 2 = some 126) (h124_3 : w.2 124 3 = some 127) : BM l yX2_empty cX2_empty 1 2 143 0 0 [.ref 124] 128 w 128 (bi_X2_empty_124 w) := by
  refine bw_met [some (.ref 124)] (Nat.le_of_ble_eq_true rfl) (by decide) (fun _ => rfl) (fun _ => Nat.le_of_ble_eq_true rfl) ?_
  show BW l ((yX2_empty.cls, cX2_empty, 1, none, 2, 143), yX2_empty.name, 0, 0) 0 [some (.ref 124)] [] 128 0 0 w 128 (bi_X2_empty_124 w)
  refine bw_aload_n (z := 1) dX2_empty_0 rfl rfl ?_
  refine bw_iconst (z := 2) 0 dX2_empty_1 rfl (by decide) ?_
  refine bw_putI (z := 5) (RX2, TX2, 4) 2 0 dX2_empty_2 rfl rfl (Nat.le_of_ble_eq_true rfl) fp_RX2_24 rfl rfl ?_
  refine bw_aload_n (z := 6) dX2_empty_5 rfl rfl ?_
  refine bw_getR (z := 9) (RX2, TX2, 4) 2 1 (b := 125) dX2_empty_6 rfl rfl (Nat.le_of_ble_eq_true rfl) fd_RX2_9 h124_1 ?_
  refine bw_iconst (z := 10) (-1) dX2_empty_9 rfl (by decide) ?_
  refine bw_callS (z := 13) (as := [.ref 125, .int (-1)]) (st := []) dX2_empty_10 rfl rfl (bm_fill l 125 9 128 (-1) _ rfl (Nat.le_of_ble_eq_true rfl) (Nat.lt_of_lt_of_le (Nat.le_of_ble_eq_true rfl : 9 < 1000000) (by decide))) cw_RX2_28 ⟨Nat.le_of_ble_eq_true rfl, Nat.le_of_ble_eq_true rfl⟩ (fun _ => Nat.le_of_ble_eq_true rfl) rfl (Nat.le_of_ble_eq_true rfl) (Nat.le_of_ble_eq_true rfl) ?_
  refine bw_aload_n (z := 14) dX2_empty_13 rfl rfl ?_
  refine bw_getR (z := 17) (RX2, TX2, 4) 2 2 (b := 126) dX2_empty_14 rfl rfl (Nat.le_of_ble_eq_true rfl) fd_RX2_15 h124_2 ?_
  refine bw_iconst (z := 18) (-1) dX2_empty_17 rfl (by decide) ?_
  refine bw_callS (z := 21) (as := [.ref 126, .int (-1)]) (st := []) dX2_empty_18 rfl rfl (bm_fill l 126 9 128 (-1) _ rfl (Nat.le_of_ble_eq_true rfl) (Nat.lt_of_lt_of_le (Nat.le_of_ble_eq_true rfl : 9 < 1000000) (by decide))) cw_RX2_28 ⟨Nat.le_of_ble_eq_true rfl, Nat.le_of_ble_eq_true rfl⟩ (fun _ => Nat.le_of_ble_eq_true rfl) rfl (Nat.le_of_ble_eq_true rfl) (Nat.le_of_ble_eq_true rfl) ?_
  refine bw_aload_n (z := 22) dX2_empty_21 rfl rfl ?_
  refine bw_getR (z := 25) (RX2, TX2, 4) 2 3 (b := 127) dX2_empty_22 rfl rfl (Nat.le_of_ble_eq_true rfl) fd_RX2_18 h124_3 ?_
  refine bw_iconst (z := 26) (-1) dX2_empty_25 rfl (by decide) ?_
  refine bw_callS (z := 29) (as := [.ref 127, .int (-1)]) (st := []) dX2_empty_26 rfl rfl (bm_fill l 127 9 128 (-1) _ rfl (Nat.le_of_ble_eq_true rfl) (Nat.lt_of_lt_of_le (Nat.le_of_ble_eq_true rfl : 9 < 1000000) (by decide))) cw_RX2_28 ⟨Nat.le_of_ble_eq_true rfl, Nat.le_of_ble_eq_true rfl⟩ (fun _ => Nat.le_of_ble_eq_true rfl) rfl (Nat.le_of_ble_eq_true rfl) (Nat.le_of_ble_eq_true rfl) ?_
  exact bw_vret rfl dX2_empty_29 rfl rfl rfl rfl
def bi_X2_init_124 (w : bw_T) : bw_T := (bi_X2_empty_124 (bp (bz (bp (bz (bp (bz w 125) 124 1 125) 126) 124 2 126) 127) 124 3 127))
theorem mbi_X2_init_124 (l : Launch) (w : bw_T) : BM l yX2_init cX2_init 1 3 163 3 27 [.ref 124] 125 w 128 (bi_X2_init_124 w) := by
  refine bw_met [some (.ref 124)] (Nat.le_of_ble_eq_true rfl) (by decide) (fun _ => rfl) (fun _ => Nat.le_of_ble_eq_true rfl) ?_
  show BW l ((yX2_init.cls, cX2_init, 1, none, 3, 163), yX2_init.name, 3, 27) 0 [some (.ref 124)] [] 125 0 0 w 128 (bi_X2_init_124 w)
  refine bw_aload_n (z := 1) dX2_init_0 rfl rfl ?_
  refine bw_objInit (z := 4) dX2_init_1 rfl tb_266 tb_30 tb_31 ⟨Nat.le_of_ble_eq_true rfl, Nat.le_of_ble_eq_true rfl⟩ (fun _ => Nat.le_of_ble_eq_true rfl) ?_
  refine bw_aload_n (z := 5) dX2_init_4 rfl rfl ?_
  refine bw_bipush (z := 7) 9 dX2_init_5 rfl (by decide) ?_
  refine bw_newI (z := 9) 9 dX2_init_7 rfl tb_146 rfl (by decide) (by decide) (Nat.le_of_ble_eq_true rfl) (Nat.le_of_ble_eq_true rfl) (Nat.le_of_ble_eq_true rfl) ?_
  refine bw_putR (z := 12) (RX2, TX2, 4) 2 1 (b := 125) (ty := (.array .int)) dX2_init_9 rfl rfl (Nat.le_of_ble_eq_true rfl) fd_RX2_9 ⟨tyX2, tyX2_ok⟩ nmX2 rfl rfl rfl (by decide +kernel) (fun _ => rfl) (fun _ => rfl) ?_
  refine bw_aload_n (z := 13) dX2_init_12 rfl rfl ?_
  refine bw_bipush (z := 15) 9 dX2_init_13 rfl (by decide) ?_
  refine bw_newI (z := 17) 9 dX2_init_15 rfl tb_146 rfl (by decide) (by decide) (Nat.le_of_ble_eq_true rfl) (Nat.le_of_ble_eq_true rfl) (Nat.le_of_ble_eq_true rfl) ?_
  refine bw_putR (z := 20) (RX2, TX2, 4) 2 2 (b := 126) (ty := (.array .int)) dX2_init_17 rfl rfl (Nat.le_of_ble_eq_true rfl) fd_RX2_15 ⟨tyX2, tyX2_ok⟩ nmX2 rfl rfl rfl (by decide +kernel) (fun _ => rfl) (fun _ => rfl) ?_
  refine bw_aload_n (z := 21) dX2_init_20 rfl rfl ?_
  refine bw_bipush (z := 23) 9 dX2_init_21 rfl (by decide) ?_
  refine bw_newI (z := 25) 9 dX2_init_23 rfl tb_146 rfl (by decide) (by decide) (Nat.le_of_ble_eq_true rfl) (Nat.le_of_ble_eq_true rfl) (Nat.le_of_ble_eq_true rfl) ?_
  refine bw_putR (z := 28) (RX2, TX2, 4) 2 3 (b := 127) (ty := (.array .int)) dX2_init_25 rfl rfl (Nat.le_of_ble_eq_true rfl) fd_RX2_18 ⟨tyX2, tyX2_ok⟩ nmX2 rfl rfl rfl (by decide +kernel) (fun _ => rfl) (fun _ => rfl) ?_
  refine bw_aload_n (z := 29) dX2_init_28 rfl rfl ?_
  refine bw_callV (z := 32) (as := []) (st := []) (RX2, TX2, 4) 2 dX2_init_29 rfl rfl (mbi_X2_empty_124 l _ rfl rfl rfl) rfl (Nat.le_of_ble_eq_true rfl) rfl rfl cw_RX2_21 ⟨Nat.le_of_ble_eq_true rfl, Nat.le_of_ble_eq_true rfl⟩ (fun _ => Nat.le_of_ble_eq_true rfl) rfl (Nat.le_of_ble_eq_true rfl) (Nat.le_of_ble_eq_true rfl) ?_
  exact bw_vret rfl dX2_init_32 rfl rfl rfl rfl
def bi_X3_init_128 (w : bw_T) : bw_T := (bp (bz (bp (bz (bp (bz (bp (bz w 129) 128 2 129) 130) 128 3 130) 131) 128 4 131) 132) 128 5 132)
theorem mbi_X3_init_128 (l : Launch) (w : bw_T) : BM l yX3_init cX3_init 1 1 120 4 140 [.ref 128] 129 w 133 (bi_X3_init_128 w) := by
  refine bw_met [some (.ref 128)] (Nat.le_of_ble_eq_true rfl) (by decide) (fun _ => rfl) (fun _ => Nat.le_of_ble_eq_true rfl) ?_
  show BW l ((yX3_init.cls, cX3_init, 1, none, 1, 120), yX3_init.name, 4, 140) 0 [some (.ref 128)] [] 129 0 0 w 133 (bi_X3_init_128 w)
  refine bw_aload_n (z := 1) dX3_init_0 rfl rfl ?_
  refine bw_objInit (z := 4) dX3_init_1 rfl tb_301 tb_30 tb_31 ⟨Nat.le_of_ble_eq_true rfl, Nat.le_of_ble_eq_true rfl⟩ (fun _ => Nat.le_of_ble_eq_true rfl) ?_
  refine bw_aload_n (z := 5) dX3_init_4 rfl rfl ?_
  refine bw_bipush (z := 7) 40 dX3_init_5 rfl (by decide) ?_
  refine bw_newI (z := 9) 40 dX3_init_7 rfl tb_146 rfl (by decide) (by decide) (Nat.le_of_ble_eq_true rfl) (Nat.le_of_ble_eq_true rfl) (Nat.le_of_ble_eq_true rfl) ?_
  refine bw_putR (z := 12) (RX3, TX3, 6) 3 2 (b := 129) (ty := (.array .int)) dX3_init_9 rfl rfl (Nat.le_of_ble_eq_true rfl) fd_RX3_11 ⟨tyX3, tyX3_ok⟩ nmX3 rfl rfl rfl (by decide +kernel) (fun _ => rfl) (fun _ => rfl) ?_
  refine bw_aload_n (z := 13) dX3_init_12 rfl rfl ?_
  refine bw_bipush (z := 15) 40 dX3_init_13 rfl (by decide) ?_
  refine bw_newI (z := 17) 40 dX3_init_15 rfl tb_146 rfl (by decide) (by decide) (Nat.le_of_ble_eq_true rfl) (Nat.le_of_ble_eq_true rfl) (Nat.le_of_ble_eq_true rfl) ?_
  refine bw_putR (z := 20) (RX3, TX3, 6) 3 3 (b := 130) (ty := (.array .int)) dX3_init_17 rfl rfl (Nat.le_of_ble_eq_true rfl) fd_RX3_15 ⟨tyX3, tyX3_ok⟩ nmX3 rfl rfl rfl (by decide +kernel) (fun _ => rfl) (fun _ => rfl) ?_
  refine bw_aload_n (z := 21) dX3_init_20 rfl rfl ?_
  refine bw_bipush (z := 23) 40 dX3_init_21 rfl (by decide) ?_
  refine bw_newI (z := 25) 40 dX3_init_23 rfl tb_146 rfl (by decide) (by decide) (Nat.le_of_ble_eq_true rfl) (Nat.le_of_ble_eq_true rfl) (Nat.le_of_ble_eq_true rfl) ?_
  refine bw_putR (z := 28) (RX3, TX3, 6) 3 4 (b := 131) (ty := (.array .int)) dX3_init_25 rfl rfl (Nat.le_of_ble_eq_true rfl) fd_RX3_18 ⟨tyX3, tyX3_ok⟩ nmX3 rfl rfl rfl (by decide +kernel) (fun _ => rfl) (fun _ => rfl) ?_
  refine bw_aload_n (z := 29) dX3_init_28 rfl rfl ?_
  refine bw_bipush (z := 31) 20 dX3_init_29 rfl (by decide) ?_
  refine bw_newZ (z := 33) 20 dX3_init_31 rfl tb_322 rfl (by decide) (by decide) (Nat.le_of_ble_eq_true rfl) (Nat.le_of_ble_eq_true rfl) (Nat.le_of_ble_eq_true rfl) ?_
  refine bw_putR (z := 36) (RX3, TX3, 6) 3 5 (b := 132) (ty := (.array .boolean)) dX3_init_33 rfl rfl (Nat.le_of_ble_eq_true rfl) fd_RX3_21 ⟨tyX3, tyX3_ok⟩ nmX3 rfl rfl rfl (by decide +kernel) (fun _ => rfl) (fun _ => rfl) ?_
  exact bw_vret rfl dX3_init_36 rfl rfl rfl rfl
def bi_X1_init_133 (w : bw_T) : bw_T := (bF (bp (bz (bp (bz (bp (bz (bp (bz (bp (bz (bp (bz (bp (bz (bp (bz (bp (bz (bp (bz w 134) 133 0 134) 135) 133 1 135) 136) 133 2 136) 137) 133 3 137) 138) 133 5 138) 139) 133 6 139) 140) 133 8 140) 141) 133 9 141) 142) 133 10 142) 143) 133 11 143) 140 (-1) 240)
theorem mbi_X1_init_133 (l : Launch) (w : bw_T) : BM l yX1_init cX1_init 1 2 143 10 1059 [.ref 133] 134 w 144 (bi_X1_init_133 w) := by
  refine bw_met [some (.ref 133)] (Nat.le_of_ble_eq_true rfl) (by decide) (fun _ => rfl) (fun _ => Nat.le_of_ble_eq_true rfl) ?_
  show BW l ((yX1_init.cls, cX1_init, 1, none, 2, 143), yX1_init.name, 10, 1059) 0 [some (.ref 133)] [] 134 0 0 w 144 (bi_X1_init_133 w)
  refine bw_aload_n (z := 1) dX1_init_0 rfl rfl ?_
  refine bw_objInit (z := 4) dX1_init_1 rfl tb_328 tb_30 tb_31 ⟨Nat.le_of_ble_eq_true rfl, Nat.le_of_ble_eq_true rfl⟩ (fun _ => Nat.le_of_ble_eq_true rfl) ?_
  refine bw_aload_n (z := 5) dX1_init_4 rfl rfl ?_
  refine bw_sipush (z := 8) 360 dX1_init_5 rfl (by decide) ?_
  refine bw_newI (z := 10) 360 dX1_init_8 rfl tb_146 rfl (by decide) (by decide) (Nat.le_of_ble_eq_true rfl) (Nat.le_of_ble_eq_true rfl) (Nat.le_of_ble_eq_true rfl) ?_
  refine bw_putR (z := 13) (RX1, TX1, 12) 1 0 (b := 134) (ty := (.array .int)) dX1_init_10 rfl rfl (Nat.le_of_ble_eq_true rfl) fd_RX1_11 ⟨tyX1, tyX1_ok⟩ nmX1 rfl rfl rfl (by decide +kernel) (fun _ => rfl) (fun _ => rfl) ?_
  refine bw_aload_n (z := 14) dX1_init_13 rfl rfl ?_
  refine bw_bipush (z := 16) 18 dX1_init_14 rfl (by decide) ?_
  refine bw_newI (z := 18) 18 dX1_init_16 rfl tb_146 rfl (by decide) (by decide) (Nat.le_of_ble_eq_true rfl) (Nat.le_of_ble_eq_true rfl) (Nat.le_of_ble_eq_true rfl) ?_
  refine bw_putR (z := 21) (RX1, TX1, 12) 1 1 (b := 135) (ty := (.array .int)) dX1_init_18 rfl rfl (Nat.le_of_ble_eq_true rfl) fd_RX1_15 ⟨tyX1, tyX1_ok⟩ nmX1 rfl rfl rfl (by decide +kernel) (fun _ => rfl) (fun _ => rfl) ?_
  refine bw_aload_n (z := 22) dX1_init_21 rfl rfl ?_
  refine bw_bipush (z := 24) 20 dX1_init_22 rfl (by decide) ?_
  refine bw_newZ (z := 26) 20 dX1_init_24 rfl tb_322 rfl (by decide) (by decide) (Nat.le_of_ble_eq_true rfl) (Nat.le_of_ble_eq_true rfl) (Nat.le_of_ble_eq_true rfl) ?_
  refine bw_putR (z := 29) (RX1, TX1, 12) 1 2 (b := 136) (ty := (.array .boolean)) dX1_init_26 rfl rfl (Nat.le_of_ble_eq_true rfl) fd_RX1_18 ⟨tyX1, tyX1_ok⟩ nmX1 rfl rfl rfl (by decide +kernel) (fun _ => rfl) (fun _ => rfl) ?_
  refine bw_aload_n (z := 30) dX1_init_29 rfl rfl ?_
  refine bw_bipush (z := 32) 20 dX1_init_30 rfl (by decide) ?_
  refine bw_newI (z := 34) 20 dX1_init_32 rfl tb_146 rfl (by decide) (by decide) (Nat.le_of_ble_eq_true rfl) (Nat.le_of_ble_eq_true rfl) (Nat.le_of_ble_eq_true rfl) ?_
  refine bw_putR (z := 37) (RX1, TX1, 12) 1 3 (b := 137) (ty := (.array .int)) dX1_init_34 rfl rfl (Nat.le_of_ble_eq_true rfl) fd_RX1_22 ⟨tyX1, tyX1_ok⟩ nmX1 rfl rfl rfl (by decide +kernel) (fun _ => rfl) (fun _ => rfl) ?_
  refine bw_aload_n (z := 38) dX1_init_37 rfl rfl ?_
  refine bw_bipush (z := 40) 60 dX1_init_38 rfl (by decide) ?_
  refine bw_newI (z := 42) 60 dX1_init_40 rfl tb_146 rfl (by decide) (by decide) (Nat.le_of_ble_eq_true rfl) (Nat.le_of_ble_eq_true rfl) (Nat.le_of_ble_eq_true rfl) ?_
  refine bw_putR (z := 45) (RX1, TX1, 12) 1 5 (b := 138) (ty := (.array .int)) dX1_init_42 rfl rfl (Nat.le_of_ble_eq_true rfl) fd_RX1_25 ⟨tyX1, tyX1_ok⟩ nmX1 rfl rfl rfl (by decide +kernel) (fun _ => rfl) (fun _ => rfl) ?_
  refine bw_aload_n (z := 46) dX1_init_45 rfl rfl ?_
  refine bw_bipush (z := 48) 100 dX1_init_46 rfl (by decide) ?_
  refine bw_newI (z := 50) 100 dX1_init_48 rfl tb_146 rfl (by decide) (by decide) (Nat.le_of_ble_eq_true rfl) (Nat.le_of_ble_eq_true rfl) (Nat.le_of_ble_eq_true rfl) ?_
  refine bw_putR (z := 53) (RX1, TX1, 12) 1 6 (b := 139) (ty := (.array .int)) dX1_init_50 rfl rfl (Nat.le_of_ble_eq_true rfl) fd_RX1_28 ⟨tyX1, tyX1_ok⟩ nmX1 rfl rfl rfl (by decide +kernel) (fun _ => rfl) (fun _ => rfl) ?_
  refine bw_aload_n (z := 54) dX1_init_53 rfl rfl ?_
  refine bw_sipush (z := 57) 240 dX1_init_54 rfl (by decide) ?_
  refine bw_newI (z := 59) 240 dX1_init_57 rfl tb_146 rfl (by decide) (by decide) (Nat.le_of_ble_eq_true rfl) (Nat.le_of_ble_eq_true rfl) (Nat.le_of_ble_eq_true rfl) ?_
  refine bw_putR (z := 62) (RX1, TX1, 12) 1 8 (b := 140) (ty := (.array .int)) dX1_init_59 rfl rfl (Nat.le_of_ble_eq_true rfl) fd_RX1_31 ⟨tyX1, tyX1_ok⟩ nmX1 rfl rfl rfl (by decide +kernel) (fun _ => rfl) (fun _ => rfl) ?_
  refine bw_aload_n (z := 63) dX1_init_62 rfl rfl ?_
  refine bw_bipush (z := 65) 80 dX1_init_63 rfl (by decide) ?_
  refine bw_newI (z := 67) 80 dX1_init_65 rfl tb_146 rfl (by decide) (by decide) (Nat.le_of_ble_eq_true rfl) (Nat.le_of_ble_eq_true rfl) (Nat.le_of_ble_eq_true rfl) ?_
  refine bw_putR (z := 70) (RX1, TX1, 12) 1 9 (b := 141) (ty := (.array .int)) dX1_init_67 rfl rfl (Nat.le_of_ble_eq_true rfl) fd_RX1_34 ⟨tyX1, tyX1_ok⟩ nmX1 rfl rfl rfl (by decide +kernel) (fun _ => rfl) (fun _ => rfl) ?_
  refine bw_aload_n (z := 71) dX1_init_70 rfl rfl ?_
  refine bw_bipush (z := 73) 81 dX1_init_71 rfl (by decide) ?_
  refine bw_newI (z := 75) 81 dX1_init_73 rfl tb_146 rfl (by decide) (by decide) (Nat.le_of_ble_eq_true rfl) (Nat.le_of_ble_eq_true rfl) (Nat.le_of_ble_eq_true rfl) ?_
  refine bw_putR (z := 78) (RX1, TX1, 12) 1 10 (b := 142) (ty := (.array .int)) dX1_init_75 rfl rfl (Nat.le_of_ble_eq_true rfl) fd_RX1_37 ⟨tyX1, tyX1_ok⟩ nmX1 rfl rfl rfl (by decide +kernel) (fun _ => rfl) (fun _ => rfl) ?_
  refine bw_aload_n (z := 79) dX1_init_78 rfl rfl ?_
  refine bw_bipush (z := 81) 80 dX1_init_79 rfl (by decide) ?_
  refine bw_newI (z := 83) 80 dX1_init_81 rfl tb_146 rfl (by decide) (by decide) (Nat.le_of_ble_eq_true rfl) (Nat.le_of_ble_eq_true rfl) (Nat.le_of_ble_eq_true rfl) ?_
  refine bw_putR (z := 86) (RX1, TX1, 12) 1 11 (b := 143) (ty := (.array .int)) dX1_init_83 rfl rfl (Nat.le_of_ble_eq_true rfl) fd_RX1_40 ⟨tyX1, tyX1_ok⟩ nmX1 rfl rfl rfl (by decide +kernel) (fun _ => rfl) (fun _ => rfl) ?_
  refine bw_aload_n (z := 87) dX1_init_86 rfl rfl ?_
  refine bw_getR (z := 90) (RX1, TX1, 12) 1 8 (b := 140) dX1_init_87 rfl rfl (Nat.le_of_ble_eq_true rfl) fd_RX1_31 rfl ?_
  refine bw_iconst (z := 91) (-1) dX1_init_90 rfl (by decide) ?_
  refine bw_callS (z := 94) (as := [.ref 140, .int (-1)]) (st := []) dX1_init_91 rfl rfl (bm_fill l 140 240 144 (-1) _ rfl (Nat.le_of_ble_eq_true rfl) (Nat.lt_of_lt_of_le (Nat.le_of_ble_eq_true rfl : 240 < 1000000) (by decide))) cw_RX1_43 ⟨Nat.le_of_ble_eq_true rfl, Nat.le_of_ble_eq_true rfl⟩ (fun _ => Nat.le_of_ble_eq_true rfl) rfl (Nat.le_of_ble_eq_true rfl) (Nat.le_of_ble_eq_true rfl) ?_
  exact bw_vret rfl dX1_init_94 rfl rfl rfl rfl
def bi_X0_init_144 (w : bw_T) : bw_T := (bp (bp (bp (bp (bz (bp (bz (bp (bz (bp (bz (bp (bz (bp (bz (bp (bz (bp (bz (bp (bz (bp (bz (bp (bz w 145) 144 8 145) 146) 144 9 146) 147) 144 10 147) 148) 144 11 148) 149) 144 12 149) 150) 144 13 150) 151) 144 14 151) 152) 144 15 152) 153) 144 16 153) 154) 144 17 154) 155) 144 19 155) 144 0 110) 144 1 124) 144 2 133)
theorem mbi_X0_init_144 (l : Launch) (w : bw_T) : BM l yX0_init cX0_init 4 1 120 11 515 [.ref 144, .ref 110, .ref 124, .ref 133] 145 w 156 (bi_X0_init_144 w) := by
  refine bw_met [some (.ref 144), some (.ref 110), some (.ref 124), some (.ref 133)] (Nat.le_of_ble_eq_true rfl) (by decide) (fun _ => rfl) (fun _ => Nat.le_of_ble_eq_true rfl) ?_
  show BW l ((yX0_init.cls, cX0_init, 4, none, 1, 120), yX0_init.name, 11, 515) 0 [some (.ref 144), some (.ref 110), some (.ref 124), some (.ref 133)] [] 145 0 0 w 156 (bi_X0_init_144 w)
  refine bw_aload_n (z := 1) dX0_init_0 rfl rfl ?_
  refine bw_objInit (z := 4) dX0_init_1 rfl tb_387 tb_30 tb_31 ⟨Nat.le_of_ble_eq_true rfl, Nat.le_of_ble_eq_true rfl⟩ (fun _ => Nat.le_of_ble_eq_true rfl) ?_
  refine bw_aload_n (z := 5) dX0_init_4 rfl rfl ?_
  refine bw_iconst (z := 6) 5 dX0_init_5 rfl (by decide) ?_
  refine bw_newI (z := 8) 5 dX0_init_6 rfl tb_146 rfl (by decide) (by decide) (Nat.le_of_ble_eq_true rfl) (Nat.le_of_ble_eq_true rfl) (Nat.le_of_ble_eq_true rfl) ?_
  refine bw_putR (z := 11) (RX0, TX0, 20) 0 8 (b := 145) (ty := (.array .int)) dX0_init_8 rfl rfl (Nat.le_of_ble_eq_true rfl) fd_RX0_9 ⟨tyX0, tyX0_ok⟩ nmX0 rfl rfl rfl (by decide +kernel) (fun _ => rfl) (fun _ => rfl) ?_
  refine bw_aload_n (z := 12) dX0_init_11 rfl rfl ?_
  refine bw_bipush (z := 14) 9 dX0_init_12 rfl (by decide) ?_
  refine bw_newI (z := 16) 9 dX0_init_14 rfl tb_146 rfl (by decide) (by decide) (Nat.le_of_ble_eq_true rfl) (Nat.le_of_ble_eq_true rfl) (Nat.le_of_ble_eq_true rfl) ?_
  refine bw_putR (z := 19) (RX0, TX0, 20) 0 9 (b := 146) (ty := (.array .int)) dX0_init_16 rfl rfl (Nat.le_of_ble_eq_true rfl) fd_RX0_15 ⟨tyX0, tyX0_ok⟩ nmX0 rfl rfl rfl (by decide +kernel) (fun _ => rfl) (fun _ => rfl) ?_
  refine bw_aload_n (z := 20) dX0_init_19 rfl rfl ?_
  refine bw_bipush (z := 22) 9 dX0_init_20 rfl (by decide) ?_
  refine bw_newI (z := 24) 9 dX0_init_22 rfl tb_146 rfl (by decide) (by decide) (Nat.le_of_ble_eq_true rfl) (Nat.le_of_ble_eq_true rfl) (Nat.le_of_ble_eq_true rfl) ?_
  refine bw_putR (z := 27) (RX0, TX0, 20) 0 10 (b := 147) (ty := (.array .int)) dX0_init_24 rfl rfl (Nat.le_of_ble_eq_true rfl) fd_RX0_18 ⟨tyX0, tyX0_ok⟩ nmX0 rfl rfl rfl (by decide +kernel) (fun _ => rfl) (fun _ => rfl) ?_
  refine bw_aload_n (z := 28) dX0_init_27 rfl rfl ?_
  refine bw_bipush (z := 30) 9 dX0_init_28 rfl (by decide) ?_
  refine bw_newI (z := 32) 9 dX0_init_30 rfl tb_146 rfl (by decide) (by decide) (Nat.le_of_ble_eq_true rfl) (Nat.le_of_ble_eq_true rfl) (Nat.le_of_ble_eq_true rfl) ?_
  refine bw_putR (z := 35) (RX0, TX0, 20) 0 11 (b := 148) (ty := (.array .int)) dX0_init_32 rfl rfl (Nat.le_of_ble_eq_true rfl) fd_RX0_21 ⟨tyX0, tyX0_ok⟩ nmX0 rfl rfl rfl (by decide +kernel) (fun _ => rfl) (fun _ => rfl) ?_
  refine bw_aload_n (z := 36) dX0_init_35 rfl rfl ?_
  refine bw_bipush (z := 38) 9 dX0_init_36 rfl (by decide) ?_
  refine bw_newI (z := 40) 9 dX0_init_38 rfl tb_146 rfl (by decide) (by decide) (Nat.le_of_ble_eq_true rfl) (Nat.le_of_ble_eq_true rfl) (Nat.le_of_ble_eq_true rfl) ?_
  refine bw_putR (z := 43) (RX0, TX0, 20) 0 12 (b := 149) (ty := (.array .int)) dX0_init_40 rfl rfl (Nat.le_of_ble_eq_true rfl) fd_RX0_24 ⟨tyX0, tyX0_ok⟩ nmX0 rfl rfl rfl (by decide +kernel) (fun _ => rfl) (fun _ => rfl) ?_
  refine bw_aload_n (z := 44) dX0_init_43 rfl rfl ?_
  refine bw_sipush (z := 47) 180 dX0_init_44 rfl (by decide) ?_
  refine bw_newI (z := 49) 180 dX0_init_47 rfl tb_146 rfl (by decide) (by decide) (Nat.le_of_ble_eq_true rfl) (Nat.le_of_ble_eq_true rfl) (Nat.le_of_ble_eq_true rfl) ?_
  refine bw_putR (z := 52) (RX0, TX0, 20) 0 13 (b := 150) (ty := (.array .int)) dX0_init_49 rfl rfl (Nat.le_of_ble_eq_true rfl) fd_RX0_27 ⟨tyX0, tyX0_ok⟩ nmX0 rfl rfl rfl (by decide +kernel) (fun _ => rfl) (fun _ => rfl) ?_
  refine bw_aload_n (z := 53) dX0_init_52 rfl rfl ?_
  refine bw_bipush (z := 55) 20 dX0_init_53 rfl (by decide) ?_
  refine bw_newI (z := 57) 20 dX0_init_55 rfl tb_146 rfl (by decide) (by decide) (Nat.le_of_ble_eq_true rfl) (Nat.le_of_ble_eq_true rfl) (Nat.le_of_ble_eq_true rfl) ?_
  refine bw_putR (z := 60) (RX0, TX0, 20) 0 14 (b := 151) (ty := (.array .int)) dX0_init_57 rfl rfl (Nat.le_of_ble_eq_true rfl) fd_RX0_30 ⟨tyX0, tyX0_ok⟩ nmX0 rfl rfl rfl (by decide +kernel) (fun _ => rfl) (fun _ => rfl) ?_
  refine bw_aload_n (z := 61) dX0_init_60 rfl rfl ?_
  refine bw_bipush (z := 63) 20 dX0_init_61 rfl (by decide) ?_
  refine bw_newI (z := 65) 20 dX0_init_63 rfl tb_146 rfl (by decide) (by decide) (Nat.le_of_ble_eq_true rfl) (Nat.le_of_ble_eq_true rfl) (Nat.le_of_ble_eq_true rfl) ?_
  refine bw_putR (z := 68) (RX0, TX0, 20) 0 15 (b := 152) (ty := (.array .int)) dX0_init_65 rfl rfl (Nat.le_of_ble_eq_true rfl) fd_RX0_33 ⟨tyX0, tyX0_ok⟩ nmX0 rfl rfl rfl (by decide +kernel) (fun _ => rfl) (fun _ => rfl) ?_
  refine bw_aload_n (z := 69) dX0_init_68 rfl rfl ?_
  refine bw_bipush (z := 71) 100 dX0_init_69 rfl (by decide) ?_
  refine bw_newI (z := 73) 100 dX0_init_71 rfl tb_146 rfl (by decide) (by decide) (Nat.le_of_ble_eq_true rfl) (Nat.le_of_ble_eq_true rfl) (Nat.le_of_ble_eq_true rfl) ?_
  refine bw_putR (z := 76) (RX0, TX0, 20) 0 16 (b := 153) (ty := (.array .int)) dX0_init_73 rfl rfl (Nat.le_of_ble_eq_true rfl) fd_RX0_36 ⟨tyX0, tyX0_ok⟩ nmX0 rfl rfl rfl (by decide +kernel) (fun _ => rfl) (fun _ => rfl) ?_
  refine bw_aload_n (z := 77) dX0_init_76 rfl rfl ?_
  refine bw_bipush (z := 79) 100 dX0_init_77 rfl (by decide) ?_
  refine bw_newI (z := 81) 100 dX0_init_79 rfl tb_146 rfl (by decide) (by decide) (Nat.le_of_ble_eq_true rfl) (Nat.le_of_ble_eq_true rfl) (Nat.le_of_ble_eq_true rfl) ?_
  refine bw_putR (z := 84) (RX0, TX0, 20) 0 17 (b := 154) (ty := (.array .int)) dX0_init_81 rfl rfl (Nat.le_of_ble_eq_true rfl) fd_RX0_39 ⟨tyX0, tyX0_ok⟩ nmX0 rfl rfl rfl (by decide +kernel) (fun _ => rfl) (fun _ => rfl) ?_
  refine bw_aload_n (z := 85) dX0_init_84 rfl rfl ?_
  refine bw_bipush (z := 87) 54 dX0_init_85 rfl (by decide) ?_
  refine bw_newI (z := 89) 54 dX0_init_87 rfl tb_146 rfl (by decide) (by decide) (Nat.le_of_ble_eq_true rfl) (Nat.le_of_ble_eq_true rfl) (Nat.le_of_ble_eq_true rfl) ?_
  refine bw_putR (z := 92) (RX0, TX0, 20) 0 19 (b := 155) (ty := (.array .int)) dX0_init_89 rfl rfl (Nat.le_of_ble_eq_true rfl) fd_RX0_42 ⟨tyX0, tyX0_ok⟩ nmX0 rfl rfl rfl (by decide +kernel) (fun _ => rfl) (fun _ => rfl) ?_
  refine bw_aload_n (z := 93) dX0_init_92 rfl rfl ?_
  refine bw_aload_n (z := 94) dX0_init_93 rfl rfl ?_
  refine bw_putR (z := 97) (RX0, TX0, 20) 0 0 (b := 110) (ty := (.object "OrangeFight$Town")) dX0_init_94 rfl rfl (Nat.le_of_ble_eq_true rfl) fd_RX0_45 ⟨tyX0, tyX0_ok⟩ nmX0 rfl rfl rfl (by decide +kernel) (fun _ => rfl) (fun _ => rfl) ?_
  refine bw_aload_n (z := 98) dX0_init_97 rfl rfl ?_
  refine bw_aload_n (z := 99) dX0_init_98 rfl rfl ?_
  refine bw_putR (z := 102) (RX0, TX0, 20) 0 1 (b := 124) (ty := (.object "OrangeFight$Plans")) dX0_init_99 rfl rfl (Nat.le_of_ble_eq_true rfl) fd_RX0_49 ⟨tyX0, tyX0_ok⟩ nmX0 rfl rfl rfl (by decide +kernel) (fun _ => rfl) (fun _ => rfl) ?_
  refine bw_aload_n (z := 103) dX0_init_102 rfl rfl ?_
  refine bw_aload_n (z := 104) dX0_init_103 rfl rfl ?_
  refine bw_putR (z := 107) (RX0, TX0, 20) 0 2 (b := 133) (ty := (.object "OrangeFight$Ground")) dX0_init_104 rfl rfl (Nat.le_of_ble_eq_true rfl) fd_RX0_53 ⟨tyX0, tyX0_ok⟩ nmX0 rfl rfl rfl (by decide +kernel) (fun _ => rfl) (fun _ => rfl) ?_
  exact bw_vret rfl dX0_init_107 rfl rfl rfl rfl
def bi_X4_init_109 (w : bw_T) : bw_T := (bp (bi_X0_init_144 (bz (bp (bi_X1_init_133 (bz (bp (bi_X3_init_128 (bz (bp (bi_X2_init_124 (bz (bp (bi_X8_init_110 (bz w 110)) 109 0 110) 124)) 109 1 124) 128)) 109 2 128) 133)) 109 3 133) 144)) 109 4 144)
theorem mbi_X4_init_109 (l : Launch) (w : bw_T) : BM l yX4_init cX4_init 1 4 183 46 2136 [.ref 109] 110 w 156 (bi_X4_init_109 w) := by
  refine bw_met [some (.ref 109)] (Nat.le_of_ble_eq_true rfl) (by decide) (fun _ => rfl) (fun _ => Nat.le_of_ble_eq_true rfl) ?_
  show BW l ((yX4_init.cls, cX4_init, 1, none, 4, 183), yX4_init.name, 46, 2136) 0 [some (.ref 109)] [] 110 0 0 w 156 (bi_X4_init_109 w)
  refine bw_aload_n (z := 1) dX4_init_0 rfl rfl ?_
  refine bw_objInit (z := 4) dX4_init_1 rfl tb_154 tb_30 tb_31 ⟨Nat.le_of_ble_eq_true rfl, Nat.le_of_ble_eq_true rfl⟩ (fun _ => Nat.le_of_ble_eq_true rfl) ?_
  refine bw_aload_n (z := 5) dX4_init_4 rfl rfl ?_
  refine bw_new (z := 8) 8 (RX8, TX8, 20) tyX8 dX4_init_5 rfl rfl tb_155 tb_156 tb_8 inTB_8 tyX8_ok rfl bnf_8 (Nat.le_of_ble_eq_true rfl) (Nat.le_of_ble_eq_true rfl) ?_
  refine bw_dup (z := 9) dX4_init_8 rfl (fun _ => rfl) ?_
  refine bw_callI (z := 12) (as := []) (st := [.ref 110, .ref 109]) dX4_init_9 rfl rfl (mbi_X8_init_110 l _) ⟨tb_159, tb_8, ⟨by decide, by decide⟩, by decide +kernel, tb_157⟩ rfl tb_158 ⟨Nat.le_of_ble_eq_true rfl, Nat.le_of_ble_eq_true rfl⟩ (fun _ => Nat.le_of_ble_eq_true rfl) rfl (Nat.le_of_ble_eq_true rfl) (Nat.le_of_ble_eq_true rfl) ?_
  refine bw_putR (z := 15) (RX4, TX4, 5) 4 0 (b := 110) (ty := (.object "OrangeFight$Town")) dX4_init_12 rfl rfl (Nat.le_of_ble_eq_true rfl) fd_RX4_10 ⟨tyX4, tyX4_ok⟩ nmX4 rfl rfl rfl (by decide +kernel) (fun _ => rfl) (fun _ => rfl) ?_
  refine bw_aload_n (z := 16) dX4_init_15 rfl rfl ?_
  refine bw_new (z := 19) 2 (RX2, TX2, 4) tyX2 dX4_init_16 rfl rfl tb_261 tb_262 tb_10 inTB_2 tyX2_ok rfl bnf_2 (Nat.le_of_ble_eq_true rfl) (Nat.le_of_ble_eq_true rfl) ?_
  refine bw_dup (z := 20) dX4_init_19 rfl (fun _ => rfl) ?_
  refine bw_callI (z := 23) (as := []) (st := [.ref 124, .ref 109]) dX4_init_20 rfl rfl (mbi_X2_init_124 l _) ⟨tb_265, tb_10, ⟨by decide, by decide⟩, by decide +kernel, tb_263⟩ rfl tb_264 ⟨Nat.le_of_ble_eq_true rfl, Nat.le_of_ble_eq_true rfl⟩ (fun _ => Nat.le_of_ble_eq_true rfl) rfl (Nat.le_of_ble_eq_true rfl) (Nat.le_of_ble_eq_true rfl) ?_
  refine bw_putR (z := 26) (RX4, TX4, 5) 4 1 (b := 124) (ty := (.object "OrangeFight$Plans")) dX4_init_23 rfl rfl (Nat.le_of_ble_eq_true rfl) fd_RX4_19 ⟨tyX4, tyX4_ok⟩ nmX4 rfl rfl rfl (by decide +kernel) (fun _ => rfl) (fun _ => rfl) ?_
  refine bw_aload_n (z := 27) dX4_init_26 rfl rfl ?_
  refine bw_new (z := 30) 3 (RX3, TX3, 6) tyX3 dX4_init_27 rfl rfl tb_296 tb_297 tb_11 inTB_3 tyX3_ok rfl bnf_3 (Nat.le_of_ble_eq_true rfl) (Nat.le_of_ble_eq_true rfl) ?_
  refine bw_dup (z := 31) dX4_init_30 rfl (fun _ => rfl) ?_
  refine bw_callIN (z := 34) RX10 (as := []) (st := [.ref 128, .ref 109]) dX4_init_31 rfl rfl (mbi_X3_init_128 l _) ⟨tb_300, tb_11, ⟨by decide, by decide⟩, by decide +kernel, by decide +kernel⟩ rfl tb_299 ⟨Nat.le_of_ble_eq_true rfl, Nat.le_of_ble_eq_true rfl⟩ (fun _ => Nat.le_of_ble_eq_true rfl) rfl (Nat.le_of_ble_eq_true rfl) (Nat.le_of_ble_eq_true rfl) ?_
  refine bw_putR (z := 37) (RX4, TX4, 5) 4 2 (b := 128) (ty := (.object "OrangeFight$Saying")) dX4_init_34 rfl rfl (Nat.le_of_ble_eq_true rfl) fd_RX4_26 ⟨tyX4, tyX4_ok⟩ nmX4 rfl rfl rfl (by decide +kernel) (fun _ => rfl) (fun _ => rfl) ?_
  refine bw_aload_n (z := 38) dX4_init_37 rfl rfl ?_
  refine bw_new (z := 41) 1 (RX1, TX1, 12) tyX1 dX4_init_38 rfl rfl tb_323 tb_324 tb_12 inTB_1 tyX1_ok rfl bnf_1 (Nat.le_of_ble_eq_true rfl) (Nat.le_of_ble_eq_true rfl) ?_
  refine bw_dup (z := 42) dX4_init_41 rfl (fun _ => rfl) ?_
  refine bw_callI (z := 45) (as := []) (st := [.ref 133, .ref 109]) dX4_init_42 rfl rfl (mbi_X1_init_133 l _) ⟨tb_327, tb_12, ⟨by decide, by decide⟩, by decide +kernel, tb_325⟩ rfl tb_326 ⟨Nat.le_of_ble_eq_true rfl, Nat.le_of_ble_eq_true rfl⟩ (fun _ => Nat.le_of_ble_eq_true rfl) rfl (Nat.le_of_ble_eq_true rfl) (Nat.le_of_ble_eq_true rfl) ?_
  refine bw_putR (z := 48) (RX4, TX4, 5) 4 3 (b := 133) (ty := (.object "OrangeFight$Ground")) dX4_init_45 rfl rfl (Nat.le_of_ble_eq_true rfl) fd_RX4_33 ⟨tyX4, tyX4_ok⟩ nmX4 rfl rfl rfl (by decide +kernel) (fun _ => rfl) (fun _ => rfl) ?_
  refine bw_aload_n (z := 49) dX4_init_48 rfl rfl ?_
  refine bw_new (z := 52) 0 (RX0, TX0, 20) tyX0 dX4_init_49 rfl rfl tb_382 tb_383 tb_13 inTB_0 tyX0_ok rfl bnf_0 (Nat.le_of_ble_eq_true rfl) (Nat.le_of_ble_eq_true rfl) ?_
  refine bw_dup (z := 53) dX4_init_52 rfl (fun _ => rfl) ?_
  refine bw_aload_n (z := 54) dX4_init_53 rfl rfl ?_
  refine bw_getR (z := 57) (RX4, TX4, 5) 4 0 (b := 110) dX4_init_54 rfl rfl (Nat.le_of_ble_eq_true rfl) fd_RX4_10 rfl ?_
  refine bw_aload_n (z := 58) dX4_init_57 rfl rfl ?_
  refine bw_getR (z := 61) (RX4, TX4, 5) 4 1 (b := 124) dX4_init_58 rfl rfl (Nat.le_of_ble_eq_true rfl) fd_RX4_19 rfl ?_
  refine bw_aload_n (z := 62) dX4_init_61 rfl rfl ?_
  refine bw_getR (z := 65) (RX4, TX4, 5) 4 3 (b := 133) dX4_init_62 rfl rfl (Nat.le_of_ble_eq_true rfl) fd_RX4_33 rfl ?_
  refine bw_callI (z := 68) (as := [.ref 110, .ref 124, .ref 133]) (st := [.ref 144, .ref 109]) dX4_init_65 rfl rfl (mbi_X0_init_144 l _) ⟨tb_386, tb_13, ⟨by decide, by decide⟩, by decide +kernel, tb_384⟩ rfl tb_385 ⟨Nat.le_of_ble_eq_true rfl, Nat.le_of_ble_eq_true rfl⟩ (fun _ => Nat.le_of_ble_eq_true rfl) rfl (Nat.le_of_ble_eq_true rfl) (Nat.le_of_ble_eq_true rfl) ?_
  refine bw_putR (z := 71) (RX4, TX4, 5) 4 4 (b := 144) (ty := (.object "OrangeFight$Fight")) dX4_init_68 rfl rfl (Nat.le_of_ble_eq_true rfl) fd_RX4_42 ⟨tyX4, tyX4_ok⟩ nmX4 rfl rfl rfl (by decide +kernel) (fun _ => rfl) (fun _ => rfl) ?_
  exact bw_vret rfl dX4_init_71 rfl rfl rfl rfl
def bi_X8_empty_157 (w : bw_T) : bw_T := (bI (bF (bF (bF (bF (bF (bI (bI (bI (bI (bI (bI w 157 0 0) 157 1 0) 157 2 0) 157 3 0) 157 4 0) 157 18 0) 162 (-1) 9) 167 0 4) 168 0 100) 169 (-1) 100) 170 1 4) 170 3 0)
theorem mbi_X8_empty_157 (l : Launch) (w : bw_T) (h157_9 : w.2 157 9 = some 162) (h157_14 : w.2 157 14 = some 167) (h157_15 : w.2 157 15 = some 168) (h157_16 : w.2 157 16 = some 169) (h157_17 : w.2 157 17 = some 170) : BM l yX8_empty cX8_empty 1 2 143 0 0 [.ref 157] 171 w 171 (bi_X8_empty_157 w) := by
  refine bw_met [some (.ref 157)] (Nat.le_of_ble_eq_true rfl) (by decide) (fun _ => rfl) (fun _ => Nat.le_of_ble_eq_true rfl) ?_
  show BW l ((yX8_empty.cls, cX8_empty, 1, none, 2, 143), yX8_empty.name, 0, 0) 0 [some (.ref 157)] [] 171 0 0 w 171 (bi_X8_empty_157 w)
  refine bw_aload_n (z := 1) dX8_empty_0 rfl rfl ?_
  refine bw_iconst (z := 2) 0 dX8_empty_1 rfl (by decide) ?_
  refine bw_putI (z := 5) (RX8, TX8, 20) 8 0 dX8_empty_2 rfl rfl (Nat.le_of_ble_eq_true rfl) fp_RX8_55 rfl rfl ?_
  refine bw_aload_n (z := 6) dX8_empty_5 rfl rfl ?_
  refine bw_iconst (z := 7) 0 dX8_empty_6 rfl (by decide) ?_
  refine bw_putI (z := 10) (RX8, TX8, 20) 8 1 dX8_empty_7 rfl rfl (Nat.le_of_ble_eq_true rfl) fp_RX8_59 rfl rfl ?_
  refine bw_aload_n (z := 11) dX8_empty_10 rfl rfl ?_
  refine bw_iconst (z := 12) 0 dX8_empty_11 rfl (by decide) ?_
  refine bw_putI (z := 15) (RX8, TX8, 20) 8 2 dX8_empty_12 rfl rfl (Nat.le_of_ble_eq_true rfl) fp_RX8_62 rfl rfl ?_
  refine bw_aload_n (z := 16) dX8_empty_15 rfl rfl ?_
  refine bw_iconst (z := 17) 0 dX8_empty_16 rfl (by decide) ?_
  refine bw_putI (z := 20) (RX8, TX8, 20) 8 3 dX8_empty_17 rfl rfl (Nat.le_of_ble_eq_true rfl) fp_RX8_65 rfl rfl ?_
  refine bw_aload_n (z := 21) dX8_empty_20 rfl rfl ?_
  refine bw_iconst (z := 22) 0 dX8_empty_21 rfl (by decide) ?_
  refine bw_putI (z := 25) (RX8, TX8, 20) 8 4 dX8_empty_22 rfl rfl (Nat.le_of_ble_eq_true rfl) fp_RX8_68 rfl rfl ?_
  refine bw_aload_n (z := 26) dX8_empty_25 rfl rfl ?_
  refine bw_iconst (z := 27) 0 dX8_empty_26 rfl (by decide) ?_
  refine bw_putI (z := 30) (RX8, TX8, 20) 8 18 dX8_empty_27 rfl rfl (Nat.le_of_ble_eq_true rfl) fp_RX8_71 rfl rfl ?_
  refine bw_aload_n (z := 31) dX8_empty_30 rfl rfl ?_
  refine bw_getR (z := 34) (RX8, TX8, 20) 8 9 (b := 162) dX8_empty_31 rfl rfl (Nat.le_of_ble_eq_true rfl) fd_RX8_25 h157_9 ?_
  refine bw_iconst (z := 35) (-1) dX8_empty_34 rfl (by decide) ?_
  refine bw_callS (z := 38) (as := [.ref 162, .int (-1)]) (st := []) dX8_empty_35 rfl rfl (bm_fill l 162 9 171 (-1) _ rfl (Nat.le_of_ble_eq_true rfl) (Nat.lt_of_lt_of_le (Nat.le_of_ble_eq_true rfl : 9 < 1000000) (by decide))) cw_RX8_75 ⟨Nat.le_of_ble_eq_true rfl, Nat.le_of_ble_eq_true rfl⟩ (fun _ => Nat.le_of_ble_eq_true rfl) rfl (Nat.le_of_ble_eq_true rfl) (Nat.le_of_ble_eq_true rfl) ?_
  refine bw_aload_n (z := 39) dX8_empty_38 rfl rfl ?_
  refine bw_getR (z := 42) (RX8, TX8, 20) 8 14 (b := 167) dX8_empty_39 rfl rfl (Nat.le_of_ble_eq_true rfl) fd_RX8_40 h157_14 ?_
  refine bw_iconst (z := 43) 0 dX8_empty_42 rfl (by decide) ?_
  refine bw_callS (z := 46) (as := [.ref 167, .int 0]) (st := []) dX8_empty_43 rfl rfl (bm_fill l 167 4 171 0 _ rfl (Nat.le_of_ble_eq_true rfl) (Nat.lt_of_lt_of_le (Nat.le_of_ble_eq_true rfl : 4 < 1000000) (by decide))) cw_RX8_75 ⟨Nat.le_of_ble_eq_true rfl, Nat.le_of_ble_eq_true rfl⟩ (fun _ => Nat.le_of_ble_eq_true rfl) rfl (Nat.le_of_ble_eq_true rfl) (Nat.le_of_ble_eq_true rfl) ?_
  refine bw_aload_n (z := 47) dX8_empty_46 rfl rfl ?_
  refine bw_getR (z := 50) (RX8, TX8, 20) 8 15 (b := 168) dX8_empty_47 rfl rfl (Nat.le_of_ble_eq_true rfl) fd_RX8_43 h157_15 ?_
  refine bw_iconst (z := 51) 0 dX8_empty_50 rfl (by decide) ?_
  refine bw_callS (z := 54) (as := [.ref 168, .int 0]) (st := []) dX8_empty_51 rfl rfl (bm_fill l 168 100 171 0 _ rfl (Nat.le_of_ble_eq_true rfl) (Nat.lt_of_lt_of_le (Nat.le_of_ble_eq_true rfl : 100 < 1000000) (by decide))) cw_RX8_75 ⟨Nat.le_of_ble_eq_true rfl, Nat.le_of_ble_eq_true rfl⟩ (fun _ => Nat.le_of_ble_eq_true rfl) rfl (Nat.le_of_ble_eq_true rfl) (Nat.le_of_ble_eq_true rfl) ?_
  refine bw_aload_n (z := 55) dX8_empty_54 rfl rfl ?_
  refine bw_getR (z := 58) (RX8, TX8, 20) 8 16 (b := 169) dX8_empty_55 rfl rfl (Nat.le_of_ble_eq_true rfl) fd_RX8_46 h157_16 ?_
  refine bw_iconst (z := 59) (-1) dX8_empty_58 rfl (by decide) ?_
  refine bw_callS (z := 62) (as := [.ref 169, .int (-1)]) (st := []) dX8_empty_59 rfl rfl (bm_fill l 169 100 171 (-1) _ rfl (Nat.le_of_ble_eq_true rfl) (Nat.lt_of_lt_of_le (Nat.le_of_ble_eq_true rfl : 100 < 1000000) (by decide))) cw_RX8_75 ⟨Nat.le_of_ble_eq_true rfl, Nat.le_of_ble_eq_true rfl⟩ (fun _ => Nat.le_of_ble_eq_true rfl) rfl (Nat.le_of_ble_eq_true rfl) (Nat.le_of_ble_eq_true rfl) ?_
  refine bw_aload_n (z := 63) dX8_empty_62 rfl rfl ?_
  refine bw_getR (z := 66) (RX8, TX8, 20) 8 17 (b := 170) dX8_empty_63 rfl rfl (Nat.le_of_ble_eq_true rfl) fd_RX8_49 h157_17 ?_
  refine bw_iconst (z := 67) 1 dX8_empty_66 rfl (by decide) ?_
  refine bw_callS (z := 70) (as := [.ref 170, .int 1]) (st := []) dX8_empty_67 rfl rfl (bm_fill l 170 4 171 1 _ rfl (Nat.le_of_ble_eq_true rfl) (Nat.lt_of_lt_of_le (Nat.le_of_ble_eq_true rfl : 4 < 1000000) (by decide))) cw_RX8_75 ⟨Nat.le_of_ble_eq_true rfl, Nat.le_of_ble_eq_true rfl⟩ (fun _ => Nat.le_of_ble_eq_true rfl) rfl (Nat.le_of_ble_eq_true rfl) (Nat.le_of_ble_eq_true rfl) ?_
  refine bw_aload_n (z := 71) dX8_empty_70 rfl rfl ?_
  refine bw_getR (z := 74) (RX8, TX8, 20) 8 17 (b := 170) dX8_empty_71 rfl rfl (Nat.le_of_ble_eq_true rfl) fd_RX8_49 h157_17 ?_
  refine bw_iconst (z := 75) 3 dX8_empty_74 rfl (by decide) ?_
  refine bw_iconst (z := 76) 0 dX8_empty_75 rfl (by decide) ?_
  refine bw_iastore (z := 77) 4 dX8_empty_76 rfl rfl (Nat.le_of_ble_eq_true rfl) (bw_in (by decide)) ?_
  exact bw_vret rfl dX8_empty_77 rfl rfl rfl rfl
def bi_X8_init_157 (w : bw_T) : bw_T := (bi_X8_empty_157 (bp (bz (bp (bz (bp (bz (bp (bz (bp (bz (bp (bz (bp (bz (bp (bz (bp (bz (bp (bz (bp (bz (bp (bz (bp (bz w 158) 157 5 158) 159) 157 6 159) 160) 157 7 160) 161) 157 8 161) 162) 157 9 162) 163) 157 10 163) 164) 157 11 164) 165) 157 12 165) 166) 157 13 166) 167) 157 14 167) 168) 157 15 168) 169) 157 16 169) 170) 157 17 170))
theorem mbi_X8_init_157 (l : Launch) (w : bw_T) : BM l yX8_init cX8_init 1 3 163 13 333 [.ref 157] 158 w 171 (bi_X8_init_157 w) := by
  refine bw_met [some (.ref 157)] (Nat.le_of_ble_eq_true rfl) (by decide) (fun _ => rfl) (fun _ => Nat.le_of_ble_eq_true rfl) ?_
  show BW l ((yX8_init.cls, cX8_init, 1, none, 3, 163), yX8_init.name, 13, 333) 0 [some (.ref 157)] [] 158 0 0 w 171 (bi_X8_init_157 w)
  refine bw_aload_n (z := 1) dX8_init_0 rfl rfl ?_
  refine bw_objInit (z := 4) dX8_init_1 rfl tb_160 tb_30 tb_31 ⟨Nat.le_of_ble_eq_true rfl, Nat.le_of_ble_eq_true rfl⟩ (fun _ => Nat.le_of_ble_eq_true rfl) ?_
  refine bw_aload_n (z := 5) dX8_init_4 rfl rfl ?_
  refine bw_bipush (z := 7) 9 dX8_init_5 rfl (by decide) ?_
  refine bw_newJ (z := 9) 9 dX8_init_7 rfl tb_147 rfl (by decide) (by decide) (Nat.le_of_ble_eq_true rfl) (Nat.le_of_ble_eq_true rfl) (Nat.le_of_ble_eq_true rfl) ?_
  refine bw_putR (z := 12) (RX8, TX8, 20) 8 5 (b := 158) (ty := (.array .long)) dX8_init_9 rfl rfl (Nat.le_of_ble_eq_true rfl) fd_RX8_9 ⟨tyX8, tyX8_ok⟩ nmX8 rfl rfl rfl (by decide +kernel) (fun _ => rfl) (fun _ => rfl) ?_
  refine bw_aload_n (z := 13) dX8_init_12 rfl rfl ?_
  refine bw_bipush (z := 15) 9 dX8_init_13 rfl (by decide) ?_
  refine bw_newI (z := 17) 9 dX8_init_15 rfl tb_146 rfl (by decide) (by decide) (Nat.le_of_ble_eq_true rfl) (Nat.le_of_ble_eq_true rfl) (Nat.le_of_ble_eq_true rfl) ?_
  refine bw_putR (z := 20) (RX8, TX8, 20) 8 6 (b := 159) (ty := (.array .int)) dX8_init_17 rfl rfl (Nat.le_of_ble_eq_true rfl) fd_RX8_15 ⟨tyX8, tyX8_ok⟩ nmX8 rfl rfl rfl (by decide +kernel) (fun _ => rfl) (fun _ => rfl) ?_
  refine bw_aload_n (z := 21) dX8_init_20 rfl rfl ?_
  refine bw_bipush (z := 23) 9 dX8_init_21 rfl (by decide) ?_
  refine bw_newI (z := 25) 9 dX8_init_23 rfl tb_146 rfl (by decide) (by decide) (Nat.le_of_ble_eq_true rfl) (Nat.le_of_ble_eq_true rfl) (Nat.le_of_ble_eq_true rfl) ?_
  refine bw_putR (z := 28) (RX8, TX8, 20) 8 7 (b := 160) (ty := (.array .int)) dX8_init_25 rfl rfl (Nat.le_of_ble_eq_true rfl) fd_RX8_19 ⟨tyX8, tyX8_ok⟩ nmX8 rfl rfl rfl (by decide +kernel) (fun _ => rfl) (fun _ => rfl) ?_
  refine bw_aload_n (z := 29) dX8_init_28 rfl rfl ?_
  refine bw_bipush (z := 31) 9 dX8_init_29 rfl (by decide) ?_
  refine bw_newI (z := 33) 9 dX8_init_31 rfl tb_146 rfl (by decide) (by decide) (Nat.le_of_ble_eq_true rfl) (Nat.le_of_ble_eq_true rfl) (Nat.le_of_ble_eq_true rfl) ?_
  refine bw_putR (z := 36) (RX8, TX8, 20) 8 8 (b := 161) (ty := (.array .int)) dX8_init_33 rfl rfl (Nat.le_of_ble_eq_true rfl) fd_RX8_22 ⟨tyX8, tyX8_ok⟩ nmX8 rfl rfl rfl (by decide +kernel) (fun _ => rfl) (fun _ => rfl) ?_
  refine bw_aload_n (z := 37) dX8_init_36 rfl rfl ?_
  refine bw_bipush (z := 39) 9 dX8_init_37 rfl (by decide) ?_
  refine bw_newI (z := 41) 9 dX8_init_39 rfl tb_146 rfl (by decide) (by decide) (Nat.le_of_ble_eq_true rfl) (Nat.le_of_ble_eq_true rfl) (Nat.le_of_ble_eq_true rfl) ?_
  refine bw_putR (z := 44) (RX8, TX8, 20) 8 9 (b := 162) (ty := (.array .int)) dX8_init_41 rfl rfl (Nat.le_of_ble_eq_true rfl) fd_RX8_25 ⟨tyX8, tyX8_ok⟩ nmX8 rfl rfl rfl (by decide +kernel) (fun _ => rfl) (fun _ => rfl) ?_
  refine bw_aload_n (z := 45) dX8_init_44 rfl rfl ?_
  refine bw_bipush (z := 47) 20 dX8_init_45 rfl (by decide) ?_
  refine bw_newI (z := 49) 20 dX8_init_47 rfl tb_146 rfl (by decide) (by decide) (Nat.le_of_ble_eq_true rfl) (Nat.le_of_ble_eq_true rfl) (Nat.le_of_ble_eq_true rfl) ?_
  refine bw_putR (z := 52) (RX8, TX8, 20) 8 10 (b := 163) (ty := (.array .int)) dX8_init_49 rfl rfl (Nat.le_of_ble_eq_true rfl) fd_RX8_28 ⟨tyX8, tyX8_ok⟩ nmX8 rfl rfl rfl (by decide +kernel) (fun _ => rfl) (fun _ => rfl) ?_
  refine bw_aload_n (z := 53) dX8_init_52 rfl rfl ?_
  refine bw_bipush (z := 55) 20 dX8_init_53 rfl (by decide) ?_
  refine bw_newI (z := 57) 20 dX8_init_55 rfl tb_146 rfl (by decide) (by decide) (Nat.le_of_ble_eq_true rfl) (Nat.le_of_ble_eq_true rfl) (Nat.le_of_ble_eq_true rfl) ?_
  refine bw_putR (z := 60) (RX8, TX8, 20) 8 11 (b := 164) (ty := (.array .int)) dX8_init_57 rfl rfl (Nat.le_of_ble_eq_true rfl) fd_RX8_31 ⟨tyX8, tyX8_ok⟩ nmX8 rfl rfl rfl (by decide +kernel) (fun _ => rfl) (fun _ => rfl) ?_
  refine bw_aload_n (z := 61) dX8_init_60 rfl rfl ?_
  refine bw_bipush (z := 63) 20 dX8_init_61 rfl (by decide) ?_
  refine bw_newI (z := 65) 20 dX8_init_63 rfl tb_146 rfl (by decide) (by decide) (Nat.le_of_ble_eq_true rfl) (Nat.le_of_ble_eq_true rfl) (Nat.le_of_ble_eq_true rfl) ?_
  refine bw_putR (z := 68) (RX8, TX8, 20) 8 12 (b := 165) (ty := (.array .int)) dX8_init_65 rfl rfl (Nat.le_of_ble_eq_true rfl) fd_RX8_34 ⟨tyX8, tyX8_ok⟩ nmX8 rfl rfl rfl (by decide +kernel) (fun _ => rfl) (fun _ => rfl) ?_
  refine bw_aload_n (z := 69) dX8_init_68 rfl rfl ?_
  refine bw_bipush (z := 71) 20 dX8_init_69 rfl (by decide) ?_
  refine bw_newI (z := 73) 20 dX8_init_71 rfl tb_146 rfl (by decide) (by decide) (Nat.le_of_ble_eq_true rfl) (Nat.le_of_ble_eq_true rfl) (Nat.le_of_ble_eq_true rfl) ?_
  refine bw_putR (z := 76) (RX8, TX8, 20) 8 13 (b := 166) (ty := (.array .int)) dX8_init_73 rfl rfl (Nat.le_of_ble_eq_true rfl) fd_RX8_37 ⟨tyX8, tyX8_ok⟩ nmX8 rfl rfl rfl (by decide +kernel) (fun _ => rfl) (fun _ => rfl) ?_
  refine bw_aload_n (z := 77) dX8_init_76 rfl rfl ?_
  refine bw_iconst (z := 78) 4 dX8_init_77 rfl (by decide) ?_
  refine bw_newI (z := 80) 4 dX8_init_78 rfl tb_146 rfl (by decide) (by decide) (Nat.le_of_ble_eq_true rfl) (Nat.le_of_ble_eq_true rfl) (Nat.le_of_ble_eq_true rfl) ?_
  refine bw_putR (z := 83) (RX8, TX8, 20) 8 14 (b := 167) (ty := (.array .int)) dX8_init_80 rfl rfl (Nat.le_of_ble_eq_true rfl) fd_RX8_40 ⟨tyX8, tyX8_ok⟩ nmX8 rfl rfl rfl (by decide +kernel) (fun _ => rfl) (fun _ => rfl) ?_
  refine bw_aload_n (z := 84) dX8_init_83 rfl rfl ?_
  refine bw_bipush (z := 86) 100 dX8_init_84 rfl (by decide) ?_
  refine bw_newI (z := 88) 100 dX8_init_86 rfl tb_146 rfl (by decide) (by decide) (Nat.le_of_ble_eq_true rfl) (Nat.le_of_ble_eq_true rfl) (Nat.le_of_ble_eq_true rfl) ?_
  refine bw_putR (z := 91) (RX8, TX8, 20) 8 15 (b := 168) (ty := (.array .int)) dX8_init_88 rfl rfl (Nat.le_of_ble_eq_true rfl) fd_RX8_43 ⟨tyX8, tyX8_ok⟩ nmX8 rfl rfl rfl (by decide +kernel) (fun _ => rfl) (fun _ => rfl) ?_
  refine bw_aload_n (z := 92) dX8_init_91 rfl rfl ?_
  refine bw_bipush (z := 94) 100 dX8_init_92 rfl (by decide) ?_
  refine bw_newI (z := 96) 100 dX8_init_94 rfl tb_146 rfl (by decide) (by decide) (Nat.le_of_ble_eq_true rfl) (Nat.le_of_ble_eq_true rfl) (Nat.le_of_ble_eq_true rfl) ?_
  refine bw_putR (z := 99) (RX8, TX8, 20) 8 16 (b := 169) (ty := (.array .int)) dX8_init_96 rfl rfl (Nat.le_of_ble_eq_true rfl) fd_RX8_46 ⟨tyX8, tyX8_ok⟩ nmX8 rfl rfl rfl (by decide +kernel) (fun _ => rfl) (fun _ => rfl) ?_
  refine bw_aload_n (z := 100) dX8_init_99 rfl rfl ?_
  refine bw_iconst (z := 101) 4 dX8_init_100 rfl (by decide) ?_
  refine bw_newI (z := 103) 4 dX8_init_101 rfl tb_146 rfl (by decide) (by decide) (Nat.le_of_ble_eq_true rfl) (Nat.le_of_ble_eq_true rfl) (Nat.le_of_ble_eq_true rfl) ?_
  refine bw_putR (z := 106) (RX8, TX8, 20) 8 17 (b := 170) (ty := (.array .int)) dX8_init_103 rfl rfl (Nat.le_of_ble_eq_true rfl) fd_RX8_49 ⟨tyX8, tyX8_ok⟩ nmX8 rfl rfl rfl (by decide +kernel) (fun _ => rfl) (fun _ => rfl) ?_
  refine bw_aload_n (z := 107) dX8_init_106 rfl rfl ?_
  refine bw_callV (z := 110) (as := []) (st := []) (RX8, TX8, 20) 8 dX8_init_107 rfl rfl (mbi_X8_empty_157 l _ rfl rfl rfl rfl rfl) rfl (Nat.le_of_ble_eq_true rfl) rfl rfl cw_RX8_52 ⟨Nat.le_of_ble_eq_true rfl, Nat.le_of_ble_eq_true rfl⟩ (fun _ => Nat.le_of_ble_eq_true rfl) rfl (Nat.le_of_ble_eq_true rfl) (Nat.le_of_ble_eq_true rfl) ?_
  exact bw_vret rfl dX8_init_110 rfl rfl rfl rfl
def bi_X2_empty_171 (w : bw_T) : bw_T := (bF (bF (bF (bI w 171 0 0) 172 (-1) 9) 173 (-1) 9) 174 (-1) 9)
theorem mbi_X2_empty_171 (l : Launch) (w : bw_T) (h171_1 : w.2 171 1 = some 172) (h171_2 : w.2 171 2 = some 173) (h171_3 : w.2 171 3 = some 174) : BM l yX2_empty cX2_empty 1 2 143 0 0 [.ref 171] 175 w 175 (bi_X2_empty_171 w) := by
  refine bw_met [some (.ref 171)] (Nat.le_of_ble_eq_true rfl) (by decide) (fun _ => rfl) (fun _ => Nat.le_of_ble_eq_true rfl) ?_
  show BW l ((yX2_empty.cls, cX2_empty, 1, none, 2, 143), yX2_empty.name, 0, 0) 0 [some (.ref 171)] [] 175 0 0 w 175 (bi_X2_empty_171 w)
  refine bw_aload_n (z := 1) dX2_empty_0 rfl rfl ?_
  refine bw_iconst (z := 2) 0 dX2_empty_1 rfl (by decide) ?_
  refine bw_putI (z := 5) (RX2, TX2, 4) 2 0 dX2_empty_2 rfl rfl (Nat.le_of_ble_eq_true rfl) fp_RX2_24 rfl rfl ?_
  refine bw_aload_n (z := 6) dX2_empty_5 rfl rfl ?_
  refine bw_getR (z := 9) (RX2, TX2, 4) 2 1 (b := 172) dX2_empty_6 rfl rfl (Nat.le_of_ble_eq_true rfl) fd_RX2_9 h171_1 ?_
  refine bw_iconst (z := 10) (-1) dX2_empty_9 rfl (by decide) ?_
  refine bw_callS (z := 13) (as := [.ref 172, .int (-1)]) (st := []) dX2_empty_10 rfl rfl (bm_fill l 172 9 175 (-1) _ rfl (Nat.le_of_ble_eq_true rfl) (Nat.lt_of_lt_of_le (Nat.le_of_ble_eq_true rfl : 9 < 1000000) (by decide))) cw_RX2_28 ⟨Nat.le_of_ble_eq_true rfl, Nat.le_of_ble_eq_true rfl⟩ (fun _ => Nat.le_of_ble_eq_true rfl) rfl (Nat.le_of_ble_eq_true rfl) (Nat.le_of_ble_eq_true rfl) ?_
  refine bw_aload_n (z := 14) dX2_empty_13 rfl rfl ?_
  refine bw_getR (z := 17) (RX2, TX2, 4) 2 2 (b := 173) dX2_empty_14 rfl rfl (Nat.le_of_ble_eq_true rfl) fd_RX2_15 h171_2 ?_
  refine bw_iconst (z := 18) (-1) dX2_empty_17 rfl (by decide) ?_
  refine bw_callS (z := 21) (as := [.ref 173, .int (-1)]) (st := []) dX2_empty_18 rfl rfl (bm_fill l 173 9 175 (-1) _ rfl (Nat.le_of_ble_eq_true rfl) (Nat.lt_of_lt_of_le (Nat.le_of_ble_eq_true rfl : 9 < 1000000) (by decide))) cw_RX2_28 ⟨Nat.le_of_ble_eq_true rfl, Nat.le_of_ble_eq_true rfl⟩ (fun _ => Nat.le_of_ble_eq_true rfl) rfl (Nat.le_of_ble_eq_true rfl) (Nat.le_of_ble_eq_true rfl) ?_
  refine bw_aload_n (z := 22) dX2_empty_21 rfl rfl ?_
  refine bw_getR (z := 25) (RX2, TX2, 4) 2 3 (b := 174) dX2_empty_22 rfl rfl (Nat.le_of_ble_eq_true rfl) fd_RX2_18 h171_3 ?_
  refine bw_iconst (z := 26) (-1) dX2_empty_25 rfl (by decide) ?_
  refine bw_callS (z := 29) (as := [.ref 174, .int (-1)]) (st := []) dX2_empty_26 rfl rfl (bm_fill l 174 9 175 (-1) _ rfl (Nat.le_of_ble_eq_true rfl) (Nat.lt_of_lt_of_le (Nat.le_of_ble_eq_true rfl : 9 < 1000000) (by decide))) cw_RX2_28 ⟨Nat.le_of_ble_eq_true rfl, Nat.le_of_ble_eq_true rfl⟩ (fun _ => Nat.le_of_ble_eq_true rfl) rfl (Nat.le_of_ble_eq_true rfl) (Nat.le_of_ble_eq_true rfl) ?_
  exact bw_vret rfl dX2_empty_29 rfl rfl rfl rfl
def bi_X2_init_171 (w : bw_T) : bw_T := (bi_X2_empty_171 (bp (bz (bp (bz (bp (bz w 172) 171 1 172) 173) 171 2 173) 174) 171 3 174))
theorem mbi_X2_init_171 (l : Launch) (w : bw_T) : BM l yX2_init cX2_init 1 3 163 3 27 [.ref 171] 172 w 175 (bi_X2_init_171 w) := by
  refine bw_met [some (.ref 171)] (Nat.le_of_ble_eq_true rfl) (by decide) (fun _ => rfl) (fun _ => Nat.le_of_ble_eq_true rfl) ?_
  show BW l ((yX2_init.cls, cX2_init, 1, none, 3, 163), yX2_init.name, 3, 27) 0 [some (.ref 171)] [] 172 0 0 w 175 (bi_X2_init_171 w)
  refine bw_aload_n (z := 1) dX2_init_0 rfl rfl ?_
  refine bw_objInit (z := 4) dX2_init_1 rfl tb_266 tb_30 tb_31 ⟨Nat.le_of_ble_eq_true rfl, Nat.le_of_ble_eq_true rfl⟩ (fun _ => Nat.le_of_ble_eq_true rfl) ?_
  refine bw_aload_n (z := 5) dX2_init_4 rfl rfl ?_
  refine bw_bipush (z := 7) 9 dX2_init_5 rfl (by decide) ?_
  refine bw_newI (z := 9) 9 dX2_init_7 rfl tb_146 rfl (by decide) (by decide) (Nat.le_of_ble_eq_true rfl) (Nat.le_of_ble_eq_true rfl) (Nat.le_of_ble_eq_true rfl) ?_
  refine bw_putR (z := 12) (RX2, TX2, 4) 2 1 (b := 172) (ty := (.array .int)) dX2_init_9 rfl rfl (Nat.le_of_ble_eq_true rfl) fd_RX2_9 ⟨tyX2, tyX2_ok⟩ nmX2 rfl rfl rfl (by decide +kernel) (fun _ => rfl) (fun _ => rfl) ?_
  refine bw_aload_n (z := 13) dX2_init_12 rfl rfl ?_
  refine bw_bipush (z := 15) 9 dX2_init_13 rfl (by decide) ?_
  refine bw_newI (z := 17) 9 dX2_init_15 rfl tb_146 rfl (by decide) (by decide) (Nat.le_of_ble_eq_true rfl) (Nat.le_of_ble_eq_true rfl) (Nat.le_of_ble_eq_true rfl) ?_
  refine bw_putR (z := 20) (RX2, TX2, 4) 2 2 (b := 173) (ty := (.array .int)) dX2_init_17 rfl rfl (Nat.le_of_ble_eq_true rfl) fd_RX2_15 ⟨tyX2, tyX2_ok⟩ nmX2 rfl rfl rfl (by decide +kernel) (fun _ => rfl) (fun _ => rfl) ?_
  refine bw_aload_n (z := 21) dX2_init_20 rfl rfl ?_
  refine bw_bipush (z := 23) 9 dX2_init_21 rfl (by decide) ?_
  refine bw_newI (z := 25) 9 dX2_init_23 rfl tb_146 rfl (by decide) (by decide) (Nat.le_of_ble_eq_true rfl) (Nat.le_of_ble_eq_true rfl) (Nat.le_of_ble_eq_true rfl) ?_
  refine bw_putR (z := 28) (RX2, TX2, 4) 2 3 (b := 174) (ty := (.array .int)) dX2_init_25 rfl rfl (Nat.le_of_ble_eq_true rfl) fd_RX2_18 ⟨tyX2, tyX2_ok⟩ nmX2 rfl rfl rfl (by decide +kernel) (fun _ => rfl) (fun _ => rfl) ?_
  refine bw_aload_n (z := 29) dX2_init_28 rfl rfl ?_
  refine bw_callV (z := 32) (as := []) (st := []) (RX2, TX2, 4) 2 dX2_init_29 rfl rfl (mbi_X2_empty_171 l _ rfl rfl rfl) rfl (Nat.le_of_ble_eq_true rfl) rfl rfl cw_RX2_21 ⟨Nat.le_of_ble_eq_true rfl, Nat.le_of_ble_eq_true rfl⟩ (fun _ => Nat.le_of_ble_eq_true rfl) rfl (Nat.le_of_ble_eq_true rfl) (Nat.le_of_ble_eq_true rfl) ?_
  exact bw_vret rfl dX2_init_32 rfl rfl rfl rfl
def bi_X3_init_175 (w : bw_T) : bw_T := (bp (bz (bp (bz (bp (bz (bp (bz w 176) 175 2 176) 177) 175 3 177) 178) 175 4 178) 179) 175 5 179)
theorem mbi_X3_init_175 (l : Launch) (w : bw_T) : BM l yX3_init cX3_init 1 1 120 4 140 [.ref 175] 176 w 180 (bi_X3_init_175 w) := by
  refine bw_met [some (.ref 175)] (Nat.le_of_ble_eq_true rfl) (by decide) (fun _ => rfl) (fun _ => Nat.le_of_ble_eq_true rfl) ?_
  show BW l ((yX3_init.cls, cX3_init, 1, none, 1, 120), yX3_init.name, 4, 140) 0 [some (.ref 175)] [] 176 0 0 w 180 (bi_X3_init_175 w)
  refine bw_aload_n (z := 1) dX3_init_0 rfl rfl ?_
  refine bw_objInit (z := 4) dX3_init_1 rfl tb_301 tb_30 tb_31 ⟨Nat.le_of_ble_eq_true rfl, Nat.le_of_ble_eq_true rfl⟩ (fun _ => Nat.le_of_ble_eq_true rfl) ?_
  refine bw_aload_n (z := 5) dX3_init_4 rfl rfl ?_
  refine bw_bipush (z := 7) 40 dX3_init_5 rfl (by decide) ?_
  refine bw_newI (z := 9) 40 dX3_init_7 rfl tb_146 rfl (by decide) (by decide) (Nat.le_of_ble_eq_true rfl) (Nat.le_of_ble_eq_true rfl) (Nat.le_of_ble_eq_true rfl) ?_
  refine bw_putR (z := 12) (RX3, TX3, 6) 3 2 (b := 176) (ty := (.array .int)) dX3_init_9 rfl rfl (Nat.le_of_ble_eq_true rfl) fd_RX3_11 ⟨tyX3, tyX3_ok⟩ nmX3 rfl rfl rfl (by decide +kernel) (fun _ => rfl) (fun _ => rfl) ?_
  refine bw_aload_n (z := 13) dX3_init_12 rfl rfl ?_
  refine bw_bipush (z := 15) 40 dX3_init_13 rfl (by decide) ?_
  refine bw_newI (z := 17) 40 dX3_init_15 rfl tb_146 rfl (by decide) (by decide) (Nat.le_of_ble_eq_true rfl) (Nat.le_of_ble_eq_true rfl) (Nat.le_of_ble_eq_true rfl) ?_
  refine bw_putR (z := 20) (RX3, TX3, 6) 3 3 (b := 177) (ty := (.array .int)) dX3_init_17 rfl rfl (Nat.le_of_ble_eq_true rfl) fd_RX3_15 ⟨tyX3, tyX3_ok⟩ nmX3 rfl rfl rfl (by decide +kernel) (fun _ => rfl) (fun _ => rfl) ?_
  refine bw_aload_n (z := 21) dX3_init_20 rfl rfl ?_
  refine bw_bipush (z := 23) 40 dX3_init_21 rfl (by decide) ?_
  refine bw_newI (z := 25) 40 dX3_init_23 rfl tb_146 rfl (by decide) (by decide) (Nat.le_of_ble_eq_true rfl) (Nat.le_of_ble_eq_true rfl) (Nat.le_of_ble_eq_true rfl) ?_
  refine bw_putR (z := 28) (RX3, TX3, 6) 3 4 (b := 178) (ty := (.array .int)) dX3_init_25 rfl rfl (Nat.le_of_ble_eq_true rfl) fd_RX3_18 ⟨tyX3, tyX3_ok⟩ nmX3 rfl rfl rfl (by decide +kernel) (fun _ => rfl) (fun _ => rfl) ?_
  refine bw_aload_n (z := 29) dX3_init_28 rfl rfl ?_
  refine bw_bipush (z := 31) 20 dX3_init_29 rfl (by decide) ?_
  refine bw_newZ (z := 33) 20 dX3_init_31 rfl tb_322 rfl (by decide) (by decide) (Nat.le_of_ble_eq_true rfl) (Nat.le_of_ble_eq_true rfl) (Nat.le_of_ble_eq_true rfl) ?_
  refine bw_putR (z := 36) (RX3, TX3, 6) 3 5 (b := 179) (ty := (.array .boolean)) dX3_init_33 rfl rfl (Nat.le_of_ble_eq_true rfl) fd_RX3_21 ⟨tyX3, tyX3_ok⟩ nmX3 rfl rfl rfl (by decide +kernel) (fun _ => rfl) (fun _ => rfl) ?_
  exact bw_vret rfl dX3_init_36 rfl rfl rfl rfl
def bi_X1_init_180 (w : bw_T) : bw_T := (bF (bp (bz (bp (bz (bp (bz (bp (bz (bp (bz (bp (bz (bp (bz (bp (bz (bp (bz (bp (bz w 181) 180 0 181) 182) 180 1 182) 183) 180 2 183) 184) 180 3 184) 185) 180 5 185) 186) 180 6 186) 187) 180 8 187) 188) 180 9 188) 189) 180 10 189) 190) 180 11 190) 187 (-1) 240)
theorem mbi_X1_init_180 (l : Launch) (w : bw_T) : BM l yX1_init cX1_init 1 2 143 10 1059 [.ref 180] 181 w 191 (bi_X1_init_180 w) := by
  refine bw_met [some (.ref 180)] (Nat.le_of_ble_eq_true rfl) (by decide) (fun _ => rfl) (fun _ => Nat.le_of_ble_eq_true rfl) ?_
  show BW l ((yX1_init.cls, cX1_init, 1, none, 2, 143), yX1_init.name, 10, 1059) 0 [some (.ref 180)] [] 181 0 0 w 191 (bi_X1_init_180 w)
  refine bw_aload_n (z := 1) dX1_init_0 rfl rfl ?_
  refine bw_objInit (z := 4) dX1_init_1 rfl tb_328 tb_30 tb_31 ⟨Nat.le_of_ble_eq_true rfl, Nat.le_of_ble_eq_true rfl⟩ (fun _ => Nat.le_of_ble_eq_true rfl) ?_
  refine bw_aload_n (z := 5) dX1_init_4 rfl rfl ?_
  refine bw_sipush (z := 8) 360 dX1_init_5 rfl (by decide) ?_
  refine bw_newI (z := 10) 360 dX1_init_8 rfl tb_146 rfl (by decide) (by decide) (Nat.le_of_ble_eq_true rfl) (Nat.le_of_ble_eq_true rfl) (Nat.le_of_ble_eq_true rfl) ?_
  refine bw_putR (z := 13) (RX1, TX1, 12) 1 0 (b := 181) (ty := (.array .int)) dX1_init_10 rfl rfl (Nat.le_of_ble_eq_true rfl) fd_RX1_11 ⟨tyX1, tyX1_ok⟩ nmX1 rfl rfl rfl (by decide +kernel) (fun _ => rfl) (fun _ => rfl) ?_
  refine bw_aload_n (z := 14) dX1_init_13 rfl rfl ?_
  refine bw_bipush (z := 16) 18 dX1_init_14 rfl (by decide) ?_
  refine bw_newI (z := 18) 18 dX1_init_16 rfl tb_146 rfl (by decide) (by decide) (Nat.le_of_ble_eq_true rfl) (Nat.le_of_ble_eq_true rfl) (Nat.le_of_ble_eq_true rfl) ?_
  refine bw_putR (z := 21) (RX1, TX1, 12) 1 1 (b := 182) (ty := (.array .int)) dX1_init_18 rfl rfl (Nat.le_of_ble_eq_true rfl) fd_RX1_15 ⟨tyX1, tyX1_ok⟩ nmX1 rfl rfl rfl (by decide +kernel) (fun _ => rfl) (fun _ => rfl) ?_
  refine bw_aload_n (z := 22) dX1_init_21 rfl rfl ?_
  refine bw_bipush (z := 24) 20 dX1_init_22 rfl (by decide) ?_
  refine bw_newZ (z := 26) 20 dX1_init_24 rfl tb_322 rfl (by decide) (by decide) (Nat.le_of_ble_eq_true rfl) (Nat.le_of_ble_eq_true rfl) (Nat.le_of_ble_eq_true rfl) ?_
  refine bw_putR (z := 29) (RX1, TX1, 12) 1 2 (b := 183) (ty := (.array .boolean)) dX1_init_26 rfl rfl (Nat.le_of_ble_eq_true rfl) fd_RX1_18 ⟨tyX1, tyX1_ok⟩ nmX1 rfl rfl rfl (by decide +kernel) (fun _ => rfl) (fun _ => rfl) ?_
  refine bw_aload_n (z := 30) dX1_init_29 rfl rfl ?_
  refine bw_bipush (z := 32) 20 dX1_init_30 rfl (by decide) ?_
  refine bw_newI (z := 34) 20 dX1_init_32 rfl tb_146 rfl (by decide) (by decide) (Nat.le_of_ble_eq_true rfl) (Nat.le_of_ble_eq_true rfl) (Nat.le_of_ble_eq_true rfl) ?_
  refine bw_putR (z := 37) (RX1, TX1, 12) 1 3 (b := 184) (ty := (.array .int)) dX1_init_34 rfl rfl (Nat.le_of_ble_eq_true rfl) fd_RX1_22 ⟨tyX1, tyX1_ok⟩ nmX1 rfl rfl rfl (by decide +kernel) (fun _ => rfl) (fun _ => rfl) ?_
  refine bw_aload_n (z := 38) dX1_init_37 rfl rfl ?_
  refine bw_bipush (z := 40) 60 dX1_init_38 rfl (by decide) ?_
  refine bw_newI (z := 42) 60 dX1_init_40 rfl tb_146 rfl (by decide) (by decide) (Nat.le_of_ble_eq_true rfl) (Nat.le_of_ble_eq_true rfl) (Nat.le_of_ble_eq_true rfl) ?_
  refine bw_putR (z := 45) (RX1, TX1, 12) 1 5 (b := 185) (ty := (.array .int)) dX1_init_42 rfl rfl (Nat.le_of_ble_eq_true rfl) fd_RX1_25 ⟨tyX1, tyX1_ok⟩ nmX1 rfl rfl rfl (by decide +kernel) (fun _ => rfl) (fun _ => rfl) ?_
  refine bw_aload_n (z := 46) dX1_init_45 rfl rfl ?_
  refine bw_bipush (z := 48) 100 dX1_init_46 rfl (by decide) ?_
  refine bw_newI (z := 50) 100 dX1_init_48 rfl tb_146 rfl (by decide) (by decide) (Nat.le_of_ble_eq_true rfl) (Nat.le_of_ble_eq_true rfl) (Nat.le_of_ble_eq_true rfl) ?_
  refine bw_putR (z := 53) (RX1, TX1, 12) 1 6 (b := 186) (ty := (.array .int)) dX1_init_50 rfl rfl (Nat.le_of_ble_eq_true rfl) fd_RX1_28 ⟨tyX1, tyX1_ok⟩ nmX1 rfl rfl rfl (by decide +kernel) (fun _ => rfl) (fun _ => rfl) ?_
  refine bw_aload_n (z := 54) dX1_init_53 rfl rfl ?_
  refine bw_sipush (z := 57) 240 dX1_init_54 rfl (by decide) ?_
  refine bw_newI (z := 59) 240 dX1_init_57 rfl tb_146 rfl (by decide) (by decide) (Nat.le_of_ble_eq_true rfl) (Nat.le_of_ble_eq_true rfl) (Nat.le_of_ble_eq_true rfl) ?_
  refine bw_putR (z := 62) (RX1, TX1, 12) 1 8 (b := 187) (ty := (.array .int)) dX1_init_59 rfl rfl (Nat.le_of_ble_eq_true rfl) fd_RX1_31 ⟨tyX1, tyX1_ok⟩ nmX1 rfl rfl rfl (by decide +kernel) (fun _ => rfl) (fun _ => rfl) ?_
  refine bw_aload_n (z := 63) dX1_init_62 rfl rfl ?_
  refine bw_bipush (z := 65) 80 dX1_init_63 rfl (by decide) ?_
  refine bw_newI (z := 67) 80 dX1_init_65 rfl tb_146 rfl (by decide) (by decide) (Nat.le_of_ble_eq_true rfl) (Nat.le_of_ble_eq_true rfl) (Nat.le_of_ble_eq_true rfl) ?_
  refine bw_putR (z := 70) (RX1, TX1, 12) 1 9 (b := 188) (ty := (.array .int)) dX1_init_67 rfl rfl (Nat.le_of_ble_eq_true rfl) fd_RX1_34 ⟨tyX1, tyX1_ok⟩ nmX1 rfl rfl rfl (by decide +kernel) (fun _ => rfl) (fun _ => rfl) ?_
  refine bw_aload_n (z := 71) dX1_init_70 rfl rfl ?_
  refine bw_bipush (z := 73) 81 dX1_init_71 rfl (by decide) ?_
  refine bw_newI (z := 75) 81 dX1_init_73 rfl tb_146 rfl (by decide) (by decide) (Nat.le_of_ble_eq_true rfl) (Nat.le_of_ble_eq_true rfl) (Nat.le_of_ble_eq_true rfl) ?_
  refine bw_putR (z := 78) (RX1, TX1, 12) 1 10 (b := 189) (ty := (.array .int)) dX1_init_75 rfl rfl (Nat.le_of_ble_eq_true rfl) fd_RX1_37 ⟨tyX1, tyX1_ok⟩ nmX1 rfl rfl rfl (by decide +kernel) (fun _ => rfl) (fun _ => rfl) ?_
  refine bw_aload_n (z := 79) dX1_init_78 rfl rfl ?_
  refine bw_bipush (z := 81) 80 dX1_init_79 rfl (by decide) ?_
  refine bw_newI (z := 83) 80 dX1_init_81 rfl tb_146 rfl (by decide) (by decide) (Nat.le_of_ble_eq_true rfl) (Nat.le_of_ble_eq_true rfl) (Nat.le_of_ble_eq_true rfl) ?_
  refine bw_putR (z := 86) (RX1, TX1, 12) 1 11 (b := 190) (ty := (.array .int)) dX1_init_83 rfl rfl (Nat.le_of_ble_eq_true rfl) fd_RX1_40 ⟨tyX1, tyX1_ok⟩ nmX1 rfl rfl rfl (by decide +kernel) (fun _ => rfl) (fun _ => rfl) ?_
  refine bw_aload_n (z := 87) dX1_init_86 rfl rfl ?_
  refine bw_getR (z := 90) (RX1, TX1, 12) 1 8 (b := 187) dX1_init_87 rfl rfl (Nat.le_of_ble_eq_true rfl) fd_RX1_31 rfl ?_
  refine bw_iconst (z := 91) (-1) dX1_init_90 rfl (by decide) ?_
  refine bw_callS (z := 94) (as := [.ref 187, .int (-1)]) (st := []) dX1_init_91 rfl rfl (bm_fill l 187 240 191 (-1) _ rfl (Nat.le_of_ble_eq_true rfl) (Nat.lt_of_lt_of_le (Nat.le_of_ble_eq_true rfl : 240 < 1000000) (by decide))) cw_RX1_43 ⟨Nat.le_of_ble_eq_true rfl, Nat.le_of_ble_eq_true rfl⟩ (fun _ => Nat.le_of_ble_eq_true rfl) rfl (Nat.le_of_ble_eq_true rfl) (Nat.le_of_ble_eq_true rfl) ?_
  exact bw_vret rfl dX1_init_94 rfl rfl rfl rfl
def bi_X0_init_191 (w : bw_T) : bw_T := (bp (bp (bp (bp (bz (bp (bz (bp (bz (bp (bz (bp (bz (bp (bz (bp (bz (bp (bz (bp (bz (bp (bz (bp (bz w 192) 191 8 192) 193) 191 9 193) 194) 191 10 194) 195) 191 11 195) 196) 191 12 196) 197) 191 13 197) 198) 191 14 198) 199) 191 15 199) 200) 191 16 200) 201) 191 17 201) 202) 191 19 202) 191 0 157) 191 1 171) 191 2 180)
theorem mbi_X0_init_191 (l : Launch) (w : bw_T) : BM l yX0_init cX0_init 4 1 120 11 515 [.ref 191, .ref 157, .ref 171, .ref 180] 192 w 203 (bi_X0_init_191 w) := by
  refine bw_met [some (.ref 191), some (.ref 157), some (.ref 171), some (.ref 180)] (Nat.le_of_ble_eq_true rfl) (by decide) (fun _ => rfl) (fun _ => Nat.le_of_ble_eq_true rfl) ?_
  show BW l ((yX0_init.cls, cX0_init, 4, none, 1, 120), yX0_init.name, 11, 515) 0 [some (.ref 191), some (.ref 157), some (.ref 171), some (.ref 180)] [] 192 0 0 w 203 (bi_X0_init_191 w)
  refine bw_aload_n (z := 1) dX0_init_0 rfl rfl ?_
  refine bw_objInit (z := 4) dX0_init_1 rfl tb_387 tb_30 tb_31 ⟨Nat.le_of_ble_eq_true rfl, Nat.le_of_ble_eq_true rfl⟩ (fun _ => Nat.le_of_ble_eq_true rfl) ?_
  refine bw_aload_n (z := 5) dX0_init_4 rfl rfl ?_
  refine bw_iconst (z := 6) 5 dX0_init_5 rfl (by decide) ?_
  refine bw_newI (z := 8) 5 dX0_init_6 rfl tb_146 rfl (by decide) (by decide) (Nat.le_of_ble_eq_true rfl) (Nat.le_of_ble_eq_true rfl) (Nat.le_of_ble_eq_true rfl) ?_
  refine bw_putR (z := 11) (RX0, TX0, 20) 0 8 (b := 192) (ty := (.array .int)) dX0_init_8 rfl rfl (Nat.le_of_ble_eq_true rfl) fd_RX0_9 ⟨tyX0, tyX0_ok⟩ nmX0 rfl rfl rfl (by decide +kernel) (fun _ => rfl) (fun _ => rfl) ?_
  refine bw_aload_n (z := 12) dX0_init_11 rfl rfl ?_
  refine bw_bipush (z := 14) 9 dX0_init_12 rfl (by decide) ?_
  refine bw_newI (z := 16) 9 dX0_init_14 rfl tb_146 rfl (by decide) (by decide) (Nat.le_of_ble_eq_true rfl) (Nat.le_of_ble_eq_true rfl) (Nat.le_of_ble_eq_true rfl) ?_
  refine bw_putR (z := 19) (RX0, TX0, 20) 0 9 (b := 193) (ty := (.array .int)) dX0_init_16 rfl rfl (Nat.le_of_ble_eq_true rfl) fd_RX0_15 ⟨tyX0, tyX0_ok⟩ nmX0 rfl rfl rfl (by decide +kernel) (fun _ => rfl) (fun _ => rfl) ?_
  refine bw_aload_n (z := 20) dX0_init_19 rfl rfl ?_
  refine bw_bipush (z := 22) 9 dX0_init_20 rfl (by decide) ?_
  refine bw_newI (z := 24) 9 dX0_init_22 rfl tb_146 rfl (by decide) (by decide) (Nat.le_of_ble_eq_true rfl) (Nat.le_of_ble_eq_true rfl) (Nat.le_of_ble_eq_true rfl) ?_
  refine bw_putR (z := 27) (RX0, TX0, 20) 0 10 (b := 194) (ty := (.array .int)) dX0_init_24 rfl rfl (Nat.le_of_ble_eq_true rfl) fd_RX0_18 ⟨tyX0, tyX0_ok⟩ nmX0 rfl rfl rfl (by decide +kernel) (fun _ => rfl) (fun _ => rfl) ?_
  refine bw_aload_n (z := 28) dX0_init_27 rfl rfl ?_
  refine bw_bipush (z := 30) 9 dX0_init_28 rfl (by decide) ?_
  refine bw_newI (z := 32) 9 dX0_init_30 rfl tb_146 rfl (by decide) (by decide) (Nat.le_of_ble_eq_true rfl) (Nat.le_of_ble_eq_true rfl) (Nat.le_of_ble_eq_true rfl) ?_
  refine bw_putR (z := 35) (RX0, TX0, 20) 0 11 (b := 195) (ty := (.array .int)) dX0_init_32 rfl rfl (Nat.le_of_ble_eq_true rfl) fd_RX0_21 ⟨tyX0, tyX0_ok⟩ nmX0 rfl rfl rfl (by decide +kernel) (fun _ => rfl) (fun _ => rfl) ?_
  refine bw_aload_n (z := 36) dX0_init_35 rfl rfl ?_
  refine bw_bipush (z := 38) 9 dX0_init_36 rfl (by decide) ?_
  refine bw_newI (z := 40) 9 dX0_init_38 rfl tb_146 rfl (by decide) (by decide) (Nat.le_of_ble_eq_true rfl) (Nat.le_of_ble_eq_true rfl) (Nat.le_of_ble_eq_true rfl) ?_
  refine bw_putR (z := 43) (RX0, TX0, 20) 0 12 (b := 196) (ty := (.array .int)) dX0_init_40 rfl rfl (Nat.le_of_ble_eq_true rfl) fd_RX0_24 ⟨tyX0, tyX0_ok⟩ nmX0 rfl rfl rfl (by decide +kernel) (fun _ => rfl) (fun _ => rfl) ?_
  refine bw_aload_n (z := 44) dX0_init_43 rfl rfl ?_
  refine bw_sipush (z := 47) 180 dX0_init_44 rfl (by decide) ?_
  refine bw_newI (z := 49) 180 dX0_init_47 rfl tb_146 rfl (by decide) (by decide) (Nat.le_of_ble_eq_true rfl) (Nat.le_of_ble_eq_true rfl) (Nat.le_of_ble_eq_true rfl) ?_
  refine bw_putR (z := 52) (RX0, TX0, 20) 0 13 (b := 197) (ty := (.array .int)) dX0_init_49 rfl rfl (Nat.le_of_ble_eq_true rfl) fd_RX0_27 ⟨tyX0, tyX0_ok⟩ nmX0 rfl rfl rfl (by decide +kernel) (fun _ => rfl) (fun _ => rfl) ?_
  refine bw_aload_n (z := 53) dX0_init_52 rfl rfl ?_
  refine bw_bipush (z := 55) 20 dX0_init_53 rfl (by decide) ?_
  refine bw_newI (z := 57) 20 dX0_init_55 rfl tb_146 rfl (by decide) (by decide) (Nat.le_of_ble_eq_true rfl) (Nat.le_of_ble_eq_true rfl) (Nat.le_of_ble_eq_true rfl) ?_
  refine bw_putR (z := 60) (RX0, TX0, 20) 0 14 (b := 198) (ty := (.array .int)) dX0_init_57 rfl rfl (Nat.le_of_ble_eq_true rfl) fd_RX0_30 ⟨tyX0, tyX0_ok⟩ nmX0 rfl rfl rfl (by decide +kernel) (fun _ => rfl) (fun _ => rfl) ?_
  refine bw_aload_n (z := 61) dX0_init_60 rfl rfl ?_
  refine bw_bipush (z := 63) 20 dX0_init_61 rfl (by decide) ?_
  refine bw_newI (z := 65) 20 dX0_init_63 rfl tb_146 rfl (by decide) (by decide) (Nat.le_of_ble_eq_true rfl) (Nat.le_of_ble_eq_true rfl) (Nat.le_of_ble_eq_true rfl) ?_
  refine bw_putR (z := 68) (RX0, TX0, 20) 0 15 (b := 199) (ty := (.array .int)) dX0_init_65 rfl rfl (Nat.le_of_ble_eq_true rfl) fd_RX0_33 ⟨tyX0, tyX0_ok⟩ nmX0 rfl rfl rfl (by decide +kernel) (fun _ => rfl) (fun _ => rfl) ?_
  refine bw_aload_n (z := 69) dX0_init_68 rfl rfl ?_
  refine bw_bipush (z := 71) 100 dX0_init_69 rfl (by decide) ?_
  refine bw_newI (z := 73) 100 dX0_init_71 rfl tb_146 rfl (by decide) (by decide) (Nat.le_of_ble_eq_true rfl) (Nat.le_of_ble_eq_true rfl) (Nat.le_of_ble_eq_true rfl) ?_
  refine bw_putR (z := 76) (RX0, TX0, 20) 0 16 (b := 200) (ty := (.array .int)) dX0_init_73 rfl rfl (Nat.le_of_ble_eq_true rfl) fd_RX0_36 ⟨tyX0, tyX0_ok⟩ nmX0 rfl rfl rfl (by decide +kernel) (fun _ => rfl) (fun _ => rfl) ?_
  refine bw_aload_n (z := 77) dX0_init_76 rfl rfl ?_
  refine bw_bipush (z := 79) 100 dX0_init_77 rfl (by decide) ?_
  refine bw_newI (z := 81) 100 dX0_init_79 rfl tb_146 rfl (by decide) (by decide) (Nat.le_of_ble_eq_true rfl) (Nat.le_of_ble_eq_true rfl) (Nat.le_of_ble_eq_true rfl) ?_
  refine bw_putR (z := 84) (RX0, TX0, 20) 0 17 (b := 201) (ty := (.array .int)) dX0_init_81 rfl rfl (Nat.le_of_ble_eq_true rfl) fd_RX0_39 ⟨tyX0, tyX0_ok⟩ nmX0 rfl rfl rfl (by decide +kernel) (fun _ => rfl) (fun _ => rfl) ?_
  refine bw_aload_n (z := 85) dX0_init_84 rfl rfl ?_
  refine bw_bipush (z := 87) 54 dX0_init_85 rfl (by decide) ?_
  refine bw_newI (z := 89) 54 dX0_init_87 rfl tb_146 rfl (by decide) (by decide) (Nat.le_of_ble_eq_true rfl) (Nat.le_of_ble_eq_true rfl) (Nat.le_of_ble_eq_true rfl) ?_
  refine bw_putR (z := 92) (RX0, TX0, 20) 0 19 (b := 202) (ty := (.array .int)) dX0_init_89 rfl rfl (Nat.le_of_ble_eq_true rfl) fd_RX0_42 ⟨tyX0, tyX0_ok⟩ nmX0 rfl rfl rfl (by decide +kernel) (fun _ => rfl) (fun _ => rfl) ?_
  refine bw_aload_n (z := 93) dX0_init_92 rfl rfl ?_
  refine bw_aload_n (z := 94) dX0_init_93 rfl rfl ?_
  refine bw_putR (z := 97) (RX0, TX0, 20) 0 0 (b := 157) (ty := (.object "OrangeFight$Town")) dX0_init_94 rfl rfl (Nat.le_of_ble_eq_true rfl) fd_RX0_45 ⟨tyX0, tyX0_ok⟩ nmX0 rfl rfl rfl (by decide +kernel) (fun _ => rfl) (fun _ => rfl) ?_
  refine bw_aload_n (z := 98) dX0_init_97 rfl rfl ?_
  refine bw_aload_n (z := 99) dX0_init_98 rfl rfl ?_
  refine bw_putR (z := 102) (RX0, TX0, 20) 0 1 (b := 171) (ty := (.object "OrangeFight$Plans")) dX0_init_99 rfl rfl (Nat.le_of_ble_eq_true rfl) fd_RX0_49 ⟨tyX0, tyX0_ok⟩ nmX0 rfl rfl rfl (by decide +kernel) (fun _ => rfl) (fun _ => rfl) ?_
  refine bw_aload_n (z := 103) dX0_init_102 rfl rfl ?_
  refine bw_aload_n (z := 104) dX0_init_103 rfl rfl ?_
  refine bw_putR (z := 107) (RX0, TX0, 20) 0 2 (b := 180) (ty := (.object "OrangeFight$Ground")) dX0_init_104 rfl rfl (Nat.le_of_ble_eq_true rfl) fd_RX0_53 ⟨tyX0, tyX0_ok⟩ nmX0 rfl rfl rfl (by decide +kernel) (fun _ => rfl) (fun _ => rfl) ?_
  exact bw_vret rfl dX0_init_107 rfl rfl rfl rfl
def bi_X4_init_156 (w : bw_T) : bw_T := (bp (bi_X0_init_191 (bz (bp (bi_X1_init_180 (bz (bp (bi_X3_init_175 (bz (bp (bi_X2_init_171 (bz (bp (bi_X8_init_157 (bz w 157)) 156 0 157) 171)) 156 1 171) 175)) 156 2 175) 180)) 156 3 180) 191)) 156 4 191)
theorem mbi_X4_init_156 (l : Launch) (w : bw_T) : BM l yX4_init cX4_init 1 4 183 46 2136 [.ref 156] 157 w 203 (bi_X4_init_156 w) := by
  refine bw_met [some (.ref 156)] (Nat.le_of_ble_eq_true rfl) (by decide) (fun _ => rfl) (fun _ => Nat.le_of_ble_eq_true rfl) ?_
  show BW l ((yX4_init.cls, cX4_init, 1, none, 4, 183), yX4_init.name, 46, 2136) 0 [some (.ref 156)] [] 157 0 0 w 203 (bi_X4_init_156 w)
  refine bw_aload_n (z := 1) dX4_init_0 rfl rfl ?_
  refine bw_objInit (z := 4) dX4_init_1 rfl tb_154 tb_30 tb_31 ⟨Nat.le_of_ble_eq_true rfl, Nat.le_of_ble_eq_true rfl⟩ (fun _ => Nat.le_of_ble_eq_true rfl) ?_
  refine bw_aload_n (z := 5) dX4_init_4 rfl rfl ?_
  refine bw_new (z := 8) 8 (RX8, TX8, 20) tyX8 dX4_init_5 rfl rfl tb_155 tb_156 tb_8 inTB_8 tyX8_ok rfl bnf_8 (Nat.le_of_ble_eq_true rfl) (Nat.le_of_ble_eq_true rfl) ?_
  refine bw_dup (z := 9) dX4_init_8 rfl (fun _ => rfl) ?_
  refine bw_callI (z := 12) (as := []) (st := [.ref 157, .ref 156]) dX4_init_9 rfl rfl (mbi_X8_init_157 l _) ⟨tb_159, tb_8, ⟨by decide, by decide⟩, by decide +kernel, tb_157⟩ rfl tb_158 ⟨Nat.le_of_ble_eq_true rfl, Nat.le_of_ble_eq_true rfl⟩ (fun _ => Nat.le_of_ble_eq_true rfl) rfl (Nat.le_of_ble_eq_true rfl) (Nat.le_of_ble_eq_true rfl) ?_
  refine bw_putR (z := 15) (RX4, TX4, 5) 4 0 (b := 157) (ty := (.object "OrangeFight$Town")) dX4_init_12 rfl rfl (Nat.le_of_ble_eq_true rfl) fd_RX4_10 ⟨tyX4, tyX4_ok⟩ nmX4 rfl rfl rfl (by decide +kernel) (fun _ => rfl) (fun _ => rfl) ?_
  refine bw_aload_n (z := 16) dX4_init_15 rfl rfl ?_
  refine bw_new (z := 19) 2 (RX2, TX2, 4) tyX2 dX4_init_16 rfl rfl tb_261 tb_262 tb_10 inTB_2 tyX2_ok rfl bnf_2 (Nat.le_of_ble_eq_true rfl) (Nat.le_of_ble_eq_true rfl) ?_
  refine bw_dup (z := 20) dX4_init_19 rfl (fun _ => rfl) ?_
  refine bw_callI (z := 23) (as := []) (st := [.ref 171, .ref 156]) dX4_init_20 rfl rfl (mbi_X2_init_171 l _) ⟨tb_265, tb_10, ⟨by decide, by decide⟩, by decide +kernel, tb_263⟩ rfl tb_264 ⟨Nat.le_of_ble_eq_true rfl, Nat.le_of_ble_eq_true rfl⟩ (fun _ => Nat.le_of_ble_eq_true rfl) rfl (Nat.le_of_ble_eq_true rfl) (Nat.le_of_ble_eq_true rfl) ?_
  refine bw_putR (z := 26) (RX4, TX4, 5) 4 1 (b := 171) (ty := (.object "OrangeFight$Plans")) dX4_init_23 rfl rfl (Nat.le_of_ble_eq_true rfl) fd_RX4_19 ⟨tyX4, tyX4_ok⟩ nmX4 rfl rfl rfl (by decide +kernel) (fun _ => rfl) (fun _ => rfl) ?_
  refine bw_aload_n (z := 27) dX4_init_26 rfl rfl ?_
  refine bw_new (z := 30) 3 (RX3, TX3, 6) tyX3 dX4_init_27 rfl rfl tb_296 tb_297 tb_11 inTB_3 tyX3_ok rfl bnf_3 (Nat.le_of_ble_eq_true rfl) (Nat.le_of_ble_eq_true rfl) ?_
  refine bw_dup (z := 31) dX4_init_30 rfl (fun _ => rfl) ?_
  refine bw_callIN (z := 34) RX10 (as := []) (st := [.ref 175, .ref 156]) dX4_init_31 rfl rfl (mbi_X3_init_175 l _) ⟨tb_300, tb_11, ⟨by decide, by decide⟩, by decide +kernel, by decide +kernel⟩ rfl tb_299 ⟨Nat.le_of_ble_eq_true rfl, Nat.le_of_ble_eq_true rfl⟩ (fun _ => Nat.le_of_ble_eq_true rfl) rfl (Nat.le_of_ble_eq_true rfl) (Nat.le_of_ble_eq_true rfl) ?_
  refine bw_putR (z := 37) (RX4, TX4, 5) 4 2 (b := 175) (ty := (.object "OrangeFight$Saying")) dX4_init_34 rfl rfl (Nat.le_of_ble_eq_true rfl) fd_RX4_26 ⟨tyX4, tyX4_ok⟩ nmX4 rfl rfl rfl (by decide +kernel) (fun _ => rfl) (fun _ => rfl) ?_
  refine bw_aload_n (z := 38) dX4_init_37 rfl rfl ?_
  refine bw_new (z := 41) 1 (RX1, TX1, 12) tyX1 dX4_init_38 rfl rfl tb_323 tb_324 tb_12 inTB_1 tyX1_ok rfl bnf_1 (Nat.le_of_ble_eq_true rfl) (Nat.le_of_ble_eq_true rfl) ?_
  refine bw_dup (z := 42) dX4_init_41 rfl (fun _ => rfl) ?_
  refine bw_callI (z := 45) (as := []) (st := [.ref 180, .ref 156]) dX4_init_42 rfl rfl (mbi_X1_init_180 l _) ⟨tb_327, tb_12, ⟨by decide, by decide⟩, by decide +kernel, tb_325⟩ rfl tb_326 ⟨Nat.le_of_ble_eq_true rfl, Nat.le_of_ble_eq_true rfl⟩ (fun _ => Nat.le_of_ble_eq_true rfl) rfl (Nat.le_of_ble_eq_true rfl) (Nat.le_of_ble_eq_true rfl) ?_
  refine bw_putR (z := 48) (RX4, TX4, 5) 4 3 (b := 180) (ty := (.object "OrangeFight$Ground")) dX4_init_45 rfl rfl (Nat.le_of_ble_eq_true rfl) fd_RX4_33 ⟨tyX4, tyX4_ok⟩ nmX4 rfl rfl rfl (by decide +kernel) (fun _ => rfl) (fun _ => rfl) ?_
  refine bw_aload_n (z := 49) dX4_init_48 rfl rfl ?_
  refine bw_new (z := 52) 0 (RX0, TX0, 20) tyX0 dX4_init_49 rfl rfl tb_382 tb_383 tb_13 inTB_0 tyX0_ok rfl bnf_0 (Nat.le_of_ble_eq_true rfl) (Nat.le_of_ble_eq_true rfl) ?_
  refine bw_dup (z := 53) dX4_init_52 rfl (fun _ => rfl) ?_
  refine bw_aload_n (z := 54) dX4_init_53 rfl rfl ?_
  refine bw_getR (z := 57) (RX4, TX4, 5) 4 0 (b := 157) dX4_init_54 rfl rfl (Nat.le_of_ble_eq_true rfl) fd_RX4_10 rfl ?_
  refine bw_aload_n (z := 58) dX4_init_57 rfl rfl ?_
  refine bw_getR (z := 61) (RX4, TX4, 5) 4 1 (b := 171) dX4_init_58 rfl rfl (Nat.le_of_ble_eq_true rfl) fd_RX4_19 rfl ?_
  refine bw_aload_n (z := 62) dX4_init_61 rfl rfl ?_
  refine bw_getR (z := 65) (RX4, TX4, 5) 4 3 (b := 180) dX4_init_62 rfl rfl (Nat.le_of_ble_eq_true rfl) fd_RX4_33 rfl ?_
  refine bw_callI (z := 68) (as := [.ref 157, .ref 171, .ref 180]) (st := [.ref 191, .ref 156]) dX4_init_65 rfl rfl (mbi_X0_init_191 l _) ⟨tb_386, tb_13, ⟨by decide, by decide⟩, by decide +kernel, tb_384⟩ rfl tb_385 ⟨Nat.le_of_ble_eq_true rfl, Nat.le_of_ble_eq_true rfl⟩ (fun _ => Nat.le_of_ble_eq_true rfl) rfl (Nat.le_of_ble_eq_true rfl) (Nat.le_of_ble_eq_true rfl) ?_
  refine bw_putR (z := 71) (RX4, TX4, 5) 4 4 (b := 191) (ty := (.object "OrangeFight$Fight")) dX4_init_68 rfl rfl (Nat.le_of_ble_eq_true rfl) fd_RX4_42 ⟨tyX4, tyX4_ok⟩ nmX4 rfl rfl rfl (by decide +kernel) (fun _ => rfl) (fun _ => rfl) ?_
  exact bw_vret rfl dX4_init_71 rfl rfl rfl rfl
def bi_X10_init_0 (w : bw_T) : bw_T := (bp (bi_X4_init_156 (bz (bp (bi_X4_init_109 (bz (bp (bi_X9_init_101 (bz (bp (bi_X7_init_97 (bz (bp (bi_X5_init_88 (bz (bp (bi_X0_init_76 (bz (bp (bi_X3_init_71 (bz (bp (bi_X2_init_67 (bz (bp (bi_X8_init_53 (bz (bp (bz (bp (bz (bp (bi_X4_init_4 (bz (bp (bi_X6_init_1 (bz w 1)) 0 0 1) 4)) 0 1 4) 51) 0 2 51) 52) 0 3 52) 53)) 0 4 53) 67)) 0 5 67) 71)) 0 6 71) 76)) 0 7 76) 88)) 0 8 88) 97)) 0 9 97) 101)) 0 10 101) 109)) 51 0 109) 156)) 51 1 156)
set_option maxRecDepth 100000 in
theorem mbi_X10_init_0 (l : Launch) (w : bw_T) : BM l yX10_init cX10_init 2 9 725 202 11136 [.ref 0] 1 w 203 (bi_X10_init_0 w) := by
  refine bw_met [some (.ref 0), none] (Nat.le_of_ble_eq_true rfl) (by decide) (fun _ => rfl) (fun _ => Nat.le_of_ble_eq_true rfl) ?_
  show BW l ((yX10_init.cls, cX10_init, 2, none, 9, 725), yX10_init.name, 202, 11136) 0 [some (.ref 0), none] [] 1 0 0 w 203 (bi_X10_init_0 w)
  refine bw_aload_n (z := 1) dX10_init_0 rfl rfl ?_
  refine bw_objInit (z := 4) dX10_init_1 rfl tb_29 tb_30 tb_31 ⟨Nat.le_of_ble_eq_true rfl, Nat.le_of_ble_eq_true rfl⟩ (fun _ => Nat.le_of_ble_eq_true rfl) ?_
  refine bw_aload_n (z := 5) dX10_init_4 rfl rfl ?_
  refine bw_new (z := 8) 6 (RX6, TX6, 13) tyX6 dX10_init_5 rfl rfl tb_32 tb_33 tb_2 inTB_6 tyX6_ok rfl bnf_6 (Nat.le_of_ble_eq_true rfl) (Nat.le_of_ble_eq_true rfl) ?_
  refine bw_dup (z := 9) dX10_init_8 rfl (fun _ => rfl) ?_
  refine bw_callI (z := 12) (as := []) (st := [.ref 1, .ref 0]) dX10_init_9 rfl rfl (mbi_X6_init_1 l _) ⟨tb_36, tb_2, ⟨by decide, by decide⟩, by decide +kernel, tb_34⟩ rfl tb_35 ⟨Nat.le_of_ble_eq_true rfl, Nat.le_of_ble_eq_true rfl⟩ (fun _ => Nat.le_of_ble_eq_true rfl) rfl (Nat.le_of_ble_eq_true rfl) (Nat.le_of_ble_eq_true rfl) ?_
  refine bw_putR (z := 15) (RX10, TX10, 12) 10 0 (b := 1) (ty := (.object "OrangeFight$Tape")) dX10_init_12 rfl rfl (Nat.le_of_ble_eq_true rfl) fd_RX10_12 ⟨tyX10, tyX10_ok⟩ nmX10 rfl rfl rfl (by decide +kernel) (fun _ => rfl) (fun _ => rfl) ?_
  refine bw_aload_n (z := 16) dX10_init_15 rfl rfl ?_
  refine bw_new (z := 19) 4 (RX4, TX4, 5) tyX4 dX10_init_16 rfl rfl tb_149 tb_150 tb_7 inTB_4 tyX4_ok rfl bnf_4 (Nat.le_of_ble_eq_true rfl) (Nat.le_of_ble_eq_true rfl) ?_
  refine bw_dup (z := 20) dX10_init_19 rfl (fun _ => rfl) ?_
  refine bw_callIN (z := 23) RX10 (as := []) (st := [.ref 4, .ref 0]) dX10_init_20 rfl rfl (mbi_X4_init_4 l _) ⟨tb_153, tb_7, ⟨by decide, by decide⟩, by decide +kernel, by decide +kernel⟩ rfl tb_152 ⟨Nat.le_of_ble_eq_true rfl, Nat.le_of_ble_eq_true rfl⟩ (fun _ => Nat.le_of_ble_eq_true rfl) rfl (Nat.le_of_ble_eq_true rfl) (Nat.le_of_ble_eq_true rfl) ?_
  refine bw_putR (z := 26) (RX10, TX10, 12) 10 1 (b := 4) (ty := (.object "OrangeFight$Scene")) dX10_init_23 rfl rfl (Nat.le_of_ble_eq_true rfl) fd_RX10_19 ⟨tyX10, tyX10_ok⟩ nmX10 rfl rfl rfl (by decide +kernel) (fun _ => rfl) (fun _ => rfl) ?_
  refine bw_aload_n (z := 27) dX10_init_26 rfl rfl ?_
  refine bw_iconst (z := 28) 2 dX10_init_27 rfl (by decide) ?_
  refine bw_newS (z := 31) dX10_init_28 rfl tb_149 rfl (by decide) (Nat.le_of_ble_eq_true rfl) (Nat.le_of_ble_eq_true rfl) ?_
  refine bw_putR (z := 34) (RX10, TX10, 12) 10 2 (b := 51) (ty := (.array (.object "OrangeFight$Scene"))) dX10_init_31 rfl rfl (Nat.le_of_ble_eq_true rfl) fd_RX10_23 ⟨tyX10, tyX10_ok⟩ nmX10 rfl rfl rfl (by decide +kernel) (fun _ => rfl) (fun _ => rfl) ?_
  refine bw_aload_n (z := 35) dX10_init_34 rfl rfl ?_
  refine bw_iconst (z := 36) 2 dX10_init_35 rfl (by decide) ?_
  refine bw_newZ (z := 38) 2 dX10_init_36 rfl tb_322 rfl (by decide) (by decide) (Nat.le_of_ble_eq_true rfl) (Nat.le_of_ble_eq_true rfl) (Nat.le_of_ble_eq_true rfl) ?_
  refine bw_putR (z := 41) (RX10, TX10, 12) 10 3 (b := 52) (ty := (.array .boolean)) dX10_init_38 rfl rfl (Nat.le_of_ble_eq_true rfl) fd_RX10_27 ⟨tyX10, tyX10_ok⟩ nmX10 rfl rfl rfl (by decide +kernel) (fun _ => rfl) (fun _ => rfl) ?_
  refine bw_aload_n (z := 42) dX10_init_41 rfl rfl ?_
  refine bw_new (z := 45) 8 (RX8, TX8, 20) tyX8 dX10_init_42 rfl rfl tb_489 tb_156 tb_8 inTB_8 tyX8_ok rfl bnf_8 (Nat.le_of_ble_eq_true rfl) (Nat.le_of_ble_eq_true rfl) ?_
  refine bw_dup (z := 46) dX10_init_45 rfl (fun _ => rfl) ?_
  refine bw_callI (z := 49) (as := []) (st := [.ref 53, .ref 0]) dX10_init_46 rfl rfl (mbi_X8_init_53 l _) ⟨tb_159, tb_8, ⟨by decide, by decide⟩, by decide +kernel, tb_490⟩ rfl tb_158 ⟨Nat.le_of_ble_eq_true rfl, Nat.le_of_ble_eq_true rfl⟩ (fun _ => Nat.le_of_ble_eq_true rfl) rfl (Nat.le_of_ble_eq_true rfl) (Nat.le_of_ble_eq_true rfl) ?_
  refine bw_putR (z := 52) (RX10, TX10, 12) 10 4 (b := 53) (ty := (.object "OrangeFight$Town")) dX10_init_49 rfl rfl (Nat.le_of_ble_eq_true rfl) fd_RX10_34 ⟨tyX10, tyX10_ok⟩ nmX10 rfl rfl rfl (by decide +kernel) (fun _ => rfl) (fun _ => rfl) ?_
  refine bw_aload_n (z := 53) dX10_init_52 rfl rfl ?_
  refine bw_new (z := 56) 2 (RX2, TX2, 4) tyX2 dX10_init_53 rfl rfl tb_491 tb_262 tb_10 inTB_2 tyX2_ok rfl bnf_2 (Nat.le_of_ble_eq_true rfl) (Nat.le_of_ble_eq_true rfl) ?_
  refine bw_dup (z := 57) dX10_init_56 rfl (fun _ => rfl) ?_
  refine bw_callI (z := 60) (as := []) (st := [.ref 67, .ref 0]) dX10_init_57 rfl rfl (mbi_X2_init_67 l _) ⟨tb_265, tb_10, ⟨by decide, by decide⟩, by decide +kernel, tb_492⟩ rfl tb_264 ⟨Nat.le_of_ble_eq_true rfl, Nat.le_of_ble_eq_true rfl⟩ (fun _ => Nat.le_of_ble_eq_true rfl) rfl (Nat.le_of_ble_eq_true rfl) (Nat.le_of_ble_eq_true rfl) ?_
  refine bw_putR (z := 63) (RX10, TX10, 12) 10 5 (b := 67) (ty := (.object "OrangeFight$Plans")) dX10_init_60 rfl rfl (Nat.le_of_ble_eq_true rfl) fd_RX10_41 ⟨tyX10, tyX10_ok⟩ nmX10 rfl rfl rfl (by decide +kernel) (fun _ => rfl) (fun _ => rfl) ?_
  refine bw_aload_n (z := 64) dX10_init_63 rfl rfl ?_
  refine bw_new (z := 67) 3 (RX3, TX3, 6) tyX3 dX10_init_64 rfl rfl tb_493 tb_297 tb_11 inTB_3 tyX3_ok rfl bnf_3 (Nat.le_of_ble_eq_true rfl) (Nat.le_of_ble_eq_true rfl) ?_
  refine bw_dup (z := 68) dX10_init_67 rfl (fun _ => rfl) ?_
  refine bw_callIN (z := 71) RX10 (as := []) (st := [.ref 71, .ref 0]) dX10_init_68 rfl rfl (mbi_X3_init_71 l _) ⟨tb_300, tb_11, ⟨by decide, by decide⟩, by decide +kernel, by decide +kernel⟩ rfl tb_299 ⟨Nat.le_of_ble_eq_true rfl, Nat.le_of_ble_eq_true rfl⟩ (fun _ => Nat.le_of_ble_eq_true rfl) rfl (Nat.le_of_ble_eq_true rfl) (Nat.le_of_ble_eq_true rfl) ?_
  refine bw_putR (z := 74) (RX10, TX10, 12) 10 6 (b := 71) (ty := (.object "OrangeFight$Saying")) dX10_init_71 rfl rfl (Nat.le_of_ble_eq_true rfl) fd_RX10_48 ⟨tyX10, tyX10_ok⟩ nmX10 rfl rfl rfl (by decide +kernel) (fun _ => rfl) (fun _ => rfl) ?_
  refine bw_aload_n (z := 75) dX10_init_74 rfl rfl ?_
  refine bw_new (z := 78) 0 (RX0, TX0, 20) tyX0 dX10_init_75 rfl rfl tb_495 tb_383 tb_13 inTB_0 tyX0_ok rfl bnf_0 (Nat.le_of_ble_eq_true rfl) (Nat.le_of_ble_eq_true rfl) ?_
  refine bw_dup (z := 79) dX10_init_78 rfl (fun _ => rfl) ?_
  refine bw_aload_n (z := 80) dX10_init_79 rfl rfl ?_
  refine bw_getR (z := 83) (RX10, TX10, 12) 10 1 (b := 4) dX10_init_80 rfl rfl (Nat.le_of_ble_eq_true rfl) fd_RX10_19 rfl ?_
  refine bw_getR (z := 86) (RX4, TX4, 5) 4 0 (b := 5) dX10_init_83 rfl rfl (Nat.le_of_ble_eq_true rfl) fd_RX10_54 rfl ?_
  refine bw_aload_n (z := 87) dX10_init_86 rfl rfl ?_
  refine bw_getR (z := 90) (RX10, TX10, 12) 10 1 (b := 4) dX10_init_87 rfl rfl (Nat.le_of_ble_eq_true rfl) fd_RX10_19 rfl ?_
  refine bw_getR (z := 93) (RX4, TX4, 5) 4 1 (b := 19) dX10_init_90 rfl rfl (Nat.le_of_ble_eq_true rfl) fd_RX10_57 rfl ?_
  refine bw_aload_n (z := 94) dX10_init_93 rfl rfl ?_
  refine bw_getR (z := 97) (RX10, TX10, 12) 10 1 (b := 4) dX10_init_94 rfl rfl (Nat.le_of_ble_eq_true rfl) fd_RX10_19 rfl ?_
  refine bw_getR (z := 100) (RX4, TX4, 5) 4 3 (b := 28) dX10_init_97 rfl rfl (Nat.le_of_ble_eq_true rfl) fd_RX10_60 rfl ?_
  refine bw_callI (z := 103) (as := [.ref 5, .ref 19, .ref 28]) (st := [.ref 76, .ref 0]) dX10_init_100 rfl rfl (mbi_X0_init_76 l _) ⟨tb_386, tb_13, ⟨by decide, by decide⟩, by decide +kernel, tb_496⟩ rfl tb_385 ⟨Nat.le_of_ble_eq_true rfl, Nat.le_of_ble_eq_true rfl⟩ (fun _ => Nat.le_of_ble_eq_true rfl) rfl (Nat.le_of_ble_eq_true rfl) (Nat.le_of_ble_eq_true rfl) ?_
  refine bw_putR (z := 106) (RX10, TX10, 12) 10 7 (b := 76) (ty := (.object "OrangeFight$Fight")) dX10_init_103 rfl rfl (Nat.le_of_ble_eq_true rfl) fd_RX10_67 ⟨tyX10, tyX10_ok⟩ nmX10 rfl rfl rfl (by decide +kernel) (fun _ => rfl) (fun _ => rfl) ?_
  refine bw_aload_n (z := 107) dX10_init_106 rfl rfl ?_
  refine bw_new (z := 110) 5 (RX5, TX5, 12) tyX5 dX10_init_107 rfl rfl tb_497 tb_498 tb_14 inTB_5 tyX5_ok rfl bnf_5 (Nat.le_of_ble_eq_true rfl) (Nat.le_of_ble_eq_true rfl) ?_
  refine bw_dup (z := 111) dX10_init_110 rfl (fun _ => rfl) ?_
  refine bw_aload_n (z := 112) dX10_init_111 rfl rfl ?_
  refine bw_getR (z := 115) (RX10, TX10, 12) 10 1 (b := 4) dX10_init_112 rfl rfl (Nat.le_of_ble_eq_true rfl) fd_RX10_19 rfl ?_
  refine bw_getR (z := 118) (RX4, TX4, 5) 4 0 (b := 5) dX10_init_115 rfl rfl (Nat.le_of_ble_eq_true rfl) fd_RX10_54 rfl ?_
  refine bw_aload_n (z := 119) dX10_init_118 rfl rfl ?_
  refine bw_getR (z := 122) (RX10, TX10, 12) 10 1 (b := 4) dX10_init_119 rfl rfl (Nat.le_of_ble_eq_true rfl) fd_RX10_19 rfl ?_
  refine bw_getR (z := 125) (RX4, TX4, 5) 4 1 (b := 19) dX10_init_122 rfl rfl (Nat.le_of_ble_eq_true rfl) fd_RX10_57 rfl ?_
  refine bw_aload_n (z := 126) dX10_init_125 rfl rfl ?_
  refine bw_getR (z := 129) (RX10, TX10, 12) 10 1 (b := 4) dX10_init_126 rfl rfl (Nat.le_of_ble_eq_true rfl) fd_RX10_19 rfl ?_
  refine bw_getR (z := 132) (RX4, TX4, 5) 4 3 (b := 28) dX10_init_129 rfl rfl (Nat.le_of_ble_eq_true rfl) fd_RX10_60 rfl ?_
  refine bw_callI (z := 135) (as := [.ref 5, .ref 19, .ref 28]) (st := [.ref 88, .ref 0]) dX10_init_132 rfl rfl (mbi_X5_init_88 l _) ⟨tb_501, tb_14, ⟨by decide, by decide⟩, by decide +kernel, tb_499⟩ rfl tb_500 ⟨Nat.le_of_ble_eq_true rfl, Nat.le_of_ble_eq_true rfl⟩ (fun _ => Nat.le_of_ble_eq_true rfl) rfl (Nat.le_of_ble_eq_true rfl) (Nat.le_of_ble_eq_true rfl) ?_
  refine bw_putR (z := 138) (RX10, TX10, 12) 10 8 (b := 88) (ty := (.object "OrangeFight$SureDay")) dX10_init_135 rfl rfl (Nat.le_of_ble_eq_true rfl) fd_RX10_74 ⟨tyX10, tyX10_ok⟩ nmX10 rfl rfl rfl (by decide +kernel) (fun _ => rfl) (fun _ => rfl) ?_
  refine bw_aload_n (z := 139) dX10_init_138 rfl rfl ?_
  refine bw_new (z := 142) 7 (RX7, TX7, 4) tyX7 dX10_init_139 rfl rfl tb_540 tb_541 tb_15 inTB_7 tyX7_ok rfl bnf_7 (Nat.le_of_ble_eq_true rfl) (Nat.le_of_ble_eq_true rfl) ?_
  refine bw_dup (z := 143) dX10_init_142 rfl (fun _ => rfl) ?_
  refine bw_callI (z := 146) (as := []) (st := [.ref 97, .ref 0]) dX10_init_143 rfl rfl (mbi_X7_init_97 l _) ⟨tb_544, tb_15, ⟨by decide, by decide⟩, by decide +kernel, tb_542⟩ rfl tb_543 ⟨Nat.le_of_ble_eq_true rfl, Nat.le_of_ble_eq_true rfl⟩ (fun _ => Nat.le_of_ble_eq_true rfl) rfl (Nat.le_of_ble_eq_true rfl) (Nat.le_of_ble_eq_true rfl) ?_
  refine bw_putR (z := 149) (RX10, TX10, 12) 10 9 (b := 97) (ty := (.object "OrangeFight$TapePuzzles")) dX10_init_146 rfl rfl (Nat.le_of_ble_eq_true rfl) fd_RX10_81 ⟨tyX10, tyX10_ok⟩ nmX10 rfl rfl rfl (by decide +kernel) (fun _ => rfl) (fun _ => rfl) ?_
  refine bw_aload_n (z := 150) dX10_init_149 rfl rfl ?_
  refine bw_new (z := 153) 9 (RX9, TX9, 13) tyX9 dX10_init_150 rfl rfl tb_561 tb_562 tb_16 inTB_9 tyX9_ok rfl bnf_9 (Nat.le_of_ble_eq_true rfl) (Nat.le_of_ble_eq_true rfl) ?_
  refine bw_dup (z := 154) dX10_init_153 rfl (fun _ => rfl) ?_
  refine bw_callIN (z := 157) RX10 (as := []) (st := [.ref 101, .ref 0]) dX10_init_154 rfl rfl (mbi_X9_init_101 l _) ⟨tb_565, tb_16, ⟨by decide, by decide⟩, by decide +kernel, by decide +kernel⟩ rfl tb_564 ⟨Nat.le_of_ble_eq_true rfl, Nat.le_of_ble_eq_true rfl⟩ (fun _ => Nat.le_of_ble_eq_true rfl) rfl (Nat.le_of_ble_eq_true rfl) (Nat.le_of_ble_eq_true rfl) ?_
  refine bw_putR (z := 160) (RX10, TX10, 12) 10 10 (b := 101) (ty := (.object "OrangeFight$TownPuzzles")) dX10_init_157 rfl rfl (Nat.le_of_ble_eq_true rfl) fd_RX10_88 ⟨tyX10, tyX10_ok⟩ nmX10 rfl rfl rfl (by decide +kernel) (fun _ => rfl) (fun _ => rfl) ?_
  refine bw_iconst (z := 161) 0 dX10_init_160 rfl (by decide) ?_
  refine bw_istore_n (z := 162) [some (.ref 0), some (.int 0)] dX10_init_161 rfl rfl (Nat.le_of_ble_eq_true rfl) (Nat.le_of_ble_eq_true rfl) rfl ?_
  refine bw_iload_n (z := 163) dX10_init_162 rfl rfl ?_
  refine bw_iconst (z := 164) 2 dX10_init_163 rfl (by decide) ?_
  refine bw_icmp_ge_f (z := 167) dX10_init_164 186 (by decide) rfl (by decide) ?_
  refine bw_aload_n (z := 168) dX10_init_167 rfl rfl ?_
  refine bw_getR (z := 171) (RX10, TX10, 12) 10 2 (b := 51) dX10_init_168 rfl rfl (Nat.le_of_ble_eq_true rfl) fd_RX10_23 rfl ?_
  refine bw_iload_n (z := 172) dX10_init_171 rfl rfl ?_
  refine bw_new (z := 175) 4 (RX4, TX4, 5) tyX4 dX10_init_172 rfl rfl tb_149 tb_150 tb_7 inTB_4 tyX4_ok rfl bnf_4 (Nat.le_of_ble_eq_true rfl) (Nat.le_of_ble_eq_true rfl) ?_
  refine bw_dup (z := 176) dX10_init_175 rfl (fun _ => rfl) ?_
  refine bw_callIN (z := 179) RX10 (as := []) (st := [.ref 109, .int 0, .ref 51]) dX10_init_176 rfl rfl (mbi_X4_init_109 l _) ⟨tb_153, tb_7, ⟨by decide, by decide⟩, by decide +kernel, by decide +kernel⟩ rfl tb_152 ⟨Nat.le_of_ble_eq_true rfl, Nat.le_of_ble_eq_true rfl⟩ (fun _ => Nat.le_of_ble_eq_true rfl) rfl (Nat.le_of_ble_eq_true rfl) (Nat.le_of_ble_eq_true rfl) ?_
  refine bw_aastore (z := 180) dX10_init_179 rfl rfl rfl (Nat.le_of_ble_eq_true rfl) (Nat.le_of_ble_eq_true rfl) (bw_in (by decide)) ?_
  refine bw_iinc (z := 183) 1 [some (.ref 0), some (.int 1)] dX10_init_180 rfl rfl (by decide) rfl (Nat.le_of_ble_eq_true rfl) rfl ?_
  refine bw_goto 162 dX10_init_183 (by decide) ?_
  refine bw_iload_n (z := 163) dX10_init_162 rfl rfl ?_
  refine bw_iconst (z := 164) 2 dX10_init_163 rfl (by decide) ?_
  refine bw_icmp_ge_f (z := 167) dX10_init_164 186 (by decide) rfl (by decide) ?_
  refine bw_aload_n (z := 168) dX10_init_167 rfl rfl ?_
  refine bw_getR (z := 171) (RX10, TX10, 12) 10 2 (b := 51) dX10_init_168 rfl rfl (Nat.le_of_ble_eq_true rfl) fd_RX10_23 rfl ?_
  refine bw_iload_n (z := 172) dX10_init_171 rfl rfl ?_
  refine bw_new (z := 175) 4 (RX4, TX4, 5) tyX4 dX10_init_172 rfl rfl tb_149 tb_150 tb_7 inTB_4 tyX4_ok rfl bnf_4 (Nat.le_of_ble_eq_true rfl) (Nat.le_of_ble_eq_true rfl) ?_
  refine bw_dup (z := 176) dX10_init_175 rfl (fun _ => rfl) ?_
  refine bw_callIN (z := 179) RX10 (as := []) (st := [.ref 156, .int 1, .ref 51]) dX10_init_176 rfl rfl (mbi_X4_init_156 l _) ⟨tb_153, tb_7, ⟨by decide, by decide⟩, by decide +kernel, by decide +kernel⟩ rfl tb_152 ⟨Nat.le_of_ble_eq_true rfl, Nat.le_of_ble_eq_true rfl⟩ (fun _ => Nat.le_of_ble_eq_true rfl) rfl (Nat.le_of_ble_eq_true rfl) (Nat.le_of_ble_eq_true rfl) ?_
  refine bw_aastore (z := 180) dX10_init_179 rfl rfl rfl (Nat.le_of_ble_eq_true rfl) (Nat.le_of_ble_eq_true rfl) (bw_in (by decide)) ?_
  refine bw_iinc (z := 183) 2 [some (.ref 0), some (.int 2)] dX10_init_180 rfl rfl (by decide) rfl (Nat.le_of_ble_eq_true rfl) rfl ?_
  refine bw_goto 162 dX10_init_183 (by decide) ?_
  refine bw_iload_n (z := 163) dX10_init_162 rfl rfl ?_
  refine bw_iconst (z := 164) 2 dX10_init_163 rfl (by decide) ?_
  refine bw_icmp_ge_t 186 dX10_init_164 (by decide) (by decide) ?_
  exact bw_vret rfl dX10_init_186 rfl rfl rfl rfl
def bi_X11_init_203 (w : bw_T) : bw_T := (bI (bI (bI (bL (bL (bL (bL (bL (bL (bL (bL (bL (bL (bL (bL (bL (bL (bL (bL (bL (bL (bL (bL (bp (bz (bp (bz (bp (bz (bp (bz (bp (bz (bp (bz (bp (bz (bp (bz (bp (bz (bp (bz (bp (bz (bp (bz (bp (bz (bp (bz (bp (bz (bp (bz (bp (bz (bp (bz (bp (bz (bp (bz (bp (bz (bp (bz (bp (bz (bp (bz (bp (bz (bp (bz w 204) 203 1 204) 205) 203 6 205) 206) 203 7 206) 207) 203 8 207) 208) 203 9 208) 209) 203 10 209) 210) 203 22 210) 211) 203 23 211) 212) 203 24 212) 213) 203 25 213) 214) 203 27 214) 215) 203 28 215) 216) 203 29 216) 217) 203 30 217) 218) 203 32 218) 219) 203 33 219) 220) 203 34 220) 221) 203 36 221) 222) 203 37 222) 223) 203 39 223) 224) 203 40 224) 225) 203 42 225) 226) 203 48 226) 227) 203 49 227) 228) 203 50 228) 229) 203 51 229) 209 0 126931137819237) 209 1 31935733760812402) 209 2 1667330676) 209 3 6513008) 209 4 431415716206) 209 5 457236047717) 209 6 1936748404) 209 7 7102839) 209 8 439788072564) 209 9 28530) 209 10 6385252) 209 11 7237492) 209 12 112585746576499) 209 13 457135713907) 209 14 422776956275) 209 15 469786323827) 209 16 131320595244147) 209 17 6383981) 209 18 1936024947) 209 19 482854658917) 205 7 1) 205 8 1) 205 9 1)
set_option maxRecDepth 100000 in
theorem mbi_X11_init_203 (l : Launch) (w : bw_T) : BM l yX11_init cX11_init 2 1 120 26 58229 [.ref 203] 204 w 230 (bi_X11_init_203 w) := by
  refine bw_met [some (.ref 203), none] (Nat.le_of_ble_eq_true rfl) (by decide) (fun _ => rfl) (fun _ => Nat.le_of_ble_eq_true rfl) ?_
  show BW l ((yX11_init.cls, cX11_init, 2, none, 1, 120), yX11_init.name, 26, 58229) 0 [some (.ref 203), none] [] 204 0 0 w 230 (bi_X11_init_203 w)
  refine bw_aload_n (z := 1) dX11_init_0 rfl rfl ?_
  refine bw_objInit (z := 4) dX11_init_1 rfl tb_1460 tb_30 tb_31 ⟨Nat.le_of_ble_eq_true rfl, Nat.le_of_ble_eq_true rfl⟩ (fun _ => Nat.le_of_ble_eq_true rfl) ?_
  refine bw_aload_n (z := 5) dX11_init_4 rfl rfl ?_
  refine bw_sipush (z := 8) 940 dX11_init_5 rfl (by decide) ?_
  refine bw_newB (z := 10) 940 dX11_init_8 rfl tb_148 rfl (by decide) (by decide) (Nat.le_of_ble_eq_true rfl) (Nat.le_of_ble_eq_true rfl) (Nat.le_of_ble_eq_true rfl) ?_
  refine bw_putR (z := 13) (RX11, TX11, 52) 11 1 (b := 204) (ty := (.array .byte)) dX11_init_10 rfl rfl (Nat.le_of_ble_eq_true rfl) fd_RX11_14 ⟨tyX11, tyX11_ok⟩ nmX11 rfl rfl rfl (by decide +kernel) (fun _ => rfl) (fun _ => rfl) ?_
  refine bw_aload_n (z := 14) dX11_init_13 rfl rfl ?_
  refine bw_sipush (z := 17) 1155 dX11_init_14 rfl (by decide) ?_
  refine bw_newI (z := 19) 1155 dX11_init_17 rfl tb_146 rfl (by decide) (by decide) (Nat.le_of_ble_eq_true rfl) (Nat.le_of_ble_eq_true rfl) (Nat.le_of_ble_eq_true rfl) ?_
  refine bw_putR (z := 22) (RX11, TX11, 52) 11 6 (b := 205) (ty := (.array .int)) dX11_init_19 rfl rfl (Nat.le_of_ble_eq_true rfl) fd_RX11_33 ⟨tyX11, tyX11_ok⟩ nmX11 rfl rfl rfl (by decide +kernel) (fun _ => rfl) (fun _ => rfl) ?_
  refine bw_aload_n (z := 23) dX11_init_22 rfl rfl ?_
  refine bw_sipush (z := 26) 427 dX11_init_23 rfl (by decide) ?_
  refine bw_newI (z := 28) 427 dX11_init_26 rfl tb_146 rfl (by decide) (by decide) (Nat.le_of_ble_eq_true rfl) (Nat.le_of_ble_eq_true rfl) (Nat.le_of_ble_eq_true rfl) ?_
  refine bw_putR (z := 31) (RX11, TX11, 52) 11 7 (b := 206) (ty := (.array .int)) dX11_init_28 rfl rfl (Nat.le_of_ble_eq_true rfl) fd_RX11_37 ⟨tyX11, tyX11_ok⟩ nmX11 rfl rfl rfl (by decide +kernel) (fun _ => rfl) (fun _ => rfl) ?_
  refine bw_aload_n (z := 32) dX11_init_31 rfl rfl ?_
  refine bw_sipush (z := 35) 135 dX11_init_32 rfl (by decide) ?_
  refine bw_newI (z := 37) 135 dX11_init_35 rfl tb_146 rfl (by decide) (by decide) (Nat.le_of_ble_eq_true rfl) (Nat.le_of_ble_eq_true rfl) (Nat.le_of_ble_eq_true rfl) ?_
  refine bw_putR (z := 40) (RX11, TX11, 52) 11 8 (b := 207) (ty := (.array .int)) dX11_init_37 rfl rfl (Nat.le_of_ble_eq_true rfl) fd_RX11_40 ⟨tyX11, tyX11_ok⟩ nmX11 rfl rfl rfl (by decide +kernel) (fun _ => rfl) (fun _ => rfl) ?_
  refine bw_aload_n (z := 41) dX11_init_40 rfl rfl ?_
  refine bw_bipush (z := 43) 18 dX11_init_41 rfl (by decide) ?_
  refine bw_newJ (z := 45) 18 dX11_init_43 rfl tb_147 rfl (by decide) (by decide) (Nat.le_of_ble_eq_true rfl) (Nat.le_of_ble_eq_true rfl) (Nat.le_of_ble_eq_true rfl) ?_
  refine bw_putR (z := 48) (RX11, TX11, 52) 11 9 (b := 208) (ty := (.array .long)) dX11_init_45 rfl rfl (Nat.le_of_ble_eq_true rfl) fd_RX11_43 ⟨tyX11, tyX11_ok⟩ nmX11 rfl rfl rfl (by decide +kernel) (fun _ => rfl) (fun _ => rfl) ?_
  refine bw_aload_n (z := 49) dX11_init_48 rfl rfl ?_
  refine bw_bipush (z := 51) 20 dX11_init_49 rfl (by decide) ?_
  refine bw_newJ (z := 53) 20 dX11_init_51 rfl tb_147 rfl (by decide) (by decide) (Nat.le_of_ble_eq_true rfl) (Nat.le_of_ble_eq_true rfl) (Nat.le_of_ble_eq_true rfl) ?_
  refine bw_putR (z := 56) (RX11, TX11, 52) 11 10 (b := 209) (ty := (.array .long)) dX11_init_53 rfl rfl (Nat.le_of_ble_eq_true rfl) fd_RX11_47 ⟨tyX11, tyX11_ok⟩ nmX11 rfl rfl rfl (by decide +kernel) (fun _ => rfl) (fun _ => rfl) ?_
  refine bw_aload_n (z := 57) dX11_init_56 rfl rfl ?_
  refine bw_sipush (z := 60) 519 dX11_init_57 rfl (by decide) ?_
  refine bw_newI (z := 62) 519 dX11_init_60 rfl tb_146 rfl (by decide) (by decide) (Nat.le_of_ble_eq_true rfl) (Nat.le_of_ble_eq_true rfl) (Nat.le_of_ble_eq_true rfl) ?_
  refine bw_putR (z := 65) (RX11, TX11, 52) 11 22 (b := 210) (ty := (.array .int)) dX11_init_62 rfl rfl (Nat.le_of_ble_eq_true rfl) fd_RX11_50 ⟨tyX11, tyX11_ok⟩ nmX11 rfl rfl rfl (by decide +kernel) (fun _ => rfl) (fun _ => rfl) ?_
  refine bw_aload_n (z := 66) dX11_init_65 rfl rfl ?_
  refine bw_bipush (z := 68) 9 dX11_init_66 rfl (by decide) ?_
  refine bw_newI (z := 70) 9 dX11_init_68 rfl tb_146 rfl (by decide) (by decide) (Nat.le_of_ble_eq_true rfl) (Nat.le_of_ble_eq_true rfl) (Nat.le_of_ble_eq_true rfl) ?_
  refine bw_putR (z := 73) (RX11, TX11, 52) 11 23 (b := 211) (ty := (.array .int)) dX11_init_70 rfl rfl (Nat.le_of_ble_eq_true rfl) fd_RX11_53 ⟨tyX11, tyX11_ok⟩ nmX11 rfl rfl rfl (by decide +kernel) (fun _ => rfl) (fun _ => rfl) ?_
  refine bw_aload_n (z := 74) dX11_init_73 rfl rfl ?_
  refine bw_iconst (z := 75) 3 dX11_init_74 rfl (by decide) ?_
  refine bw_newI (z := 77) 3 dX11_init_75 rfl tb_146 rfl (by decide) (by decide) (Nat.le_of_ble_eq_true rfl) (Nat.le_of_ble_eq_true rfl) (Nat.le_of_ble_eq_true rfl) ?_
  refine bw_putR (z := 80) (RX11, TX11, 52) 11 24 (b := 212) (ty := (.array .int)) dX11_init_77 rfl rfl (Nat.le_of_ble_eq_true rfl) fd_RX11_56 ⟨tyX11, tyX11_ok⟩ nmX11 rfl rfl rfl (by decide +kernel) (fun _ => rfl) (fun _ => rfl) ?_
  refine bw_aload_n (z := 81) dX11_init_80 rfl rfl ?_
  refine bw_bipush (z := 83) 10 dX11_init_81 rfl (by decide) ?_
  refine bw_newI (z := 85) 10 dX11_init_83 rfl tb_146 rfl (by decide) (by decide) (Nat.le_of_ble_eq_true rfl) (Nat.le_of_ble_eq_true rfl) (Nat.le_of_ble_eq_true rfl) ?_
  refine bw_putR (z := 88) (RX11, TX11, 52) 11 25 (b := 213) (ty := (.array .int)) dX11_init_85 rfl rfl (Nat.le_of_ble_eq_true rfl) fd_RX11_59 ⟨tyX11, tyX11_ok⟩ nmX11 rfl rfl rfl (by decide +kernel) (fun _ => rfl) (fun _ => rfl) ?_
  refine bw_aload_n (z := 89) dX11_init_88 rfl rfl ?_
  refine bw_bipush (z := 91) 9 dX11_init_89 rfl (by decide) ?_
  refine bw_newI (z := 93) 9 dX11_init_91 rfl tb_146 rfl (by decide) (by decide) (Nat.le_of_ble_eq_true rfl) (Nat.le_of_ble_eq_true rfl) (Nat.le_of_ble_eq_true rfl) ?_
  refine bw_putR (z := 96) (RX11, TX11, 52) 11 27 (b := 214) (ty := (.array .int)) dX11_init_93 rfl rfl (Nat.le_of_ble_eq_true rfl) fd_RX11_62 ⟨tyX11, tyX11_ok⟩ nmX11 rfl rfl rfl (by decide +kernel) (fun _ => rfl) (fun _ => rfl) ?_
  refine bw_aload_n (z := 97) dX11_init_96 rfl rfl ?_
  refine bw_sipush (z := 100) 576 dX11_init_97 rfl (by decide) ?_
  refine bw_newI (z := 102) 576 dX11_init_100 rfl tb_146 rfl (by decide) (by decide) (Nat.le_of_ble_eq_true rfl) (Nat.le_of_ble_eq_true rfl) (Nat.le_of_ble_eq_true rfl) ?_
  refine bw_putR (z := 105) (RX11, TX11, 52) 11 28 (b := 215) (ty := (.array .int)) dX11_init_102 rfl rfl (Nat.le_of_ble_eq_true rfl) fd_RX11_65 ⟨tyX11, tyX11_ok⟩ nmX11 rfl rfl rfl (by decide +kernel) (fun _ => rfl) (fun _ => rfl) ?_
  refine bw_aload_n (z := 106) dX11_init_105 rfl rfl ?_
  refine bw_bipush (z := 108) 64 dX11_init_106 rfl (by decide) ?_
  refine bw_newI (z := 110) 64 dX11_init_108 rfl tb_146 rfl (by decide) (by decide) (Nat.le_of_ble_eq_true rfl) (Nat.le_of_ble_eq_true rfl) (Nat.le_of_ble_eq_true rfl) ?_
  refine bw_putR (z := 113) (RX11, TX11, 52) 11 29 (b := 216) (ty := (.array .int)) dX11_init_110 rfl rfl (Nat.le_of_ble_eq_true rfl) fd_RX11_68 ⟨tyX11, tyX11_ok⟩ nmX11 rfl rfl rfl (by decide +kernel) (fun _ => rfl) (fun _ => rfl) ?_
  refine bw_aload_n (z := 114) dX11_init_113 rfl rfl ?_
  refine bw_bipush (z := 116) 100 dX11_init_114 rfl (by decide) ?_
  refine bw_newI (z := 118) 100 dX11_init_116 rfl tb_146 rfl (by decide) (by decide) (Nat.le_of_ble_eq_true rfl) (Nat.le_of_ble_eq_true rfl) (Nat.le_of_ble_eq_true rfl) ?_
  refine bw_putR (z := 121) (RX11, TX11, 52) 11 30 (b := 217) (ty := (.array .int)) dX11_init_118 rfl rfl (Nat.le_of_ble_eq_true rfl) fd_RX11_71 ⟨tyX11, tyX11_ok⟩ nmX11 rfl rfl rfl (by decide +kernel) (fun _ => rfl) (fun _ => rfl) ?_
  refine bw_aload_n (z := 122) dX11_init_121 rfl rfl ?_
  refine bw_bipush (z := 124) 8 dX11_init_122 rfl (by decide) ?_
  refine bw_newI (z := 126) 8 dX11_init_124 rfl tb_146 rfl (by decide) (by decide) (Nat.le_of_ble_eq_true rfl) (Nat.le_of_ble_eq_true rfl) (Nat.le_of_ble_eq_true rfl) ?_
  refine bw_putR (z := 129) (RX11, TX11, 52) 11 32 (b := 218) (ty := (.array .int)) dX11_init_126 rfl rfl (Nat.le_of_ble_eq_true rfl) fd_RX11_74 ⟨tyX11, tyX11_ok⟩ nmX11 rfl rfl rfl (by decide +kernel) (fun _ => rfl) (fun _ => rfl) ?_
  refine bw_aload_n (z := 130) dX11_init_129 rfl rfl ?_
  refine bw_bipush (z := 132) 8 dX11_init_130 rfl (by decide) ?_
  refine bw_newI (z := 134) 8 dX11_init_132 rfl tb_146 rfl (by decide) (by decide) (Nat.le_of_ble_eq_true rfl) (Nat.le_of_ble_eq_true rfl) (Nat.le_of_ble_eq_true rfl) ?_
  refine bw_putR (z := 137) (RX11, TX11, 52) 11 33 (b := 219) (ty := (.array .int)) dX11_init_134 rfl rfl (Nat.le_of_ble_eq_true rfl) fd_RX11_77 ⟨tyX11, tyX11_ok⟩ nmX11 rfl rfl rfl (by decide +kernel) (fun _ => rfl) (fun _ => rfl) ?_
  refine bw_aload_n (z := 138) dX11_init_137 rfl rfl ?_
  refine bw_bipush (z := 140) 9 dX11_init_138 rfl (by decide) ?_
  refine bw_newI (z := 142) 9 dX11_init_140 rfl tb_146 rfl (by decide) (by decide) (Nat.le_of_ble_eq_true rfl) (Nat.le_of_ble_eq_true rfl) (Nat.le_of_ble_eq_true rfl) ?_
  refine bw_putR (z := 145) (RX11, TX11, 52) 11 34 (b := 220) (ty := (.array .int)) dX11_init_142 rfl rfl (Nat.le_of_ble_eq_true rfl) fd_RX11_80 ⟨tyX11, tyX11_ok⟩ nmX11 rfl rfl rfl (by decide +kernel) (fun _ => rfl) (fun _ => rfl) ?_
  refine bw_aload_n (z := 146) dX11_init_145 rfl rfl ?_
  refine bw_ldc (z := 148) dX11_init_146 rfl tb_1461 ?_
  refine bw_newI (z := 150) 51712 dX11_init_148 rfl tb_146 rfl (by decide) (by decide) (Nat.le_of_ble_eq_true rfl) (Nat.le_of_ble_eq_true rfl) (Nat.le_of_ble_eq_true rfl) ?_
  refine bw_putR (z := 153) (RX11, TX11, 52) 11 36 (b := 221) (ty := (.array .int)) dX11_init_150 rfl rfl (Nat.le_of_ble_eq_true rfl) fd_RX11_84 ⟨tyX11, tyX11_ok⟩ nmX11 rfl rfl rfl (by decide +kernel) (fun _ => rfl) (fun _ => rfl) ?_
  refine bw_aload_n (z := 154) dX11_init_153 rfl rfl ?_
  refine bw_bipush (z := 156) 9 dX11_init_154 rfl (by decide) ?_
  refine bw_newI (z := 158) 9 dX11_init_156 rfl tb_146 rfl (by decide) (by decide) (Nat.le_of_ble_eq_true rfl) (Nat.le_of_ble_eq_true rfl) (Nat.le_of_ble_eq_true rfl) ?_
  refine bw_putR (z := 161) (RX11, TX11, 52) 11 37 (b := 222) (ty := (.array .int)) dX11_init_158 rfl rfl (Nat.le_of_ble_eq_true rfl) fd_RX11_87 ⟨tyX11, tyX11_ok⟩ nmX11 rfl rfl rfl (by decide +kernel) (fun _ => rfl) (fun _ => rfl) ?_
  refine bw_aload_n (z := 162) dX11_init_161 rfl rfl ?_
  refine bw_bipush (z := 164) 72 dX11_init_162 rfl (by decide) ?_
  refine bw_newI (z := 166) 72 dX11_init_164 rfl tb_146 rfl (by decide) (by decide) (Nat.le_of_ble_eq_true rfl) (Nat.le_of_ble_eq_true rfl) (Nat.le_of_ble_eq_true rfl) ?_
  refine bw_putR (z := 169) (RX11, TX11, 52) 11 39 (b := 223) (ty := (.array .int)) dX11_init_166 rfl rfl (Nat.le_of_ble_eq_true rfl) fd_RX11_90 ⟨tyX11, tyX11_ok⟩ nmX11 rfl rfl rfl (by decide +kernel) (fun _ => rfl) (fun _ => rfl) ?_
  refine bw_aload_n (z := 170) dX11_init_169 rfl rfl ?_
  refine bw_bipush (z := 172) 6 dX11_init_170 rfl (by decide) ?_
  refine bw_newI (z := 174) 6 dX11_init_172 rfl tb_146 rfl (by decide) (by decide) (Nat.le_of_ble_eq_true rfl) (Nat.le_of_ble_eq_true rfl) (Nat.le_of_ble_eq_true rfl) ?_
  refine bw_putR (z := 177) (RX11, TX11, 52) 11 40 (b := 224) (ty := (.array .int)) dX11_init_174 rfl rfl (Nat.le_of_ble_eq_true rfl) fd_RX11_93 ⟨tyX11, tyX11_ok⟩ nmX11 rfl rfl rfl (by decide +kernel) (fun _ => rfl) (fun _ => rfl) ?_
  refine bw_aload_n (z := 178) dX11_init_177 rfl rfl ?_
  refine bw_bipush (z := 180) 45 dX11_init_178 rfl (by decide) ?_
  refine bw_newI (z := 182) 45 dX11_init_180 rfl tb_146 rfl (by decide) (by decide) (Nat.le_of_ble_eq_true rfl) (Nat.le_of_ble_eq_true rfl) (Nat.le_of_ble_eq_true rfl) ?_
  refine bw_putR (z := 185) (RX11, TX11, 52) 11 42 (b := 225) (ty := (.array .int)) dX11_init_182 rfl rfl (Nat.le_of_ble_eq_true rfl) fd_RX11_96 ⟨tyX11, tyX11_ok⟩ nmX11 rfl rfl rfl (by decide +kernel) (fun _ => rfl) (fun _ => rfl) ?_
  refine bw_aload_n (z := 186) dX11_init_185 rfl rfl ?_
  refine bw_bipush (z := 188) 45 dX11_init_186 rfl (by decide) ?_
  refine bw_newZ (z := 190) 45 dX11_init_188 rfl tb_322 rfl (by decide) (by decide) (Nat.le_of_ble_eq_true rfl) (Nat.le_of_ble_eq_true rfl) (Nat.le_of_ble_eq_true rfl) ?_
  refine bw_putR (z := 193) (RX11, TX11, 52) 11 48 (b := 226) (ty := (.array .boolean)) dX11_init_190 rfl rfl (Nat.le_of_ble_eq_true rfl) fd_RX11_99 ⟨tyX11, tyX11_ok⟩ nmX11 rfl rfl rfl (by decide +kernel) (fun _ => rfl) (fun _ => rfl) ?_
  refine bw_aload_n (z := 194) dX11_init_193 rfl rfl ?_
  refine bw_sipush (z := 197) 2310 dX11_init_194 rfl (by decide) ?_
  refine bw_newI (z := 199) 2310 dX11_init_197 rfl tb_146 rfl (by decide) (by decide) (Nat.le_of_ble_eq_true rfl) (Nat.le_of_ble_eq_true rfl) (Nat.le_of_ble_eq_true rfl) ?_
  refine bw_putR (z := 202) (RX11, TX11, 52) 11 49 (b := 227) (ty := (.array .int)) dX11_init_199 rfl rfl (Nat.le_of_ble_eq_true rfl) fd_RX11_103 ⟨tyX11, tyX11_ok⟩ nmX11 rfl rfl rfl (by decide +kernel) (fun _ => rfl) (fun _ => rfl) ?_
  refine bw_aload_n (z := 203) dX11_init_202 rfl rfl ?_
  refine bw_bipush (z := 205) 18 dX11_init_203 rfl (by decide) ?_
  refine bw_newJ (z := 207) 18 dX11_init_205 rfl tb_147 rfl (by decide) (by decide) (Nat.le_of_ble_eq_true rfl) (Nat.le_of_ble_eq_true rfl) (Nat.le_of_ble_eq_true rfl) ?_
  refine bw_putR (z := 210) (RX11, TX11, 52) 11 50 (b := 228) (ty := (.array .long)) dX11_init_207 rfl rfl (Nat.le_of_ble_eq_true rfl) fd_RX11_106 ⟨tyX11, tyX11_ok⟩ nmX11 rfl rfl rfl (by decide +kernel) (fun _ => rfl) (fun _ => rfl) ?_
  refine bw_aload_n (z := 211) dX11_init_210 rfl rfl ?_
  refine bw_iconst (z := 212) 2 dX11_init_211 rfl (by decide) ?_
  refine bw_newZ (z := 214) 2 dX11_init_212 rfl tb_322 rfl (by decide) (by decide) (Nat.le_of_ble_eq_true rfl) (Nat.le_of_ble_eq_true rfl) (Nat.le_of_ble_eq_true rfl) ?_
  refine bw_putR (z := 217) (RX11, TX11, 52) 11 51 (b := 229) (ty := (.array .boolean)) dX11_init_214 rfl rfl (Nat.le_of_ble_eq_true rfl) fd_RX11_109 ⟨tyX11, tyX11_ok⟩ nmX11 rfl rfl rfl (by decide +kernel) (fun _ => rfl) (fun _ => rfl) ?_
  refine bw_aload_n (z := 218) dX11_init_217 rfl rfl ?_
  refine bw_getR (z := 221) (RX11, TX11, 52) 11 10 (b := 209) dX11_init_218 rfl rfl (Nat.le_of_ble_eq_true rfl) fd_RX11_47 rfl ?_
  refine bw_iconst (z := 222) 0 dX11_init_221 rfl (by decide) ?_
  refine bw_ldc2 (z := 225) dX11_init_222 rfl tb_1462 ?_
  refine bw_lastore (z := 226) 20 dX11_init_225 rfl rfl (Nat.le_of_ble_eq_true rfl) (bw_in (by decide)) ?_
  refine bw_aload_n (z := 227) dX11_init_226 rfl rfl ?_
  refine bw_getR (z := 230) (RX11, TX11, 52) 11 10 (b := 209) dX11_init_227 rfl rfl (Nat.le_of_ble_eq_true rfl) fd_RX11_47 rfl ?_
  refine bw_iconst (z := 231) 1 dX11_init_230 rfl (by decide) ?_
  refine bw_ldc2 (z := 234) dX11_init_231 rfl tb_1463 ?_
  refine bw_lastore (z := 235) 20 dX11_init_234 rfl rfl (Nat.le_of_ble_eq_true rfl) (bw_in (by decide)) ?_
  refine bw_aload_n (z := 236) dX11_init_235 rfl rfl ?_
  refine bw_getR (z := 239) (RX11, TX11, 52) 11 10 (b := 209) dX11_init_236 rfl rfl (Nat.le_of_ble_eq_true rfl) fd_RX11_47 rfl ?_
  refine bw_iconst (z := 240) 2 dX11_init_239 rfl (by decide) ?_
  refine bw_ldc2 (z := 243) dX11_init_240 rfl tb_1464 ?_
  refine bw_lastore (z := 244) 20 dX11_init_243 rfl rfl (Nat.le_of_ble_eq_true rfl) (bw_in (by decide)) ?_
  refine bw_aload_n (z := 245) dX11_init_244 rfl rfl ?_
  refine bw_getR (z := 248) (RX11, TX11, 52) 11 10 (b := 209) dX11_init_245 rfl rfl (Nat.le_of_ble_eq_true rfl) fd_RX11_47 rfl ?_
  refine bw_iconst (z := 249) 3 dX11_init_248 rfl (by decide) ?_
  refine bw_ldc2 (z := 252) dX11_init_249 rfl tb_1465 ?_
  refine bw_lastore (z := 253) 20 dX11_init_252 rfl rfl (Nat.le_of_ble_eq_true rfl) (bw_in (by decide)) ?_
  refine bw_aload_n (z := 254) dX11_init_253 rfl rfl ?_
  refine bw_getR (z := 257) (RX11, TX11, 52) 11 10 (b := 209) dX11_init_254 rfl rfl (Nat.le_of_ble_eq_true rfl) fd_RX11_47 rfl ?_
  refine bw_iconst (z := 258) 4 dX11_init_257 rfl (by decide) ?_
  refine bw_ldc2 (z := 261) dX11_init_258 rfl tb_1466 ?_
  refine bw_lastore (z := 262) 20 dX11_init_261 rfl rfl (Nat.le_of_ble_eq_true rfl) (bw_in (by decide)) ?_
  refine bw_aload_n (z := 263) dX11_init_262 rfl rfl ?_
  refine bw_getR (z := 266) (RX11, TX11, 52) 11 10 (b := 209) dX11_init_263 rfl rfl (Nat.le_of_ble_eq_true rfl) fd_RX11_47 rfl ?_
  refine bw_iconst (z := 267) 5 dX11_init_266 rfl (by decide) ?_
  refine bw_ldc2 (z := 270) dX11_init_267 rfl tb_1467 ?_
  refine bw_lastore (z := 271) 20 dX11_init_270 rfl rfl (Nat.le_of_ble_eq_true rfl) (bw_in (by decide)) ?_
  refine bw_aload_n (z := 272) dX11_init_271 rfl rfl ?_
  refine bw_getR (z := 275) (RX11, TX11, 52) 11 10 (b := 209) dX11_init_272 rfl rfl (Nat.le_of_ble_eq_true rfl) fd_RX11_47 rfl ?_
  refine bw_bipush (z := 277) 6 dX11_init_275 rfl (by decide) ?_
  refine bw_ldc2 (z := 280) dX11_init_277 rfl tb_1468 ?_
  refine bw_lastore (z := 281) 20 dX11_init_280 rfl rfl (Nat.le_of_ble_eq_true rfl) (bw_in (by decide)) ?_
  refine bw_aload_n (z := 282) dX11_init_281 rfl rfl ?_
  refine bw_getR (z := 285) (RX11, TX11, 52) 11 10 (b := 209) dX11_init_282 rfl rfl (Nat.le_of_ble_eq_true rfl) fd_RX11_47 rfl ?_
  refine bw_bipush (z := 287) 7 dX11_init_285 rfl (by decide) ?_
  refine bw_ldc2 (z := 290) dX11_init_287 rfl tb_1469 ?_
  refine bw_lastore (z := 291) 20 dX11_init_290 rfl rfl (Nat.le_of_ble_eq_true rfl) (bw_in (by decide)) ?_
  refine bw_aload_n (z := 292) dX11_init_291 rfl rfl ?_
  refine bw_getR (z := 295) (RX11, TX11, 52) 11 10 (b := 209) dX11_init_292 rfl rfl (Nat.le_of_ble_eq_true rfl) fd_RX11_47 rfl ?_
  refine bw_bipush (z := 297) 8 dX11_init_295 rfl (by decide) ?_
  refine bw_ldc2 (z := 300) dX11_init_297 rfl tb_1470 ?_
  refine bw_lastore (z := 301) 20 dX11_init_300 rfl rfl (Nat.le_of_ble_eq_true rfl) (bw_in (by decide)) ?_
  refine bw_aload_n (z := 302) dX11_init_301 rfl rfl ?_
  refine bw_getR (z := 305) (RX11, TX11, 52) 11 10 (b := 209) dX11_init_302 rfl rfl (Nat.le_of_ble_eq_true rfl) fd_RX11_47 rfl ?_
  refine bw_bipush (z := 307) 9 dX11_init_305 rfl (by decide) ?_
  refine bw_ldc2 (z := 310) dX11_init_307 rfl tb_1471 ?_
  refine bw_lastore (z := 311) 20 dX11_init_310 rfl rfl (Nat.le_of_ble_eq_true rfl) (bw_in (by decide)) ?_
  refine bw_aload_n (z := 312) dX11_init_311 rfl rfl ?_
  refine bw_getR (z := 315) (RX11, TX11, 52) 11 10 (b := 209) dX11_init_312 rfl rfl (Nat.le_of_ble_eq_true rfl) fd_RX11_47 rfl ?_
  refine bw_bipush (z := 317) 10 dX11_init_315 rfl (by decide) ?_
  refine bw_ldc2 (z := 320) dX11_init_317 rfl tb_1472 ?_
  refine bw_lastore (z := 321) 20 dX11_init_320 rfl rfl (Nat.le_of_ble_eq_true rfl) (bw_in (by decide)) ?_
  refine bw_aload_n (z := 322) dX11_init_321 rfl rfl ?_
  refine bw_getR (z := 325) (RX11, TX11, 52) 11 10 (b := 209) dX11_init_322 rfl rfl (Nat.le_of_ble_eq_true rfl) fd_RX11_47 rfl ?_
  refine bw_bipush (z := 327) 11 dX11_init_325 rfl (by decide) ?_
  refine bw_ldc2 (z := 330) dX11_init_327 rfl tb_1473 ?_
  refine bw_lastore (z := 331) 20 dX11_init_330 rfl rfl (Nat.le_of_ble_eq_true rfl) (bw_in (by decide)) ?_
  refine bw_aload_n (z := 332) dX11_init_331 rfl rfl ?_
  refine bw_getR (z := 335) (RX11, TX11, 52) 11 10 (b := 209) dX11_init_332 rfl rfl (Nat.le_of_ble_eq_true rfl) fd_RX11_47 rfl ?_
  refine bw_bipush (z := 337) 12 dX11_init_335 rfl (by decide) ?_
  refine bw_ldc2 (z := 340) dX11_init_337 rfl tb_1474 ?_
  refine bw_lastore (z := 341) 20 dX11_init_340 rfl rfl (Nat.le_of_ble_eq_true rfl) (bw_in (by decide)) ?_
  refine bw_aload_n (z := 342) dX11_init_341 rfl rfl ?_
  refine bw_getR (z := 345) (RX11, TX11, 52) 11 10 (b := 209) dX11_init_342 rfl rfl (Nat.le_of_ble_eq_true rfl) fd_RX11_47 rfl ?_
  refine bw_bipush (z := 347) 13 dX11_init_345 rfl (by decide) ?_
  refine bw_ldc2 (z := 350) dX11_init_347 rfl tb_1475 ?_
  refine bw_lastore (z := 351) 20 dX11_init_350 rfl rfl (Nat.le_of_ble_eq_true rfl) (bw_in (by decide)) ?_
  refine bw_aload_n (z := 352) dX11_init_351 rfl rfl ?_
  refine bw_getR (z := 355) (RX11, TX11, 52) 11 10 (b := 209) dX11_init_352 rfl rfl (Nat.le_of_ble_eq_true rfl) fd_RX11_47 rfl ?_
  refine bw_bipush (z := 357) 14 dX11_init_355 rfl (by decide) ?_
  refine bw_ldc2 (z := 360) dX11_init_357 rfl tb_1476 ?_
  refine bw_lastore (z := 361) 20 dX11_init_360 rfl rfl (Nat.le_of_ble_eq_true rfl) (bw_in (by decide)) ?_
  refine bw_aload_n (z := 362) dX11_init_361 rfl rfl ?_
  refine bw_getR (z := 365) (RX11, TX11, 52) 11 10 (b := 209) dX11_init_362 rfl rfl (Nat.le_of_ble_eq_true rfl) fd_RX11_47 rfl ?_
  refine bw_bipush (z := 367) 15 dX11_init_365 rfl (by decide) ?_
  refine bw_ldc2 (z := 370) dX11_init_367 rfl tb_1477 ?_
  refine bw_lastore (z := 371) 20 dX11_init_370 rfl rfl (Nat.le_of_ble_eq_true rfl) (bw_in (by decide)) ?_
  refine bw_aload_n (z := 372) dX11_init_371 rfl rfl ?_
  refine bw_getR (z := 375) (RX11, TX11, 52) 11 10 (b := 209) dX11_init_372 rfl rfl (Nat.le_of_ble_eq_true rfl) fd_RX11_47 rfl ?_
  refine bw_bipush (z := 377) 16 dX11_init_375 rfl (by decide) ?_
  refine bw_ldc2 (z := 380) dX11_init_377 rfl tb_1478 ?_
  refine bw_lastore (z := 381) 20 dX11_init_380 rfl rfl (Nat.le_of_ble_eq_true rfl) (bw_in (by decide)) ?_
  refine bw_aload_n (z := 382) dX11_init_381 rfl rfl ?_
  refine bw_getR (z := 385) (RX11, TX11, 52) 11 10 (b := 209) dX11_init_382 rfl rfl (Nat.le_of_ble_eq_true rfl) fd_RX11_47 rfl ?_
  refine bw_bipush (z := 387) 17 dX11_init_385 rfl (by decide) ?_
  refine bw_ldc2 (z := 390) dX11_init_387 rfl tb_1479 ?_
  refine bw_lastore (z := 391) 20 dX11_init_390 rfl rfl (Nat.le_of_ble_eq_true rfl) (bw_in (by decide)) ?_
  refine bw_aload_n (z := 392) dX11_init_391 rfl rfl ?_
  refine bw_getR (z := 395) (RX11, TX11, 52) 11 10 (b := 209) dX11_init_392 rfl rfl (Nat.le_of_ble_eq_true rfl) fd_RX11_47 rfl ?_
  refine bw_bipush (z := 397) 18 dX11_init_395 rfl (by decide) ?_
  refine bw_ldc2 (z := 400) dX11_init_397 rfl tb_1480 ?_
  refine bw_lastore (z := 401) 20 dX11_init_400 rfl rfl (Nat.le_of_ble_eq_true rfl) (bw_in (by decide)) ?_
  refine bw_aload_n (z := 402) dX11_init_401 rfl rfl ?_
  refine bw_getR (z := 405) (RX11, TX11, 52) 11 10 (b := 209) dX11_init_402 rfl rfl (Nat.le_of_ble_eq_true rfl) fd_RX11_47 rfl ?_
  refine bw_bipush (z := 407) 19 dX11_init_405 rfl (by decide) ?_
  refine bw_ldc2 (z := 410) dX11_init_407 rfl tb_1481 ?_
  refine bw_lastore (z := 411) 20 dX11_init_410 rfl rfl (Nat.le_of_ble_eq_true rfl) (bw_in (by decide)) ?_
  refine bw_iconst (z := 412) 0 dX11_init_411 rfl (by decide) ?_
  refine bw_istore_n (z := 413) [some (.ref 203), some (.int 0)] dX11_init_412 rfl rfl (Nat.le_of_ble_eq_true rfl) (Nat.le_of_ble_eq_true rfl) rfl ?_
  refine bw_iload_n (z := 414) dX11_init_413 rfl rfl ?_
  refine bw_iconst (z := 415) 3 dX11_init_414 rfl (by decide) ?_
  refine bw_icmp_ge_f (z := 418) dX11_init_415 434 (by decide) rfl (by decide) ?_
  refine bw_aload_n (z := 419) dX11_init_418 rfl rfl ?_
  refine bw_getR (z := 422) (RX11, TX11, 52) 11 6 (b := 205) dX11_init_419 rfl rfl (Nat.le_of_ble_eq_true rfl) fd_RX11_33 rfl ?_
  refine bw_bipush (z := 424) 7 dX11_init_422 rfl (by decide) ?_
  refine bw_iload_n (z := 425) dX11_init_424 rfl rfl ?_
  refine bw_iadd (z := 426) dX11_init_425 rfl ?_
  refine bw_iconst (z := 427) 1 dX11_init_426 rfl (by decide) ?_
  refine bw_iastore (z := 428) 1155 dX11_init_427 rfl rfl (Nat.le_of_ble_eq_true rfl) (bw_in (by decide)) ?_
  refine bw_iinc (z := 431) 1 [some (.ref 203), some (.int 1)] dX11_init_428 rfl rfl (by decide) rfl (Nat.le_of_ble_eq_true rfl) rfl ?_
  refine bw_goto 413 dX11_init_431 (by decide) ?_
  refine bw_iload_n (z := 414) dX11_init_413 rfl rfl ?_
  refine bw_iconst (z := 415) 3 dX11_init_414 rfl (by decide) ?_
  refine bw_icmp_ge_f (z := 418) dX11_init_415 434 (by decide) rfl (by decide) ?_
  refine bw_aload_n (z := 419) dX11_init_418 rfl rfl ?_
  refine bw_getR (z := 422) (RX11, TX11, 52) 11 6 (b := 205) dX11_init_419 rfl rfl (Nat.le_of_ble_eq_true rfl) fd_RX11_33 rfl ?_
  refine bw_bipush (z := 424) 7 dX11_init_422 rfl (by decide) ?_
  refine bw_iload_n (z := 425) dX11_init_424 rfl rfl ?_
  refine bw_iadd (z := 426) dX11_init_425 rfl ?_
  refine bw_iconst (z := 427) 1 dX11_init_426 rfl (by decide) ?_
  refine bw_iastore (z := 428) 1155 dX11_init_427 rfl rfl (Nat.le_of_ble_eq_true rfl) (bw_in (by decide)) ?_
  refine bw_iinc (z := 431) 2 [some (.ref 203), some (.int 2)] dX11_init_428 rfl rfl (by decide) rfl (Nat.le_of_ble_eq_true rfl) rfl ?_
  refine bw_goto 413 dX11_init_431 (by decide) ?_
  refine bw_iload_n (z := 414) dX11_init_413 rfl rfl ?_
  refine bw_iconst (z := 415) 3 dX11_init_414 rfl (by decide) ?_
  refine bw_icmp_ge_f (z := 418) dX11_init_415 434 (by decide) rfl (by decide) ?_
  refine bw_aload_n (z := 419) dX11_init_418 rfl rfl ?_
  refine bw_getR (z := 422) (RX11, TX11, 52) 11 6 (b := 205) dX11_init_419 rfl rfl (Nat.le_of_ble_eq_true rfl) fd_RX11_33 rfl ?_
  refine bw_bipush (z := 424) 7 dX11_init_422 rfl (by decide) ?_
  refine bw_iload_n (z := 425) dX11_init_424 rfl rfl ?_
  refine bw_iadd (z := 426) dX11_init_425 rfl ?_
  refine bw_iconst (z := 427) 1 dX11_init_426 rfl (by decide) ?_
  refine bw_iastore (z := 428) 1155 dX11_init_427 rfl rfl (Nat.le_of_ble_eq_true rfl) (bw_in (by decide)) ?_
  refine bw_iinc (z := 431) 3 [some (.ref 203), some (.int 3)] dX11_init_428 rfl rfl (by decide) rfl (Nat.le_of_ble_eq_true rfl) rfl ?_
  refine bw_goto 413 dX11_init_431 (by decide) ?_
  refine bw_iload_n (z := 414) dX11_init_413 rfl rfl ?_
  refine bw_iconst (z := 415) 3 dX11_init_414 rfl (by decide) ?_
  refine bw_icmp_ge_t 434 dX11_init_415 (by decide) (by decide) ?_
  exact bw_vret rfl dX11_init_434 rfl rfl rfl rfl
