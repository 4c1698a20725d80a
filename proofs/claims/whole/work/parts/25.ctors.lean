theorem tb_157 : Cond.methodLink RX4 1 objectInit ∈ aw_TB := aw_tb 157 (by decide +kernel) (by decide +kernel)
theorem tb_30 : Cond.instanceMethod objectInit ∈ aw_TB := aw_tb 30 (by decide +kernel) (by decide +kernel)
theorem tb_31 : Cond.code objectInit ⟨#[0xb1]⟩ 1 none ∈ aw_TB := aw_tb 31 (by decide +kernel) (by decide +kernel)
theorem tb_158 : Cond.classLink RX4 7 RX8 ∈ aw_TB := aw_tb 158 (by decide +kernel) (by decide +kernel)
theorem tb_159 : Cond.instantiable RX8 20 ∈ aw_TB := aw_tb 159 (by decide +kernel) (by decide +kernel)
theorem tb_163 : Cond.methodLink RX8 3 objectInit ∈ aw_TB := aw_tb 163 (by decide +kernel) (by decide +kernel)
theorem tb_150 : Cond.arrayClass .long ∈ aw_TB := aw_tb 150 (by decide +kernel) (by decide +kernel)
theorem tb_149 : Cond.arrayClass .int ∈ aw_TB := aw_tb 149 (by decide +kernel) (by decide +kernel)
theorem tb_161 : Cond.instanceMethod yX8_init ∈ aw_TB := aw_tb 161 (by decide +kernel) (by decide +kernel)
theorem tb_162 : Cond.code yX8_init cX8_init 1 none ∈ aw_TB := aw_tb 162 (by decide +kernel) (by decide +kernel)
theorem tb_160 : Cond.methodLink RX4 9 yX8_init ∈ aw_TB := aw_tb 160 (by decide +kernel) (by decide +kernel)
theorem tb_264 : Cond.classLink RX4 16 RX2 ∈ aw_TB := aw_tb 264 (by decide +kernel) (by decide +kernel)
theorem tb_265 : Cond.instantiable RX2 4 ∈ aw_TB := aw_tb 265 (by decide +kernel) (by decide +kernel)
theorem tb_269 : Cond.methodLink RX2 3 objectInit ∈ aw_TB := aw_tb 269 (by decide +kernel) (by decide +kernel)
theorem tb_267 : Cond.instanceMethod yX2_init ∈ aw_TB := aw_tb 267 (by decide +kernel) (by decide +kernel)
theorem tb_268 : Cond.code yX2_init cX2_init 1 none ∈ aw_TB := aw_tb 268 (by decide +kernel) (by decide +kernel)
theorem tb_266 : Cond.methodLink RX4 18 yX2_init ∈ aw_TB := aw_tb 266 (by decide +kernel) (by decide +kernel)
theorem tb_299 : Cond.classLink RX4 23 RX3 ∈ aw_TB := aw_tb 299 (by decide +kernel) (by decide +kernel)
theorem tb_300 : Cond.instantiable RX3 6 ∈ aw_TB := aw_tb 300 (by decide +kernel) (by decide +kernel)
theorem tb_304 : Cond.methodLink RX3 5 objectInit ∈ aw_TB := aw_tb 304 (by decide +kernel) (by decide +kernel)
theorem tb_325 : Cond.arrayClass .boolean ∈ aw_TB := aw_tb 325 (by decide +kernel) (by decide +kernel)
theorem tb_302 : Cond.instanceMethod yX3_init ∈ aw_TB := aw_tb 302 (by decide +kernel) (by decide +kernel)
theorem tb_303 : Cond.code yX3_init cX3_init 1 none ∈ aw_TB := aw_tb 303 (by decide +kernel) (by decide +kernel)
theorem tb_326 : Cond.classLink RX4 30 RX1 ∈ aw_TB := aw_tb 326 (by decide +kernel) (by decide +kernel)
theorem tb_327 : Cond.instantiable RX1 12 ∈ aw_TB := aw_tb 327 (by decide +kernel) (by decide +kernel)
theorem tb_331 : Cond.methodLink RX1 3 objectInit ∈ aw_TB := aw_tb 331 (by decide +kernel) (by decide +kernel)
theorem tb_332 : Cond.methodLink RX1 43 yJ7_fill_53178 ∈ aw_TB := aw_tb 332 (by decide +kernel) (by decide +kernel)
theorem cw_RX1_43 : aw_ct RX1 43 yJ7_fill_53178 cJ7_fill_53178 4 none 2 := ⟨⟨tb_170, tb_9, ⟨by decide, by decide⟩, by decide +kernel, tb_332⟩, tb_169⟩
theorem tb_329 : Cond.instanceMethod yX1_init ∈ aw_TB := aw_tb 329 (by decide +kernel) (by decide +kernel)
theorem tb_330 : Cond.code yX1_init cX1_init 1 none ∈ aw_TB := aw_tb 330 (by decide +kernel) (by decide +kernel)
theorem tb_328 : Cond.methodLink RX4 32 yX1_init ∈ aw_TB := aw_tb 328 (by decide +kernel) (by decide +kernel)
theorem tb_385 : Cond.classLink RX4 37 RX0 ∈ aw_TB := aw_tb 385 (by decide +kernel) (by decide +kernel)
theorem tb_386 : Cond.instantiable RX0 20 ∈ aw_TB := aw_tb 386 (by decide +kernel) (by decide +kernel)
theorem tb_390 : Cond.methodLink RX0 3 objectInit ∈ aw_TB := aw_tb 390 (by decide +kernel) (by decide +kernel)
theorem tb_388 : Cond.instanceMethod yX0_init ∈ aw_TB := aw_tb 388 (by decide +kernel) (by decide +kernel)
theorem tb_389 : Cond.code yX0_init cX0_init 4 none ∈ aw_TB := aw_tb 389 (by decide +kernel) (by decide +kernel)
theorem tb_387 : Cond.methodLink RX4 39 yX0_init ∈ aw_TB := aw_tb 387 (by decide +kernel) (by decide +kernel)
theorem bnf_0 : ∀ j, j < 20 → ∃ t, (aw_ty 0)[j]? = some t ∧ defaultValue (tyX0 j) = (match t with | 0 => .int 0 | 1 => .long 0 | _ => .null) := by
  intro j hj
  rcases (show j = 0 ∨ j = 1 ∨ j = 2 ∨ j = 3 ∨ j = 4 ∨ j = 5 ∨ j = 6 ∨ j = 7 ∨ j = 8 ∨ j = 9 ∨ j = 10 ∨ j = 11 ∨ j = 12 ∨ j = 13 ∨ j = 14 ∨ j = 15 ∨ j = 16 ∨ j = 17 ∨ j = 18 ∨ j = 19 by omega) with rfl | rfl | rfl | rfl | rfl | rfl | rfl | rfl | rfl | rfl | rfl | rfl | rfl | rfl | rfl | rfl | rfl | rfl | rfl | rfl <;> exact ⟨_, rfl, rfl⟩
theorem bnf_1 : ∀ j, j < 12 → ∃ t, (aw_ty 1)[j]? = some t ∧ defaultValue (tyX1 j) = (match t with | 0 => .int 0 | 1 => .long 0 | _ => .null) := by
  intro j hj
  rcases (show j = 0 ∨ j = 1 ∨ j = 2 ∨ j = 3 ∨ j = 4 ∨ j = 5 ∨ j = 6 ∨ j = 7 ∨ j = 8 ∨ j = 9 ∨ j = 10 ∨ j = 11 by omega) with rfl | rfl | rfl | rfl | rfl | rfl | rfl | rfl | rfl | rfl | rfl | rfl <;> exact ⟨_, rfl, rfl⟩
theorem bnf_2 : ∀ j, j < 4 → ∃ t, (aw_ty 2)[j]? = some t ∧ defaultValue (tyX2 j) = (match t with | 0 => .int 0 | 1 => .long 0 | _ => .null) := by
  intro j hj
  rcases (show j = 0 ∨ j = 1 ∨ j = 2 ∨ j = 3 by omega) with rfl | rfl | rfl | rfl <;> exact ⟨_, rfl, rfl⟩
theorem bnf_3 : ∀ j, j < 6 → ∃ t, (aw_ty 3)[j]? = some t ∧ defaultValue (tyX3 j) = (match t with | 0 => .int 0 | 1 => .long 0 | _ => .null) := by
  intro j hj
  rcases (show j = 0 ∨ j = 1 ∨ j = 2 ∨ j = 3 ∨ j = 4 ∨ j = 5 by omega) with rfl | rfl | rfl | rfl | rfl | rfl <;> exact ⟨_, rfl, rfl⟩
theorem bnf_4 : ∀ j, j < 5 → ∃ t, (aw_ty 4)[j]? = some t ∧ defaultValue (tyX4 j) = (match t with | 0 => .int 0 | 1 => .long 0 | _ => .null) := by
  intro j hj
  rcases (show j = 0 ∨ j = 1 ∨ j = 2 ∨ j = 3 ∨ j = 4 by omega) with rfl | rfl | rfl | rfl | rfl <;> exact ⟨_, rfl, rfl⟩
theorem bnf_5 : ∀ j, j < 12 → ∃ t, (aw_ty 5)[j]? = some t ∧ defaultValue (tyX5 j) = (match t with | 0 => .int 0 | 1 => .long 0 | _ => .null) := by
  intro j hj
  rcases (show j = 0 ∨ j = 1 ∨ j = 2 ∨ j = 3 ∨ j = 4 ∨ j = 5 ∨ j = 6 ∨ j = 7 ∨ j = 8 ∨ j = 9 ∨ j = 10 ∨ j = 11 by omega) with rfl | rfl | rfl | rfl | rfl | rfl | rfl | rfl | rfl | rfl | rfl | rfl <;> exact ⟨_, rfl, rfl⟩
theorem bnf_6 : ∀ j, j < 13 → ∃ t, (aw_ty 6)[j]? = some t ∧ defaultValue (tyX6 j) = (match t with | 0 => .int 0 | 1 => .long 0 | _ => .null) := by
  intro j hj
  rcases (show j = 0 ∨ j = 1 ∨ j = 2 ∨ j = 3 ∨ j = 4 ∨ j = 5 ∨ j = 6 ∨ j = 7 ∨ j = 8 ∨ j = 9 ∨ j = 10 ∨ j = 11 ∨ j = 12 by omega) with rfl | rfl | rfl | rfl | rfl | rfl | rfl | rfl | rfl | rfl | rfl | rfl | rfl <;> exact ⟨_, rfl, rfl⟩
theorem bnf_7 : ∀ j, j < 4 → ∃ t, (aw_ty 7)[j]? = some t ∧ defaultValue (tyX7 j) = (match t with | 0 => .int 0 | 1 => .long 0 | _ => .null) := by
  intro j hj
  rcases (show j = 0 ∨ j = 1 ∨ j = 2 ∨ j = 3 by omega) with rfl | rfl | rfl | rfl <;> exact ⟨_, rfl, rfl⟩
theorem bnf_8 : ∀ j, j < 20 → ∃ t, (aw_ty 8)[j]? = some t ∧ defaultValue (tyX8 j) = (match t with | 0 => .int 0 | 1 => .long 0 | _ => .null) := by
  intro j hj
  rcases (show j = 0 ∨ j = 1 ∨ j = 2 ∨ j = 3 ∨ j = 4 ∨ j = 5 ∨ j = 6 ∨ j = 7 ∨ j = 8 ∨ j = 9 ∨ j = 10 ∨ j = 11 ∨ j = 12 ∨ j = 13 ∨ j = 14 ∨ j = 15 ∨ j = 16 ∨ j = 17 ∨ j = 18 ∨ j = 19 by omega) with rfl | rfl | rfl | rfl | rfl | rfl | rfl | rfl | rfl | rfl | rfl | rfl | rfl | rfl | rfl | rfl | rfl | rfl | rfl | rfl <;> exact ⟨_, rfl, rfl⟩
theorem bnf_9 : ∀ j, j < 13 → ∃ t, (aw_ty 9)[j]? = some t ∧ defaultValue (tyX9 j) = (match t with | 0 => .int 0 | 1 => .long 0 | _ => .null) := by
  intro j hj
  rcases (show j = 0 ∨ j = 1 ∨ j = 2 ∨ j = 3 ∨ j = 4 ∨ j = 5 ∨ j = 6 ∨ j = 7 ∨ j = 8 ∨ j = 9 ∨ j = 10 ∨ j = 11 ∨ j = 12 by omega) with rfl | rfl | rfl | rfl | rfl | rfl | rfl | rfl | rfl | rfl | rfl | rfl | rfl <;> exact ⟨_, rfl, rfl⟩
theorem bnf_10 : ∀ j, j < 12 → ∃ t, (aw_ty 10)[j]? = some t ∧ defaultValue (tyX10 j) = (match t with | 0 => .int 0 | 1 => .long 0 | _ => .null) := by
  intro j hj
  rcases (show j = 0 ∨ j = 1 ∨ j = 2 ∨ j = 3 ∨ j = 4 ∨ j = 5 ∨ j = 6 ∨ j = 7 ∨ j = 8 ∨ j = 9 ∨ j = 10 ∨ j = 11 by omega) with rfl | rfl | rfl | rfl | rfl | rfl | rfl | rfl | rfl | rfl | rfl | rfl <;> exact ⟨_, rfl, rfl⟩
theorem bnf_11 : ∀ j, j < 52 → ∃ t, (aw_ty 11)[j]? = some t ∧ defaultValue (tyX11 j) = (match t with | 0 => .int 0 | 1 => .long 0 | _ => .null) := by
  intro j hj
  rcases (show j = 0 ∨ j = 1 ∨ j = 2 ∨ j = 3 ∨ j = 4 ∨ j = 5 ∨ j = 6 ∨ j = 7 ∨ j = 8 ∨ j = 9 ∨ j = 10 ∨ j = 11 ∨ j = 12 ∨ j = 13 ∨ j = 14 ∨ j = 15 ∨ j = 16 ∨ j = 17 ∨ j = 18 ∨ j = 19 ∨ j = 20 ∨ j = 21 ∨ j = 22 ∨ j = 23 ∨ j = 24 ∨ j = 25 ∨ j = 26 ∨ j = 27 ∨ j = 28 ∨ j = 29 ∨ j = 30 ∨ j = 31 ∨ j = 32 ∨ j = 33 ∨ j = 34 ∨ j = 35 ∨ j = 36 ∨ j = 37 ∨ j = 38 ∨ j = 39 ∨ j = 40 ∨ j = 41 ∨ j = 42 ∨ j = 43 ∨ j = 44 ∨ j = 45 ∨ j = 46 ∨ j = 47 ∨ j = 48 ∨ j = 49 ∨ j = 50 ∨ j = 51 by omega) with rfl | rfl | rfl | rfl | rfl | rfl | rfl | rfl | rfl | rfl | rfl | rfl | rfl | rfl | rfl | rfl | rfl | rfl | rfl | rfl | rfl | rfl | rfl | rfl | rfl | rfl | rfl | rfl | rfl | rfl | rfl | rfl | rfl | rfl | rfl | rfl | rfl | rfl | rfl | rfl | rfl | rfl | rfl | rfl | rfl | rfl | rfl | rfl | rfl | rfl | rfl | rfl <;> exact ⟨_, rfl, rfl⟩
theorem dX4_init_0 : decode cX4_init 0 = .ok (.aload_n 0, 1) := by decide +kernel
theorem dX4_init_1 : decode cX4_init 1 = .ok (.invokespecial 1, 3) := by decide +kernel
theorem dX4_init_4 : decode cX4_init 4 = .ok (.aload_n 0, 1) := by decide +kernel
theorem dX4_init_5 : decode cX4_init 5 = .ok (.new 7, 3) := by decide +kernel
theorem dX4_init_8 : decode cX4_init 8 = .ok (.dup, 1) := by decide +kernel
theorem dX4_init_9 : decode cX4_init 9 = .ok (.invokespecial 9, 3) := by decide +kernel
theorem dX4_init_12 : decode cX4_init 12 = .ok (.putfield 10, 3) := by decide +kernel
theorem dX4_init_15 : decode cX4_init 15 = .ok (.aload_n 0, 1) := by decide +kernel
theorem dX4_init_16 : decode cX4_init 16 = .ok (.new 16, 3) := by decide +kernel
theorem dX4_init_19 : decode cX4_init 19 = .ok (.dup, 1) := by decide +kernel
theorem dX4_init_20 : decode cX4_init 20 = .ok (.invokespecial 18, 3) := by decide +kernel
theorem dX4_init_23 : decode cX4_init 23 = .ok (.putfield 19, 3) := by decide +kernel
theorem dX4_init_26 : decode cX4_init 26 = .ok (.aload_n 0, 1) := by decide +kernel
theorem dX4_init_27 : decode cX4_init 27 = .ok (.new 23, 3) := by decide +kernel
theorem dX4_init_30 : decode cX4_init 30 = .ok (.dup, 1) := by decide +kernel
theorem dX4_init_31 : decode cX4_init 31 = .ok (.invokespecial 25, 3) := by decide +kernel
theorem dX4_init_34 : decode cX4_init 34 = .ok (.putfield 26, 3) := by decide +kernel
theorem dX4_init_37 : decode cX4_init 37 = .ok (.aload_n 0, 1) := by decide +kernel
theorem dX4_init_38 : decode cX4_init 38 = .ok (.new 30, 3) := by decide +kernel
theorem dX4_init_41 : decode cX4_init 41 = .ok (.dup, 1) := by decide +kernel
theorem dX4_init_42 : decode cX4_init 42 = .ok (.invokespecial 32, 3) := by decide +kernel
theorem dX4_init_45 : decode cX4_init 45 = .ok (.putfield 33, 3) := by decide +kernel
theorem dX4_init_48 : decode cX4_init 48 = .ok (.aload_n 0, 1) := by decide +kernel
theorem dX4_init_49 : decode cX4_init 49 = .ok (.new 37, 3) := by decide +kernel
theorem dX4_init_52 : decode cX4_init 52 = .ok (.dup, 1) := by decide +kernel
theorem dX4_init_53 : decode cX4_init 53 = .ok (.aload_n 0, 1) := by decide +kernel
theorem dX4_init_54 : decode cX4_init 54 = .ok (.getfield 10, 3) := by decide +kernel
theorem dX4_init_57 : decode cX4_init 57 = .ok (.aload_n 0, 1) := by decide +kernel
theorem dX4_init_58 : decode cX4_init 58 = .ok (.getfield 19, 3) := by decide +kernel
theorem dX4_init_61 : decode cX4_init 61 = .ok (.aload_n 0, 1) := by decide +kernel
theorem dX4_init_62 : decode cX4_init 62 = .ok (.getfield 33, 3) := by decide +kernel
theorem dX4_init_65 : decode cX4_init 65 = .ok (.invokespecial 39, 3) := by decide +kernel
theorem dX4_init_68 : decode cX4_init 68 = .ok (.putfield 42, 3) := by decide +kernel
theorem dX4_init_71 : decode cX4_init 71 = .ok (.return_, 1) := by decide +kernel
theorem dX8_init_0 : decode cX8_init 0 = .ok (.aload_n 0, 1) := by decide +kernel
theorem dX8_init_1 : decode cX8_init 1 = .ok (.invokespecial 3, 3) := by decide +kernel
theorem dX8_init_4 : decode cX8_init 4 = .ok (.aload_n 0, 1) := by decide +kernel
theorem dX8_init_5 : decode cX8_init 5 = .ok (.bipush 9, 2) := by decide +kernel
theorem dX8_init_7 : decode cX8_init 7 = .ok (.newarray .long, 2) := by decide +kernel
theorem dX8_init_9 : decode cX8_init 9 = .ok (.putfield 9, 3) := by decide +kernel
theorem dX8_init_12 : decode cX8_init 12 = .ok (.aload_n 0, 1) := by decide +kernel
theorem dX8_init_13 : decode cX8_init 13 = .ok (.bipush 9, 2) := by decide +kernel
theorem dX8_init_15 : decode cX8_init 15 = .ok (.newarray .int, 2) := by decide +kernel
theorem dX8_init_17 : decode cX8_init 17 = .ok (.putfield 15, 3) := by decide +kernel
theorem dX8_init_20 : decode cX8_init 20 = .ok (.aload_n 0, 1) := by decide +kernel
theorem dX8_init_21 : decode cX8_init 21 = .ok (.bipush 9, 2) := by decide +kernel
theorem dX8_init_23 : decode cX8_init 23 = .ok (.newarray .int, 2) := by decide +kernel
theorem dX8_init_25 : decode cX8_init 25 = .ok (.putfield 19, 3) := by decide +kernel
theorem dX8_init_28 : decode cX8_init 28 = .ok (.aload_n 0, 1) := by decide +kernel
theorem dX8_init_29 : decode cX8_init 29 = .ok (.bipush 9, 2) := by decide +kernel
theorem dX8_init_31 : decode cX8_init 31 = .ok (.newarray .int, 2) := by decide +kernel
theorem dX8_init_33 : decode cX8_init 33 = .ok (.putfield 22, 3) := by decide +kernel
theorem dX8_init_36 : decode cX8_init 36 = .ok (.aload_n 0, 1) := by decide +kernel
theorem dX8_init_37 : decode cX8_init 37 = .ok (.bipush 9, 2) := by decide +kernel
theorem dX8_init_39 : decode cX8_init 39 = .ok (.newarray .int, 2) := by decide +kernel
theorem dX8_init_41 : decode cX8_init 41 = .ok (.putfield 25, 3) := by decide +kernel
theorem dX8_init_44 : decode cX8_init 44 = .ok (.aload_n 0, 1) := by decide +kernel
theorem dX8_init_45 : decode cX8_init 45 = .ok (.bipush 20, 2) := by decide +kernel
theorem dX8_init_47 : decode cX8_init 47 = .ok (.newarray .int, 2) := by decide +kernel
theorem dX8_init_49 : decode cX8_init 49 = .ok (.putfield 28, 3) := by decide +kernel
theorem dX8_init_52 : decode cX8_init 52 = .ok (.aload_n 0, 1) := by decide +kernel
theorem dX8_init_53 : decode cX8_init 53 = .ok (.bipush 20, 2) := by decide +kernel
theorem dX8_init_55 : decode cX8_init 55 = .ok (.newarray .int, 2) := by decide +kernel
theorem dX8_init_57 : decode cX8_init 57 = .ok (.putfield 31, 3) := by decide +kernel
theorem dX8_init_60 : decode cX8_init 60 = .ok (.aload_n 0, 1) := by decide +kernel
theorem dX8_init_61 : decode cX8_init 61 = .ok (.bipush 20, 2) := by decide +kernel
theorem dX8_init_63 : decode cX8_init 63 = .ok (.newarray .int, 2) := by decide +kernel
theorem dX8_init_65 : decode cX8_init 65 = .ok (.putfield 34, 3) := by decide +kernel
theorem dX8_init_68 : decode cX8_init 68 = .ok (.aload_n 0, 1) := by decide +kernel
theorem dX8_init_69 : decode cX8_init 69 = .ok (.bipush 20, 2) := by decide +kernel
theorem dX8_init_71 : decode cX8_init 71 = .ok (.newarray .int, 2) := by decide +kernel
theorem dX8_init_73 : decode cX8_init 73 = .ok (.putfield 37, 3) := by decide +kernel
theorem dX8_init_76 : decode cX8_init 76 = .ok (.aload_n 0, 1) := by decide +kernel
theorem dX8_init_77 : decode cX8_init 77 = .ok (.iconst 4, 1) := by decide +kernel
theorem dX8_init_78 : decode cX8_init 78 = .ok (.newarray .int, 2) := by decide +kernel
theorem dX8_init_80 : decode cX8_init 80 = .ok (.putfield 40, 3) := by decide +kernel
theorem dX8_init_83 : decode cX8_init 83 = .ok (.aload_n 0, 1) := by decide +kernel
theorem dX8_init_84 : decode cX8_init 84 = .ok (.bipush 100, 2) := by decide +kernel
theorem dX8_init_86 : decode cX8_init 86 = .ok (.newarray .int, 2) := by decide +kernel
theorem dX8_init_88 : decode cX8_init 88 = .ok (.putfield 43, 3) := by decide +kernel
theorem dX8_init_91 : decode cX8_init 91 = .ok (.aload_n 0, 1) := by decide +kernel
theorem dX8_init_92 : decode cX8_init 92 = .ok (.bipush 100, 2) := by decide +kernel
theorem dX8_init_94 : decode cX8_init 94 = .ok (.newarray .int, 2) := by decide +kernel
theorem dX8_init_96 : decode cX8_init 96 = .ok (.putfield 46, 3) := by decide +kernel
theorem dX8_init_99 : decode cX8_init 99 = .ok (.aload_n 0, 1) := by decide +kernel
theorem dX8_init_100 : decode cX8_init 100 = .ok (.iconst 4, 1) := by decide +kernel
theorem dX8_init_101 : decode cX8_init 101 = .ok (.newarray .int, 2) := by decide +kernel
theorem dX8_init_103 : decode cX8_init 103 = .ok (.putfield 49, 3) := by decide +kernel
theorem dX8_init_106 : decode cX8_init 106 = .ok (.aload_n 0, 1) := by decide +kernel
theorem dX8_init_107 : decode cX8_init 107 = .ok (.invokevirtual 52, 3) := by decide +kernel
theorem dX8_init_110 : decode cX8_init 110 = .ok (.return_, 1) := by decide +kernel
theorem dX2_init_0 : decode cX2_init 0 = .ok (.aload_n 0, 1) := by decide +kernel
theorem dX2_init_1 : decode cX2_init 1 = .ok (.invokespecial 3, 3) := by decide +kernel
theorem dX2_init_4 : decode cX2_init 4 = .ok (.aload_n 0, 1) := by decide +kernel
theorem dX2_init_5 : decode cX2_init 5 = .ok (.bipush 9, 2) := by decide +kernel
theorem dX2_init_7 : decode cX2_init 7 = .ok (.newarray .int, 2) := by decide +kernel
theorem dX2_init_9 : decode cX2_init 9 = .ok (.putfield 9, 3) := by decide +kernel
theorem dX2_init_12 : decode cX2_init 12 = .ok (.aload_n 0, 1) := by decide +kernel
theorem dX2_init_13 : decode cX2_init 13 = .ok (.bipush 9, 2) := by decide +kernel
theorem dX2_init_15 : decode cX2_init 15 = .ok (.newarray .int, 2) := by decide +kernel
theorem dX2_init_17 : decode cX2_init 17 = .ok (.putfield 15, 3) := by decide +kernel
theorem dX2_init_20 : decode cX2_init 20 = .ok (.aload_n 0, 1) := by decide +kernel
theorem dX2_init_21 : decode cX2_init 21 = .ok (.bipush 9, 2) := by decide +kernel
theorem dX2_init_23 : decode cX2_init 23 = .ok (.newarray .int, 2) := by decide +kernel
theorem dX2_init_25 : decode cX2_init 25 = .ok (.putfield 18, 3) := by decide +kernel
theorem dX2_init_28 : decode cX2_init 28 = .ok (.aload_n 0, 1) := by decide +kernel
theorem dX2_init_29 : decode cX2_init 29 = .ok (.invokevirtual 21, 3) := by decide +kernel
theorem dX2_init_32 : decode cX2_init 32 = .ok (.return_, 1) := by decide +kernel
theorem dX3_init_0 : decode cX3_init 0 = .ok (.aload_n 0, 1) := by decide +kernel
theorem dX3_init_1 : decode cX3_init 1 = .ok (.invokespecial 5, 3) := by decide +kernel
theorem dX3_init_4 : decode cX3_init 4 = .ok (.aload_n 0, 1) := by decide +kernel
theorem dX3_init_5 : decode cX3_init 5 = .ok (.bipush 40, 2) := by decide +kernel
theorem dX3_init_7 : decode cX3_init 7 = .ok (.newarray .int, 2) := by decide +kernel
theorem dX3_init_9 : decode cX3_init 9 = .ok (.putfield 11, 3) := by decide +kernel
theorem dX3_init_12 : decode cX3_init 12 = .ok (.aload_n 0, 1) := by decide +kernel
theorem dX3_init_13 : decode cX3_init 13 = .ok (.bipush 40, 2) := by decide +kernel
theorem dX3_init_15 : decode cX3_init 15 = .ok (.newarray .int, 2) := by decide +kernel
theorem dX3_init_17 : decode cX3_init 17 = .ok (.putfield 15, 3) := by decide +kernel
theorem dX3_init_20 : decode cX3_init 20 = .ok (.aload_n 0, 1) := by decide +kernel
theorem dX3_init_21 : decode cX3_init 21 = .ok (.bipush 40, 2) := by decide +kernel
theorem dX3_init_23 : decode cX3_init 23 = .ok (.newarray .int, 2) := by decide +kernel
theorem dX3_init_25 : decode cX3_init 25 = .ok (.putfield 18, 3) := by decide +kernel
theorem dX3_init_28 : decode cX3_init 28 = .ok (.aload_n 0, 1) := by decide +kernel
theorem dX3_init_29 : decode cX3_init 29 = .ok (.bipush 20, 2) := by decide +kernel
theorem dX3_init_31 : decode cX3_init 31 = .ok (.newarray .boolean, 2) := by decide +kernel
theorem dX3_init_33 : decode cX3_init 33 = .ok (.putfield 21, 3) := by decide +kernel
theorem dX3_init_36 : decode cX3_init 36 = .ok (.return_, 1) := by decide +kernel
theorem dX1_init_0 : decode cX1_init 0 = .ok (.aload_n 0, 1) := by decide +kernel
theorem dX1_init_1 : decode cX1_init 1 = .ok (.invokespecial 3, 3) := by decide +kernel
theorem dX1_init_4 : decode cX1_init 4 = .ok (.aload_n 0, 1) := by decide +kernel
theorem dX1_init_5 : decode cX1_init 5 = .ok (.sipush 360, 3) := by decide +kernel
theorem dX1_init_8 : decode cX1_init 8 = .ok (.newarray .int, 2) := by decide +kernel
theorem dX1_init_10 : decode cX1_init 10 = .ok (.putfield 11, 3) := by decide +kernel
theorem dX1_init_13 : decode cX1_init 13 = .ok (.aload_n 0, 1) := by decide +kernel
theorem dX1_init_14 : decode cX1_init 14 = .ok (.bipush 18, 2) := by decide +kernel
theorem dX1_init_16 : decode cX1_init 16 = .ok (.newarray .int, 2) := by decide +kernel
theorem dX1_init_18 : decode cX1_init 18 = .ok (.putfield 15, 3) := by decide +kernel
theorem dX1_init_21 : decode cX1_init 21 = .ok (.aload_n 0, 1) := by decide +kernel
theorem dX1_init_22 : decode cX1_init 22 = .ok (.bipush 20, 2) := by decide +kernel
theorem dX1_init_24 : decode cX1_init 24 = .ok (.newarray .boolean, 2) := by decide +kernel
theorem dX1_init_26 : decode cX1_init 26 = .ok (.putfield 18, 3) := by decide +kernel
theorem dX1_init_29 : decode cX1_init 29 = .ok (.aload_n 0, 1) := by decide +kernel
theorem dX1_init_30 : decode cX1_init 30 = .ok (.bipush 20, 2) := by decide +kernel
theorem dX1_init_32 : decode cX1_init 32 = .ok (.newarray .int, 2) := by decide +kernel
theorem dX1_init_34 : decode cX1_init 34 = .ok (.putfield 22, 3) := by decide +kernel
theorem dX1_init_37 : decode cX1_init 37 = .ok (.aload_n 0, 1) := by decide +kernel
theorem dX1_init_38 : decode cX1_init 38 = .ok (.bipush 60, 2) := by decide +kernel
theorem dX1_init_40 : decode cX1_init 40 = .ok (.newarray .int, 2) := by decide +kernel
theorem dX1_init_42 : decode cX1_init 42 = .ok (.putfield 25, 3) := by decide +kernel
theorem dX1_init_45 : decode cX1_init 45 = .ok (.aload_n 0, 1) := by decide +kernel
theorem dX1_init_46 : decode cX1_init 46 = .ok (.bipush 100, 2) := by decide +kernel
theorem dX1_init_48 : decode cX1_init 48 = .ok (.newarray .int, 2) := by decide +kernel
theorem dX1_init_50 : decode cX1_init 50 = .ok (.putfield 28, 3) := by decide +kernel
theorem dX1_init_53 : decode cX1_init 53 = .ok (.aload_n 0, 1) := by decide +kernel
theorem dX1_init_54 : decode cX1_init 54 = .ok (.sipush 240, 3) := by decide +kernel
theorem dX1_init_57 : decode cX1_init 57 = .ok (.newarray .int, 2) := by decide +kernel
theorem dX1_init_59 : decode cX1_init 59 = .ok (.putfield 31, 3) := by decide +kernel
theorem dX1_init_62 : decode cX1_init 62 = .ok (.aload_n 0, 1) := by decide +kernel
theorem dX1_init_63 : decode cX1_init 63 = .ok (.bipush 80, 2) := by decide +kernel
theorem dX1_init_65 : decode cX1_init 65 = .ok (.newarray .int, 2) := by decide +kernel
theorem dX1_init_67 : decode cX1_init 67 = .ok (.putfield 34, 3) := by decide +kernel
theorem dX1_init_70 : decode cX1_init 70 = .ok (.aload_n 0, 1) := by decide +kernel
theorem dX1_init_71 : decode cX1_init 71 = .ok (.bipush 81, 2) := by decide +kernel
theorem dX1_init_73 : decode cX1_init 73 = .ok (.newarray .int, 2) := by decide +kernel
theorem dX1_init_75 : decode cX1_init 75 = .ok (.putfield 37, 3) := by decide +kernel
theorem dX1_init_78 : decode cX1_init 78 = .ok (.aload_n 0, 1) := by decide +kernel
theorem dX1_init_79 : decode cX1_init 79 = .ok (.bipush 80, 2) := by decide +kernel
theorem dX1_init_81 : decode cX1_init 81 = .ok (.newarray .int, 2) := by decide +kernel
theorem dX1_init_83 : decode cX1_init 83 = .ok (.putfield 40, 3) := by decide +kernel
theorem dX1_init_86 : decode cX1_init 86 = .ok (.aload_n 0, 1) := by decide +kernel
theorem dX1_init_87 : decode cX1_init 87 = .ok (.getfield 31, 3) := by decide +kernel
theorem dX1_init_90 : decode cX1_init 90 = .ok (.iconst (-1), 1) := by decide +kernel
theorem dX1_init_91 : decode cX1_init 91 = .ok (.invokestatic 43, 3) := by decide +kernel
theorem dX1_init_94 : decode cX1_init 94 = .ok (.return_, 1) := by decide +kernel
theorem dX0_init_0 : decode cX0_init 0 = .ok (.aload_n 0, 1) := by decide +kernel
theorem dX0_init_1 : decode cX0_init 1 = .ok (.invokespecial 3, 3) := by decide +kernel
theorem dX0_init_4 : decode cX0_init 4 = .ok (.aload_n 0, 1) := by decide +kernel
theorem dX0_init_5 : decode cX0_init 5 = .ok (.iconst 5, 1) := by decide +kernel
theorem dX0_init_6 : decode cX0_init 6 = .ok (.newarray .int, 2) := by decide +kernel
theorem dX0_init_8 : decode cX0_init 8 = .ok (.putfield 9, 3) := by decide +kernel
theorem dX0_init_11 : decode cX0_init 11 = .ok (.aload_n 0, 1) := by decide +kernel
theorem dX0_init_12 : decode cX0_init 12 = .ok (.bipush 9, 2) := by decide +kernel
theorem dX0_init_14 : decode cX0_init 14 = .ok (.newarray .int, 2) := by decide +kernel
theorem dX0_init_16 : decode cX0_init 16 = .ok (.putfield 15, 3) := by decide +kernel
theorem dX0_init_19 : decode cX0_init 19 = .ok (.aload_n 0, 1) := by decide +kernel
theorem dX0_init_20 : decode cX0_init 20 = .ok (.bipush 9, 2) := by decide +kernel
theorem dX0_init_22 : decode cX0_init 22 = .ok (.newarray .int, 2) := by decide +kernel
theorem dX0_init_24 : decode cX0_init 24 = .ok (.putfield 18, 3) := by decide +kernel
theorem dX0_init_27 : decode cX0_init 27 = .ok (.aload_n 0, 1) := by decide +kernel
theorem dX0_init_28 : decode cX0_init 28 = .ok (.bipush 9, 2) := by decide +kernel
theorem dX0_init_30 : decode cX0_init 30 = .ok (.newarray .int, 2) := by decide +kernel
theorem dX0_init_32 : decode cX0_init 32 = .ok (.putfield 21, 3) := by decide +kernel
theorem dX0_init_35 : decode cX0_init 35 = .ok (.aload_n 0, 1) := by decide +kernel
theorem dX0_init_36 : decode cX0_init 36 = .ok (.bipush 9, 2) := by decide +kernel
theorem dX0_init_38 : decode cX0_init 38 = .ok (.newarray .int, 2) := by decide +kernel
theorem dX0_init_40 : decode cX0_init 40 = .ok (.putfield 24, 3) := by decide +kernel
theorem dX0_init_43 : decode cX0_init 43 = .ok (.aload_n 0, 1) := by decide +kernel
theorem dX0_init_44 : decode cX0_init 44 = .ok (.sipush 180, 3) := by decide +kernel
theorem dX0_init_47 : decode cX0_init 47 = .ok (.newarray .int, 2) := by decide +kernel
theorem dX0_init_49 : decode cX0_init 49 = .ok (.putfield 27, 3) := by decide +kernel
theorem dX0_init_52 : decode cX0_init 52 = .ok (.aload_n 0, 1) := by decide +kernel
theorem dX0_init_53 : decode cX0_init 53 = .ok (.bipush 20, 2) := by decide +kernel
theorem dX0_init_55 : decode cX0_init 55 = .ok (.newarray .int, 2) := by decide +kernel
theorem dX0_init_57 : decode cX0_init 57 = .ok (.putfield 30, 3) := by decide +kernel
theorem dX0_init_60 : decode cX0_init 60 = .ok (.aload_n 0, 1) := by decide +kernel
theorem dX0_init_61 : decode cX0_init 61 = .ok (.bipush 20, 2) := by decide +kernel
theorem dX0_init_63 : decode cX0_init 63 = .ok (.newarray .int, 2) := by decide +kernel
theorem dX0_init_65 : decode cX0_init 65 = .ok (.putfield 33, 3) := by decide +kernel
theorem dX0_init_68 : decode cX0_init 68 = .ok (.aload_n 0, 1) := by decide +kernel
theorem dX0_init_69 : decode cX0_init 69 = .ok (.bipush 100, 2) := by decide +kernel
theorem dX0_init_71 : decode cX0_init 71 = .ok (.newarray .int, 2) := by decide +kernel
theorem dX0_init_73 : decode cX0_init 73 = .ok (.putfield 36, 3) := by decide +kernel
theorem dX0_init_76 : decode cX0_init 76 = .ok (.aload_n 0, 1) := by decide +kernel
theorem dX0_init_77 : decode cX0_init 77 = .ok (.bipush 100, 2) := by decide +kernel
theorem dX0_init_79 : decode cX0_init 79 = .ok (.newarray .int, 2) := by decide +kernel
theorem dX0_init_81 : decode cX0_init 81 = .ok (.putfield 39, 3) := by decide +kernel
theorem dX0_init_84 : decode cX0_init 84 = .ok (.aload_n 0, 1) := by decide +kernel
theorem dX0_init_85 : decode cX0_init 85 = .ok (.bipush 54, 2) := by decide +kernel
theorem dX0_init_87 : decode cX0_init 87 = .ok (.newarray .int, 2) := by decide +kernel
theorem dX0_init_89 : decode cX0_init 89 = .ok (.putfield 42, 3) := by decide +kernel
theorem dX0_init_92 : decode cX0_init 92 = .ok (.aload_n 0, 1) := by decide +kernel
theorem dX0_init_93 : decode cX0_init 93 = .ok (.aload_n 1, 1) := by decide +kernel
theorem dX0_init_94 : decode cX0_init 94 = .ok (.putfield 45, 3) := by decide +kernel
theorem dX0_init_97 : decode cX0_init 97 = .ok (.aload_n 0, 1) := by decide +kernel
theorem dX0_init_98 : decode cX0_init 98 = .ok (.aload_n 2, 1) := by decide +kernel
theorem dX0_init_99 : decode cX0_init 99 = .ok (.putfield 49, 3) := by decide +kernel
theorem dX0_init_102 : decode cX0_init 102 = .ok (.aload_n 0, 1) := by decide +kernel
theorem dX0_init_103 : decode cX0_init 103 = .ok (.aload_n 3, 1) := by decide +kernel
theorem dX0_init_104 : decode cX0_init 104 = .ok (.putfield 53, 3) := by decide +kernel
theorem dX0_init_107 : decode cX0_init 107 = .ok (.return_, 1) := by decide +kernel
def bi_X8_empty_5 (w : bw_T) : bw_T := (bI (bF (bF (bF (bF (bF (bI (bI (bI (bI (bI (bI w 5 0 0) 5 1 0) 5 2 0) 5 3 0) 5 4 0) 5 18 0) 10 (-1) 9) 15 0 4) 16 0 100) 17 (-1) 100) 18 1 4) 18 3 0)
theorem mbi_X8_empty_5 (l : Launch) (w : bw_T) (h5_9 : w.2 5 9 = some 10) (h5_14 : w.2 5 14 = some 15) (h5_15 : w.2 5 15 = some 16) (h5_16 : w.2 5 16 = some 17) (h5_17 : w.2 5 17 = some 18) : BM l yX8_empty cX8_empty 1 2 143 0 0 [.ref 5] 19 w 19 (bi_X8_empty_5 w) := by
  refine bw_met [some (.ref 5)] (Nat.le_of_ble_eq_true rfl) (by decide) (fun _ => rfl) (fun _ => Nat.le_of_ble_eq_true rfl) ?_
  show BW l ((yX8_empty.cls, cX8_empty, 1, none, 2, 143), yX8_empty.name, 0, 0) 0 [some (.ref 5)] [] 19 0 0 w 19 (bi_X8_empty_5 w)
  refine bw_aload_n (z := 1) dX8_empty_0 rfl rfl ?_
  refine bw_iconst (z := 2) 0 dX8_empty_1 rfl (by decide) ?_
  refine bw_putI (z := 5) (RX8, TX8, 20) 8 0 dX8_empty_2 rfl rfl (Nat.le_of_ble_eq_true rfl) fp_RX8_55 rfl rfl ?_
  refine bw_aload_n (z := 6) dX8_empty_5 rfl rfl ?_
  refine bw_iconst (z := 7) 0 dX8_empty_6 rfl (by decide) ?_
  refine bw_putI (z := 10) (RX8, TX8, 20) 8 1 dX8_empty_7 rfl rfl (Nat.le_of_ble_eq_true rfl) fp_RX8_59 rfl rfl ?_
  refine bw_aload_n (z := 11) dX8_empty_10 rfl rfl ?_
  refine bw_iconst (z := 12) 0 dX8_empty_11 rfl (by decide) ?_
  refine bw_putI (z := 15) (RX8, TX8, 20) 8 2 dX8_empty_12 rfl rfl (Nat.le_of_ble_eq_true rfl) fp_RX8_62 rfl rfl ?_
  refine bw_aload_n (z := 16) dX8_empty_15 rfl rfl ?_
  refine bw_iconst (z := 17) 0 dX8_empty_16 rfl (by decide) ?_
  refine bw_putI (z := 20) (RX8, TX8, 20) 8 3 dX8_empty_17 rfl rfl (Nat.le_of_ble_eq_true rfl) fp_RX8_65 rfl rfl ?_
  refine bw_aload_n (z := 21) dX8_empty_20 rfl rfl ?_
  refine bw_iconst (z := 22) 0 dX8_empty_21 rfl (by decide) ?_
  refine bw_putI (z := 25) (RX8, TX8, 20) 8 4 dX8_empty_22 rfl rfl (Nat.le_of_ble_eq_true rfl) fp_RX8_68 rfl rfl ?_
  refine bw_aload_n (z := 26) dX8_empty_25 rfl rfl ?_
  refine bw_iconst (z := 27) 0 dX8_empty_26 rfl (by decide) ?_
  refine bw_putI (z := 30) (RX8, TX8, 20) 8 18 dX8_empty_27 rfl rfl (Nat.le_of_ble_eq_true rfl) fp_RX8_71 rfl rfl ?_
  refine bw_aload_n (z := 31) dX8_empty_30 rfl rfl ?_
  refine bw_getR (z := 34) (RX8, TX8, 20) 8 9 (b := 10) dX8_empty_31 rfl rfl (Nat.le_of_ble_eq_true rfl) fd_RX8_25 h5_9 ?_
  refine bw_iconst (z := 35) (-1) dX8_empty_34 rfl (by decide) ?_
  refine bw_callS (z := 38) (as := [.ref 10, .int (-1)]) (st := []) dX8_empty_35 rfl rfl (bm_fill l 10 9 19 (-1) _ rfl (Nat.le_of_ble_eq_true rfl) (Nat.lt_of_lt_of_le (Nat.le_of_ble_eq_true rfl : 9 < 1000000) (by decide))) cw_RX8_75 ⟨Nat.le_of_ble_eq_true rfl, Nat.le_of_ble_eq_true rfl⟩ (fun _ => Nat.le_of_ble_eq_true rfl) rfl (Nat.le_of_ble_eq_true rfl) (Nat.le_of_ble_eq_true rfl) ?_
  refine bw_aload_n (z := 39) dX8_empty_38 rfl rfl ?_
  refine bw_getR (z := 42) (RX8, TX8, 20) 8 14 (b := 15) dX8_empty_39 rfl rfl (Nat.le_of_ble_eq_true rfl) fd_RX8_40 h5_14 ?_
  refine bw_iconst (z := 43) 0 dX8_empty_42 rfl (by decide) ?_
  refine bw_callS (z := 46) (as := [.ref 15, .int 0]) (st := []) dX8_empty_43 rfl rfl (bm_fill l 15 4 19 0 _ rfl (Nat.le_of_ble_eq_true rfl) (Nat.lt_of_lt_of_le (Nat.le_of_ble_eq_true rfl : 4 < 1000000) (by decide))) cw_RX8_75 ⟨Nat.le_of_ble_eq_true rfl, Nat.le_of_ble_eq_true rfl⟩ (fun _ => Nat.le_of_ble_eq_true rfl) rfl (Nat.le_of_ble_eq_true rfl) (Nat.le_of_ble_eq_true rfl) ?_
  refine bw_aload_n (z := 47) dX8_empty_46 rfl rfl ?_
  refine bw_getR (z := 50) (RX8, TX8, 20) 8 15 (b := 16) dX8_empty_47 rfl rfl (Nat.le_of_ble_eq_true rfl) fd_RX8_43 h5_15 ?_
  refine bw_iconst (z := 51) 0 dX8_empty_50 rfl (by decide) ?_
  refine bw_callS (z := 54) (as := [.ref 16, .int 0]) (st := []) dX8_empty_51 rfl rfl (bm_fill l 16 100 19 0 _ rfl (Nat.le_of_ble_eq_true rfl) (Nat.lt_of_lt_of_le (Nat.le_of_ble_eq_true rfl : 100 < 1000000) (by decide))) cw_RX8_75 ⟨Nat.le_of_ble_eq_true rfl, Nat.le_of_ble_eq_true rfl⟩ (fun _ => Nat.le_of_ble_eq_true rfl) rfl (Nat.le_of_ble_eq_true rfl) (Nat.le_of_ble_eq_true rfl) ?_
  refine bw_aload_n (z := 55) dX8_empty_54 rfl rfl ?_
  refine bw_getR (z := 58) (RX8, TX8, 20) 8 16 (b := 17) dX8_empty_55 rfl rfl (Nat.le_of_ble_eq_true rfl) fd_RX8_46 h5_16 ?_
  refine bw_iconst (z := 59) (-1) dX8_empty_58 rfl (by decide) ?_
  refine bw_callS (z := 62) (as := [.ref 17, .int (-1)]) (st := []) dX8_empty_59 rfl rfl (bm_fill l 17 100 19 (-1) _ rfl (Nat.le_of_ble_eq_true rfl) (Nat.lt_of_lt_of_le (Nat.le_of_ble_eq_true rfl : 100 < 1000000) (by decide))) cw_RX8_75 ⟨Nat.le_of_ble_eq_true rfl, Nat.le_of_ble_eq_true rfl⟩ (fun _ => Nat.le_of_ble_eq_true rfl) rfl (Nat.le_of_ble_eq_true rfl) (Nat.le_of_ble_eq_true rfl) ?_
  refine bw_aload_n (z := 63) dX8_empty_62 rfl rfl ?_
  refine bw_getR (z := 66) (RX8, TX8, 20) 8 17 (b := 18) dX8_empty_63 rfl rfl (Nat.le_of_ble_eq_true rfl) fd_RX8_49 h5_17 ?_
  refine bw_iconst (z := 67) 1 dX8_empty_66 rfl (by decide) ?_
  refine bw_callS (z := 70) (as := [.ref 18, .int 1]) (st := []) dX8_empty_67 rfl rfl (bm_fill l 18 4 19 1 _ rfl (Nat.le_of_ble_eq_true rfl) (Nat.lt_of_lt_of_le (Nat.le_of_ble_eq_true rfl : 4 < 1000000) (by decide))) cw_RX8_75 ⟨Nat.le_of_ble_eq_true rfl, Nat.le_of_ble_eq_true rfl⟩ (fun _ => Nat.le_of_ble_eq_true rfl) rfl (Nat.le_of_ble_eq_true rfl) (Nat.le_of_ble_eq_true rfl) ?_
  refine bw_aload_n (z := 71) dX8_empty_70 rfl rfl ?_
  refine bw_getR (z := 74) (RX8, TX8, 20) 8 17 (b := 18) dX8_empty_71 rfl rfl (Nat.le_of_ble_eq_true rfl) fd_RX8_49 h5_17 ?_
  refine bw_iconst (z := 75) 3 dX8_empty_74 rfl (by decide) ?_
  refine bw_iconst (z := 76) 0 dX8_empty_75 rfl (by decide) ?_
  refine bw_iastore (z := 77) 4 dX8_empty_76 rfl rfl (Nat.le_of_ble_eq_true rfl) (bw_in (by decide)) ?_
  exact bw_vret rfl dX8_empty_77 rfl rfl rfl rfl
def bi_X8_init_5 (w : bw_T) : bw_T := (bi_X8_empty_5 (bp (bz (bp (bz (bp (bz (bp (bz (bp (bz (bp (bz (bp (bz (bp (bz (bp (bz (bp (bz (bp (bz (bp (bz (bp (bz w 6) 5 5 6) 7) 5 6 7) 8) 5 7 8) 9) 5 8 9) 10) 5 9 10) 11) 5 10 11) 12) 5 11 12) 13) 5 12 13) 14) 5 13 14) 15) 5 14 15) 16) 5 15 16) 17) 5 16 17) 18) 5 17 18))
theorem mbi_X8_init_5 (l : Launch) (w : bw_T) : BM l yX8_init cX8_init 1 3 163 13 333 [.ref 5] 6 w 19 (bi_X8_init_5 w) := by
  refine bw_met [some (.ref 5)] (Nat.le_of_ble_eq_true rfl) (by decide) (fun _ => rfl) (fun _ => Nat.le_of_ble_eq_true rfl) ?_
  show BW l ((yX8_init.cls, cX8_init, 1, none, 3, 163), yX8_init.name, 13, 333) 0 [some (.ref 5)] [] 6 0 0 w 19 (bi_X8_init_5 w)
  refine bw_aload_n (z := 1) dX8_init_0 rfl rfl ?_
  refine bw_objInit (z := 4) dX8_init_1 rfl tb_163 tb_30 tb_31 ⟨Nat.le_of_ble_eq_true rfl, Nat.le_of_ble_eq_true rfl⟩ (fun _ => Nat.le_of_ble_eq_true rfl) ?_
  refine bw_aload_n (z := 5) dX8_init_4 rfl rfl ?_
  refine bw_bipush (z := 7) 9 dX8_init_5 rfl (by decide) ?_
  refine bw_newJ (z := 9) 9 dX8_init_7 rfl tb_150 rfl (by decide) (by decide) (Nat.le_of_ble_eq_true rfl) (Nat.le_of_ble_eq_true rfl) (Nat.le_of_ble_eq_true rfl) ?_
  refine bw_putR (z := 12) (RX8, TX8, 20) 8 5 (b := 6) (ty := (.array .long)) dX8_init_9 rfl rfl (Nat.le_of_ble_eq_true rfl) fd_RX8_9 ⟨tyX8, tyX8_ok⟩ nmX8 rfl rfl rfl (by decide +kernel) (fun _ => rfl) (fun _ => rfl) ?_
  refine bw_aload_n (z := 13) dX8_init_12 rfl rfl ?_
  refine bw_bipush (z := 15) 9 dX8_init_13 rfl (by decide) ?_
  refine bw_newI (z := 17) 9 dX8_init_15 rfl tb_149 rfl (by decide) (by decide) (Nat.le_of_ble_eq_true rfl) (Nat.le_of_ble_eq_true rfl) (Nat.le_of_ble_eq_true rfl) ?_
  refine bw_putR (z := 20) (RX8, TX8, 20) 8 6 (b := 7) (ty := (.array .int)) dX8_init_17 rfl rfl (Nat.le_of_ble_eq_true rfl) fd_RX8_15 ⟨tyX8, tyX8_ok⟩ nmX8 rfl rfl rfl (by decide +kernel) (fun _ => rfl) (fun _ => rfl) ?_
  refine bw_aload_n (z := 21) dX8_init_20 rfl rfl ?_
  refine bw_bipush (z := 23) 9 dX8_init_21 rfl (by decide) ?_
  refine bw_newI (z := 25) 9 dX8_init_23 rfl tb_149 rfl (by decide) (by decide) (Nat.le_of_ble_eq_true rfl) (Nat.le_of_ble_eq_true rfl) (Nat.le_of_ble_eq_true rfl) ?_
  refine bw_putR (z := 28) (RX8, TX8, 20) 8 7 (b := 8) (ty := (.array .int)) dX8_init_25 rfl rfl (Nat.le_of_ble_eq_true rfl) fd_RX8_19 ⟨tyX8, tyX8_ok⟩ nmX8 rfl rfl rfl (by decide +kernel) (fun _ => rfl) (fun _ => rfl) ?_
  refine bw_aload_n (z := 29) dX8_init_28 rfl rfl ?_
  refine bw_bipush (z := 31) 9 dX8_init_29 rfl (by decide) ?_
  refine bw_newI (z := 33) 9 dX8_init_31 rfl tb_149 rfl (by decide) (by decide) (Nat.le_of_ble_eq_true rfl) (Nat.le_of_ble_eq_true rfl) (Nat.le_of_ble_eq_true rfl) ?_
  refine bw_putR (z := 36) (RX8, TX8, 20) 8 8 (b := 9) (ty := (.array .int)) dX8_init_33 rfl rfl (Nat.le_of_ble_eq_true rfl) fd_RX8_22 ⟨tyX8, tyX8_ok⟩ nmX8 rfl rfl rfl (by decide +kernel) (fun _ => rfl) (fun _ => rfl) ?_
  refine bw_aload_n (z := 37) dX8_init_36 rfl rfl ?_
  refine bw_bipush (z := 39) 9 dX8_init_37 rfl (by decide) ?_
  refine bw_newI (z := 41) 9 dX8_init_39 rfl tb_149 rfl (by decide) (by decide) (Nat.le_of_ble_eq_true rfl) (Nat.le_of_ble_eq_true rfl) (Nat.le_of_ble_eq_true rfl) ?_
  refine bw_putR (z := 44) (RX8, TX8, 20) 8 9 (b := 10) (ty := (.array .int)) dX8_init_41 rfl rfl (Nat.le_of_ble_eq_true rfl) fd_RX8_25 ⟨tyX8, tyX8_ok⟩ nmX8 rfl rfl rfl (by decide +kernel) (fun _ => rfl) (fun _ => rfl) ?_
  refine bw_aload_n (z := 45) dX8_init_44 rfl rfl ?_
  refine bw_bipush (z := 47) 20 dX8_init_45 rfl (by decide) ?_
  refine bw_newI (z := 49) 20 dX8_init_47 rfl tb_149 rfl (by decide) (by decide) (Nat.le_of_ble_eq_true rfl) (Nat.le_of_ble_eq_true rfl) (Nat.le_of_ble_eq_true rfl) ?_
  refine bw_putR (z := 52) (RX8, TX8, 20) 8 10 (b := 11) (ty := (.array .int)) dX8_init_49 rfl rfl (Nat.le_of_ble_eq_true rfl) fd_RX8_28 ⟨tyX8, tyX8_ok⟩ nmX8 rfl rfl rfl (by decide +kernel) (fun _ => rfl) (fun _ => rfl) ?_
  refine bw_aload_n (z := 53) dX8_init_52 rfl rfl ?_
  refine bw_bipush (z := 55) 20 dX8_init_53 rfl (by decide) ?_
  refine bw_newI (z := 57) 20 dX8_init_55 rfl tb_149 rfl (by decide) (by decide) (Nat.le_of_ble_eq_true rfl) (Nat.le_of_ble_eq_true rfl) (Nat.le_of_ble_eq_true rfl) ?_
  refine bw_putR (z := 60) (RX8, TX8, 20) 8 11 (b := 12) (ty := (.array .int)) dX8_init_57 rfl rfl (Nat.le_of_ble_eq_true rfl) fd_RX8_31 ⟨tyX8, tyX8_ok⟩ nmX8 rfl rfl rfl (by decide +kernel) (fun _ => rfl) (fun _ => rfl) ?_
  refine bw_aload_n (z := 61) dX8_init_60 rfl rfl ?_
  refine bw_bipush (z := 63) 20 dX8_init_61 rfl (by decide) ?_
  refine bw_newI (z := 65) 20 dX8_init_63 rfl tb_149 rfl (by decide) (by decide) (Nat.le_of_ble_eq_true rfl) (Nat.le_of_ble_eq_true rfl) (Nat.le_of_ble_eq_true rfl) ?_
  refine bw_putR (z := 68) (RX8, TX8, 20) 8 12 (b := 13) (ty := (.array .int)) dX8_init_65 rfl rfl (Nat.le_of_ble_eq_true rfl) fd_RX8_34 ⟨tyX8, tyX8_ok⟩ nmX8 rfl rfl rfl (by decide +kernel) (fun _ => rfl) (fun _ => rfl) ?_
  refine bw_aload_n (z := 69) dX8_init_68 rfl rfl ?_
  refine bw_bipush (z := 71) 20 dX8_init_69 rfl (by decide) ?_
  refine bw_newI (z := 73) 20 dX8_init_71 rfl tb_149 rfl (by decide) (by decide) (Nat.le_of_ble_eq_true rfl) (Nat.le_of_ble_eq_true rfl) (Nat.le_of_ble_eq_true rfl) ?_
  refine bw_putR (z := 76) (RX8, TX8, 20) 8 13 (b := 14) (ty := (.array .int)) dX8_init_73 rfl rfl (Nat.le_of_ble_eq_true rfl) fd_RX8_37 ⟨tyX8, tyX8_ok⟩ nmX8 rfl rfl rfl (by decide +kernel) (fun _ => rfl) (fun _ => rfl) ?_
  refine bw_aload_n (z := 77) dX8_init_76 rfl rfl ?_
  refine bw_iconst (z := 78) 4 dX8_init_77 rfl (by decide) ?_
  refine bw_newI (z := 80) 4 dX8_init_78 rfl tb_149 rfl (by decide) (by decide) (Nat.le_of_ble_eq_true rfl) (Nat.le_of_ble_eq_true rfl) (Nat.le_of_ble_eq_true rfl) ?_
  refine bw_putR (z := 83) (RX8, TX8, 20) 8 14 (b := 15) (ty := (.array .int)) dX8_init_80 rfl rfl (Nat.le_of_ble_eq_true rfl) fd_RX8_40 ⟨tyX8, tyX8_ok⟩ nmX8 rfl rfl rfl (by decide +kernel) (fun _ => rfl) (fun _ => rfl) ?_
  refine bw_aload_n (z := 84) dX8_init_83 rfl rfl ?_
  refine bw_bipush (z := 86) 100 dX8_init_84 rfl (by decide) ?_
  refine bw_newI (z := 88) 100 dX8_init_86 rfl tb_149 rfl (by decide) (by decide) (Nat.le_of_ble_eq_true rfl) (Nat.le_of_ble_eq_true rfl) (Nat.le_of_ble_eq_true rfl) ?_
  refine bw_putR (z := 91) (RX8, TX8, 20) 8 15 (b := 16) (ty := (.array .int)) dX8_init_88 rfl rfl (Nat.le_of_ble_eq_true rfl) fd_RX8_43 ⟨tyX8, tyX8_ok⟩ nmX8 rfl rfl rfl (by decide +kernel) (fun _ => rfl) (fun _ => rfl) ?_
  refine bw_aload_n (z := 92) dX8_init_91 rfl rfl ?_
  refine bw_bipush (z := 94) 100 dX8_init_92 rfl (by decide) ?_
  refine bw_newI (z := 96) 100 dX8_init_94 rfl tb_149 rfl (by decide) (by decide) (Nat.le_of_ble_eq_true rfl) (Nat.le_of_ble_eq_true rfl) (Nat.le_of_ble_eq_true rfl) ?_
  refine bw_putR (z := 99) (RX8, TX8, 20) 8 16 (b := 17) (ty := (.array .int)) dX8_init_96 rfl rfl (Nat.le_of_ble_eq_true rfl) fd_RX8_46 ⟨tyX8, tyX8_ok⟩ nmX8 rfl rfl rfl (by decide +kernel) (fun _ => rfl) (fun _ => rfl) ?_
  refine bw_aload_n (z := 100) dX8_init_99 rfl rfl ?_
  refine bw_iconst (z := 101) 4 dX8_init_100 rfl (by decide) ?_
  refine bw_newI (z := 103) 4 dX8_init_101 rfl tb_149 rfl (by decide) (by decide) (Nat.le_of_ble_eq_true rfl) (Nat.le_of_ble_eq_true rfl) (Nat.le_of_ble_eq_true rfl) ?_
  refine bw_putR (z := 106) (RX8, TX8, 20) 8 17 (b := 18) (ty := (.array .int)) dX8_init_103 rfl rfl (Nat.le_of_ble_eq_true rfl) fd_RX8_49 ⟨tyX8, tyX8_ok⟩ nmX8 rfl rfl rfl (by decide +kernel) (fun _ => rfl) (fun _ => rfl) ?_
  refine bw_aload_n (z := 107) dX8_init_106 rfl rfl ?_
  refine bw_callV (z := 110) (as := []) (st := []) (RX8, TX8, 20) 8 dX8_init_107 rfl rfl (mbi_X8_empty_5 l _ rfl rfl rfl rfl rfl) rfl (Nat.le_of_ble_eq_true rfl) rfl rfl cw_RX8_52 ⟨Nat.le_of_ble_eq_true rfl, Nat.le_of_ble_eq_true rfl⟩ (fun _ => Nat.le_of_ble_eq_true rfl) rfl (Nat.le_of_ble_eq_true rfl) (Nat.le_of_ble_eq_true rfl) ?_
  exact bw_vret rfl dX8_init_110 rfl rfl rfl rfl
def bi_X2_empty_19 (w : bw_T) : bw_T := (bF (bF (bF (bI w 19 0 0) 20 (-1) 9) 21 (-1) 9) 22 (-1) 9)
theorem mbi_X2_empty_19 (l : Launch) (w : bw_T) (h19_1 : w.2 19 1 = some 20) (h19_2 : w.2 19 2 = some 21) (h19_3 : w.2 19 3 = some 22) : BM l yX2_empty cX2_empty 1 2 143 0 0 [.ref 19] 23 w 23 (bi_X2_empty_19 w) := by
  refine bw_met [some (.ref 19)] (Nat.le_of_ble_eq_true rfl) (by decide) (fun _ => rfl) (fun _ => Nat.le_of_ble_eq_true rfl) ?_
  show BW l ((yX2_empty.cls, cX2_empty, 1, none, 2, 143), yX2_empty.name, 0, 0) 0 [some (.ref 19)] [] 23 0 0 w 23 (bi_X2_empty_19 w)
  refine bw_aload_n (z := 1) dX2_empty_0 rfl rfl ?_
  refine bw_iconst (z := 2) 0 dX2_empty_1 rfl (by decide) ?_
  refine bw_putI (z := 5) (RX2, TX2, 4) 2 0 dX2_empty_2 rfl rfl (Nat.le_of_ble_eq_true rfl) fp_RX2_24 rfl rfl ?_
  refine bw_aload_n (z := 6) dX2_empty_5 rfl rfl ?_
  refine bw_getR (z := 9) (RX2, TX2, 4) 2 1 (b := 20) dX2_empty_6 rfl rfl (Nat.le_of_ble_eq_true rfl) fd_RX2_9 h19_1 ?_
  refine bw_iconst (z := 10) (-1) dX2_empty_9 rfl (by decide) ?_
  refine bw_callS (z := 13) (as := [.ref 20, .int (-1)]) (st := []) dX2_empty_10 rfl rfl (bm_fill l 20 9 23 (-1) _ rfl (Nat.le_of_ble_eq_true rfl) (Nat.lt_of_lt_of_le (Nat.le_of_ble_eq_true rfl : 9 < 1000000) (by decide))) cw_RX2_28 ⟨Nat.le_of_ble_eq_true rfl, Nat.le_of_ble_eq_true rfl⟩ (fun _ => Nat.le_of_ble_eq_true rfl) rfl (Nat.le_of_ble_eq_true rfl) (Nat.le_of_ble_eq_true rfl) ?_
  refine bw_aload_n (z := 14) dX2_empty_13 rfl rfl ?_
  refine bw_getR (z := 17) (RX2, TX2, 4) 2 2 (b := 21) dX2_empty_14 rfl rfl (Nat.le_of_ble_eq_true rfl) fd_RX2_15 h19_2 ?_
  refine bw_iconst (z := 18) (-1) dX2_empty_17 rfl (by decide) ?_
  refine bw_callS (z := 21) (as := [.ref 21, .int (-1)]) (st := []) dX2_empty_18 rfl rfl (bm_fill l 21 9 23 (-1) _ rfl (Nat.le_of_ble_eq_true rfl) (Nat.lt_of_lt_of_le (Nat.le_of_ble_eq_true rfl : 9 < 1000000) (by decide))) cw_RX2_28 ⟨Nat.le_of_ble_eq_true rfl, Nat.le_of_ble_eq_true rfl⟩ (fun _ => Nat.le_of_ble_eq_true rfl) rfl (Nat.le_of_ble_eq_true rfl) (Nat.le_of_ble_eq_true rfl) ?_
  refine bw_aload_n (z := 22) dX2_empty_21 rfl rfl ?_
  refine bw_getR (z := 25) (RX2, TX2, 4) 2 3 (b := 22) dX2_empty_22 rfl rfl (Nat.le_of_ble_eq_true rfl) fd_RX2_18 h19_3 ?_
  refine bw_iconst (z := 26) (-1) dX2_empty_25 rfl (by decide) ?_
  refine bw_callS (z := 29) (as := [.ref 22, .int (-1)]) (st := []) dX2_empty_26 rfl rfl (bm_fill l 22 9 23 (-1) _ rfl (Nat.le_of_ble_eq_true rfl) (Nat.lt_of_lt_of_le (Nat.le_of_ble_eq_true rfl : 9 < 1000000) (by decide))) cw_RX2_28 ⟨Nat.le_of_ble_eq_true rfl, Nat.le_of_ble_eq_true rfl⟩ (fun _ => Nat.le_of_ble_eq_true rfl) rfl (Nat.le_of_ble_eq_true rfl) (Nat.le_of_ble_eq_true rfl) ?_
  exact bw_vret rfl dX2_empty_29 rfl rfl rfl rfl
def bi_X2_init_19 (w : bw_T) : bw_T := (bi_X2_empty_19 (bp (bz (bp (bz (bp (bz w 20) 19 1 20) 21) 19 2 21) 22) 19 3 22))
theorem mbi_X2_init_19 (l : Launch) (w : bw_T) : BM l yX2_init cX2_init 1 3 163 3 27 [.ref 19] 20 w 23 (bi_X2_init_19 w) := by
  refine bw_met [some (.ref 19)] (Nat.le_of_ble_eq_true rfl) (by decide) (fun _ => rfl) (fun _ => Nat.le_of_ble_eq_true rfl) ?_
  show BW l ((yX2_init.cls, cX2_init, 1, none, 3, 163), yX2_init.name, 3, 27) 0 [some (.ref 19)] [] 20 0 0 w 23 (bi_X2_init_19 w)
  refine bw_aload_n (z := 1) dX2_init_0 rfl rfl ?_
  refine bw_objInit (z := 4) dX2_init_1 rfl tb_269 tb_30 tb_31 ⟨Nat.le_of_ble_eq_true rfl, Nat.le_of_ble_eq_true rfl⟩ (fun _ => Nat.le_of_ble_eq_true rfl) ?_
  refine bw_aload_n (z := 5) dX2_init_4 rfl rfl ?_
  refine bw_bipush (z := 7) 9 dX2_init_5 rfl (by decide) ?_
  refine bw_newI (z := 9) 9 dX2_init_7 rfl tb_149 rfl (by decide) (by decide) (Nat.le_of_ble_eq_true rfl) (Nat.le_of_ble_eq_true rfl) (Nat.le_of_ble_eq_true rfl) ?_
  refine bw_putR (z := 12) (RX2, TX2, 4) 2 1 (b := 20) (ty := (.array .int)) dX2_init_9 rfl rfl (Nat.le_of_ble_eq_true rfl) fd_RX2_9 ⟨tyX2, tyX2_ok⟩ nmX2 rfl rfl rfl (by decide +kernel) (fun _ => rfl) (fun _ => rfl) ?_
  refine bw_aload_n (z := 13) dX2_init_12 rfl rfl ?_
  refine bw_bipush (z := 15) 9 dX2_init_13 rfl (by decide) ?_
  refine bw_newI (z := 17) 9 dX2_init_15 rfl tb_149 rfl (by decide) (by decide) (Nat.le_of_ble_eq_true rfl) (Nat.le_of_ble_eq_true rfl) (Nat.le_of_ble_eq_true rfl) ?_
  refine bw_putR (z := 20) (RX2, TX2, 4) 2 2 (b := 21) (ty := (.array .int)) dX2_init_17 rfl rfl (Nat.le_of_ble_eq_true rfl) fd_RX2_15 ⟨tyX2, tyX2_ok⟩ nmX2 rfl rfl rfl (by decide +kernel) (fun _ => rfl) (fun _ => rfl) ?_
  refine bw_aload_n (z := 21) dX2_init_20 rfl rfl ?_
  refine bw_bipush (z := 23) 9 dX2_init_21 rfl (by decide) ?_
  refine bw_newI (z := 25) 9 dX2_init_23 rfl tb_149 rfl (by decide) (by decide) (Nat.le_of_ble_eq_true rfl) (Nat.le_of_ble_eq_true rfl) (Nat.le_of_ble_eq_true rfl) ?_
  refine bw_putR (z := 28) (RX2, TX2, 4) 2 3 (b := 22) (ty := (.array .int)) dX2_init_25 rfl rfl (Nat.le_of_ble_eq_true rfl) fd_RX2_18 ⟨tyX2, tyX2_ok⟩ nmX2 rfl rfl rfl (by decide +kernel) (fun _ => rfl) (fun _ => rfl) ?_
  refine bw_aload_n (z := 29) dX2_init_28 rfl rfl ?_
  refine bw_callV (z := 32) (as := []) (st := []) (RX2, TX2, 4) 2 dX2_init_29 rfl rfl (mbi_X2_empty_19 l _ rfl rfl rfl) rfl (Nat.le_of_ble_eq_true rfl) rfl rfl cw_RX2_21 ⟨Nat.le_of_ble_eq_true rfl, Nat.le_of_ble_eq_true rfl⟩ (fun _ => Nat.le_of_ble_eq_true rfl) rfl (Nat.le_of_ble_eq_true rfl) (Nat.le_of_ble_eq_true rfl) ?_
  exact bw_vret rfl dX2_init_32 rfl rfl rfl rfl
def bi_X3_init_23 (w : bw_T) : bw_T := (bp (bz (bp (bz (bp (bz (bp (bz w 24) 23 2 24) 25) 23 3 25) 26) 23 4 26) 27) 23 5 27)
theorem mbi_X3_init_23 (l : Launch) (w : bw_T) : BM l yX3_init cX3_init 1 1 120 4 140 [.ref 23] 24 w 28 (bi_X3_init_23 w) := by
  refine bw_met [some (.ref 23)] (Nat.le_of_ble_eq_true rfl) (by decide) (fun _ => rfl) (fun _ => Nat.le_of_ble_eq_true rfl) ?_
  show BW l ((yX3_init.cls, cX3_init, 1, none, 1, 120), yX3_init.name, 4, 140) 0 [some (.ref 23)] [] 24 0 0 w 28 (bi_X3_init_23 w)
  refine bw_aload_n (z := 1) dX3_init_0 rfl rfl ?_
  refine bw_objInit (z := 4) dX3_init_1 rfl tb_304 tb_30 tb_31 ⟨Nat.le_of_ble_eq_true rfl, Nat.le_of_ble_eq_true rfl⟩ (fun _ => Nat.le_of_ble_eq_true rfl) ?_
  refine bw_aload_n (z := 5) dX3_init_4 rfl rfl ?_
  refine bw_bipush (z := 7) 40 dX3_init_5 rfl (by decide) ?_
  refine bw_newI (z := 9) 40 dX3_init_7 rfl tb_149 rfl (by decide) (by decide) (Nat.le_of_ble_eq_true rfl) (Nat.le_of_ble_eq_true rfl) (Nat.le_of_ble_eq_true rfl) ?_
  refine bw_putR (z := 12) (RX3, TX3, 6) 3 2 (b := 24) (ty := (.array .int)) dX3_init_9 rfl rfl (Nat.le_of_ble_eq_true rfl) fd_RX3_11 ⟨tyX3, tyX3_ok⟩ nmX3 rfl rfl rfl (by decide +kernel) (fun _ => rfl) (fun _ => rfl) ?_
  refine bw_aload_n (z := 13) dX3_init_12 rfl rfl ?_
  refine bw_bipush (z := 15) 40 dX3_init_13 rfl (by decide) ?_
  refine bw_newI (z := 17) 40 dX3_init_15 rfl tb_149 rfl (by decide) (by decide) (Nat.le_of_ble_eq_true rfl) (Nat.le_of_ble_eq_true rfl) (Nat.le_of_ble_eq_true rfl) ?_
  refine bw_putR (z := 20) (RX3, TX3, 6) 3 3 (b := 25) (ty := (.array .int)) dX3_init_17 rfl rfl (Nat.le_of_ble_eq_true rfl) fd_RX3_15 ⟨tyX3, tyX3_ok⟩ nmX3 rfl rfl rfl (by decide +kernel) (fun _ => rfl) (fun _ => rfl) ?_
  refine bw_aload_n (z := 21) dX3_init_20 rfl rfl ?_
  refine bw_bipush (z := 23) 40 dX3_init_21 rfl (by decide) ?_
  refine bw_newI (z := 25) 40 dX3_init_23 rfl tb_149 rfl (by decide) (by decide) (Nat.le_of_ble_eq_true rfl) (Nat.le_of_ble_eq_true rfl) (Nat.le_of_ble_eq_true rfl) ?_
  refine bw_putR (z := 28) (RX3, TX3, 6) 3 4 (b := 26) (ty := (.array .int)) dX3_init_25 rfl rfl (Nat.le_of_ble_eq_true rfl) fd_RX3_18 ⟨tyX3, tyX3_ok⟩ nmX3 rfl rfl rfl (by decide +kernel) (fun _ => rfl) (fun _ => rfl) ?_
  refine bw_aload_n (z := 29) dX3_init_28 rfl rfl ?_
  refine bw_bipush (z := 31) 20 dX3_init_29 rfl (by decide) ?_
  refine bw_newZ (z := 33) 20 dX3_init_31 rfl tb_325 rfl (by decide) (by decide) (Nat.le_of_ble_eq_true rfl) (Nat.le_of_ble_eq_true rfl) (Nat.le_of_ble_eq_true rfl) ?_
  refine bw_putR (z := 36) (RX3, TX3, 6) 3 5 (b := 27) (ty := (.array .boolean)) dX3_init_33 rfl rfl (Nat.le_of_ble_eq_true rfl) fd_RX3_21 ⟨tyX3, tyX3_ok⟩ nmX3 rfl rfl rfl (by decide +kernel) (fun _ => rfl) (fun _ => rfl) ?_
  exact bw_vret rfl dX3_init_36 rfl rfl rfl rfl
def bi_X1_init_28 (w : bw_T) : bw_T := (bF (bp (bz (bp (bz (bp (bz (bp (bz (bp (bz (bp (bz (bp (bz (bp (bz (bp (bz (bp (bz w 29) 28 0 29) 30) 28 1 30) 31) 28 2 31) 32) 28 3 32) 33) 28 5 33) 34) 28 6 34) 35) 28 8 35) 36) 28 9 36) 37) 28 10 37) 38) 28 11 38) 35 (-1) 240)
theorem mbi_X1_init_28 (l : Launch) (w : bw_T) : BM l yX1_init cX1_init 1 2 143 10 1059 [.ref 28] 29 w 39 (bi_X1_init_28 w) := by
  refine bw_met [some (.ref 28)] (Nat.le_of_ble_eq_true rfl) (by decide) (fun _ => rfl) (fun _ => Nat.le_of_ble_eq_true rfl) ?_
  show BW l ((yX1_init.cls, cX1_init, 1, none, 2, 143), yX1_init.name, 10, 1059) 0 [some (.ref 28)] [] 29 0 0 w 39 (bi_X1_init_28 w)
  refine bw_aload_n (z := 1) dX1_init_0 rfl rfl ?_
  refine bw_objInit (z := 4) dX1_init_1 rfl tb_331 tb_30 tb_31 ⟨Nat.le_of_ble_eq_true rfl, Nat.le_of_ble_eq_true rfl⟩ (fun _ => Nat.le_of_ble_eq_true rfl) ?_
  refine bw_aload_n (z := 5) dX1_init_4 rfl rfl ?_
  refine bw_sipush (z := 8) 360 dX1_init_5 rfl (by decide) ?_
  refine bw_newI (z := 10) 360 dX1_init_8 rfl tb_149 rfl (by decide) (by decide) (Nat.le_of_ble_eq_true rfl) (Nat.le_of_ble_eq_true rfl) (Nat.le_of_ble_eq_true rfl) ?_
  refine bw_putR (z := 13) (RX1, TX1, 12) 1 0 (b := 29) (ty := (.array .int)) dX1_init_10 rfl rfl (Nat.le_of_ble_eq_true rfl) fd_RX1_11 ⟨tyX1, tyX1_ok⟩ nmX1 rfl rfl rfl (by decide +kernel) (fun _ => rfl) (fun _ => rfl) ?_
  refine bw_aload_n (z := 14) dX1_init_13 rfl rfl ?_
  refine bw_bipush (z := 16) 18 dX1_init_14 rfl (by decide) ?_
  refine bw_newI (z := 18) 18 dX1_init_16 rfl tb_149 rfl (by decide) (by decide) (Nat.le_of_ble_eq_true rfl) (Nat.le_of_ble_eq_true rfl) (Nat.le_of_ble_eq_true rfl) ?_
  refine bw_putR (z := 21) (RX1, TX1, 12) 1 1 (b := 30) (ty := (.array .int)) dX1_init_18 rfl rfl (Nat.le_of_ble_eq_true rfl) fd_RX1_15 ⟨tyX1, tyX1_ok⟩ nmX1 rfl rfl rfl (by decide +kernel) (fun _ => rfl) (fun _ => rfl) ?_
  refine bw_aload_n (z := 22) dX1_init_21 rfl rfl ?_
  refine bw_bipush (z := 24) 20 dX1_init_22 rfl (by decide) ?_
  refine bw_newZ (z := 26) 20 dX1_init_24 rfl tb_325 rfl (by decide) (by decide) (Nat.le_of_ble_eq_true rfl) (Nat.le_of_ble_eq_true rfl) (Nat.le_of_ble_eq_true rfl) ?_
  refine bw_putR (z := 29) (RX1, TX1, 12) 1 2 (b := 31) (ty := (.array .boolean)) dX1_init_26 rfl rfl (Nat.le_of_ble_eq_true rfl) fd_RX1_18 ⟨tyX1, tyX1_ok⟩ nmX1 rfl rfl rfl (by decide +kernel) (fun _ => rfl) (fun _ => rfl) ?_
  refine bw_aload_n (z := 30) dX1_init_29 rfl rfl ?_
  refine bw_bipush (z := 32) 20 dX1_init_30 rfl (by decide) ?_
  refine bw_newI (z := 34) 20 dX1_init_32 rfl tb_149 rfl (by decide) (by decide) (Nat.le_of_ble_eq_true rfl) (Nat.le_of_ble_eq_true rfl) (Nat.le_of_ble_eq_true rfl) ?_
  refine bw_putR (z := 37) (RX1, TX1, 12) 1 3 (b := 32) (ty := (.array .int)) dX1_init_34 rfl rfl (Nat.le_of_ble_eq_true rfl) fd_RX1_22 ⟨tyX1, tyX1_ok⟩ nmX1 rfl rfl rfl (by decide +kernel) (fun _ => rfl) (fun _ => rfl) ?_
  refine bw_aload_n (z := 38) dX1_init_37 rfl rfl ?_
  refine bw_bipush (z := 40) 60 dX1_init_38 rfl (by decide) ?_
  refine bw_newI (z := 42) 60 dX1_init_40 rfl tb_149 rfl (by decide) (by decide) (Nat.le_of_ble_eq_true rfl) (Nat.le_of_ble_eq_true rfl) (Nat.le_of_ble_eq_true rfl) ?_
  refine bw_putR (z := 45) (RX1, TX1, 12) 1 5 (b := 33) (ty := (.array .int)) dX1_init_42 rfl rfl (Nat.le_of_ble_eq_true rfl) fd_RX1_25 ⟨tyX1, tyX1_ok⟩ nmX1 rfl rfl rfl (by decide +kernel) (fun _ => rfl) (fun _ => rfl) ?_
  refine bw_aload_n (z := 46) dX1_init_45 rfl rfl ?_
  refine bw_bipush (z := 48) 100 dX1_init_46 rfl (by decide) ?_
  refine bw_newI (z := 50) 100 dX1_init_48 rfl tb_149 rfl (by decide) (by decide) (Nat.le_of_ble_eq_true rfl) (Nat.le_of_ble_eq_true rfl) (Nat.le_of_ble_eq_true rfl) ?_
  refine bw_putR (z := 53) (RX1, TX1, 12) 1 6 (b := 34) (ty := (.array .int)) dX1_init_50 rfl rfl (Nat.le_of_ble_eq_true rfl) fd_RX1_28 ⟨tyX1, tyX1_ok⟩ nmX1 rfl rfl rfl (by decide +kernel) (fun _ => rfl) (fun _ => rfl) ?_
  refine bw_aload_n (z := 54) dX1_init_53 rfl rfl ?_
  refine bw_sipush (z := 57) 240 dX1_init_54 rfl (by decide) ?_
  refine bw_newI (z := 59) 240 dX1_init_57 rfl tb_149 rfl (by decide) (by decide) (Nat.le_of_ble_eq_true rfl) (Nat.le_of_ble_eq_true rfl) (Nat.le_of_ble_eq_true rfl) ?_
  refine bw_putR (z := 62) (RX1, TX1, 12) 1 8 (b := 35) (ty := (.array .int)) dX1_init_59 rfl rfl (Nat.le_of_ble_eq_true rfl) fd_RX1_31 ⟨tyX1, tyX1_ok⟩ nmX1 rfl rfl rfl (by decide +kernel) (fun _ => rfl) (fun _ => rfl) ?_
  refine bw_aload_n (z := 63) dX1_init_62 rfl rfl ?_
  refine bw_bipush (z := 65) 80 dX1_init_63 rfl (by decide) ?_
  refine bw_newI (z := 67) 80 dX1_init_65 rfl tb_149 rfl (by decide) (by decide) (Nat.le_of_ble_eq_true rfl) (Nat.le_of_ble_eq_true rfl) (Nat.le_of_ble_eq_true rfl) ?_
  refine bw_putR (z := 70) (RX1, TX1, 12) 1 9 (b := 36) (ty := (.array .int)) dX1_init_67 rfl rfl (Nat.le_of_ble_eq_true rfl) fd_RX1_34 ⟨tyX1, tyX1_ok⟩ nmX1 rfl rfl rfl (by decide +kernel) (fun _ => rfl) (fun _ => rfl) ?_
  refine bw_aload_n (z := 71) dX1_init_70 rfl rfl ?_
  refine bw_bipush (z := 73) 81 dX1_init_71 rfl (by decide) ?_
  refine bw_newI (z := 75) 81 dX1_init_73 rfl tb_149 rfl (by decide) (by decide) (Nat.le_of_ble_eq_true rfl) (Nat.le_of_ble_eq_true rfl) (Nat.le_of_ble_eq_true rfl) ?_
  refine bw_putR (z := 78) (RX1, TX1, 12) 1 10 (b := 37) (ty := (.array .int)) dX1_init_75 rfl rfl (Nat.le_of_ble_eq_true rfl) fd_RX1_37 ⟨tyX1, tyX1_ok⟩ nmX1 rfl rfl rfl (by decide +kernel) (fun _ => rfl) (fun _ => rfl) ?_
  refine bw_aload_n (z := 79) dX1_init_78 rfl rfl ?_
  refine bw_bipush (z := 81) 80 dX1_init_79 rfl (by decide) ?_
  refine bw_newI (z := 83) 80 dX1_init_81 rfl tb_149 rfl (by decide) (by decide) (Nat.le_of_ble_eq_true rfl) (Nat.le_of_ble_eq_true rfl) (Nat.le_of_ble_eq_true rfl) ?_
  refine bw_putR (z := 86) (RX1, TX1, 12) 1 11 (b := 38) (ty := (.array .int)) dX1_init_83 rfl rfl (Nat.le_of_ble_eq_true rfl) fd_RX1_40 ⟨tyX1, tyX1_ok⟩ nmX1 rfl rfl rfl (by decide +kernel) (fun _ => rfl) (fun _ => rfl) ?_
  refine bw_aload_n (z := 87) dX1_init_86 rfl rfl ?_
  refine bw_getR (z := 90) (RX1, TX1, 12) 1 8 (b := 35) dX1_init_87 rfl rfl (Nat.le_of_ble_eq_true rfl) fd_RX1_31 rfl ?_
  refine bw_iconst (z := 91) (-1) dX1_init_90 rfl (by decide) ?_
  refine bw_callS (z := 94) (as := [.ref 35, .int (-1)]) (st := []) dX1_init_91 rfl rfl (bm_fill l 35 240 39 (-1) _ rfl (Nat.le_of_ble_eq_true rfl) (Nat.lt_of_lt_of_le (Nat.le_of_ble_eq_true rfl : 240 < 1000000) (by decide))) cw_RX1_43 ⟨Nat.le_of_ble_eq_true rfl, Nat.le_of_ble_eq_true rfl⟩ (fun _ => Nat.le_of_ble_eq_true rfl) rfl (Nat.le_of_ble_eq_true rfl) (Nat.le_of_ble_eq_true rfl) ?_
  exact bw_vret rfl dX1_init_94 rfl rfl rfl rfl
def bi_X0_init_39 (w : bw_T) : bw_T := (bp (bp (bp (bp (bz (bp (bz (bp (bz (bp (bz (bp (bz (bp (bz (bp (bz (bp (bz (bp (bz (bp (bz (bp (bz w 40) 39 8 40) 41) 39 9 41) 42) 39 10 42) 43) 39 11 43) 44) 39 12 44) 45) 39 13 45) 46) 39 14 46) 47) 39 15 47) 48) 39 16 48) 49) 39 17 49) 50) 39 19 50) 39 0 5) 39 1 19) 39 2 28)
theorem mbi_X0_init_39 (l : Launch) (w : bw_T) : BM l yX0_init cX0_init 4 1 120 11 515 [.ref 39, .ref 5, .ref 19, .ref 28] 40 w 51 (bi_X0_init_39 w) := by
  refine bw_met [some (.ref 39), some (.ref 5), some (.ref 19), some (.ref 28)] (Nat.le_of_ble_eq_true rfl) (by decide) (fun _ => rfl) (fun _ => Nat.le_of_ble_eq_true rfl) ?_
  show BW l ((yX0_init.cls, cX0_init, 4, none, 1, 120), yX0_init.name, 11, 515) 0 [some (.ref 39), some (.ref 5), some (.ref 19), some (.ref 28)] [] 40 0 0 w 51 (bi_X0_init_39 w)
  refine bw_aload_n (z := 1) dX0_init_0 rfl rfl ?_
  refine bw_objInit (z := 4) dX0_init_1 rfl tb_390 tb_30 tb_31 ⟨Nat.le_of_ble_eq_true rfl, Nat.le_of_ble_eq_true rfl⟩ (fun _ => Nat.le_of_ble_eq_true rfl) ?_
  refine bw_aload_n (z := 5) dX0_init_4 rfl rfl ?_
  refine bw_iconst (z := 6) 5 dX0_init_5 rfl (by decide) ?_
  refine bw_newI (z := 8) 5 dX0_init_6 rfl tb_149 rfl (by decide) (by decide) (Nat.le_of_ble_eq_true rfl) (Nat.le_of_ble_eq_true rfl) (Nat.le_of_ble_eq_true rfl) ?_
  refine bw_putR (z := 11) (RX0, TX0, 20) 0 8 (b := 40) (ty := (.array .int)) dX0_init_8 rfl rfl (Nat.le_of_ble_eq_true rfl) fd_RX0_9 ⟨tyX0, tyX0_ok⟩ nmX0 rfl rfl rfl (by decide +kernel) (fun _ => rfl) (fun _ => rfl) ?_
  refine bw_aload_n (z := 12) dX0_init_11 rfl rfl ?_
  refine bw_bipush (z := 14) 9 dX0_init_12 rfl (by decide) ?_
  refine bw_newI (z := 16) 9 dX0_init_14 rfl tb_149 rfl (by decide) (by decide) (Nat.le_of_ble_eq_true rfl) (Nat.le_of_ble_eq_true rfl) (Nat.le_of_ble_eq_true rfl) ?_
  refine bw_putR (z := 19) (RX0, TX0, 20) 0 9 (b := 41) (ty := (.array .int)) dX0_init_16 rfl rfl (Nat.le_of_ble_eq_true rfl) fd_RX0_15 ⟨tyX0, tyX0_ok⟩ nmX0 rfl rfl rfl (by decide +kernel) (fun _ => rfl) (fun _ => rfl) ?_
  refine bw_aload_n (z := 20) dX0_init_19 rfl rfl ?_
  refine bw_bipush (z := 22) 9 dX0_init_20 rfl (by decide) ?_
  refine bw_newI (z := 24) 9 dX0_init_22 rfl tb_149 rfl (by decide) (by decide) (Nat.le_of_ble_eq_true rfl) (Nat.le_of_ble_eq_true rfl) (Nat.le_of_ble_eq_true rfl) ?_
  refine bw_putR (z := 27) (RX0, TX0, 20) 0 10 (b := 42) (ty := (.array .int)) dX0_init_24 rfl rfl (Nat.le_of_ble_eq_true rfl) fd_RX0_18 ⟨tyX0, tyX0_ok⟩ nmX0 rfl rfl rfl (by decide +kernel) (fun _ => rfl) (fun _ => rfl) ?_
  refine bw_aload_n (z := 28) dX0_init_27 rfl rfl ?_
  refine bw_bipush (z := 30) 9 dX0_init_28 rfl (by decide) ?_
  refine bw_newI (z := 32) 9 dX0_init_30 rfl tb_149 rfl (by decide) (by decide) (Nat.le_of_ble_eq_true rfl) (Nat.le_of_ble_eq_true rfl) (Nat.le_of_ble_eq_true rfl) ?_
  refine bw_putR (z := 35) (RX0, TX0, 20) 0 11 (b := 43) (ty := (.array .int)) dX0_init_32 rfl rfl (Nat.le_of_ble_eq_true rfl) fd_RX0_21 ⟨tyX0, tyX0_ok⟩ nmX0 rfl rfl rfl (by decide +kernel) (fun _ => rfl) (fun _ => rfl) ?_
  refine bw_aload_n (z := 36) dX0_init_35 rfl rfl ?_
  refine bw_bipush (z := 38) 9 dX0_init_36 rfl (by decide) ?_
  refine bw_newI (z := 40) 9 dX0_init_38 rfl tb_149 rfl (by decide) (by decide) (Nat.le_of_ble_eq_true rfl) (Nat.le_of_ble_eq_true rfl) (Nat.le_of_ble_eq_true rfl) ?_
  refine bw_putR (z := 43) (RX0, TX0, 20) 0 12 (b := 44) (ty := (.array .int)) dX0_init_40 rfl rfl (Nat.le_of_ble_eq_true rfl) fd_RX0_24 ⟨tyX0, tyX0_ok⟩ nmX0 rfl rfl rfl (by decide +kernel) (fun _ => rfl) (fun _ => rfl) ?_
  refine bw_aload_n (z := 44) dX0_init_43 rfl rfl ?_
  refine bw_sipush (z := 47) 180 dX0_init_44 rfl (by decide) ?_
  refine bw_newI (z := 49) 180 dX0_init_47 rfl tb_149 rfl (by decide) (by decide) (Nat.le_of_ble_eq_true rfl) (Nat.le_of_ble_eq_true rfl) (Nat.le_of_ble_eq_true rfl) ?_
  refine bw_putR (z := 52) (RX0, TX0, 20) 0 13 (b := 45) (ty := (.array .int)) dX0_init_49 rfl rfl (Nat.le_of_ble_eq_true rfl) fd_RX0_27 ⟨tyX0, tyX0_ok⟩ nmX0 rfl rfl rfl (by decide +kernel) (fun _ => rfl) (fun _ => rfl) ?_
  refine bw_aload_n (z := 53) dX0_init_52 rfl rfl ?_
  refine bw_bipush (z := 55) 20 dX0_init_53 rfl (by decide) ?_
  refine bw_newI (z := 57) 20 dX0_init_55 rfl tb_149 rfl (by decide) (by decide) (Nat.le_of_ble_eq_true rfl) (Nat.le_of_ble_eq_true rfl) (Nat.le_of_ble_eq_true rfl) ?_
  refine bw_putR (z := 60) (RX0, TX0, 20) 0 14 (b := 46) (ty := (.array .int)) dX0_init_57 rfl rfl (Nat.le_of_ble_eq_true rfl) fd_RX0_30 ⟨tyX0, tyX0_ok⟩ nmX0 rfl rfl rfl (by decide +kernel) (fun _ => rfl) (fun _ => rfl) ?_
  refine bw_aload_n (z := 61) dX0_init_60 rfl rfl ?_
  refine bw_bipush (z := 63) 20 dX0_init_61 rfl (by decide) ?_
  refine bw_newI (z := 65) 20 dX0_init_63 rfl tb_149 rfl (by decide) (by decide) (Nat.le_of_ble_eq_true rfl) (Nat.le_of_ble_eq_true rfl) (Nat.le_of_ble_eq_true rfl) ?_
  refine bw_putR (z := 68) (RX0, TX0, 20) 0 15 (b := 47) (ty := (.array .int)) dX0_init_65 rfl rfl (Nat.le_of_ble_eq_true rfl) fd_RX0_33 ⟨tyX0, tyX0_ok⟩ nmX0 rfl rfl rfl (by decide +kernel) (fun _ => rfl) (fun _ => rfl) ?_
  refine bw_aload_n (z := 69) dX0_init_68 rfl rfl ?_
  refine bw_bipush (z := 71) 100 dX0_init_69 rfl (by decide) ?_
  refine bw_newI (z := 73) 100 dX0_init_71 rfl tb_149 rfl (by decide) (by decide) (Nat.le_of_ble_eq_true rfl) (Nat.le_of_ble_eq_true rfl) (Nat.le_of_ble_eq_true rfl) ?_
  refine bw_putR (z := 76) (RX0, TX0, 20) 0 16 (b := 48) (ty := (.array .int)) dX0_init_73 rfl rfl (Nat.le_of_ble_eq_true rfl) fd_RX0_36 ⟨tyX0, tyX0_ok⟩ nmX0 rfl rfl rfl (by decide +kernel) (fun _ => rfl) (fun _ => rfl) ?_
  refine bw_aload_n (z := 77) dX0_init_76 rfl rfl ?_
  refine bw_bipush (z := 79) 100 dX0_init_77 rfl (by decide) ?_
  refine bw_newI (z := 81) 100 dX0_init_79 rfl tb_149 rfl (by decide) (by decide) (Nat.le_of_ble_eq_true rfl) (Nat.le_of_ble_eq_true rfl) (Nat.le_of_ble_eq_true rfl) ?_
  refine bw_putR (z := 84) (RX0, TX0, 20) 0 17 (b := 49) (ty := (.array .int)) dX0_init_81 rfl rfl (Nat.le_of_ble_eq_true rfl) fd_RX0_39 ⟨tyX0, tyX0_ok⟩ nmX0 rfl rfl rfl (by decide +kernel) (fun _ => rfl) (fun _ => rfl) ?_
  refine bw_aload_n (z := 85) dX0_init_84 rfl rfl ?_
  refine bw_bipush (z := 87) 54 dX0_init_85 rfl (by decide) ?_
  refine bw_newI (z := 89) 54 dX0_init_87 rfl tb_149 rfl (by decide) (by decide) (Nat.le_of_ble_eq_true rfl) (Nat.le_of_ble_eq_true rfl) (Nat.le_of_ble_eq_true rfl) ?_
  refine bw_putR (z := 92) (RX0, TX0, 20) 0 19 (b := 50) (ty := (.array .int)) dX0_init_89 rfl rfl (Nat.le_of_ble_eq_true rfl) fd_RX0_42 ⟨tyX0, tyX0_ok⟩ nmX0 rfl rfl rfl (by decide +kernel) (fun _ => rfl) (fun _ => rfl) ?_
  refine bw_aload_n (z := 93) dX0_init_92 rfl rfl ?_
  refine bw_aload_n (z := 94) dX0_init_93 rfl rfl ?_
  refine bw_putR (z := 97) (RX0, TX0, 20) 0 0 (b := 5) (ty := (.object "OrangeFight$Town")) dX0_init_94 rfl rfl (Nat.le_of_ble_eq_true rfl) fd_RX0_45 ⟨tyX0, tyX0_ok⟩ nmX0 rfl rfl rfl (by decide +kernel) (fun _ => rfl) (fun _ => rfl) ?_
  refine bw_aload_n (z := 98) dX0_init_97 rfl rfl ?_
  refine bw_aload_n (z := 99) dX0_init_98 rfl rfl ?_
  refine bw_putR (z := 102) (RX0, TX0, 20) 0 1 (b := 19) (ty := (.object "OrangeFight$Plans")) dX0_init_99 rfl rfl (Nat.le_of_ble_eq_true rfl) fd_RX0_49 ⟨tyX0, tyX0_ok⟩ nmX0 rfl rfl rfl (by decide +kernel) (fun _ => rfl) (fun _ => rfl) ?_
  refine bw_aload_n (z := 103) dX0_init_102 rfl rfl ?_
  refine bw_aload_n (z := 104) dX0_init_103 rfl rfl ?_
  refine bw_putR (z := 107) (RX0, TX0, 20) 0 2 (b := 28) (ty := (.object "OrangeFight$Ground")) dX0_init_104 rfl rfl (Nat.le_of_ble_eq_true rfl) fd_RX0_53 ⟨tyX0, tyX0_ok⟩ nmX0 rfl rfl rfl (by decide +kernel) (fun _ => rfl) (fun _ => rfl) ?_
  exact bw_vret rfl dX0_init_107 rfl rfl rfl rfl
def bi_X4_init_4 (w : bw_T) : bw_T := (bp (bi_X0_init_39 (bz (bp (bi_X1_init_28 (bz (bp (bi_X3_init_23 (bz (bp (bi_X2_init_19 (bz (bp (bi_X8_init_5 (bz w 5)) 4 0 5) 19)) 4 1 19) 23)) 4 2 23) 28)) 4 3 28) 39)) 4 4 39)
theorem mbi_X4_init_4 (l : Launch) (w : bw_T) : BM l yX4_init cX4_init 1 4 183 46 2136 [.ref 4] 5 w 51 (bi_X4_init_4 w) := by
  refine bw_met [some (.ref 4)] (Nat.le_of_ble_eq_true rfl) (by decide) (fun _ => rfl) (fun _ => Nat.le_of_ble_eq_true rfl) ?_
  show BW l ((yX4_init.cls, cX4_init, 1, none, 4, 183), yX4_init.name, 46, 2136) 0 [some (.ref 4)] [] 5 0 0 w 51 (bi_X4_init_4 w)
  refine bw_aload_n (z := 1) dX4_init_0 rfl rfl ?_
  refine bw_objInit (z := 4) dX4_init_1 rfl tb_157 tb_30 tb_31 ⟨Nat.le_of_ble_eq_true rfl, Nat.le_of_ble_eq_true rfl⟩ (fun _ => Nat.le_of_ble_eq_true rfl) ?_
  refine bw_aload_n (z := 5) dX4_init_4 rfl rfl ?_
  refine bw_new (z := 8) 8 (RX8, TX8, 20) tyX8 dX4_init_5 rfl rfl tb_158 tb_159 tb_8 inTB_8 tyX8_ok rfl bnf_8 (Nat.le_of_ble_eq_true rfl) (Nat.le_of_ble_eq_true rfl) ?_
  refine bw_dup (z := 9) dX4_init_8 rfl (fun _ => rfl) ?_
  refine bw_callI (z := 12) (as := []) (st := [.ref 5, .ref 4]) dX4_init_9 rfl rfl (mbi_X8_init_5 l _) ⟨tb_162, tb_8, ⟨by decide, by decide⟩, by decide +kernel, tb_160⟩ rfl tb_161 ⟨Nat.le_of_ble_eq_true rfl, Nat.le_of_ble_eq_true rfl⟩ (fun _ => Nat.le_of_ble_eq_true rfl) rfl (Nat.le_of_ble_eq_true rfl) (Nat.le_of_ble_eq_true rfl) ?_
  refine bw_putR (z := 15) (RX4, TX4, 5) 4 0 (b := 5) (ty := (.object "OrangeFight$Town")) dX4_init_12 rfl rfl (Nat.le_of_ble_eq_true rfl) fd_RX4_10 ⟨tyX4, tyX4_ok⟩ nmX4 rfl rfl rfl (by decide +kernel) (fun _ => rfl) (fun _ => rfl) ?_
  refine bw_aload_n (z := 16) dX4_init_15 rfl rfl ?_
  refine bw_new (z := 19) 2 (RX2, TX2, 4) tyX2 dX4_init_16 rfl rfl tb_264 tb_265 tb_10 inTB_2 tyX2_ok rfl bnf_2 (Nat.le_of_ble_eq_true rfl) (Nat.le_of_ble_eq_true rfl) ?_
  refine bw_dup (z := 20) dX4_init_19 rfl (fun _ => rfl) ?_
  refine bw_callI (z := 23) (as := []) (st := [.ref 19, .ref 4]) dX4_init_20 rfl rfl (mbi_X2_init_19 l _) ⟨tb_268, tb_10, ⟨by decide, by decide⟩, by decide +kernel, tb_266⟩ rfl tb_267 ⟨Nat.le_of_ble_eq_true rfl, Nat.le_of_ble_eq_true rfl⟩ (fun _ => Nat.le_of_ble_eq_true rfl) rfl (Nat.le_of_ble_eq_true rfl) (Nat.le_of_ble_eq_true rfl) ?_
  refine bw_putR (z := 26) (RX4, TX4, 5) 4 1 (b := 19) (ty := (.object "OrangeFight$Plans")) dX4_init_23 rfl rfl (Nat.le_of_ble_eq_true rfl) fd_RX4_19 ⟨tyX4, tyX4_ok⟩ nmX4 rfl rfl rfl (by decide +kernel) (fun _ => rfl) (fun _ => rfl) ?_
  refine bw_aload_n (z := 27) dX4_init_26 rfl rfl ?_
  refine bw_new (z := 30) 3 (RX3, TX3, 6) tyX3 dX4_init_27 rfl rfl tb_299 tb_300 tb_11 inTB_3 tyX3_ok rfl bnf_3 (Nat.le_of_ble_eq_true rfl) (Nat.le_of_ble_eq_true rfl) ?_
  refine bw_dup (z := 31) dX4_init_30 rfl (fun _ => rfl) ?_
  refine bw_callIN (z := 34) RX10 (as := []) (st := [.ref 23, .ref 4]) dX4_init_31 rfl rfl (mbi_X3_init_23 l _) ⟨tb_303, tb_11, ⟨by decide, by decide⟩, by decide +kernel, by decide +kernel⟩ rfl tb_302 ⟨Nat.le_of_ble_eq_true rfl, Nat.le_of_ble_eq_true rfl⟩ (fun _ => Nat.le_of_ble_eq_true rfl) rfl (Nat.le_of_ble_eq_true rfl) (Nat.le_of_ble_eq_true rfl) ?_
  refine bw_putR (z := 37) (RX4, TX4, 5) 4 2 (b := 23) (ty := (.object "OrangeFight$Saying")) dX4_init_34 rfl rfl (Nat.le_of_ble_eq_true rfl) fd_RX4_26 ⟨tyX4, tyX4_ok⟩ nmX4 rfl rfl rfl (by decide +kernel) (fun _ => rfl) (fun _ => rfl) ?_
  refine bw_aload_n (z := 38) dX4_init_37 rfl rfl ?_
  refine bw_new (z := 41) 1 (RX1, TX1, 12) tyX1 dX4_init_38 rfl rfl tb_326 tb_327 tb_12 inTB_1 tyX1_ok rfl bnf_1 (Nat.le_of_ble_eq_true rfl) (Nat.le_of_ble_eq_true rfl) ?_
  refine bw_dup (z := 42) dX4_init_41 rfl (fun _ => rfl) ?_
  refine bw_callI (z := 45) (as := []) (st := [.ref 28, .ref 4]) dX4_init_42 rfl rfl (mbi_X1_init_28 l _) ⟨tb_330, tb_12, ⟨by decide, by decide⟩, by decide +kernel, tb_328⟩ rfl tb_329 ⟨Nat.le_of_ble_eq_true rfl, Nat.le_of_ble_eq_true rfl⟩ (fun _ => Nat.le_of_ble_eq_true rfl) rfl (Nat.le_of_ble_eq_true rfl) (Nat.le_of_ble_eq_true rfl) ?_
  refine bw_putR (z := 48) (RX4, TX4, 5) 4 3 (b := 28) (ty := (.object "OrangeFight$Ground")) dX4_init_45 rfl rfl (Nat.le_of_ble_eq_true rfl) fd_RX4_33 ⟨tyX4, tyX4_ok⟩ nmX4 rfl rfl rfl (by decide +kernel) (fun _ => rfl) (fun _ => rfl) ?_
  refine bw_aload_n (z := 49) dX4_init_48 rfl rfl ?_
  refine bw_new (z := 52) 0 (RX0, TX0, 20) tyX0 dX4_init_49 rfl rfl tb_385 tb_386 tb_13 inTB_0 tyX0_ok rfl bnf_0 (Nat.le_of_ble_eq_true rfl) (Nat.le_of_ble_eq_true rfl) ?_
  refine bw_dup (z := 53) dX4_init_52 rfl (fun _ => rfl) ?_
  refine bw_aload_n (z := 54) dX4_init_53 rfl rfl ?_
  refine bw_getR (z := 57) (RX4, TX4, 5) 4 0 (b := 5) dX4_init_54 rfl rfl (Nat.le_of_ble_eq_true rfl) fd_RX4_10 rfl ?_
  refine bw_aload_n (z := 58) dX4_init_57 rfl rfl ?_
  refine bw_getR (z := 61) (RX4, TX4, 5) 4 1 (b := 19) dX4_init_58 rfl rfl (Nat.le_of_ble_eq_true rfl) fd_RX4_19 rfl ?_
  refine bw_aload_n (z := 62) dX4_init_61 rfl rfl ?_
  refine bw_getR (z := 65) (RX4, TX4, 5) 4 3 (b := 28) dX4_init_62 rfl rfl (Nat.le_of_ble_eq_true rfl) fd_RX4_33 rfl ?_
  refine bw_callI (z := 68) (as := [.ref 5, .ref 19, .ref 28]) (st := [.ref 39, .ref 4]) dX4_init_65 rfl rfl (mbi_X0_init_39 l _) ⟨tb_389, tb_13, ⟨by decide, by decide⟩, by decide +kernel, tb_387⟩ rfl tb_388 ⟨Nat.le_of_ble_eq_true rfl, Nat.le_of_ble_eq_true rfl⟩ (fun _ => Nat.le_of_ble_eq_true rfl) rfl (Nat.le_of_ble_eq_true rfl) (Nat.le_of_ble_eq_true rfl) ?_
  refine bw_putR (z := 71) (RX4, TX4, 5) 4 4 (b := 39) (ty := (.object "OrangeFight$Fight")) dX4_init_68 rfl rfl (Nat.le_of_ble_eq_true rfl) fd_RX4_42 ⟨tyX4, tyX4_ok⟩ nmX4 rfl rfl rfl (by decide +kernel) (fun _ => rfl) (fun _ => rfl) ?_
  exact bw_vret rfl dX4_init_71 rfl rfl rfl rfl
