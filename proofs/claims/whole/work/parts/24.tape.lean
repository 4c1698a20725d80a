theorem tb_2046 : Cond.fieldLink RJ0 9 "java/lang/String" "value" "[B" ∈ aw_TB := aw_tb 2046 (by decide +kernel) (by decide +kernel)
theorem tb_2047 : Cond.fieldLink RJ0 15 "java/lang/String" "coder" "B" ∈ aw_TB := aw_tb 2047 (by decide +kernel) (by decide +kernel)
theorem tb_47 : Cond.fieldLink RJ0 38 "java/lang/String" "COMPACT_STRINGS" "Z" ∈ aw_TB := aw_tb 47 (by decide +kernel) (by decide +kernel)
theorem tb_63 : Cond.fieldLink RJ0 1053 "jdk/internal/util/Preconditions" "SIOOBE_FORMATTER" "Ljava/util/function/BiFunction;" ∈ aw_TB := aw_tb 63 (by decide +kernel) (by decide +kernel)
theorem tb_67 : Cond.code yJ3_checkIndex_8e157 cJ3_checkIndex_8e157 3 (some .int) ∈ aw_TB := aw_tb 67 (by decide +kernel) (by decide +kernel)
theorem tb_5 : Cond.initialized RJ3 ∈ aw_TB := aw_tb 5 (by decide +kernel) (by decide +kernel)
theorem tb_65 : Cond.methodLink RJ0 1059 yJ3_checkIndex_8e157 ∈ aw_TB := aw_tb 65 (by decide +kernel) (by decide +kernel)
theorem tb_66 : Cond.static yJ3_checkIndex_8e157 ∈ aw_TB := aw_tb 66 (by decide +kernel) (by decide +kernel)
theorem cw_RJ0_1059 : aw_ct RJ0 1059 yJ3_checkIndex_8e157 cJ3_checkIndex_8e157 3 (some .int) 3 := ⟨⟨tb_67, tb_5, ⟨by decide, by decide⟩, by decide +kernel, tb_65⟩, tb_66⟩
theorem tb_62 : Cond.code yJ0_checkIndex_df160 cJ0_checkIndex_df160 2 none ∈ aw_TB := aw_tb 62 (by decide +kernel) (by decide +kernel)
theorem tb_3 : Cond.initialized RJ0 ∈ aw_TB := aw_tb 3 (by decide +kernel) (by decide +kernel)
theorem tb_60 : Cond.methodLink RJ1 9 yJ0_checkIndex_df160 ∈ aw_TB := aw_tb 60 (by decide +kernel) (by decide +kernel)
theorem tb_61 : Cond.static yJ0_checkIndex_df160 ∈ aw_TB := aw_tb 61 (by decide +kernel) (by decide +kernel)
theorem cw_RJ1_9 : aw_ct RJ1 9 yJ0_checkIndex_df160 cJ0_checkIndex_df160 2 none 2 := ⟨⟨tb_62, tb_3, ⟨by decide, by decide⟩, by decide +kernel, tb_60⟩, tb_61⟩
theorem tb_59 : Cond.code yJ1_charAt_3b067 cJ1_charAt_3b067 2 (some .char) ∈ aw_TB := aw_tb 59 (by decide +kernel) (by decide +kernel)
theorem tb_4 : Cond.initialized RJ1 ∈ aw_TB := aw_tb 4 (by decide +kernel) (by decide +kernel)
theorem tb_57 : Cond.methodLink RJ0 495 yJ1_charAt_3b067 ∈ aw_TB := aw_tb 57 (by decide +kernel) (by decide +kernel)
theorem tb_58 : Cond.static yJ1_charAt_3b067 ∈ aw_TB := aw_tb 58 (by decide +kernel) (by decide +kernel)
theorem cw_RJ0_495 : aw_ct RJ0 495 yJ1_charAt_3b067 cJ1_charAt_3b067 2 (some .char) 2 := ⟨⟨tb_59, tb_4, ⟨by decide, by decide⟩, by decide +kernel, tb_57⟩, tb_58⟩
theorem tb_56 : Cond.code yJ0_isLatin1_aae02 cJ0_isLatin1_aae02 1 (some .boolean) ∈ aw_TB := aw_tb 56 (by decide +kernel) (by decide +kernel)
theorem tb_53 : Cond.methodLink RJ0 492 yJ0_isLatin1_aae02 ∈ aw_TB := aw_tb 53 (by decide +kernel) (by decide +kernel)
theorem tb_54 : Cond.instanceMethod yJ0_isLatin1_aae02 ∈ aw_TB := aw_tb 54 (by decide +kernel) (by decide +kernel)
theorem tb_55 : Cond.selects RJ0 yJ0_isLatin1_aae02 yJ0_isLatin1_aae02 ∈ aw_TB := aw_tb 55 (by decide +kernel) (by decide +kernel)
theorem cw_RJ0_492 : aw_cv RJ0 492 yJ0_isLatin1_aae02 cJ0_isLatin1_aae02 1 (some .boolean) 0 := ⟨⟨tb_56, tb_3, ⟨by decide, by decide⟩, by decide +kernel, tb_53⟩, tb_54, tb_55⟩
theorem tb_46 : Cond.code yJ0_coder_7d493 cJ0_coder_7d493 1 (some .byte) ∈ aw_TB := aw_tb 46 (by decide +kernel) (by decide +kernel)
theorem tb_43 : Cond.methodLink RJ0 335 yJ0_coder_7d493 ∈ aw_TB := aw_tb 43 (by decide +kernel) (by decide +kernel)
theorem tb_44 : Cond.instanceMethod yJ0_coder_7d493 ∈ aw_TB := aw_tb 44 (by decide +kernel) (by decide +kernel)
theorem tb_45 : Cond.selects RJ0 yJ0_coder_7d493 yJ0_coder_7d493 ∈ aw_TB := aw_tb 45 (by decide +kernel) (by decide +kernel)
theorem cw_RJ0_335 : aw_cv RJ0 335 yJ0_coder_7d493 cJ0_coder_7d493 1 (some .byte) 0 := ⟨⟨tb_46, tb_3, ⟨by decide, by decide⟩, by decide +kernel, tb_43⟩, tb_44, tb_45⟩
theorem tb_42 : Cond.code yJ0_length_8abf5 cJ0_length_8abf5 1 (some .int) ∈ aw_TB := aw_tb 42 (by decide +kernel) (by decide +kernel)
theorem tb_39 : Cond.methodLink RX6 21 yJ0_length_8abf5 ∈ aw_TB := aw_tb 39 (by decide +kernel) (by decide +kernel)
theorem tb_40 : Cond.instanceMethod yJ0_length_8abf5 ∈ aw_TB := aw_tb 40 (by decide +kernel) (by decide +kernel)
theorem tb_41 : Cond.selects RJ0 yJ0_length_8abf5 yJ0_length_8abf5 ∈ aw_TB := aw_tb 41 (by decide +kernel) (by decide +kernel)
theorem cw_RX6_21 : aw_cv RX6 21 yJ0_length_8abf5 cJ0_length_8abf5 1 (some .int) 0 := ⟨⟨tb_42, tb_3, ⟨by decide, by decide⟩, by decide +kernel, tb_39⟩, tb_40, tb_41⟩
theorem tb_52 : Cond.code yJ0_charAt_5068e cJ0_charAt_5068e 2 (some .char) ∈ aw_TB := aw_tb 52 (by decide +kernel) (by decide +kernel)
theorem tb_49 : Cond.methodLink RX6 27 yJ0_charAt_5068e ∈ aw_TB := aw_tb 49 (by decide +kernel) (by decide +kernel)
theorem tb_50 : Cond.instanceMethod yJ0_charAt_5068e ∈ aw_TB := aw_tb 50 (by decide +kernel) (by decide +kernel)
theorem tb_51 : Cond.selects RJ0 yJ0_charAt_5068e yJ0_charAt_5068e ∈ aw_TB := aw_tb 51 (by decide +kernel) (by decide +kernel)
theorem cw_RX6_27 : aw_cv RX6 27 yJ0_charAt_5068e cJ0_charAt_5068e 2 (some .char) 1 := ⟨⟨tb_52, tb_3, ⟨by decide, by decide⟩, by decide +kernel, tb_49⟩, tb_50, tb_51⟩
theorem tb_37 : Cond.methodLink RX6 3 objectInit ∈ aw_TB := aw_tb 37 (by decide +kernel) (by decide +kernel)
theorem tb_30 : Cond.instanceMethod objectInit ∈ aw_TB := aw_tb 30 (by decide +kernel) (by decide +kernel)
theorem tb_31 : Cond.code objectInit ⟨#[0xb1]⟩ 1 none ∈ aw_TB := aw_tb 31 (by decide +kernel) (by decide +kernel)
theorem tb_146 : Cond.arrayClass .int ∈ aw_TB := aw_tb 146 (by decide +kernel) (by decide +kernel)
theorem tb_147 : Cond.arrayClass .long ∈ aw_TB := aw_tb 147 (by decide +kernel) (by decide +kernel)
theorem dJ0_length_8abf5_0 : decode cJ0_length_8abf5 0 = .ok (.aload_n 0, 1) := by decide +kernel
theorem dJ0_length_8abf5_1 : decode cJ0_length_8abf5 1 = .ok (.getfield 9, 3) := by decide +kernel
theorem dJ0_length_8abf5_4 : decode cJ0_length_8abf5 4 = .ok (.arraylength, 1) := by decide +kernel
theorem dJ0_length_8abf5_5 : decode cJ0_length_8abf5 5 = .ok (.aload_n 0, 1) := by decide +kernel
theorem dJ0_length_8abf5_6 : decode cJ0_length_8abf5 6 = .ok (.invokevirtual 335, 3) := by decide +kernel
theorem dJ0_length_8abf5_9 : decode cJ0_length_8abf5 9 = .ok (.ishr, 1) := by decide +kernel
theorem dJ0_length_8abf5_10 : decode cJ0_length_8abf5 10 = .ok (.ireturn, 1) := by decide +kernel
theorem dJ0_charAt_5068e_0 : decode cJ0_charAt_5068e 0 = .ok (.aload_n 0, 1) := by decide +kernel
theorem dJ0_charAt_5068e_1 : decode cJ0_charAt_5068e 1 = .ok (.invokevirtual 492, 3) := by decide +kernel
theorem dJ0_charAt_5068e_4 : decode cJ0_charAt_5068e 4 = .ok (.ifCond .eq 12, 3) := by decide +kernel
theorem dJ0_charAt_5068e_7 : decode cJ0_charAt_5068e 7 = .ok (.aload_n 0, 1) := by decide +kernel
theorem dJ0_charAt_5068e_8 : decode cJ0_charAt_5068e 8 = .ok (.getfield 9, 3) := by decide +kernel
theorem dJ0_charAt_5068e_11 : decode cJ0_charAt_5068e 11 = .ok (.iload_n 1, 1) := by decide +kernel
theorem dJ0_charAt_5068e_12 : decode cJ0_charAt_5068e 12 = .ok (.invokestatic 495, 3) := by decide +kernel
theorem dJ0_charAt_5068e_15 : decode cJ0_charAt_5068e 15 = .ok (.ireturn, 1) := by decide +kernel
theorem dJ0_charAt_5068e_16 : decode cJ0_charAt_5068e 16 = .ok (.aload_n 0, 1) := by decide +kernel
theorem dJ0_charAt_5068e_17 : decode cJ0_charAt_5068e 17 = .ok (.getfield 9, 3) := by decide +kernel
theorem dJ0_charAt_5068e_20 : decode cJ0_charAt_5068e 20 = .ok (.iload_n 1, 1) := by decide +kernel
theorem dJ0_charAt_5068e_21 : decode cJ0_charAt_5068e 21 = .ok (.invokestatic 498, 3) := by decide +kernel
theorem dJ0_charAt_5068e_24 : decode cJ0_charAt_5068e 24 = .ok (.ireturn, 1) := by decide +kernel
theorem dJ0_coder_7d493_0 : decode cJ0_coder_7d493 0 = .ok (.getstatic 38, 3) := by decide +kernel
theorem dJ0_coder_7d493_3 : decode cJ0_coder_7d493 3 = .ok (.ifCond .eq 10, 3) := by decide +kernel
theorem dJ0_coder_7d493_6 : decode cJ0_coder_7d493 6 = .ok (.aload_n 0, 1) := by decide +kernel
theorem dJ0_coder_7d493_7 : decode cJ0_coder_7d493 7 = .ok (.getfield 15, 3) := by decide +kernel
theorem dJ0_coder_7d493_10 : decode cJ0_coder_7d493 10 = .ok (.goto 4, 3) := by decide +kernel
theorem dJ0_coder_7d493_13 : decode cJ0_coder_7d493 13 = .ok (.iconst 1, 1) := by decide +kernel
theorem dJ0_coder_7d493_14 : decode cJ0_coder_7d493 14 = .ok (.ireturn, 1) := by decide +kernel
theorem dJ0_isLatin1_aae02_0 : decode cJ0_isLatin1_aae02 0 = .ok (.getstatic 38, 3) := by decide +kernel
theorem dJ0_isLatin1_aae02_3 : decode cJ0_isLatin1_aae02 3 = .ok (.ifCond .eq 14, 3) := by decide +kernel
theorem dJ0_isLatin1_aae02_6 : decode cJ0_isLatin1_aae02 6 = .ok (.aload_n 0, 1) := by decide +kernel
theorem dJ0_isLatin1_aae02_7 : decode cJ0_isLatin1_aae02 7 = .ok (.getfield 15, 3) := by decide +kernel
theorem dJ0_isLatin1_aae02_10 : decode cJ0_isLatin1_aae02 10 = .ok (.ifCond .ne 7, 3) := by decide +kernel
theorem dJ0_isLatin1_aae02_13 : decode cJ0_isLatin1_aae02 13 = .ok (.iconst 1, 1) := by decide +kernel
theorem dJ0_isLatin1_aae02_14 : decode cJ0_isLatin1_aae02 14 = .ok (.goto 4, 3) := by decide +kernel
theorem dJ0_isLatin1_aae02_17 : decode cJ0_isLatin1_aae02 17 = .ok (.iconst 0, 1) := by decide +kernel
theorem dJ0_isLatin1_aae02_18 : decode cJ0_isLatin1_aae02 18 = .ok (.ireturn, 1) := by decide +kernel
theorem dJ0_checkIndex_df160_0 : decode cJ0_checkIndex_df160 0 = .ok (.iload_n 0, 1) := by decide +kernel
theorem dJ0_checkIndex_df160_1 : decode cJ0_checkIndex_df160 1 = .ok (.iload_n 1, 1) := by decide +kernel
theorem dJ0_checkIndex_df160_2 : decode cJ0_checkIndex_df160 2 = .ok (.getstatic 1053, 3) := by decide +kernel
theorem dJ0_checkIndex_df160_5 : decode cJ0_checkIndex_df160 5 = .ok (.invokestatic 1059, 3) := by decide +kernel
theorem dJ0_checkIndex_df160_8 : decode cJ0_checkIndex_df160 8 = .ok (.pop, 1) := by decide +kernel
theorem dJ0_checkIndex_df160_9 : decode cJ0_checkIndex_df160 9 = .ok (.return_, 1) := by decide +kernel
theorem dJ1_charAt_3b067_0 : decode cJ1_charAt_3b067 0 = .ok (.iload_n 1, 1) := by decide +kernel
theorem dJ1_charAt_3b067_1 : decode cJ1_charAt_3b067 1 = .ok (.aload_n 0, 1) := by decide +kernel
theorem dJ1_charAt_3b067_2 : decode cJ1_charAt_3b067 2 = .ok (.arraylength, 1) := by decide +kernel
theorem dJ1_charAt_3b067_3 : decode cJ1_charAt_3b067 3 = .ok (.invokestatic 9, 3) := by decide +kernel
theorem dJ1_charAt_3b067_6 : decode cJ1_charAt_3b067 6 = .ok (.aload_n 0, 1) := by decide +kernel
theorem dJ1_charAt_3b067_7 : decode cJ1_charAt_3b067 7 = .ok (.iload_n 1, 1) := by decide +kernel
theorem dJ1_charAt_3b067_8 : decode cJ1_charAt_3b067 8 = .ok (.baload, 1) := by decide +kernel
theorem dJ1_charAt_3b067_9 : decode cJ1_charAt_3b067 9 = .ok (.sipush 255, 3) := by decide +kernel
theorem dJ1_charAt_3b067_12 : decode cJ1_charAt_3b067 12 = .ok (.iand, 1) := by decide +kernel
theorem dJ1_charAt_3b067_13 : decode cJ1_charAt_3b067 13 = .ok (.i2c, 1) := by decide +kernel
theorem dJ1_charAt_3b067_14 : decode cJ1_charAt_3b067 14 = .ok (.ireturn, 1) := by decide +kernel
theorem dJ3_checkIndex_8e157_0 : decode cJ3_checkIndex_8e157 0 = .ok (.iload_n 0, 1) := by decide +kernel
theorem dJ3_checkIndex_8e157_1 : decode cJ3_checkIndex_8e157 1 = .ok (.ifCond .lt 8, 3) := by decide +kernel
theorem dJ3_checkIndex_8e157_4 : decode cJ3_checkIndex_8e157 4 = .ok (.iload_n 0, 1) := by decide +kernel
theorem dJ3_checkIndex_8e157_5 : decode cJ3_checkIndex_8e157 5 = .ok (.iload_n 1, 1) := by decide +kernel
theorem dJ3_checkIndex_8e157_6 : decode cJ3_checkIndex_8e157 6 = .ok (.if_icmp .lt 10, 3) := by decide +kernel
theorem dJ3_checkIndex_8e157_9 : decode cJ3_checkIndex_8e157 9 = .ok (.aload_n 2, 1) := by decide +kernel
theorem dJ3_checkIndex_8e157_10 : decode cJ3_checkIndex_8e157 10 = .ok (.iload_n 0, 1) := by decide +kernel
theorem dJ3_checkIndex_8e157_11 : decode cJ3_checkIndex_8e157 11 = .ok (.iload_n 1, 1) := by decide +kernel
theorem dJ3_checkIndex_8e157_12 : decode cJ3_checkIndex_8e157 12 = .ok (.invokestatic 95, 3) := by decide +kernel
theorem dJ3_checkIndex_8e157_15 : decode cJ3_checkIndex_8e157 15 = .ok (.athrow, 1) := by decide +kernel
theorem dJ3_checkIndex_8e157_16 : decode cJ3_checkIndex_8e157 16 = .ok (.iload_n 0, 1) := by decide +kernel
theorem dJ3_checkIndex_8e157_17 : decode cJ3_checkIndex_8e157 17 = .ok (.ireturn, 1) := by decide +kernel
theorem dX6_init_0 : decode cX6_init 0 = .ok (.aload_n 0, 1) := by decide +kernel
theorem dX6_init_1 : decode cX6_init 1 = .ok (.invokespecial 3, 3) := by decide +kernel
theorem dX6_init_4 : decode cX6_init 4 = .ok (.aload_n 0, 1) := by decide +kernel
theorem dX6_init_5 : decode cX6_init 5 = .ok (.sipush 940, 3) := by decide +kernel
theorem dX6_init_8 : decode cX6_init 8 = .ok (.newarray .int, 2) := by decide +kernel
theorem dX6_init_10 : decode cX6_init 10 = .ok (.putfield 11, 3) := by decide +kernel
theorem dX6_init_13 : decode cX6_init 13 = .ok (.aload_n 0, 1) := by decide +kernel
theorem dX6_init_14 : decode cX6_init 14 = .ok (.bipush 20, 2) := by decide +kernel
theorem dX6_init_16 : decode cX6_init 16 = .ok (.newarray .long, 2) := by decide +kernel
theorem dX6_init_18 : decode cX6_init 18 = .ok (.putfield 15, 3) := by decide +kernel
theorem dX6_init_21 : decode cX6_init 21 = .ok (.iconst 0, 1) := by decide +kernel
theorem dX6_init_22 : decode cX6_init 22 = .ok (.istore_n 1, 1) := by decide +kernel
theorem dX6_init_23 : decode cX6_init 23 = .ok (.lconst 0, 1) := by decide +kernel
theorem dX6_init_24 : decode cX6_init 24 = .ok (.lstore_n 2, 1) := by decide +kernel
theorem dX6_init_25 : decode cX6_init 25 = .ok (.iconst 0, 1) := by decide +kernel
theorem dX6_init_26 : decode cX6_init 26 = .ok (.istore 4, 2) := by decide +kernel
theorem dX6_init_28 : decode cX6_init 28 = .ok (.iload 4, 2) := by decide +kernel
theorem dX6_init_30 : decode cX6_init 30 = .ok (.ldc 19, 2) := by decide +kernel
theorem dX6_init_32 : decode cX6_init 32 = .ok (.invokevirtual 21, 3) := by decide +kernel
theorem dX6_init_35 : decode cX6_init 35 = .ok (.if_icmp .ge 61, 3) := by decide +kernel
theorem dX6_init_38 : decode cX6_init 38 = .ok (.ldc 19, 2) := by decide +kernel
theorem dX6_init_40 : decode cX6_init 40 = .ok (.iload 4, 2) := by decide +kernel
theorem dX6_init_42 : decode cX6_init 42 = .ok (.invokevirtual 27, 3) := by decide +kernel
theorem dX6_init_45 : decode cX6_init 45 = .ok (.istore 5, 2) := by decide +kernel
theorem dX6_init_47 : decode cX6_init 47 = .ok (.iload 5, 2) := by decide +kernel
theorem dX6_init_49 : decode cX6_init 49 = .ok (.bipush 32, 2) := by decide +kernel
theorem dX6_init_51 : decode cX6_init 51 = .ok (.if_icmp .eq 21, 3) := by decide +kernel
theorem dX6_init_54 : decode cX6_init 54 = .ok (.lload_n 2, 1) := by decide +kernel
theorem dX6_init_55 : decode cX6_init 55 = .ok (.ldc2_w 31, 3) := by decide +kernel
theorem dX6_init_58 : decode cX6_init 58 = .ok (.lmul, 1) := by decide +kernel
theorem dX6_init_59 : decode cX6_init 59 = .ok (.iload 5, 2) := by decide +kernel
theorem dX6_init_61 : decode cX6_init 61 = .ok (.bipush 97, 2) := by decide +kernel
theorem dX6_init_63 : decode cX6_init 63 = .ok (.isub, 1) := by decide +kernel
theorem dX6_init_64 : decode cX6_init 64 = .ok (.iconst 1, 1) := by decide +kernel
theorem dX6_init_65 : decode cX6_init 65 = .ok (.iadd, 1) := by decide +kernel
theorem dX6_init_66 : decode cX6_init 66 = .ok (.i2l, 1) := by decide +kernel
theorem dX6_init_67 : decode cX6_init 67 = .ok (.ladd, 1) := by decide +kernel
theorem dX6_init_68 : decode cX6_init 68 = .ok (.lstore_n 2, 1) := by decide +kernel
theorem dX6_init_69 : decode cX6_init 69 = .ok (.goto 21, 3) := by decide +kernel
theorem dX6_init_72 : decode cX6_init 72 = .ok (.iload_n 1, 1) := by decide +kernel
theorem dX6_init_73 : decode cX6_init 73 = .ok (.bipush 20, 2) := by decide +kernel
theorem dX6_init_75 : decode cX6_init 75 = .ok (.if_icmp .ge 15, 3) := by decide +kernel
theorem dX6_init_78 : decode cX6_init 78 = .ok (.aload_n 0, 1) := by decide +kernel
theorem dX6_init_79 : decode cX6_init 79 = .ok (.getfield 15, 3) := by decide +kernel
theorem dX6_init_82 : decode cX6_init 82 = .ok (.iload_n 1, 1) := by decide +kernel
theorem dX6_init_83 : decode cX6_init 83 = .ok (.lload_n 2, 1) := by decide +kernel
theorem dX6_init_84 : decode cX6_init 84 = .ok (.lastore, 1) := by decide +kernel
theorem dX6_init_85 : decode cX6_init 85 = .ok (.iinc 1 1, 3) := by decide +kernel
theorem dX6_init_88 : decode cX6_init 88 = .ok (.lconst 0, 1) := by decide +kernel
theorem dX6_init_89 : decode cX6_init 89 = .ok (.lstore_n 2, 1) := by decide +kernel
theorem dX6_init_90 : decode cX6_init 90 = .ok (.iinc 4 1, 3) := by decide +kernel
theorem dX6_init_93 : decode cX6_init 93 = .ok (.goto (-65), 3) := by decide +kernel
theorem dX6_init_96 : decode cX6_init 96 = .ok (.return_, 1) := by decide +kernel
/-! the text of the words: String.length, String.charAt of the one constant; and the tape's constructor -/
def bx (A : Nat → Prop) (sa sv : Nat) (U : State) (H : Heap) : Prop := va_O "java/lang/String" sa A U H ∧ va_OF "java/lang/String" "coder" "B" (.int 0) sa A U H ∧ va_OF "java/lang/String" "value" "[B" (.ref sv) sa A U H ∧ va_T .byte sv 109 (fun j => .int (bw_by.getD j 0)) A U H ∧ va_Z "java/lang/String" "COMPACT_STRINGS" "Z" (.int 1) A U H ∧ va_Zq "jdk/internal/util/Preconditions" "SIOOBE_FORMATTER" "Ljava/util/function/BiFunction;" A U H
theorem bx.moved {A : Nat → Prop} {sa sv : Nat} {u U : State} {H : Heap} (al : u.vm.Alike U.vm) (h : bx A sa sv u H) : bx A sa sv U H :=
  ⟨va_O.moved al h.1, va_OF.moved al h.2.1, va_OF.moved al h.2.2.1, va_T.moved al h.2.2.2.1, va_Z.moved al h.2.2.2.2.1, va_Zq.moved al h.2.2.2.2.2⟩
theorem bx.kept {A : Nat → Prop} {sa sv : Nat} {U : State} {H H1 : Heap} (h : bx A sa sv U H) (hq : ∀ a : Nat, a < H.size → ¬ A a → H1[a]? = H[a]?) : bx A sa sv U H1 :=
  ⟨h.1.kept hq, h.2.1.kept hq, h.2.2.1.kept hq, h.2.2.2.1.kept hq, h.2.2.2.2.1.kept hq, h.2.2.2.2.2.kept hq⟩
def pw_E (K : aw_K) (p : Program) (R : Room) (s : State) (m : MethodId) (args : Array Value) (meth : Method) (c : Code) : Prop :=
  p.tables.exec = Jvm.exec ∧ c.code = K.2.1 ∧ c.maxLocals = K.2.2.1 ∧ s.vm.findClass K.1 = some m.cls ∧ (∀ w ∈ aw_TB, w.before args s = true) ∧ meth.sig.returnType = K.2.2.2.1 ∧ meth.locks = false ∧ K.2.2.2.2.1 ≤ R.frames ∧ K.2.2.2.2.2 ≤ R.locals
def pq (v : Option Value) : Array Value → State → Outcome → State → Prop := fun _ st oc t => oc = .returned v ∧ va_F (fun _ => False) st t
def PM (l : Launch) (y : MethodName) (cc : ByteArray) (mL : Nat) (rt : Option FieldType) (dF dL : Nat) (A : Nat → Prop) (sa sv : Nat) (as : List Value) (v : Option Value) : Prop :=
  Met l y (.code y cc mL rt :: aw_TB) ({ frames := dF, cells := 0, slots := 0, locals := dL }) (va_Pc as (fun U => bx A sa sv U U.heap)) (pq v) 0 0 (fun _ => False)
theorem pm_met {l : Launch} {y : MethodName} {cc : ByteArray} {mL : Nat} {rt : Option FieldType} {dF dL : Nat} {A : Nat → Prop} {sa sv : Nat} {as : List Value} {v : Option Value} (hy : plainName y.cls = true) (hm : (lg_sl as).length ≤ mL)
    (body : ∀ (p : Program) (e : Env) (R : Room) (s : State) (m : MethodId) (args : Array Value) (below : List Frame) (meth : Method) (c : Code), pw_E (y.cls, cc, mL, rt, dF, dL) p R s m args meth c → bx A sa sv s s.heap → ∀ ls, lv_has ls mL (lv_args 0 as) → W p l e R s m args below meth c s.heap [] 0 0 (MQ below (pq v) args s 0 0 (fun _ => False)) (F0 m 0 ls [])) : PM l y cc mL rt dF dL A sa sv as v := by
  refine Met.ofW (cc := cc) (maxL := mL) (ret := rt) hy rfl ?_
  intro p e s m args below meth c s₁ Y hml hv
  obtain ⟨rfl, hX⟩ := hv
  have hts := atoms_spec (ws := .code y cc mL rt :: aw_TB) Y.pre
  have hown : s.vm.findClass y.cls = some m.cls := findClass_of_methodNamed Y.named
  have hl := lv_entry as (n := mL) hm
  rw [lg_entry_eq]
  exact body p e _ s m _ below meth c ⟨Y.exec, Y.bytes, hml, hown, fun w h => hts w (List.mem_cons_of_mem _ h), Y.returns, Y.notSynchronized, Nat.le_refl _, Nat.le_refl _⟩ hX _ hl
section pm_rows
variable {p : Program} {l : Launch} {e : Env} {R : Room} {s : State} {m : MethodId} {args : Array Value} {below : List Frame} {meth : Method} {c : Code} {H : Heap} {Q : State → Prop} {K : aw_K} {pc idx : Nat} {ls : Array Slot} {rest : List Value} {y : MethodName} {cc : ByteArray} {mL dF dL sa sv : Nat} {rt : Option FieldType} {A : Nat → Prop} {as : List Value} {v : Option Value}
theorem pm_S0 {locs : List Loc} : va_S (fun _ => False) s.heap s.heap [] := va_S.rf
theorem pm_cont (hr : va_Run p l e R s m args below meth c H [] 0 0 0 0 (F0 m pc ls as) rest (pq v args) (fun _ => False)) (hS : va_S (fun _ => False) s.heap H [])
    (kk : ∀ H1 : Heap, va_S (fun _ => False) s.heap H1 [] → W p l e R s m args below meth c H1 [] 0 0 Q (F0 m (pc + 3) ls (v.toList ++ rest))) : W p l e R s m args below meth c H [] 0 0 Q (F0 m pc ls as) := by
  intro T hT Y
  obtain ⟨v', st₀, t, T', L, h0, X', hL, e1, e2, ⟨hv, hz, hq⟩, st⟩ := hr T hT Y
  rw [h0] at hz hq
  have hv' : v' = v := by cases hv; rfl
  subst hv'
  have hL0 : L = [] := List.eq_nil_iff_forall_not_mem.mpr (fun q h => hL q h)
  subst hL0
  obtain ⟨t2, a1, b1⟩ := kk T'.heap ⟨Nat.le_trans hS.1 (by rw [e1]; exact hz), fun q h1 h2 => by rw [e1, hq q (Nat.lt_of_lt_of_le h1 hS.1) h2]; exact hS.2.1 q h1 h2, fun q h => by cases h⟩ T' rfl X'
  exact ⟨t2, st t2 a1, b1⟩
theorem pm_pre (hx : bx A sa sv s s.heap) (hS : va_S (fun _ => False) s.heap H []) (as : List Value) : ∀ U : State, U.heap = H → s.WarmedH U.vm → va_Pc as (fun U => bx A sa sv U U.heap) as.toArray U :=
  fun U hU hW => ⟨rfl, by show bx A sa sv U U.heap; rw [hU]; exact (hx.kept (fun a h _ => hS.2.1 a h (fun q => q))).moved hW.alike⟩
theorem pm_blind : FrameBlind (va_Pc as (fun U => bx A sa sv U U.heap)) := fun a U g mk q => by
  obtain ⟨q0, q1⟩ := q
  exact ⟨q0, q1.moved (u := U) (U := U.calling g mk a) (Vm.Alike.refl U.vm)⟩
theorem pm_callS {st0 : List Value} (E : pw_E K p R s m args meth c) (hx : bx A sa sv s s.heap) (hS : va_S (fun _ => False) s.heap H []) (hM : PM l y cc mL rt dF dL A sa sv as v) (hw : aw_ct K.1 idx y cc mL rt as.length) (hs : st0 = as.reverse ++ rest) (hsz : ls.size = K.2.2.1) (hd : decode K.2.1 pc = .ok (.invokestatic idx, 3))
    (hR : dF + 1 ≤ K.2.2.2.2.1 ∧ 8 + (mL + 11) + dL ≤ K.2.2.2.2.2) (hst : (rest.map fun v => v.category).sum ≤ 8) (kk : ∀ H1 : Heap, va_S (fun _ => False) s.heap H1 [] → W p l e R s m args below meth c H1 [] 0 0 Q (F0 m (pc + 3) ls (v.toList ++ rest))) : W p l e R s m args below meth c H [] 0 0 Q (F0 m pc ls st0) := by
  subst hs
  obtain ⟨⟨w1, w2, w3, w4, w5⟩, w6⟩ := hw
  have hts := E.2.2.2.2.1
  have run := va_runS (e := e) (below := below) (meth := meth) (locs := []) (cells := 0) (slots := 0) (As := as) (rest := rest) (g := F0 m pc ls (as.reverse ++ rest)) ⟨E.1, E.2.1, E.2.2.1, E.2.2.2.1, hts⟩ hM
    ⟨⟨rfl, rfl, Nat.le_trans hR.1 E.2.2.2.2.2.2.2.1, Nat.le_trans hR.2 E.2.2.2.2.2.2.2.2, aw_pay hts w1, List.mem_cons_self, hts _ w1, hts _ w2, w3, aw_par w4, hts _ w5⟩, hts _ w6⟩
    ⟨pm_blind, pm_pre hx hS as⟩ rfl rfl hsz rfl (lv_room hst) hd ⟨Nat.zero_le _, Nat.zero_le _⟩
  exact pm_cont (fun T hT Y => run T hT Y) hS kk
theorem pm_callV {st0 : List Value} {b : Nat} (E : pw_E K p R s m args meth c) (hx : bx A sa sv s s.heap) (hS : va_S (fun _ => False) s.heap H []) (hM : PM l y cc mL rt dF dL A sa sv (.ref b :: as) v) (hw : aw_cv K.1 idx y cc mL rt as.length) (hb : b = sa) (hc : y.cls = "java/lang/String") (hs : st0 = as.reverse ++ .ref b :: rest) (hsz : ls.size = K.2.2.1) (hd : decode K.2.1 pc = .ok (.invokevirtual idx, 3))
    (hR : dF + 1 ≤ K.2.2.2.2.1 ∧ 8 + (mL + 11) + dL ≤ K.2.2.2.2.2) (hst : (rest.map fun v => v.category).sum ≤ 8) (kk : ∀ H1 : Heap, va_S (fun _ => False) s.heap H1 [] → W p l e R s m args below meth c H1 [] 0 0 Q (F0 m (pc + 3) ls (v.toList ++ rest))) : W p l e R s m args below meth c H [] 0 0 Q (F0 m pc ls st0) := by
  subst hs
  subst hb
  obtain ⟨⟨w1, w2, w3, w4, w5⟩, w6, w7⟩ := hw
  have hts := E.2.2.2.2.1
  have hrec : ∃ cell : Cell, H[b]? = some cell ∧ cell.vm.isStatics = false ∧ s.vm.findClass y.cls = some cell.cls := by
    obtain ⟨cell, h1, h2, h3, -⟩ := (hx.kept (H1 := H) (fun a h _ => hS.2.1 a h (fun q => q))).1
    exact ⟨cell, h1, h2, by rw [hc]; exact h3⟩
  have run := va_runV (e := e) (below := below) (meth := meth) (locs := []) (cells := 0) (slots := 0) (C := y.cls) (As := as) (rest := rest) (b := b) (g := F0 m pc ls (as.reverse ++ .ref b :: rest)) ⟨E.1, E.2.1, E.2.2.1, E.2.2.2.1, hts⟩ hM
    ⟨⟨rfl, rfl, Nat.le_trans hR.1 E.2.2.2.2.2.2.2.1, Nat.le_trans hR.2 E.2.2.2.2.2.2.2.2, aw_pay hts w1, List.mem_cons_self, hts _ w1, hts _ w2, w3, aw_par w4, hts _ w5⟩, hts _ w6, hts _ w7⟩
    ⟨pm_blind, hrec, pm_pre hx hS (.ref b :: as)⟩ rfl rfl hsz rfl (lv_room hst) hd ⟨Nat.zero_le _, Nat.zero_le _⟩
  exact pm_cont (fun T hT Y => run T hT Y) hS kk
end pm_rows
theorem pm_w {s : State} {H : Heap} {A : Nat → Prop} (h : va_S (fun _ => False) s.heap H []) : va_S A s.heap H [] := ⟨h.1, fun q h1 _ => h.2.1 q h1 (fun z => z), fun q h => by cases h⟩
theorem pm_q {s t : State} {H : Heap} {args : Array Value} {v : Option Value} (hS : va_S (fun _ => False) s.heap H []) (ht : t.heap = H) : pq v args s (.returned v) t := ⟨rfl, hS.F ht⟩
theorem pm_ck3 (l : Launch) (A : Nat → Prop) (sa sv i : Nat) (hi : i < 109) (v : Value) (hv : v = .null ∨ ∃ t, v = .ref t) : PM l yJ3_checkIndex_8e157 cJ3_checkIndex_8e157 3 (some .int) 1 120 A sa sv [.int (nI i), .int (nI 109), v] (some (.int (nI i))) := by
  refine pm_met (by decide) (by rcases hv with rfl | ⟨t, rfl⟩ <;> exact Nat.le_of_ble_eq_true rfl) ?_
  intro p e R s m args below meth c E hx ls hl
  have hl : lv_has ls 3 [(0, .int (nI i)), (1, .int (nI 109)), (2, v)] := by rcases hv with rfl | ⟨t, rfl⟩ <;> exact hl
  have hS : va_S (fun _ => False) s.heap s.heap [] := va_S.rf
  refine lv_iload_n E.1 E.2.1 dJ3_checkIndex_8e157_0 rfl (lv_at hl 0 rfl) ?_
  refine lv_if_lt (tgt := 9) E.1 E.2.1 dJ3_checkIndex_8e157_1 (by decide) (fun h => absurd h (nI_pos (by omega))) (fun _ => ?_)
  refine lv_iload_n E.1 E.2.1 dJ3_checkIndex_8e157_4 rfl (lv_at hl 0 rfl) ?_
  refine lv_iload_n E.1 E.2.1 dJ3_checkIndex_8e157_5 rfl (lv_at hl 1 rfl) ?_
  refine lv_icmp_lt (tgt := 16) E.1 E.2.1 dJ3_checkIndex_8e157_6 (by decide) (fun _ => ?_) (fun h => absurd (nI_lt hi (by decide)) h)
  refine lv_iload_n E.1 E.2.1 dJ3_checkIndex_8e157_16 rfl (lv_at hl 0 rfl) ?_
  exact W.iret E.1 E.2.1 E.2.2.2.2.2.1 (fun t ht _ => pm_q hS ht) hS.2.2 dJ3_checkIndex_8e157_17 E.2.2.2.2.2.2.1
theorem pm_ck0 (l : Launch) (A : Nat → Prop) (sa sv i : Nat) (hi : i < 109) : PM l yJ0_checkIndex_df160 cJ0_checkIndex_df160 2 none 2 260 A sa sv [.int (nI i), .int (nI 109)] none := by
  refine pm_met (by decide) (Nat.le_of_ble_eq_true rfl) ?_
  intro p e R s m args below meth c E hx ls hl
  have hl : lv_has ls 2 [(0, .int (nI i)), (1, .int (nI 109))] := hl
  have hS : va_S (fun _ => False) s.heap s.heap [] := va_S.rf
  have key : ∀ v : Value, (v = .null ∨ ∃ t, v = .ref t) → W p l e R s m args below meth c s.heap [] 0 0 (MQ below (pq none) args s 0 0 (fun _ => False)) (F0 m 5 ls [v, .int (nI 109), .int (nI i)]) := by
    intro v hv
    have hK : aw_ct RJ0 1059 yJ3_checkIndex_8e157 cJ3_checkIndex_8e157 3 (some .int) 3 := cw_RJ0_1059
    refine pm_callS (K := (yJ0_checkIndex_df160.cls, cJ0_checkIndex_df160, 2, none, 2, 260)) (as := [.int (nI i), .int (nI 109), v]) (rest := []) E hx hS (pm_ck3 l A sa sv i hi v hv) hK rfl hl.1 dJ0_checkIndex_df160_5 ⟨Nat.le_of_ble_eq_true rfl, Nat.le_of_ble_eq_true rfl⟩ (Nat.le_of_ble_eq_true rfl) (fun H1 hS => ?_)
    refine lv_pop E.1 E.2.1 dJ0_checkIndex_df160_8 rfl ?_
    exact W.vret E.1 E.2.1 E.2.2.2.2.2.1 (fun t ht _ => pm_q hS ht) hS.2.2 dJ0_checkIndex_df160_9 E.2.2.2.2.2.2.1
  refine lv_iload_n E.1 E.2.1 dJ0_checkIndex_df160_0 rfl (lv_at hl 0 rfl) ?_
  refine lv_iload_n E.1 E.2.1 dJ0_checkIndex_df160_1 rfl (lv_at hl 1 rfl) ?_
  rcases hx.2.2.2.2.2 with hz | ⟨t, hz⟩
  · exact va_gets E.1 E.2.1 hz (pm_w hS) E.2.2.2.1 (E.2.2.2.2.1 _ tb_63) (fun _ h => h) dJ0_checkIndex_df160_2 (key _ (Or.inl rfl))
  · exact va_gets E.1 E.2.1 hz (pm_w hS) E.2.2.2.1 (E.2.2.2.2.1 _ tb_63) (fun _ h => h) dJ0_checkIndex_df160_2 (key _ (Or.inr ⟨t, rfl⟩))
theorem pm_cod (l : Launch) (A : Nat → Prop) (sa sv : Nat) : PM l yJ0_coder_7d493 cJ0_coder_7d493 1 (some .byte) 1 120 A sa sv [.ref sa] (some (.int 0)) := by
  refine pm_met (by decide) (Nat.le_of_ble_eq_true rfl) ?_
  intro p e R s m args below meth c E hx ls hl
  have hl : lv_has ls 1 [(0, .ref sa)] := hl
  have hS : va_S (fun _ => False) s.heap s.heap [] := va_S.rf
  refine va_gets E.1 E.2.1 hx.2.2.2.2.1 (pm_w hS) E.2.2.2.1 (E.2.2.2.2.1 _ tb_47) (fun _ h => h) dJ0_coder_7d493_0 ?_
  refine lv_if_eq (tgt := 13) E.1 E.2.1 dJ0_coder_7d493_3 (by decide) (fun h => absurd h (by decide)) (fun _ => ?_)
  refine lv_aload_n E.1 E.2.1 dJ0_coder_7d493_6 rfl (lv_at hl 0 rfl) ?_
  refine va_getX (N := 1) (v := fun _ => .int 0) (ad := fun _ => sa) (i := 0) E.1 E.2.1 (fun _ _ => hx.2.1) (by decide) (pm_w hS) E.2.2.2.1 (E.2.2.2.2.1 _ tb_2047) (fun _ h => h) dJ0_coder_7d493_7 ?_
  refine lv_goto E.1 E.2.1 dJ0_coder_7d493_10 (tgt := 14) (by decide) ?_
  exact W.zret E.1 E.2.1 E.2.2.2.2.2.1 rfl (fun t ht _ => pm_q hS ht) hS.2.2 dJ0_coder_7d493_14 E.2.2.2.2.2.2.1
theorem pm_lat (l : Launch) (A : Nat → Prop) (sa sv : Nat) : PM l yJ0_isLatin1_aae02 cJ0_isLatin1_aae02 1 (some .boolean) 1 120 A sa sv [.ref sa] (some (.int 1)) := by
  refine pm_met (by decide) (Nat.le_of_ble_eq_true rfl) ?_
  intro p e R s m args below meth c E hx ls hl
  have hl : lv_has ls 1 [(0, .ref sa)] := hl
  have hS : va_S (fun _ => False) s.heap s.heap [] := va_S.rf
  refine va_gets E.1 E.2.1 hx.2.2.2.2.1 (pm_w hS) E.2.2.2.1 (E.2.2.2.2.1 _ tb_47) (fun _ h => h) dJ0_isLatin1_aae02_0 ?_
  refine lv_if_eq (tgt := 17) E.1 E.2.1 dJ0_isLatin1_aae02_3 (by decide) (fun h => absurd h (by decide)) (fun _ => ?_)
  refine lv_aload_n E.1 E.2.1 dJ0_isLatin1_aae02_6 rfl (lv_at hl 0 rfl) ?_
  refine va_getX (N := 1) (v := fun _ => .int 0) (ad := fun _ => sa) (i := 0) E.1 E.2.1 (fun _ _ => hx.2.1) (by decide) (pm_w hS) E.2.2.2.1 (E.2.2.2.2.1 _ tb_2047) (fun _ h => h) dJ0_isLatin1_aae02_7 ?_
  refine lv_if_ne (tgt := 17) E.1 E.2.1 dJ0_isLatin1_aae02_10 (by decide) (fun h => absurd rfl h) (fun _ => ?_)
  refine lv_iconst E.1 E.2.1 dJ0_isLatin1_aae02_13 (v := 1) (by decide) ?_
  refine lv_goto E.1 E.2.1 dJ0_isLatin1_aae02_14 (tgt := 18) (by decide) ?_
  exact W.zret E.1 E.2.1 E.2.2.2.2.2.1 rfl (fun t ht _ => pm_q hS ht) hS.2.2 dJ0_isLatin1_aae02_18 E.2.2.2.2.2.2.1
theorem pm_len (l : Launch) (A : Nat → Prop) (sa sv : Nat) : PM l yJ0_length_8abf5 cJ0_length_8abf5 1 (some .int) 2 260 A sa sv [.ref sa] (some (.int (nI 109))) := by
  refine pm_met (by decide) (Nat.le_of_ble_eq_true rfl) ?_
  intro p e R s m args below meth c E hx ls hl
  have hl : lv_has ls 1 [(0, .ref sa)] := hl
  have hS : va_S (fun _ => False) s.heap s.heap [] := va_S.rf
  refine lv_aload_n E.1 E.2.1 dJ0_length_8abf5_0 rfl (lv_at hl 0 rfl) ?_
  refine va_getX (N := 1) (v := fun _ => .ref sv) (ad := fun _ => sa) (i := 0) E.1 E.2.1 (fun _ _ => hx.2.2.1) (by decide) (pm_w hS) E.2.2.2.1 (E.2.2.2.2.1 _ tb_2046) (fun _ h => h) dJ0_length_8abf5_1 ?_
  refine va_tlen (v := nI 109) E.1 E.2.1 hx.2.2.2.1 (pm_w hS) rfl dJ0_length_8abf5_4 ?_
  refine lv_aload_n E.1 E.2.1 dJ0_length_8abf5_5 rfl (lv_at hl 0 rfl) ?_
  refine pm_callV (K := (yJ0_length_8abf5.cls, cJ0_length_8abf5, 1, (some .int), 2, 260)) (as := []) (rest := [.int (nI 109)]) E hx hS (pm_cod l A sa sv) cw_RJ0_335 rfl rfl rfl hl.1 dJ0_length_8abf5_6 ⟨Nat.le_of_ble_eq_true rfl, Nat.le_of_ble_eq_true rfl⟩ (Nat.le_of_ble_eq_true rfl) (fun H1 hS => ?_)
  refine lv_ishr (x := nI 109) (y := 0) E.1 E.2.1 dJ0_length_8abf5_9 ?_
  rw [sc_shr0 (by decide)]
  exact W.iret E.1 E.2.1 E.2.2.2.2.2.1 (fun t ht _ => pm_q hS ht) hS.2.2 dJ0_length_8abf5_10 E.2.2.2.2.2.2.1
theorem bw_by_n : ∀ i, i < 109 → bw_by.getD i 0 &&& 255 = bw_by.getD i 0 := by decide +kernel
theorem pm_ch1 (l : Launch) (A : Nat → Prop) (sa sv i : Nat) (hi : i < 109) : PM l yJ1_charAt_3b067 cJ1_charAt_3b067 2 (some .char) 3 400 A sa sv [.ref sv, .int (nI i)] (some (.int (bw_by.getD i 0))) := by
  refine pm_met (by decide) (Nat.le_of_ble_eq_true rfl) ?_
  intro p e R s m args below meth c E hx ls hl
  have hl : lv_has ls 2 [(0, .ref sv), (1, .int (nI i))] := hl
  have hS : va_S (fun _ => False) s.heap s.heap [] := va_S.rf
  refine lv_iload_n E.1 E.2.1 dJ1_charAt_3b067_0 rfl (lv_at hl 1 rfl) ?_
  refine lv_aload_n E.1 E.2.1 dJ1_charAt_3b067_1 rfl (lv_at hl 0 rfl) ?_
  refine va_tlen (v := nI 109) E.1 E.2.1 hx.2.2.2.1 (pm_w hS) rfl dJ1_charAt_3b067_2 ?_
  refine pm_callS (K := (yJ1_charAt_3b067.cls, cJ1_charAt_3b067, 2, (some .char), 3, 400)) (as := [.int (nI i), .int (nI 109)]) (rest := []) E hx hS (pm_ck0 l A sa sv i hi) cw_RJ1_9 rfl hl.1 dJ1_charAt_3b067_3 ⟨Nat.le_of_ble_eq_true rfl, Nat.le_of_ble_eq_true rfl⟩ (Nat.le_of_ble_eq_true rfl) (fun H1 hS => ?_)
  refine lv_aload_n E.1 E.2.1 dJ1_charAt_3b067_6 rfl (lv_at hl 0 rfl) ?_
  refine lv_iload_n E.1 E.2.1 dJ1_charAt_3b067_7 rfl (lv_at hl 1 rfl) ?_
  refine va_tb (v := .int (bw_by.getD i 0)) E.1 E.2.1 hx.2.2.2.1 (pm_w hS) (vp_in_nI hi (by decide)) (by rw [nI_clamp (by omega)]) dJ1_charAt_3b067_8 ?_
  refine lv_sipush (v := 255) E.1 E.2.1 dJ1_charAt_3b067_9 (by decide) ?_
  refine lv_iand E.1 E.2.1 dJ1_charAt_3b067_12 ?_
  refine lv_i2c E.1 E.2.1 dJ1_charAt_3b067_13 (sc_c2 _) ?_
  rw [bw_by_n i hi]
  exact W.zret E.1 E.2.1 E.2.2.2.2.2.1 (by rw [← bw_by_n i hi]; exact sc_nar _) (fun t ht _ => pm_q hS ht) hS.2.2 dJ1_charAt_3b067_14 E.2.2.2.2.2.2.1
theorem pm_cha (l : Launch) (A : Nat → Prop) (sa sv i : Nat) (hi : i < 109) : PM l yJ0_charAt_5068e cJ0_charAt_5068e 2 (some .char) 4 540 A sa sv [.ref sa, .int (nI i)] (some (.int (bw_by.getD i 0))) := by
  refine pm_met (by decide) (Nat.le_of_ble_eq_true rfl) ?_
  intro p e R s m args below meth c E hx ls hl
  have hl : lv_has ls 2 [(0, .ref sa), (1, .int (nI i))] := hl
  have hS : va_S (fun _ => False) s.heap s.heap [] := va_S.rf
  refine lv_aload_n E.1 E.2.1 dJ0_charAt_5068e_0 rfl (lv_at hl 0 rfl) ?_
  refine pm_callV (K := (yJ0_charAt_5068e.cls, cJ0_charAt_5068e, 2, (some .char), 4, 540)) (as := []) (rest := []) E hx hS (pm_lat l A sa sv) cw_RJ0_492 rfl rfl rfl hl.1 dJ0_charAt_5068e_1 ⟨Nat.le_of_ble_eq_true rfl, Nat.le_of_ble_eq_true rfl⟩ (Nat.le_of_ble_eq_true rfl) (fun H1 hS => ?_)
  refine lv_if_eq (x := 1) (tgt := 16) E.1 E.2.1 dJ0_charAt_5068e_4 (by decide) (fun h => absurd h (by decide)) (fun _ => ?_)
  refine lv_aload_n E.1 E.2.1 dJ0_charAt_5068e_7 rfl (lv_at hl 0 rfl) ?_
  refine va_getX (N := 1) (v := fun _ => .ref sv) (ad := fun _ => sa) (i := 0) E.1 E.2.1 (fun _ _ => hx.2.2.1) (by decide) (pm_w hS) E.2.2.2.1 (E.2.2.2.2.1 _ tb_2046) (fun _ h => h) dJ0_charAt_5068e_8 ?_
  refine lv_iload_n E.1 E.2.1 dJ0_charAt_5068e_11 rfl (lv_at hl 1 rfl) ?_
  refine pm_callS (K := (yJ0_charAt_5068e.cls, cJ0_charAt_5068e, 2, (some .char), 4, 540)) (as := [.ref sv, .int (nI i)]) (rest := []) E hx hS (pm_ch1 l A sa sv i hi) cw_RJ0_495 rfl hl.1 dJ0_charAt_5068e_12 ⟨Nat.le_of_ble_eq_true rfl, Nat.le_of_ble_eq_true rfl⟩ (Nat.le_of_ble_eq_true rfl) (fun H1 hS => ?_)
  exact W.zret E.1 E.2.1 E.2.2.2.2.2.1 (by rw [← bw_by_n i hi]; exact sc_nar _) (fun t ht _ => pm_q hS ht) hS.2.2 dJ0_charAt_5068e_15 E.2.2.2.2.2.2.1
def bk_wl (x : Int64) (b : Int32) : Int64 := x * 27 + ((b - 97) + 1).toInt64
section bw_text
variable {l : Launch} {K : bw_K} {pc z kc ks n nf idx mL dF dL : Nat} {L : List (Option Value)} {st : List Value} {w wf : bw_T} {y : MethodName} {cc : ByteArray} {rt : Option FieldType} {as : List Value} {v : Option Value}
theorem bw_isub {x y : Int32} (hd : decode K.1.2.1 pc = .ok (.isub, 1)) (hn : pc + 1 = z) (k : BW l K z L (.int (x - y) :: st) n kc ks w nf wf) : BW l K pc L (.int y :: .int x :: st) n kc ks w nf wf := by
  subst hn
  intro p e R s m args below meth c E D C B H locs X ls hl
  exact lv_isub E.1.1 E.1.2.1 hd (k p e R s m args below meth c E D C B H locs X ls hl)
theorem bw_i2l {x : Int32} (hd : decode K.1.2.1 pc = .ok (.i2l, 1)) (hn : pc + 1 = z) (k : BW l K z L (.long x.toInt64 :: st) n kc ks w nf wf) : BW l K pc L (.int x :: st) n kc ks w nf wf := by
  subst hn
  intro p e R s m args below meth c E D C B H locs X ls hl
  exact lv_i2l E.1.1 E.1.2.1 hd rfl (k p e R s m args below meth c E D C B H locs X ls hl)
theorem bw_ladd {x y : Int64} (hd : decode K.1.2.1 pc = .ok (.ladd, 1)) (hn : pc + 1 = z) (k : BW l K z L (.long (x + y) :: st) n kc ks w nf wf) : BW l K pc L (.long y :: .long x :: st) n kc ks w nf wf := by
  subst hn
  intro p e R s m args below meth c E D C B H locs X ls hl
  exact lv_ladd E.1.1 E.1.2.1 hd (k p e R s m args below meth c E D C B H locs X ls hl)
theorem bw_lmul {x y : Int64} (hd : decode K.1.2.1 pc = .ok (.lmul, 1)) (hn : pc + 1 = z) (k : BW l K z L (.long (x * y) :: st) n kc ks w nf wf) : BW l K pc L (.long y :: .long x :: st) n kc ks w nf wf := by
  subst hn
  intro p e R s m args below meth c E D C B H locs X ls hl
  exact lv_lmul E.1.1 E.1.2.1 hd (k p e R s m args below meth c E D C B H locs X ls hl)
theorem bw_weak {L' : List (Option Value)} (k : BW l K pc L' st n kc ks w nf wf) (h : aw_sub L' L) : BW l K pc L st n kc ks w nf wf := by
  intro p e R s m args below meth c E D C B H locs X ls hl
  refine k p e R s m args below meth c E D C B H locs X ls (lv_has_of hl (fun q hq => ?_))
  obtain ⟨j, v, h1, h2⟩ := aw_lv_mem.mp hq
  exact aw_lv_mem.mpr ⟨j, v, aw_sub_at h j v h1, h2⟩
theorem bw_icmp_eq_t {x y : Int32} {d : Int} (tgt : Nat) (hd : decode K.1.2.1 pc = .ok (.if_icmp .eq d, 3)) (ht : (pc : Int) + d = (tgt : Int)) (h : x = y) (k : BW l K tgt L st n kc ks w nf wf) : BW l K pc L (.int y :: .int x :: st) n kc ks w nf wf := by
  intro p e R s m args below meth c E D C B H locs X ls hl
  exact lv_icmp_eq E.1.1 E.1.2.1 hd ht (fun _ => k p e R s m args below meth c E D C B H locs X ls hl) (fun q => absurd h q)
theorem bw_icmp_eq_f {x y : Int32} {d : Int} (tgt : Nat) (hd : decode K.1.2.1 pc = .ok (.if_icmp .eq d, 3)) (ht : (pc : Int) + d = (tgt : Int)) (hn : pc + 3 = z) (h : ¬ x = y) (k : BW l K z L st n kc ks w nf wf) : BW l K pc L (.int y :: .int x :: st) n kc ks w nf wf := by
  subst hn
  intro p e R s m args below meth c E D C B H locs X ls hl
  exact lv_icmp_eq E.1.1 E.1.2.1 hd ht (fun q => absurd q h) (fun _ => k p e R s m args below meth c E D C B H locs X ls hl)
theorem bw_lstore_2 {x : Int64} {v0 v1 v4 v5 o : Option Value} (hd : decode K.1.2.1 pc = .ok (.lstore_n 2, 1)) (hn : pc + 1 = z) (hm : 3 < K.1.2.2.1) (h1 : ∀ u, v1 = some u → ∀ ad, (aw_c ad u).category = 1) (hL : L = [v0, v1, o, none, v4, v5]) (k : BW l K z [v0, v1, some (.long x), none, v4, v5] st n kc ks w nf wf) : BW l K pc L (.long x :: st) n kc ks w nf wf := by
  subst hn
  subst hL
  intro p e R s m args below meth c E D C B H locs X ls hl
  refine lv_lstore_n E.1.1 E.1.2.1 hd rfl hl hm rfl (fun ls2 hl2 => k p e R s m args below meth c E D C B H locs X ls2 (lv_has_of hl2 (fun q hq => ?_)))
  obtain ⟨j, u, q1, rfl⟩ := aw_lv_mem.mp hq
  have hmem : ∀ o' : Option Value, [v0, v1, some (Value.long x), none, v4, v5][j]? = some (some u) → j ≠ 2 → [v0, v1, o, none, v4, v5][j]? = some (some u) := by
    intro _ q e
    match j with
    | 0 => exact q
    | 1 => exact q
    | 2 => exact absurd rfl e
    | 3 => exact q
    | 4 => exact q
    | 5 => exact q
    | j + 6 => exact q
  by_cases e : j = 2
  · subst e
    cases q1
    exact List.mem_cons_self
  · refine List.mem_cons_of_mem _ (List.mem_filter.mpr ⟨aw_lv_mem.mpr ⟨j, u, hmem none q1 e, rfl⟩, ?_⟩)
    have e3 : j ≠ 3 := fun q => by subst q; cases q1
    have e1 : j = 1 → (aw_c (bw_ad B) u).category = 1 := fun q => by subst q; exact h1 u (by simpa using q1) _
    by_cases e4 : j = 1
    · have h9 := e1 e4
      subst e4
      simp [h9]
    · have : (j + 1 == 2) = false := by simp; omega
      simp [e, e3, this]
theorem bw_bx {D : va_G} {C : Nat → ClassId} {B : Nat} {s : State} {H : Heap} {locs : List Loc} (X : bw_Rl D C B s H locs n kc w) : ∃ sa sv : Nat, vk_R RX6 19 bw_tx sa s ∧ bx (fun q => B ≤ q) sa sv s s.heap := by
  obtain ⟨adK, adV, h1, h2, h3, h4, -⟩ := X.2.2.2.2
  obtain ⟨g1, g2, g3, g4⟩ := h2.1 0 (by decide)
  exact ⟨adK 0, adV 0, h1, g1, g2, g3, g4, h3, h4⟩
theorem bw_pcont {p : Program} {e : Env} {R : Room} {s : State} {m : MethodId} {args : Array Value} {below : List Frame} {meth : Method} {c : Code} {D : va_G} {C : Nat → ClassId} {B : Nat} {H : Heap} {locs : List Loc} {ls : Array Slot} {st0 rest : List Value} {Q : State → Prop} {a : Array Value}
    (hr : va_Run p l e R s m args below meth c H locs kc ks 0 0 (F0 m pc ls st0) rest (pq v a) (fun _ => False)) (X : bw_Rl D C B s H locs n kc w)
    (kk : ∀ H1 : Heap, bw_Rl D C B s H1 locs n kc w → W p l e R s m args below meth c H1 locs kc ks Q (F0 m (pc + 3) ls (v.toList ++ rest))) : W p l e R s m args below meth c H locs kc ks Q (F0 m pc ls st0) := by
  obtain ⟨hP, hK, hS, hz0, hX⟩ := X
  intro T hT Y
  obtain ⟨v', st₀, t, T', L, h0, X', hL, e1, e2, ⟨hv, hz, hq⟩, st⟩ := hr T hT Y
  rw [h0] at hz hq
  have hv' : v' = v := by cases hv; rfl
  subst hv'
  have hL0 : L = [] := List.eq_nil_iff_forall_not_mem.mpr (fun q h => hL q h)
  subst hL0
  rw [List.append_nil] at X'
  have hk : ∀ q, q < H.size → T'.heap[q]? = H[q]? := fun q h => by rw [e1]; exact hq q h (fun z => z)
  obtain ⟨t2, a1, b1⟩ := kk T'.heap ⟨hP.kept (fun k x hx => by
      have h1 := hP k x hx
      exact hk _ h1.lt), hK, ⟨Nat.le_trans hS.1 (by rw [e1]; exact hz), fun q h1 h2 => (hk q (Nat.lt_of_lt_of_le h1 hS.1)).trans (hS.2.1 q h1 h2), hS.2.2⟩, hz0, hX⟩ T' rfl X'
  exact ⟨t2, st t2 a1, b1⟩
theorem bw_ppre {D : va_G} {C : Nat → ClassId} {B sa sv : Nat} {s : State} {H : Heap} {locs : List Loc} (X : bw_Rl D C B s H locs n kc w) (hx : bx (fun q => B ≤ q) sa sv s s.heap) (as : List Value) : ∀ U : State, U.heap = H → s.WarmedH U.vm → va_Pc as (fun U => bx (fun q => B ≤ q) sa sv U U.heap) as.toArray U :=
  fun U hU hW => ⟨rfl, by show bx (fun q => B ≤ q) sa sv U U.heap; rw [hU]; exact (hx.kept X.2.2.1.2.1).moved hW.alike⟩
theorem bw_callPS {st0 : List Value} (hd : decode K.1.2.1 pc = .ok (.invokestatic idx, 3)) (hn : pc + 3 = z) (hs : st0 = as.reverse ++ st) (hno : ∀ B, as.map (aw_c (bw_ad B)) = as) (hno2 : ∀ B, v.map (aw_c (bw_ad B)) = v) (hM : ∀ (A : Nat → Prop) (sa sv : Nat), PM l y cc mL rt dF dL A sa sv as v) (hw : aw_ct K.1.1 idx y cc mL rt as.length)
    (hR : dF + 1 ≤ K.1.2.2.2.2.1 ∧ 8 + (mL + 11) + dL ≤ K.1.2.2.2.2.2) (hst : ∀ ad, ((st.map (aw_c ad)).map fun v => v.category).sum ≤ 8) (hc : kc ≤ K.2.2.1) (hk : ks ≤ K.2.2.2) (k : BW l K z L (v.toList ++ st) n kc ks w nf wf) : BW l K pc L st0 n kc ks w nf wf := by
  subst hn
  subst hs
  intro p e R s m args below meth c E D C B H locs X ls hl
  obtain ⟨sa, sv, hR0, hx⟩ := bw_bx X
  obtain ⟨⟨w1, w2, w3, w4, w5⟩, w6⟩ := hw
  have hts := E.1.2.2.2.2.1
  have run := va_runS (e := e) (below := below) (meth := meth) (locs := locs) (cells := kc) (slots := ks) (As := as) (rest := st.map (aw_c (bw_ad B))) (g := F0 m pc ls ((as.reverse ++ st).map (aw_c (bw_ad B)))) ⟨E.1.1, E.1.2.1, E.1.2.2.1, E.1.2.2.2.1, hts⟩ (hM (fun q => B ≤ q) sa sv)
    ⟨⟨rfl, rfl, Nat.le_trans hR.1 E.1.2.2.2.2.2.2.2.1, Nat.le_trans hR.2 E.1.2.2.2.2.2.2.2.2.1, aw_pay hts w1, List.mem_cons_self, hts _ w1, hts _ w2, w3, aw_par w4, hts _ w5⟩, hts _ w6⟩
    ⟨pm_blind, bw_ppre X hx as⟩ rfl rfl hl.1 (by rw [List.map_append, List.map_reverse, hno B]) (lv_room (hst (bw_ad B))) hd ⟨Nat.le_trans hc E.2.2.1, Nat.le_trans hk E.2.2.2⟩
  refine bw_pcont run X (fun H1 X1 => ?_)
  have h2 := k p e R s m args below meth c E D C B H1 locs X1 ls hl
  rw [List.map_append] at h2
  have e1 : v.toList.map (aw_c (bw_ad B)) = v.toList := by
    have := hno2 B
    cases v with
    | none => rfl
    | some u => simp only [Option.map_some, Option.some.injEq] at this; simp [this]
  rw [e1] at h2
  exact h2
theorem bw_strlen (hK : K.1.1 = RX6) (hd1 : decode K.1.2.1 pc = .ok (.ldc 19, 2)) (hd2 : decode K.1.2.1 (pc + 2) = .ok (.invokevirtual 21, 3)) (hn : pc + 5 = z) (hR : 3 ≤ K.1.2.2.2.2.1 ∧ 280 ≤ K.1.2.2.2.2.2) (hst : ∀ ad, ((st.map (aw_c ad)).map fun v => v.category).sum ≤ 8) (hc : kc ≤ K.2.2.1) (hk : ks ≤ K.2.2.2) (k : BW l K z L (.int (nI 109) :: st) n kc ks w nf wf) : BW l K pc L st n kc ks w nf wf := by
  subst hn
  intro p e R s m args below meth c E D C B H locs X ls hl
  obtain ⟨sa, sv, hR0, hx⟩ := bw_bx X
  have hts := E.1.2.2.2.2.1
  have hown : s.vm.findClass RX6 = some m.cls := by rw [← hK]; exact E.1.2.2.2.1
  refine va_ldcS (own := RX6) (tx := bw_tx) (q := sa) E.1.1 E.1.2.1 hown hR0 hd1 ?_
  obtain ⟨⟨w1, w2, w3, w4, w5⟩, w6, w7⟩ := (cw_RX6_21 : aw_cv RX6 21 yJ0_length_8abf5 cJ0_length_8abf5 1 (some .int) 0)
  have hrec : ∃ cell : Cell, H[sa]? = some cell ∧ cell.vm.isStatics = false ∧ s.vm.findClass yJ0_length_8abf5.cls = some cell.cls := by
    obtain ⟨cell, h1, h2, h3, -⟩ := (hx.kept X.2.2.1.2.1).1
    exact ⟨cell, h1, h2, h3⟩
  have run := va_runV (e := e) (below := below) (meth := meth) (locs := locs) (cells := kc) (slots := ks) (C := yJ0_length_8abf5.cls) (As := []) (rest := st.map (aw_c (bw_ad B))) (b := sa) (g := F0 m (pc + 2) ls (.ref sa :: st.map (aw_c (bw_ad B)))) ⟨E.1.1, E.1.2.1, E.1.2.2.1, hown, hts⟩ (pm_len l (fun q => B ≤ q) sa sv)
    ⟨⟨rfl, rfl, Nat.le_trans hR.1 E.1.2.2.2.2.2.2.2.1, Nat.le_trans hR.2 E.1.2.2.2.2.2.2.2.2.1, aw_pay hts w1, List.mem_cons_self, hts _ w1, hts _ w2, w3, aw_par w4, hts _ w5⟩, hts _ w6, hts _ w7⟩
    ⟨pm_blind, hrec, bw_ppre X hx [.ref sa]⟩ rfl rfl hl.1 rfl (lv_room (hst (bw_ad B))) hd2 ⟨Nat.le_trans hc E.2.2.1, Nat.le_trans hk E.2.2.2⟩
  exact bw_pcont run X (fun H1 X1 => k p e R s m args below meth c E D C B H1 locs X1 ls hl)
theorem bw_strchar {y : Nat} {i : Nat} (hi : i < 109) (hK : K.1.1 = RX6) (hd1 : decode K.1.2.1 pc = .ok (.ldc 19, 2)) (hd2 : decode K.1.2.1 (pc + 2) = .ok (.iload y, 2)) (hd3 : decode K.1.2.1 (pc + 4) = .ok (.invokevirtual 27, 3)) (hn : pc + 7 = z) (hx1 : L[y]? = some (some (.int (nI i)))) (hR : 5 ≤ K.1.2.2.2.2.1 ∧ 561 ≤ K.1.2.2.2.2.2) (hst : ∀ ad, ((st.map (aw_c ad)).map fun v => v.category).sum ≤ 8) (hc : kc ≤ K.2.2.1) (hk : ks ≤ K.2.2.2) (k : BW l K z L (.int (bw_by.getD i 0) :: st) n kc ks w nf wf) : BW l K pc L st n kc ks w nf wf := by
  subst hn
  intro p e R s m args below meth c E D C B H locs X ls hl
  obtain ⟨sa, sv, hR0, hx⟩ := bw_bx X
  have hts := E.1.2.2.2.2.1
  have hown : s.vm.findClass RX6 = some m.cls := by rw [← hK]; exact E.1.2.2.2.1
  refine va_ldcS (own := RX6) (tx := bw_tx) (q := sa) E.1.1 E.1.2.1 hown hR0 hd1 ?_
  refine lv_iload E.1.1 E.1.2.1 hd2 (aw_lv_at hl hx1) ?_
  obtain ⟨⟨w1, w2, w3, w4, w5⟩, w6, w7⟩ := (cw_RX6_27 : aw_cv RX6 27 yJ0_charAt_5068e cJ0_charAt_5068e 2 (some .char) 1)
  have hrec : ∃ cell : Cell, H[sa]? = some cell ∧ cell.vm.isStatics = false ∧ s.vm.findClass yJ0_charAt_5068e.cls = some cell.cls := by
    obtain ⟨cell, h1, h2, h3, -⟩ := (hx.kept X.2.2.1.2.1).1
    exact ⟨cell, h1, h2, h3⟩
  have run := va_runV (e := e) (below := below) (meth := meth) (locs := locs) (cells := kc) (slots := ks) (C := yJ0_charAt_5068e.cls) (As := [.int (nI i)]) (rest := st.map (aw_c (bw_ad B))) (b := sa) (g := F0 m (pc + 4) ls (.int (nI i) :: .ref sa :: st.map (aw_c (bw_ad B)))) ⟨E.1.1, E.1.2.1, E.1.2.2.1, hown, hts⟩ (pm_cha l (fun q => B ≤ q) sa sv i hi)
    ⟨⟨rfl, rfl, Nat.le_trans hR.1 E.1.2.2.2.2.2.2.2.1, Nat.le_trans hR.2 E.1.2.2.2.2.2.2.2.2.1, aw_pay hts w1, List.mem_cons_self, hts _ w1, hts _ w2, w3, aw_par w4, hts _ w5⟩, hts _ w6, hts _ w7⟩
    ⟨pm_blind, hrec, bw_ppre X hx [.ref sa, .int (nI i)]⟩ rfl rfl hl.1 rfl (lv_room (hst (bw_ad B))) hd3 ⟨Nat.le_trans hc E.2.2.1, Nat.le_trans hk E.2.2.2⟩
  exact bw_pcont run X (fun H1 X1 => k p e R s m args below meth c E D C B H1 locs X1 ls hl)
end bw_text
/-! the words' numbers, byte by byte -/
def bkK : Nat → Nat
  | 0 => 0
  | i + 1 => if bw_by.getD i 0 = 32 then bkK i + 1 else bkK i
def bkC : Nat → Int64
  | 0 => 0
  | i + 1 => if bw_by.getD i 0 = 32 then 0 else bk_wl (bkC i) (bw_by.getD i 0)
def bkA : Nat → Nat → Int64
  | 0 => fun _ => 0
  | i + 1 => if bw_by.getD i 0 = 32 then vp_updL (bkA i) (bkK i) (bkC i) else bkA i
theorem bkK_lt : ∀ i, i < 109 → bkK i < 20 := by decide +kernel
def bk1 (w : bw_T) : bw_T := bp (bz (bp (bz w 2) 1 0 2) 3) 1 2 3
def bkw (w : bw_T) (i : Nat) : bw_T := bm (bk1 w) ((bk1 w).1.1, va_up (bk1 w).1.2 3 (bkA i))
def bi_X6_init_1 (w : bw_T) : bw_T := bkw w 109
theorem bkw_0 (w : bw_T) : bkw w 0 = bk1 w := by
  unfold bkw bm
  refine Prod.ext (Prod.ext rfl ?_) rfl
  funext a
  show va_up (bk1 w).1.2 3 (fun _ => 0) a = _
  unfold va_up
  split
  · rename_i h
    subst h
    exact (va_up_self (bp (bz w 2) 1 0 2).1.2 3 (fun _ => (0 : Int64))).symm
  · rfl
theorem bkw_s {w : bw_T} {i : Nat} (h : bw_by.getD i 0 = 32) : bL (bkw w i) 3 (bkK i) (bkC i) = bkw w (i + 1) := by
  unfold bL bm aw_wL bkw bm
  refine Prod.ext (Prod.ext rfl ?_) rfl
  funext a
  show va_up (va_up (bk1 w).1.2 3 (bkA i)) 3 (vp_updL (va_up (bk1 w).1.2 3 (bkA i) 3) (bkK i) (bkC i)) a = va_up (bk1 w).1.2 3 (bkA (i + 1)) a
  rw [va_up_self]
  have e : bkA (i + 1) = vp_updL (bkA i) (bkK i) (bkC i) := if_pos h
  rw [e]
  unfold va_up
  split <;> rfl
theorem bkw_n {w : bw_T} {i : Nat} (h : ¬ bw_by.getD i 0 = 32) : bkw w i = bkw w (i + 1) := by
  have e : bkA (i + 1) = bkA i := if_neg h
  unfold bkw
  rw [e]
theorem bkw_r (w : bw_T) (i : Nat) : (bkw w i).2 1 2 = some 3 := rfl
abbrev kb_X6 : bw_K := ((yX6_init.cls, cX6_init, 6, none, 8, 700), yX6_init.name, 2, 960)
theorem bm_X6_loop (l : Launch) (w : bw_T) : ∀ (k i : Nat), i + k = 109 → BW l kb_X6 28 [some (.ref 1), some (.int (nI (bkK i))), some (.long (bkC i)), none, some (.int (nI i)), none] [] 4 2 960 (bkw w i) 4 (bi_X6_init_1 w) := by
  intro k
  induction k with
  | zero =>
    intro i hi
    have e : i = 109 := by omega
    subst e
    refine bw_iload (z := 30) dX6_init_28 rfl rfl ?_
    refine bw_strlen (z := 35) rfl dX6_init_30 dX6_init_32 rfl ⟨Nat.le_of_ble_eq_true rfl, Nat.le_of_ble_eq_true rfl⟩ (fun _ => Nat.le_of_ble_eq_true rfl) (Nat.le_of_ble_eq_true rfl) (Nat.le_of_ble_eq_true rfl) ?_
    refine bw_icmp_ge_t 96 dX6_init_35 (by decide) (nI_le (Nat.le_refl _) (by decide)) ?_
    exact bw_vret rfl dX6_init_96 rfl rfl rfl rfl
  | succ k ih =>
    intro i hi
    have hi9 : i < 109 := by omega
    have tail : BW l kb_X6 90 [some (.ref 1), some (.int (nI (bkK (i + 1)))), some (.long (bkC (i + 1))), none, some (.int (nI i)), none] [] 4 2 960 (bkw w (i + 1)) 4 (bi_X6_init_1 w) := by
      refine bw_iinc (z := 93) (nI i + 1) [some (.ref 1), some (.int (nI (bkK (i + 1)))), some (.long (bkC (i + 1))), none, some (.int (nI i + 1)), none] dX6_init_90 rfl rfl rfl rfl (Nat.le_of_ble_eq_true rfl) rfl ?_
      refine bw_goto 28 dX6_init_93 (by decide) ?_
      rw [← nI_succ]
      exact ih (i + 1) (by omega)
    refine bw_iload (z := 30) dX6_init_28 rfl rfl ?_
    refine bw_strlen (z := 35) rfl dX6_init_30 dX6_init_32 rfl ⟨Nat.le_of_ble_eq_true rfl, Nat.le_of_ble_eq_true rfl⟩ (fun _ => Nat.le_of_ble_eq_true rfl) (Nat.le_of_ble_eq_true rfl) (Nat.le_of_ble_eq_true rfl) ?_
    refine bw_icmp_ge_f (z := 38) dX6_init_35 96 (by decide) rfl (nI_ge hi9 (by decide)) ?_
    refine bw_strchar (z := 45) hi9 rfl dX6_init_38 dX6_init_40 dX6_init_42 rfl rfl ⟨Nat.le_of_ble_eq_true rfl, Nat.le_of_ble_eq_true rfl⟩ (fun _ => Nat.le_of_ble_eq_true rfl) (Nat.le_of_ble_eq_true rfl) (Nat.le_of_ble_eq_true rfl) ?_
    refine bw_istore (z := 47) [some (.ref 1), some (.int (nI (bkK i))), some (.long (bkC i)), none, some (.int (nI i)), some (.int (bw_by.getD i 0))] dX6_init_45 rfl rfl (Nat.le_of_ble_eq_true rfl) (Nat.le_of_ble_eq_true rfl) rfl ?_
    refine bw_iload (z := 49) dX6_init_47 rfl rfl ?_
    refine bw_bipush (z := 51) 32 dX6_init_49 rfl (by decide) ?_
    by_cases hb : bw_by.getD i 0 = 32
    · refine bw_icmp_eq_t 72 dX6_init_51 (by decide) hb ?_
      refine bw_iload_n (z := 73) dX6_init_72 rfl rfl ?_
      refine bw_bipush (z := 75) 20 dX6_init_73 rfl (by decide) ?_
      refine bw_icmp_ge_f (z := 78) dX6_init_75 90 (by decide) rfl (nI_ge (bkK_lt i hi9) (by decide)) ?_
      refine bw_aload_n (z := 79) dX6_init_78 rfl rfl ?_
      refine bw_getR (z := 82) (RX6, TX6, 13) 6 2 (b := 3) dX6_init_79 rfl rfl (Nat.le_of_ble_eq_true rfl) fd_RX6_15 (bkw_r w i) ?_
      refine bw_iload_n (z := 83) dX6_init_82 rfl rfl ?_
      refine bw_lload_n (z := 84) dX6_init_83 rfl rfl ?_
      refine bw_lastore (z := 85) 20 dX6_init_84 rfl rfl (Nat.le_of_ble_eq_true rfl) (vp_in_nI (bkK_lt i hi9) (by decide)) ?_
      rw [nI_clamp (by have := bkK_lt i hi9; omega), bkw_s hb]
      refine bw_iinc (z := 88) (nI (bkK i) + 1) [some (.ref 1), some (.int (nI (bkK i) + 1)), some (.long (bkC i)), none, some (.int (nI i)), some (.int (bw_by.getD i 0))] dX6_init_85 rfl rfl rfl rfl (Nat.le_of_ble_eq_true rfl) rfl ?_
      refine bw_lconst (z := 89) 0 dX6_init_88 rfl rfl ?_
      refine bw_lstore_2 (z := 90) dX6_init_89 rfl (Nat.le_of_ble_eq_true rfl) (fun u h _ => by cases h; rfl) rfl ?_
      have e1 : bkK (i + 1) = bkK i + 1 := if_pos hb
      have e2 : bkC (i + 1) = 0 := if_pos hb
      rw [e1, e2, nI_succ] at tail
      exact bw_weak tail (aw_ss (aw_ss (aw_ss (aw_sn (aw_ss (aw_sn aw_s0))))))
    · refine bw_icmp_eq_f (z := 54) 72 dX6_init_51 (by decide) rfl hb ?_
      refine bw_lload_n (z := 55) dX6_init_54 rfl rfl ?_
      refine bw_ldc2 (z := 58) dX6_init_55 rfl tb_87 ?_
      refine bw_lmul (z := 59) dX6_init_58 rfl ?_
      refine bw_iload (z := 61) dX6_init_59 rfl rfl ?_
      refine bw_bipush (z := 63) 97 dX6_init_61 rfl (by decide) ?_
      refine bw_isub (z := 64) dX6_init_63 rfl ?_
      refine bw_iconst (z := 65) 1 dX6_init_64 rfl (by decide) ?_
      refine bw_iadd (z := 66) dX6_init_65 rfl ?_
      refine bw_i2l (z := 67) dX6_init_66 rfl ?_
      refine bw_ladd (z := 68) dX6_init_67 rfl ?_
      refine bw_lstore_2 (z := 69) dX6_init_68 rfl (Nat.le_of_ble_eq_true rfl) (fun u h _ => by cases h; rfl) rfl ?_
      refine bw_goto 90 dX6_init_69 (by decide) ?_
      have e1 : bkK (i + 1) = bkK i := if_neg hb
      have e2 : bkC (i + 1) = bkC i * 27 + ((bw_by.getD i 0 - 97) + 1).toInt64 := if_neg hb
      rw [e1, e2, ← bkw_n hb] at tail
      exact bw_weak tail (aw_ss (aw_ss (aw_ss (aw_sn (aw_ss (aw_sn aw_s0))))))
theorem mbi_X6_init_1 (l : Launch) (w : bw_T) : BM l yX6_init cX6_init 6 8 700 2 960 [.ref 1] 2 w 4 (bi_X6_init_1 w) := by
  refine bw_met [some (.ref 1), none, none, none, none, none] (Nat.le_of_ble_eq_true rfl) (by decide) (fun _ => rfl) (fun _ => Nat.le_of_ble_eq_true rfl) ?_
  show BW l kb_X6 0 [some (.ref 1), none, none, none, none, none] [] 2 0 0 w 4 (bi_X6_init_1 w)
  refine bw_aload_n (z := 1) dX6_init_0 rfl rfl ?_
  refine bw_objInit (z := 4) dX6_init_1 rfl tb_37 tb_30 tb_31 ⟨Nat.le_of_ble_eq_true rfl, Nat.le_of_ble_eq_true rfl⟩ (fun _ => Nat.le_of_ble_eq_true rfl) ?_
  refine bw_aload_n (z := 5) dX6_init_4 rfl rfl ?_
  refine bw_sipush (z := 8) 940 dX6_init_5 rfl (by decide) ?_
  refine bw_newI (z := 10) 940 dX6_init_8 rfl tb_146 rfl (by decide) (by decide) (Nat.le_of_ble_eq_true rfl) (Nat.le_of_ble_eq_true rfl) (Nat.le_of_ble_eq_true rfl) ?_
  refine bw_putR (z := 13) (RX6, TX6, 13) 6 0 (b := 2) (ty := (.array .int)) dX6_init_10 rfl rfl (Nat.le_of_ble_eq_true rfl) fd_RX6_11 ⟨tyX6, tyX6_ok⟩ nmX6 rfl rfl rfl (by decide +kernel) (fun _ => rfl) (fun _ => rfl) ?_
  refine bw_aload_n (z := 14) dX6_init_13 rfl rfl ?_
  refine bw_bipush (z := 16) 20 dX6_init_14 rfl (by decide) ?_
  refine bw_newJ (z := 18) 20 dX6_init_16 rfl tb_147 rfl (by decide) (by decide) (Nat.le_of_ble_eq_true rfl) (Nat.le_of_ble_eq_true rfl) (Nat.le_of_ble_eq_true rfl) ?_
  refine bw_putR (z := 21) (RX6, TX6, 13) 6 2 (b := 3) (ty := (.array .long)) dX6_init_18 rfl rfl (Nat.le_of_ble_eq_true rfl) fd_RX6_15 ⟨tyX6, tyX6_ok⟩ nmX6 rfl rfl rfl (by decide +kernel) (fun _ => rfl) (fun _ => rfl) ?_
  refine bw_iconst (z := 22) 0 dX6_init_21 rfl (by decide) ?_
  refine bw_istore_n (z := 23) [some (.ref 1), some (.int 0), none, none, none, none] dX6_init_22 rfl rfl (Nat.le_of_ble_eq_true rfl) (Nat.le_of_ble_eq_true rfl) rfl ?_
  refine bw_lconst (z := 24) 0 dX6_init_23 rfl rfl ?_
  refine bw_lstore_2 (z := 25) dX6_init_24 rfl (Nat.le_of_ble_eq_true rfl) (fun u h _ => by cases h; rfl) rfl ?_
  refine bw_iconst (z := 26) 0 dX6_init_25 rfl (by decide) ?_
  refine bw_istore (z := 28) [some (.ref 1), some (.int 0), some (.long 0), none, some (.int 0), none] dX6_init_26 rfl rfl (Nat.le_of_ble_eq_true rfl) (Nat.le_of_ble_eq_true rfl) rfl ?_
  have h := bm_X6_loop l w 109 0 rfl
  rw [bkw_0] at h
  exact h
