abbrev imx (a b : Int32) : Int32 := if a < b then b else a
abbrev cJ6_stringSize_0f7a4 : ByteArray := prog_17_method_13_code
def yJ6_stringSize_0f7a4 : MethodName := ⟨RJ6, "stringSize", "(I)I"⟩
theorem dJ6_stringSize_0f7a4_0 : decode cJ6_stringSize_0f7a4 0 = .ok (.iconst 1, 1) := by decide +kernel
theorem dJ6_stringSize_0f7a4_1 : decode cJ6_stringSize_0f7a4 1 = .ok (.istore_n 1, 1) := by decide +kernel
theorem dJ6_stringSize_0f7a4_2 : decode cJ6_stringSize_0f7a4 2 = .ok (.iload_n 0, 1) := by decide +kernel
theorem dJ6_stringSize_0f7a4_3 : decode cJ6_stringSize_0f7a4 3 = .ok (.ifCond .lt 8, 3) := by decide +kernel
theorem dJ6_stringSize_0f7a4_6 : decode cJ6_stringSize_0f7a4 6 = .ok (.iconst 0, 1) := by decide +kernel
theorem dJ6_stringSize_0f7a4_7 : decode cJ6_stringSize_0f7a4 7 = .ok (.istore_n 1, 1) := by decide +kernel
theorem dJ6_stringSize_0f7a4_8 : decode cJ6_stringSize_0f7a4 8 = .ok (.iload_n 0, 1) := by decide +kernel
theorem dJ6_stringSize_0f7a4_9 : decode cJ6_stringSize_0f7a4 9 = .ok (.ineg, 1) := by decide +kernel
theorem dJ6_stringSize_0f7a4_10 : decode cJ6_stringSize_0f7a4 10 = .ok (.istore_n 0, 1) := by decide +kernel
theorem dJ6_stringSize_0f7a4_11 : decode cJ6_stringSize_0f7a4 11 = .ok (.bipush (-10), 2) := by decide +kernel
theorem dJ6_stringSize_0f7a4_13 : decode cJ6_stringSize_0f7a4 13 = .ok (.istore_n 2, 1) := by decide +kernel
theorem dJ6_stringSize_0f7a4_14 : decode cJ6_stringSize_0f7a4 14 = .ok (.iconst 1, 1) := by decide +kernel
theorem dJ6_stringSize_0f7a4_15 : decode cJ6_stringSize_0f7a4 15 = .ok (.istore_n 3, 1) := by decide +kernel
theorem dJ6_stringSize_0f7a4_16 : decode cJ6_stringSize_0f7a4 16 = .ok (.iload_n 3, 1) := by decide +kernel
theorem dJ6_stringSize_0f7a4_17 : decode cJ6_stringSize_0f7a4 17 = .ok (.bipush 10, 2) := by decide +kernel
theorem dJ6_stringSize_0f7a4_19 : decode cJ6_stringSize_0f7a4 19 = .ok (.if_icmp .ge 23, 3) := by decide +kernel
theorem dJ6_stringSize_0f7a4_22 : decode cJ6_stringSize_0f7a4 22 = .ok (.iload_n 0, 1) := by decide +kernel
theorem dJ6_stringSize_0f7a4_23 : decode cJ6_stringSize_0f7a4 23 = .ok (.iload_n 2, 1) := by decide +kernel
theorem dJ6_stringSize_0f7a4_24 : decode cJ6_stringSize_0f7a4 24 = .ok (.if_icmp .le 7, 3) := by decide +kernel
theorem dJ6_stringSize_0f7a4_27 : decode cJ6_stringSize_0f7a4 27 = .ok (.iload_n 3, 1) := by decide +kernel
theorem dJ6_stringSize_0f7a4_28 : decode cJ6_stringSize_0f7a4 28 = .ok (.iload_n 1, 1) := by decide +kernel
theorem dJ6_stringSize_0f7a4_29 : decode cJ6_stringSize_0f7a4 29 = .ok (.iadd, 1) := by decide +kernel
theorem dJ6_stringSize_0f7a4_30 : decode cJ6_stringSize_0f7a4 30 = .ok (.ireturn, 1) := by decide +kernel
theorem dJ6_stringSize_0f7a4_31 : decode cJ6_stringSize_0f7a4 31 = .ok (.bipush 10, 2) := by decide +kernel
theorem dJ6_stringSize_0f7a4_33 : decode cJ6_stringSize_0f7a4 33 = .ok (.iload_n 2, 1) := by decide +kernel
theorem dJ6_stringSize_0f7a4_34 : decode cJ6_stringSize_0f7a4 34 = .ok (.imul, 1) := by decide +kernel
theorem dJ6_stringSize_0f7a4_35 : decode cJ6_stringSize_0f7a4 35 = .ok (.istore_n 2, 1) := by decide +kernel
theorem dJ6_stringSize_0f7a4_36 : decode cJ6_stringSize_0f7a4 36 = .ok (.iinc 3 1, 3) := by decide +kernel
theorem dJ6_stringSize_0f7a4_39 : decode cJ6_stringSize_0f7a4 39 = .ok (.goto (-23), 3) := by decide +kernel
theorem dJ6_stringSize_0f7a4_42 : decode cJ6_stringSize_0f7a4 42 = .ok (.bipush 10, 2) := by decide +kernel
theorem dJ6_stringSize_0f7a4_44 : decode cJ6_stringSize_0f7a4 44 = .ok (.iload_n 1, 1) := by decide +kernel
theorem dJ6_stringSize_0f7a4_45 : decode cJ6_stringSize_0f7a4 45 = .ok (.iadd, 1) := by decide +kernel
theorem dJ6_stringSize_0f7a4_46 : decode cJ6_stringSize_0f7a4 46 = .ok (.ireturn, 1) := by decide +kernel
abbrev cJ6_getChars_ba4f3 : ByteArray := prog_17_method_12_code
def yJ6_getChars_ba4f3 : MethodName := ⟨RJ6, "getChars", "(II[B)I"⟩
theorem dJ6_getChars_ba4f3_0 : decode cJ6_getChars_ba4f3 0 = .ok (.iload_n 1, 1) := by decide +kernel
theorem dJ6_getChars_ba4f3_1 : decode cJ6_getChars_ba4f3 1 = .ok (.istore 5, 2) := by decide +kernel
theorem dJ6_getChars_ba4f3_3 : decode cJ6_getChars_ba4f3 3 = .ok (.iload_n 0, 1) := by decide +kernel
theorem dJ6_getChars_ba4f3_4 : decode cJ6_getChars_ba4f3 4 = .ok (.ifCond .ge 7, 3) := by decide +kernel
theorem dJ6_getChars_ba4f3_7 : decode cJ6_getChars_ba4f3 7 = .ok (.iconst 1, 1) := by decide +kernel
theorem dJ6_getChars_ba4f3_8 : decode cJ6_getChars_ba4f3 8 = .ok (.goto 4, 3) := by decide +kernel
theorem dJ6_getChars_ba4f3_11 : decode cJ6_getChars_ba4f3 11 = .ok (.iconst 0, 1) := by decide +kernel
theorem dJ6_getChars_ba4f3_12 : decode cJ6_getChars_ba4f3 12 = .ok (.istore 6, 2) := by decide +kernel
theorem dJ6_getChars_ba4f3_14 : decode cJ6_getChars_ba4f3 14 = .ok (.iload 6, 2) := by decide +kernel
theorem dJ6_getChars_ba4f3_16 : decode cJ6_getChars_ba4f3 16 = .ok (.ifCond .ne 6, 3) := by decide +kernel
theorem dJ6_getChars_ba4f3_19 : decode cJ6_getChars_ba4f3 19 = .ok (.iload_n 0, 1) := by decide +kernel
theorem dJ6_getChars_ba4f3_20 : decode cJ6_getChars_ba4f3 20 = .ok (.ineg, 1) := by decide +kernel
theorem dJ6_getChars_ba4f3_21 : decode cJ6_getChars_ba4f3 21 = .ok (.istore_n 0, 1) := by decide +kernel
theorem dJ6_getChars_ba4f3_22 : decode cJ6_getChars_ba4f3 22 = .ok (.iload_n 0, 1) := by decide +kernel
theorem dJ6_getChars_ba4f3_23 : decode cJ6_getChars_ba4f3 23 = .ok (.bipush (-100), 2) := by decide +kernel
theorem dJ6_getChars_ba4f3_25 : decode cJ6_getChars_ba4f3 25 = .ok (.if_icmp .gt 47, 3) := by decide +kernel
theorem dJ6_getChars_ba4f3_28 : decode cJ6_getChars_ba4f3 28 = .ok (.iload_n 0, 1) := by decide +kernel
theorem dJ6_getChars_ba4f3_29 : decode cJ6_getChars_ba4f3 29 = .ok (.bipush 100, 2) := by decide +kernel
theorem dJ6_getChars_ba4f3_31 : decode cJ6_getChars_ba4f3 31 = .ok (.idiv, 1) := by decide +kernel
theorem dJ6_getChars_ba4f3_32 : decode cJ6_getChars_ba4f3 32 = .ok (.istore_n 3, 1) := by decide +kernel
theorem dJ6_getChars_ba4f3_33 : decode cJ6_getChars_ba4f3 33 = .ok (.iload_n 3, 1) := by decide +kernel
theorem dJ6_getChars_ba4f3_34 : decode cJ6_getChars_ba4f3 34 = .ok (.bipush 100, 2) := by decide +kernel
theorem dJ6_getChars_ba4f3_36 : decode cJ6_getChars_ba4f3 36 = .ok (.imul, 1) := by decide +kernel
theorem dJ6_getChars_ba4f3_37 : decode cJ6_getChars_ba4f3 37 = .ok (.iload_n 0, 1) := by decide +kernel
theorem dJ6_getChars_ba4f3_38 : decode cJ6_getChars_ba4f3 38 = .ok (.isub, 1) := by decide +kernel
theorem dJ6_getChars_ba4f3_39 : decode cJ6_getChars_ba4f3 39 = .ok (.istore 4, 2) := by decide +kernel
theorem dJ6_getChars_ba4f3_41 : decode cJ6_getChars_ba4f3 41 = .ok (.iload_n 3, 1) := by decide +kernel
theorem dJ6_getChars_ba4f3_42 : decode cJ6_getChars_ba4f3 42 = .ok (.istore_n 0, 1) := by decide +kernel
theorem dJ6_getChars_ba4f3_43 : decode cJ6_getChars_ba4f3 43 = .ok (.aload_n 2, 1) := by decide +kernel
theorem dJ6_getChars_ba4f3_44 : decode cJ6_getChars_ba4f3 44 = .ok (.iinc 5 (-1), 3) := by decide +kernel
theorem dJ6_getChars_ba4f3_47 : decode cJ6_getChars_ba4f3 47 = .ok (.iload 5, 2) := by decide +kernel
theorem dJ6_getChars_ba4f3_49 : decode cJ6_getChars_ba4f3 49 = .ok (.getstatic 83, 3) := by decide +kernel
theorem dJ6_getChars_ba4f3_52 : decode cJ6_getChars_ba4f3 52 = .ok (.iload 4, 2) := by decide +kernel
theorem dJ6_getChars_ba4f3_54 : decode cJ6_getChars_ba4f3 54 = .ok (.baload, 1) := by decide +kernel
theorem dJ6_getChars_ba4f3_55 : decode cJ6_getChars_ba4f3 55 = .ok (.bastore, 1) := by decide +kernel
theorem dJ6_getChars_ba4f3_56 : decode cJ6_getChars_ba4f3 56 = .ok (.aload_n 2, 1) := by decide +kernel
theorem dJ6_getChars_ba4f3_57 : decode cJ6_getChars_ba4f3 57 = .ok (.iinc 5 (-1), 3) := by decide +kernel
theorem dJ6_getChars_ba4f3_60 : decode cJ6_getChars_ba4f3 60 = .ok (.iload 5, 2) := by decide +kernel
theorem dJ6_getChars_ba4f3_62 : decode cJ6_getChars_ba4f3 62 = .ok (.getstatic 87, 3) := by decide +kernel
theorem dJ6_getChars_ba4f3_65 : decode cJ6_getChars_ba4f3 65 = .ok (.iload 4, 2) := by decide +kernel
theorem dJ6_getChars_ba4f3_67 : decode cJ6_getChars_ba4f3 67 = .ok (.baload, 1) := by decide +kernel
theorem dJ6_getChars_ba4f3_68 : decode cJ6_getChars_ba4f3 68 = .ok (.bastore, 1) := by decide +kernel
theorem dJ6_getChars_ba4f3_69 : decode cJ6_getChars_ba4f3 69 = .ok (.goto (-47), 3) := by decide +kernel
theorem dJ6_getChars_ba4f3_72 : decode cJ6_getChars_ba4f3 72 = .ok (.aload_n 2, 1) := by decide +kernel
theorem dJ6_getChars_ba4f3_73 : decode cJ6_getChars_ba4f3 73 = .ok (.iinc 5 (-1), 3) := by decide +kernel
theorem dJ6_getChars_ba4f3_76 : decode cJ6_getChars_ba4f3 76 = .ok (.iload 5, 2) := by decide +kernel
theorem dJ6_getChars_ba4f3_78 : decode cJ6_getChars_ba4f3 78 = .ok (.getstatic 83, 3) := by decide +kernel
theorem dJ6_getChars_ba4f3_81 : decode cJ6_getChars_ba4f3 81 = .ok (.iload_n 0, 1) := by decide +kernel
theorem dJ6_getChars_ba4f3_82 : decode cJ6_getChars_ba4f3 82 = .ok (.ineg, 1) := by decide +kernel
theorem dJ6_getChars_ba4f3_83 : decode cJ6_getChars_ba4f3 83 = .ok (.baload, 1) := by decide +kernel
theorem dJ6_getChars_ba4f3_84 : decode cJ6_getChars_ba4f3 84 = .ok (.bastore, 1) := by decide +kernel
theorem dJ6_getChars_ba4f3_85 : decode cJ6_getChars_ba4f3 85 = .ok (.iload_n 0, 1) := by decide +kernel
theorem dJ6_getChars_ba4f3_86 : decode cJ6_getChars_ba4f3 86 = .ok (.bipush (-9), 2) := by decide +kernel
theorem dJ6_getChars_ba4f3_88 : decode cJ6_getChars_ba4f3 88 = .ok (.if_icmp .ge 16, 3) := by decide +kernel
theorem dJ6_getChars_ba4f3_91 : decode cJ6_getChars_ba4f3 91 = .ok (.aload_n 2, 1) := by decide +kernel
theorem dJ6_getChars_ba4f3_92 : decode cJ6_getChars_ba4f3 92 = .ok (.iinc 5 (-1), 3) := by decide +kernel
theorem dJ6_getChars_ba4f3_95 : decode cJ6_getChars_ba4f3 95 = .ok (.iload 5, 2) := by decide +kernel
theorem dJ6_getChars_ba4f3_97 : decode cJ6_getChars_ba4f3 97 = .ok (.getstatic 87, 3) := by decide +kernel
theorem dJ6_getChars_ba4f3_100 : decode cJ6_getChars_ba4f3 100 = .ok (.iload_n 0, 1) := by decide +kernel
theorem dJ6_getChars_ba4f3_101 : decode cJ6_getChars_ba4f3 101 = .ok (.ineg, 1) := by decide +kernel
theorem dJ6_getChars_ba4f3_102 : decode cJ6_getChars_ba4f3 102 = .ok (.baload, 1) := by decide +kernel
theorem dJ6_getChars_ba4f3_103 : decode cJ6_getChars_ba4f3 103 = .ok (.bastore, 1) := by decide +kernel
theorem dJ6_getChars_ba4f3_104 : decode cJ6_getChars_ba4f3 104 = .ok (.iload 6, 2) := by decide +kernel
theorem dJ6_getChars_ba4f3_106 : decode cJ6_getChars_ba4f3 106 = .ok (.ifCond .eq 12, 3) := by decide +kernel
theorem dJ6_getChars_ba4f3_109 : decode cJ6_getChars_ba4f3 109 = .ok (.aload_n 2, 1) := by decide +kernel
theorem dJ6_getChars_ba4f3_110 : decode cJ6_getChars_ba4f3 110 = .ok (.iinc 5 (-1), 3) := by decide +kernel
theorem dJ6_getChars_ba4f3_113 : decode cJ6_getChars_ba4f3 113 = .ok (.iload 5, 2) := by decide +kernel
theorem dJ6_getChars_ba4f3_115 : decode cJ6_getChars_ba4f3 115 = .ok (.bipush 45, 2) := by decide +kernel
theorem dJ6_getChars_ba4f3_117 : decode cJ6_getChars_ba4f3 117 = .ok (.bastore, 1) := by decide +kernel
theorem dJ6_getChars_ba4f3_118 : decode cJ6_getChars_ba4f3 118 = .ok (.iload 5, 2) := by decide +kernel
theorem dJ6_getChars_ba4f3_120 : decode cJ6_getChars_ba4f3 120 = .ok (.ireturn, 1) := by decide +kernel
theorem kw_1061 : Cond.fieldLink "java/lang/Intege\x72" 83 "java/lang/Intege\x72" "DigitOnes" "[B" ∈ TB := tb_at 1061 (by decide +kernel) (by decide +kernel)
theorem kw_1063 : Cond.fieldLink "java/lang/Intege\x72" 87 "java/lang/Intege\x72" "DigitTens" "[B" ∈ TB := tb_at 1063 (by decide +kernel) (by decide +kernel)
abbrev cJ5_length_8abf5 : ByteArray := prog_15_method_6_code
def yJ5_length_8abf5 : MethodName := ⟨RJ5, "length", "()I"⟩
theorem dJ5_length_8abf5_0 : decode cJ5_length_8abf5 0 = .ok (.aload_n 0, 1) := by decide +kernel
theorem dJ5_length_8abf5_1 : decode cJ5_length_8abf5 1 = .ok (.getfield 79, 3) := by decide +kernel
theorem dJ5_length_8abf5_4 : decode cJ5_length_8abf5 4 = .ok (.ireturn, 1) := by decide +kernel
theorem kw_940 : Cond.fieldLink "java/lang/AbstractStringBuilde\x72" 79 "java/lang/AbstractStringBuilde\x72" "count" "I" ∈ TB := tb_at 940 (by decide +kernel) (by decide +kernel)
theorem in_J4 : ∀ w ∈ u_ws RJ4 TJ4 4, w ∈ TB := by decide +kernel
theorem fl_J5_79 : mF RJ5 79 12 3 := ⟨RJ4, TJ4, 4, tyJ4, rfl, by decide, in_J4, kw_940, tyJ4_ok, nmJ4⟩
abbrev cJ5_isLatin1_aae02 : ByteArray := prog_15_method_68_code
def yJ5_isLatin1_aae02 : MethodName := ⟨RJ5, "isLatin1", "()Z"⟩
theorem dJ5_isLatin1_aae02_0 : decode cJ5_isLatin1_aae02 0 = .ok (.getstatic 18, 3) := by decide +kernel
theorem dJ5_isLatin1_aae02_3 : decode cJ5_isLatin1_aae02 3 = .ok (.ifCond .eq 14, 3) := by decide +kernel
theorem dJ5_isLatin1_aae02_6 : decode cJ5_isLatin1_aae02 6 = .ok (.aload_n 0, 1) := by decide +kernel
theorem dJ5_isLatin1_aae02_7 : decode cJ5_isLatin1_aae02 7 = .ok (.getfield 22, 3) := by decide +kernel
theorem dJ5_isLatin1_aae02_10 : decode cJ5_isLatin1_aae02 10 = .ok (.ifCond .ne 7, 3) := by decide +kernel
theorem dJ5_isLatin1_aae02_13 : decode cJ5_isLatin1_aae02 13 = .ok (.iconst 1, 1) := by decide +kernel
theorem dJ5_isLatin1_aae02_14 : decode cJ5_isLatin1_aae02 14 = .ok (.goto 4, 3) := by decide +kernel
theorem dJ5_isLatin1_aae02_17 : decode cJ5_isLatin1_aae02 17 = .ok (.iconst 0, 1) := by decide +kernel
theorem dJ5_isLatin1_aae02_18 : decode cJ5_isLatin1_aae02 18 = .ok (.ireturn, 1) := by decide +kernel
theorem kw_929 : Cond.fieldLink "java/lang/AbstractStringBuilde\x72" 18 "java/lang/String" "COMPACT_STRINGS" "Z" ∈ TB := tb_at 929 (by decide +kernel) (by decide +kernel)
theorem kw_939 : Cond.fieldLink "java/lang/AbstractStringBuilde\x72" 22 "java/lang/AbstractStringBuilde\x72" "code\x72" "B" ∈ TB := tb_at 939 (by decide +kernel) (by decide +kernel)
theorem fl_J5_22 : mF RJ5 22 12 1 := ⟨RJ4, TJ4, 4, tyJ4, rfl, by decide, in_J4, kw_939, tyJ4_ok, nmJ4⟩
abbrev cJ1_canEncode_fc78d : ByteArray := prog_21_method_3_code
def yJ1_canEncode_fc78d : MethodName := ⟨RJ1, "canEncode", "(C)Z"⟩
theorem dJ1_canEncode_fc78d_0 : decode cJ1_canEncode_fc78d 0 = .ok (.iload_n 0, 1) := by decide +kernel
theorem dJ1_canEncode_fc78d_1 : decode cJ1_canEncode_fc78d 1 = .ok (.sipush 255, 3) := by decide +kernel
theorem dJ1_canEncode_fc78d_4 : decode cJ1_canEncode_fc78d 4 = .ok (.if_icmp .gt 7, 3) := by decide +kernel
theorem dJ1_canEncode_fc78d_7 : decode cJ1_canEncode_fc78d 7 = .ok (.iconst 1, 1) := by decide +kernel
theorem dJ1_canEncode_fc78d_8 : decode cJ1_canEncode_fc78d 8 = .ok (.goto 4, 3) := by decide +kernel
theorem dJ1_canEncode_fc78d_11 : decode cJ1_canEncode_fc78d 11 = .ok (.iconst 0, 1) := by decide +kernel
theorem dJ1_canEncode_fc78d_12 : decode cJ1_canEncode_fc78d 12 = .ok (.ireturn, 1) := by decide +kernel
abbrev cJ8_newLength_cabcc : ByteArray := prog_25_method_27_code
def yJ8_newLength_cabcc : MethodName := ⟨RJ8, "newLength", "(III)I"⟩
theorem dJ8_newLength_cabcc_0 : decode cJ8_newLength_cabcc 0 = .ok (.iload_n 0, 1) := by decide +kernel
theorem dJ8_newLength_cabcc_1 : decode cJ8_newLength_cabcc 1 = .ok (.iload_n 1, 1) := by decide +kernel
theorem dJ8_newLength_cabcc_2 : decode cJ8_newLength_cabcc 2 = .ok (.iload_n 2, 1) := by decide +kernel
theorem dJ8_newLength_cabcc_3 : decode cJ8_newLength_cabcc 3 = .ok (.invokestatic 194, 3) := by decide +kernel
theorem dJ8_newLength_cabcc_6 : decode cJ8_newLength_cabcc 6 = .ok (.iadd, 1) := by decide +kernel
theorem dJ8_newLength_cabcc_7 : decode cJ8_newLength_cabcc 7 = .ok (.istore_n 3, 1) := by decide +kernel
theorem dJ8_newLength_cabcc_8 : decode cJ8_newLength_cabcc 8 = .ok (.iconst 0, 1) := by decide +kernel
theorem dJ8_newLength_cabcc_9 : decode cJ8_newLength_cabcc 9 = .ok (.iload_n 3, 1) := by decide +kernel
theorem dJ8_newLength_cabcc_10 : decode cJ8_newLength_cabcc 10 = .ok (.if_icmp .ge 11, 3) := by decide +kernel
theorem dJ8_newLength_cabcc_13 : decode cJ8_newLength_cabcc 13 = .ok (.iload_n 3, 1) := by decide +kernel
theorem dJ8_newLength_cabcc_14 : decode cJ8_newLength_cabcc 14 = .ok (.ldc 200, 2) := by decide +kernel
theorem dJ8_newLength_cabcc_16 : decode cJ8_newLength_cabcc 16 = .ok (.if_icmp .gt 5, 3) := by decide +kernel
theorem dJ8_newLength_cabcc_19 : decode cJ8_newLength_cabcc 19 = .ok (.iload_n 3, 1) := by decide +kernel
theorem dJ8_newLength_cabcc_20 : decode cJ8_newLength_cabcc 20 = .ok (.ireturn, 1) := by decide +kernel
theorem dJ8_newLength_cabcc_21 : decode cJ8_newLength_cabcc 21 = .ok (.iload_n 0, 1) := by decide +kernel
theorem dJ8_newLength_cabcc_22 : decode cJ8_newLength_cabcc 22 = .ok (.iload_n 1, 1) := by decide +kernel
theorem dJ8_newLength_cabcc_23 : decode cJ8_newLength_cabcc 23 = .ok (.invokestatic 201, 3) := by decide +kernel
theorem dJ8_newLength_cabcc_26 : decode cJ8_newLength_cabcc 26 = .ok (.ireturn, 1) := by decide +kernel
theorem kl_max_J8 : Cond.methodLink RJ8 194 Lib.Math.max.name ∈ TB := tb_at 975 (by decide +kernel) (by decide +kernel)
theorem kw_976 : Cond.constant "jdk/internal/util/ArraysSupport" 200 2147483639 ∈ TB := tb_at 976 (by decide +kernel) (by decide +kernel)
abbrev cJ5_newCapacity_0f7a4 : ByteArray := prog_15_method_10_code
def yJ5_newCapacity_0f7a4 : MethodName := ⟨RJ5, "newCapacity", "(I)I"⟩
theorem dJ5_newCapacity_0f7a4_0 : decode cJ5_newCapacity_0f7a4 0 = .ok (.aload_n 0, 1) := by decide +kernel
theorem dJ5_newCapacity_0f7a4_1 : decode cJ5_newCapacity_0f7a4 1 = .ok (.getfield 15, 3) := by decide +kernel
theorem dJ5_newCapacity_0f7a4_4 : decode cJ5_newCapacity_0f7a4 4 = .ok (.arraylength, 1) := by decide +kernel
theorem dJ5_newCapacity_0f7a4_5 : decode cJ5_newCapacity_0f7a4 5 = .ok (.istore_n 2, 1) := by decide +kernel
theorem dJ5_newCapacity_0f7a4_6 : decode cJ5_newCapacity_0f7a4 6 = .ok (.iload_n 1, 1) := by decide +kernel
theorem dJ5_newCapacity_0f7a4_7 : decode cJ5_newCapacity_0f7a4 7 = .ok (.aload_n 0, 1) := by decide +kernel
theorem dJ5_newCapacity_0f7a4_8 : decode cJ5_newCapacity_0f7a4 8 = .ok (.getfield 22, 3) := by decide +kernel
theorem dJ5_newCapacity_0f7a4_11 : decode cJ5_newCapacity_0f7a4 11 = .ok (.ishl, 1) := by decide +kernel
theorem dJ5_newCapacity_0f7a4_12 : decode cJ5_newCapacity_0f7a4 12 = .ok (.istore_n 3, 1) := by decide +kernel
theorem dJ5_newCapacity_0f7a4_13 : decode cJ5_newCapacity_0f7a4 13 = .ok (.iload_n 3, 1) := by decide +kernel
theorem dJ5_newCapacity_0f7a4_14 : decode cJ5_newCapacity_0f7a4 14 = .ok (.iload_n 2, 1) := by decide +kernel
theorem dJ5_newCapacity_0f7a4_15 : decode cJ5_newCapacity_0f7a4 15 = .ok (.isub, 1) := by decide +kernel
theorem dJ5_newCapacity_0f7a4_16 : decode cJ5_newCapacity_0f7a4 16 = .ok (.istore 4, 2) := by decide +kernel
theorem dJ5_newCapacity_0f7a4_18 : decode cJ5_newCapacity_0f7a4 18 = .ok (.iload_n 2, 1) := by decide +kernel
theorem dJ5_newCapacity_0f7a4_19 : decode cJ5_newCapacity_0f7a4 19 = .ok (.iload 4, 2) := by decide +kernel
theorem dJ5_newCapacity_0f7a4_21 : decode cJ5_newCapacity_0f7a4 21 = .ok (.iload_n 2, 1) := by decide +kernel
theorem dJ5_newCapacity_0f7a4_22 : decode cJ5_newCapacity_0f7a4 22 = .ok (.iconst 2, 1) := by decide +kernel
theorem dJ5_newCapacity_0f7a4_23 : decode cJ5_newCapacity_0f7a4 23 = .ok (.aload_n 0, 1) := by decide +kernel
theorem dJ5_newCapacity_0f7a4_24 : decode cJ5_newCapacity_0f7a4 24 = .ok (.getfield 22, 3) := by decide +kernel
theorem dJ5_newCapacity_0f7a4_27 : decode cJ5_newCapacity_0f7a4 27 = .ok (.ishl, 1) := by decide +kernel
theorem dJ5_newCapacity_0f7a4_28 : decode cJ5_newCapacity_0f7a4 28 = .ok (.iadd, 1) := by decide +kernel
theorem dJ5_newCapacity_0f7a4_29 : decode cJ5_newCapacity_0f7a4 29 = .ok (.invokestatic 114, 3) := by decide +kernel
theorem dJ5_newCapacity_0f7a4_32 : decode cJ5_newCapacity_0f7a4 32 = .ok (.istore 5, 2) := by decide +kernel
theorem dJ5_newCapacity_0f7a4_34 : decode cJ5_newCapacity_0f7a4 34 = .ok (.iload 5, 2) := by decide +kernel
theorem dJ5_newCapacity_0f7a4_36 : decode cJ5_newCapacity_0f7a4 36 = .ok (.ldc 39, 2) := by decide +kernel
theorem dJ5_newCapacity_0f7a4_38 : decode cJ5_newCapacity_0f7a4 38 = .ok (.if_icmp .ne 13, 3) := by decide +kernel
theorem dJ5_newCapacity_0f7a4_41 : decode cJ5_newCapacity_0f7a4 41 = .ok (.new 120, 3) := by decide +kernel
theorem dJ5_newCapacity_0f7a4_44 : decode cJ5_newCapacity_0f7a4 44 = .ok (.dup, 1) := by decide +kernel
theorem dJ5_newCapacity_0f7a4_45 : decode cJ5_newCapacity_0f7a4 45 = .ok (.ldc 122, 2) := by decide +kernel
theorem dJ5_newCapacity_0f7a4_47 : decode cJ5_newCapacity_0f7a4 47 = .ok (.invokespecial 124, 3) := by decide +kernel
theorem dJ5_newCapacity_0f7a4_50 : decode cJ5_newCapacity_0f7a4 50 = .ok (.athrow, 1) := by decide +kernel
theorem dJ5_newCapacity_0f7a4_51 : decode cJ5_newCapacity_0f7a4 51 = .ok (.iload 5, 2) := by decide +kernel
theorem dJ5_newCapacity_0f7a4_53 : decode cJ5_newCapacity_0f7a4 53 = .ok (.aload_n 0, 1) := by decide +kernel
theorem dJ5_newCapacity_0f7a4_54 : decode cJ5_newCapacity_0f7a4 54 = .ok (.getfield 22, 3) := by decide +kernel
theorem dJ5_newCapacity_0f7a4_57 : decode cJ5_newCapacity_0f7a4 57 = .ok (.ishr, 1) := by decide +kernel
theorem dJ5_newCapacity_0f7a4_58 : decode cJ5_newCapacity_0f7a4 58 = .ok (.ireturn, 1) := by decide +kernel
theorem kw_938 : Cond.fieldLink "java/lang/AbstractStringBuilde\x72" 15 "java/lang/AbstractStringBuilde\x72" "value" "[B" ∈ TB := tb_at 938 (by decide +kernel) (by decide +kernel)
theorem fl_J5_15 : mF RJ5 15 12 0 := ⟨RJ4, TJ4, 4, tyJ4, rfl, by decide, in_J4, kw_938, tyJ4_ok, nmJ4⟩
theorem kw_972 : Cond.methodLink "java/lang/AbstractStringBuilde\x72" 114 yJ8_newLength_cabcc ∈ TB := tb_at 972 (by decide +kernel) (by decide +kernel)
theorem kw_974 : Cond.code yJ8_newLength_cabcc cJ8_newLength_cabcc 4 (some .int) ∈ TB := tb_at 974 (by decide +kernel) (by decide +kernel)
theorem kw_973 : Cond.static yJ8_newLength_cabcc ∈ TB := tb_at 973 (by decide +kernel) (by decide +kernel)
theorem kw_81 : Cond.initialized "jdk/internal/util/ArraysSupport" ∈ TB := tb_at 81 (by decide +kernel) (by decide +kernel)
theorem cs_J8_newLength_cabcc : Cond.code yJ8_newLength_cabcc cJ8_newLength_cabcc 4 (some .int) ∈ TB ∧ Cond.static yJ8_newLength_cabcc ∈ TB ∧ Cond.initialized "jdk/internal/util/ArraysSupport" ∈ TB := ⟨kw_974, kw_973, kw_81⟩
theorem kw_980 : Cond.constant "java/lang/AbstractStringBuilde\x72" 39 2147483647 ∈ TB := tb_at 980 (by decide +kernel) (by decide +kernel)
-- J6_stringSize_0f7a4
def po_J6_stringSize_0f7a4 (E : mE)     (o : Int32) : Option Value → va_W → Prop := (fun (v : Option Value) (w' : va_W) => v = some (.int o) ∧ w' = [])
noncomputable def K_J6_stringSize_0f7a4_16 (N : Nat)  (rec : Int32 → Int32 → Option (Int32)) (k42 : Unit → Option (Int32)) (k27 : Int32 → Option (Int32)) (x0 : Int32) (x1 : Int32)  (x2 : Int32) (x3 : Int32)  : Option (Int32) :=
  if (10 ≤ x3 : Prop) then
  k42 ()
  else
  if (x0 ≤ x2 : Prop) then
  lt (10 * x2) (fun x2_1 =>
  lt (x3 + 1) (fun x3_2 =>
  rec x2_1 x3_2))
  else
  k27 x3
noncomputable def L_J6_stringSize_0f7a4_16 (N : Nat)  (k42 : Unit → Option (Int32)) (k27 : Int32 → Option (Int32)) (x0 : Int32) (x1 : Int32)  (n : Nat) : Int32 → Int32 → Option (Int32) :=
  Nat.rec (motive := fun _ => Int32 → Int32 → Option (Int32)) (fun _ _ => none) (fun _ rec => K_J6_stringSize_0f7a4_16 N rec k42 k27 x0 x1) n
set_option maxHeartbeats 4000000 in
set_option maxRecDepth 100000 in
theorem l_J6_stringSize_0f7a4_16 {E : mE} {l : Launch} {p : Program} {e : Env} {s : State} {m : MethodId} {args : Array Value} {below : List Frame} {meth : Method} {c : Code} {A : Nat → Prop} {Q : State → Prop} {N : Nat}     {o : Int32} (B : mB E yJ6_stringSize_0f7a4 cJ6_stringSize_0f7a4 4 (some .int) 0 0 (po_J6_stringSize_0f7a4 E o) p s m args below meth c A Q)   {x0 : Int32} {x1 : Int32} (k42 : Unit → Option (Int32)) (k27 : Int32 → Option (Int32))  (hk42 : ∀    (H : Heap) (locs : List Loc) (ls : Array Slot), k42 () = some o → mW E A s [] H locs → lv_has ls 4 [(1, .int x1)] → W p l e ({ frames := 0, cells := 0, slots := 0, locals := 0 } : Room) s m args below meth c H locs 0 0 Q (F0 m 42 ls [])) (hk27 : ∀ (x3 : Int32)   (H : Heap) (locs : List Loc) (ls : Array Slot), k27 x3 = some o → mW E A s [] H locs → lv_has ls 4 [(1, .int x1), (3, .int x3)] → W p l e ({ frames := 0, cells := 0, slots := 0, locals := 0 } : Room) s m args below meth c H locs 0 0 Q (F0 m 27 ls [])) : ∀ n : Nat, ∀ (x2 : Int32) (x3 : Int32)   (H : Heap) (locs : List Loc) (ls : Array Slot), L_J6_stringSize_0f7a4_16 N k42 k27 x0 x1 n x2 x3 = some o → mW E A s [] H locs → lv_has ls 4 [(0, .int x0), (1, .int x1), (2, .int x2), (3, .int x3)] → W p l e ({ frames := 0, cells := 0, slots := 0, locals := 0 } : Room) s m args below meth c H locs 0 0 Q (F0 m 16 ls []) := by
  obtain ⟨hx, hb, hml, hown, hts⟩ := id B.1
  intro n
  induction n with
  | zero =>
    intro x2 x3 H locs ls hf w hl
    exact nomatch hf
  | succ n hrec =>
    intro x2 x3 H locs ls hf w hl
    have hf : K_J6_stringSize_0f7a4_16 N (L_J6_stringSize_0f7a4_16 N k42 k27 x0 x1 n) k42 k27 x0 x1 x2 x3 = some o := hf
    unfold K_J6_stringSize_0f7a4_16 at hf
    refine lv_iload_n hx hb dJ6_stringSize_0f7a4_16 rfl (lv_at hl 3 rfl) ?_
    refine lv_bipush (v := 10) hx hb dJ6_stringSize_0f7a4_17 (by decide) ?_
    refine lv_icmp_ge (tgt := 42) hx hb dJ6_stringSize_0f7a4_19 (by decide) (fun hc => ?_) (fun hc => ?_)
    · have hf := it_t hc hf
      exact hk42 _ _ _ hf  w (lv_sub hl [1] rfl)
    · have hf := it_f hc hf
      refine lv_iload_n hx hb dJ6_stringSize_0f7a4_22 rfl (lv_at hl 0 rfl) ?_
      refine lv_iload_n hx hb dJ6_stringSize_0f7a4_23 rfl (lv_at hl 2 rfl) ?_
      refine lv_icmp_le (tgt := 31) hx hb dJ6_stringSize_0f7a4_24 (by decide) (fun hc => ?_) (fun hc => ?_)
      · have hf := it_t hc hf
        refine lv_bipush (v := 10) hx hb dJ6_stringSize_0f7a4_31 (by decide) ?_
        refine lv_iload_n hx hb dJ6_stringSize_0f7a4_33 rfl (lv_at hl 2 rfl) ?_
        refine lv_imul hx hb dJ6_stringSize_0f7a4_34 ?_
        refine lv_topi (fun x2_1 ev => ?_)
        have hf := lt_n ev hf; clear ev
        refine lv_istore_n (lv' := [(2, .int x2_1), (0, .int x0), (1, .int x1), (3, .int x3)]) hx hb dJ6_stringSize_0f7a4_35 rfl hl (by decide) rfl (fun ls hl => ?_)
        obtain ⟨x3_2, ev⟩ : ∃ y : Int32, y = x3 + 1 := ⟨_, rfl⟩
        refine lv_iinc (v := x3_2) (lv' := [(3, .int x3_2), (2, .int x2_1), (0, .int x0), (1, .int x1)]) hx hb dJ6_stringSize_0f7a4_36 hl (k := 3) rfl (by rw [ev]; rfl) (by decide) rfl (fun ls hl => ?_)
        have hf := lt_n ev hf; clear ev
        refine lv_goto (tgt := 16) hx hb dJ6_stringSize_0f7a4_39 (by decide) ?_
        exact hrec _ _ _ _ _ hf  w (lv_sub hl [2, 3, 1, 0] rfl)
      · have hf := it_f hc hf
        exact hk27 _ _ _ _ hf  w (lv_sub hl [1, 3] rfl)
noncomputable def J_J6_stringSize_0f7a4_11 (N : Nat)   (x0 : Int32) (x1 : Int32)  : Option (Int32) :=
  L_J6_stringSize_0f7a4_16 N (fun _ => some (10 + x1)) (fun x3 => some (x3 + x1)) x0 x1 N ((-10)) 1
set_option maxHeartbeats 4000000 in
set_option maxRecDepth 100000 in
theorem j_J6_stringSize_0f7a4_11 {E : mE} {l : Launch} {p : Program} {e : Env} {s : State} {m : MethodId} {args : Array Value} {below : List Frame} {meth : Method} {c : Code} {A : Nat → Prop} {Q : State → Prop} {N : Nat}     {o : Int32} (B : mB E yJ6_stringSize_0f7a4 cJ6_stringSize_0f7a4 4 (some .int) 0 0 (po_J6_stringSize_0f7a4 E o) p s m args below meth c A Q) {x0 : Int32} {x1 : Int32}     {H : Heap} {locs : List Loc} {ls : Array Slot} (hf : J_J6_stringSize_0f7a4_11 N x0 x1 = some o)  (w : mW E A s [] H locs) (hl : lv_has ls 4 [(0, .int x0), (1, .int x1)]) : W p l e ({ frames := 0, cells := 0, slots := 0, locals := 0 } : Room) s m args below meth c H locs 0 0 Q (F0 m 11 ls []) := by
  obtain ⟨hx, hb, hml, hown, hts⟩ := id B.1
  unfold J_J6_stringSize_0f7a4_11 at hf
  refine lv_bipush (v := (-10)) hx hb dJ6_stringSize_0f7a4_11 (by decide) ?_
  refine lv_istore_n (lv' := [(2, .int ((-10))), (0, .int x0), (1, .int x1)]) hx hb dJ6_stringSize_0f7a4_13 rfl hl (by decide) rfl (fun ls hl => ?_)
  refine lv_iconst (v := 1) hx hb dJ6_stringSize_0f7a4_14 (by decide) ?_
  refine lv_istore_n (lv' := [(3, .int 1), (2, .int ((-10))), (0, .int x0), (1, .int x1)]) hx hb dJ6_stringSize_0f7a4_15 rfl hl (by decide) rfl (fun ls hl => ?_)
  refine l_J6_stringSize_0f7a4_16 B _ _  ?_ ?_ N _ _ _ _ _ hf  w (lv_sub hl [2, 3, 1, 0] rfl)
  · intro H locs ls hf w hl
    refine lv_bipush (v := 10) hx hb dJ6_stringSize_0f7a4_42 (by decide) ?_
    refine lv_iload_n hx hb dJ6_stringSize_0f7a4_44 rfl (lv_at hl 0 rfl) ?_
    refine lv_iadd hx hb dJ6_stringSize_0f7a4_45 ?_
    cases hf
    exact mx_iret B w ⟨rfl, rfl⟩ dJ6_stringSize_0f7a4_46
  · intro x3 H locs ls hf w hl
    refine lv_iload_n hx hb dJ6_stringSize_0f7a4_27 rfl (lv_at hl 1 rfl) ?_
    refine lv_iload_n hx hb dJ6_stringSize_0f7a4_28 rfl (lv_at hl 0 rfl) ?_
    refine lv_iadd hx hb dJ6_stringSize_0f7a4_29 ?_
    cases hf
    exact mx_iret B w ⟨rfl, rfl⟩ dJ6_stringSize_0f7a4_30
noncomputable def F_J6_stringSize_0f7a4 (N : Nat)   (x0 : Int32) : Option (Int32) :=
  if (x0 < 0 : Prop) then
  J_J6_stringSize_0f7a4_11 N x0 1
  else
  lt (-x0) (fun x0_3 =>
  J_J6_stringSize_0f7a4_11 N x0_3 0)
set_option maxHeartbeats 4000000 in
set_option maxRecDepth 100000 in
theorem d_J6_stringSize_0f7a4 (E : mE) (l : Launch) (N : Nat)     (x0 : Int32)  (o : Int32) (hf : F_J6_stringSize_0f7a4 N x0 = some o) : MX E l yJ6_stringSize_0f7a4 cJ6_stringSize_0f7a4 4 (some .int) ({ frames := 0, cells := 0, slots := 0, locals := 0 } : Room) [.int x0] [] (po_J6_stringSize_0f7a4 E o) := by
  refine mx_intro (by decide +kernel) (Nat.le_of_ble_eq_true rfl) ?_
  intro p e s m args below meth c A Q ls B w hl
  obtain ⟨hx, hb, hml, hown, hts⟩ := id B.1
  unfold F_J6_stringSize_0f7a4 at hf
  have hl : lv_has ls 4 [(0, .int x0)] := hl
  refine lv_iconst (v := 1) hx hb dJ6_stringSize_0f7a4_0 (by decide) ?_
  refine lv_istore_n (lv' := [(1, .int 1), (0, .int x0)]) hx hb dJ6_stringSize_0f7a4_1 rfl hl (by decide) rfl (fun ls hl => ?_)
  refine lv_iload_n hx hb dJ6_stringSize_0f7a4_2 rfl (lv_at hl 1 rfl) ?_
  refine lv_if_lt (tgt := 11) hx hb dJ6_stringSize_0f7a4_3 (by decide) (fun hc => ?_) (fun hc => ?_)
  · have hf := it_t hc hf
    exact j_J6_stringSize_0f7a4_11 B   hf  w (lv_sub hl [1, 0] rfl)
  · have hf := it_f hc hf
    refine lv_iconst (v := 0) hx hb dJ6_stringSize_0f7a4_6 (by decide) ?_
    refine lv_istore_n (lv' := [(1, .int 0), (0, .int x0)]) hx hb dJ6_stringSize_0f7a4_7 rfl hl (by decide) rfl (fun ls hl => ?_)
    refine lv_iload_n hx hb dJ6_stringSize_0f7a4_8 rfl (lv_at hl 1 rfl) ?_
    refine lv_ineg hx hb dJ6_stringSize_0f7a4_9 ?_
    refine lv_topi (fun x0_3 ev => ?_)
    have hf := lt_n ev hf; clear ev
    refine lv_istore_n (lv' := [(0, .int x0_3), (1, .int 0)]) hx hb dJ6_stringSize_0f7a4_10 rfl hl (by decide) rfl (fun ls hl => ?_)
    exact j_J6_stringSize_0f7a4_11 B   hf  w (lv_sub hl [0, 1] rfl)
-- J6_getChars_ba4f3
def po_J6_getChars_ba4f3 (E : mE) (a2 : Nat) (L2 : Nat) (f2 : Nat → Int32)  (o : Int32 × (Nat → Int32)) : Option Value → va_W → Prop := (fun (v : Option Value) (w' : va_W) => v = some (.int o.1) ∧ w' = [(a2, .inl (E.2.2.1, L2, .inl o.2))])
noncomputable def K_J6_getChars_ba4f3_22 (N : Nat) (L2 : Nat) (rec : Int32 → Int32 → (Nat → Int32) → (Option (Int32 × (Nat → Int32)))) (k72 : Int32 → Int32 → (Nat → Int32) → (Option (Int32 × (Nat → Int32)))) (x6 : Int32)  (x0 : Int32) (x5 : Int32) (f2 : Nat → Int32) : Option (Int32 × (Nat → Int32)) :=
  if (((-100)) < x0 : Prop) then
  k72 x0 x5 f2
  else
  lt (x0 / 100) (fun x3_1 =>
  lt ((x3_1 * 100) - x0) (fun x4_2 =>
  lt (x5 + (-1)) (fun x5_3 =>
  ld zOnes 100 x4_2 (fun v_4 =>
  sto f2 L2 x5_3 (vp_nar .byte v_4) (fun f2_5 =>
  lt (x5_3 + (-1)) (fun x5_6 =>
  ld zTens 100 x4_2 (fun v_7 =>
  sto f2_5 L2 x5_6 (vp_nar .byte v_7) (fun f2_8 =>
  rec x3_1 x5_6 f2_8))))))))
noncomputable def L_J6_getChars_ba4f3_22 (N : Nat) (L2 : Nat) (k72 : Int32 → Int32 → (Nat → Int32) → (Option (Int32 × (Nat → Int32)))) (x6 : Int32)  (n : Nat) : Int32 → Int32 → (Nat → Int32) → (Option (Int32 × (Nat → Int32))) :=
  Nat.rec (motive := fun _ => Int32 → Int32 → (Nat → Int32) → (Option (Int32 × (Nat → Int32)))) (fun _ _ _ => none) (fun _ rec => K_J6_getChars_ba4f3_22 N L2 rec k72 x6) n
set_option maxHeartbeats 4000000 in
set_option maxRecDepth 100000 in
theorem l_J6_getChars_ba4f3_22 {E : mE} {l : Launch} {p : Program} {e : Env} {s : State} {m : MethodId} {args : Array Value} {below : List Frame} {meth : Method} {c : Code} {A : Nat → Prop} {Q : State → Prop} {N : Nat} {a2 : Nat} {L2 : Nat} {f20 : Nat → Int32}  {o : Int32 × (Nat → Int32)} (B : mB E yJ6_getChars_ba4f3 cJ6_getChars_ba4f3 7 (some .int) 0 0 (po_J6_getChars_ba4f3 E a2 L2 f20 o) p s m args below meth c A Q)   {x6 : Int32} (k72 : Int32 → Int32 → (Nat → Int32) → (Option (Int32 × (Nat → Int32))))  (hk72 : ∀ (x0 : Int32) (x5 : Int32) (f2 : Nat → Int32)  (H : Heap) (locs : List Loc) (ls : Array Slot), k72 x0 x5 f2 = some o → mW E A s [(a2, .inl (E.2.2.1, L2, .inl f2))] H locs → lv_has ls 7 [(0, .int x0), (2, .ref a2), (5, .int x5), (6, .int x6)] → W p l e ({ frames := 0, cells := 0, slots := 0, locals := 0 } : Room) s m args below meth c H locs 0 0 Q (F0 m 72 ls [])) : ∀ n : Nat, ∀ (x0 : Int32) (x5 : Int32) (f2 : Nat → Int32)  (H : Heap) (locs : List Loc) (ls : Array Slot), L_J6_getChars_ba4f3_22 N L2 k72 x6 n x0 x5 f2 = some o → mW E A s [(a2, .inl (E.2.2.1, L2, .inl f2))] H locs → lv_has ls 7 [(0, .int x0), (2, .ref a2), (5, .int x5), (6, .int x6)] → W p l e ({ frames := 0, cells := 0, slots := 0, locals := 0 } : Room) s m args below meth c H locs 0 0 Q (F0 m 22 ls []) := by
  obtain ⟨hx, hb, hml, hown, hts⟩ := id B.1
  intro n
  induction n with
  | zero =>
    intro x0 x5 f2 H locs ls hf w hl
    exact nomatch hf
  | succ n hrec =>
    intro x0 x5 f2 H locs ls hf w hl
    have hf : K_J6_getChars_ba4f3_22 N L2 (L_J6_getChars_ba4f3_22 N L2 k72 x6 n) k72 x6 x0 x5 f2 = some o := hf
    unfold K_J6_getChars_ba4f3_22 at hf
    refine lv_iload_n hx hb dJ6_getChars_ba4f3_22 rfl (lv_at hl 0 rfl) ?_
    refine lv_bipush (v := (-100)) hx hb dJ6_getChars_ba4f3_23 (by decide) ?_
    refine lv_icmp_gt (tgt := 72) hx hb dJ6_getChars_ba4f3_25 (by decide) (fun hc => ?_) (fun hc => ?_)
    · have hf := it_t hc hf
      exact hk72 _ _ _ _ _ _ hf  w (lv_sub hl [0, 1, 2, 3] rfl)
    · have hf := it_f hc hf
      refine lv_iload_n hx hb dJ6_getChars_ba4f3_28 rfl (lv_at hl 0 rfl) ?_
      refine lv_bipush (v := 100) hx hb dJ6_getChars_ba4f3_29 (by decide) ?_
      refine lv_idiv hx hb dJ6_getChars_ba4f3_31 (by decide) ?_
      refine lv_topi (fun x3_1 ev => ?_)
      have hf := lt_n ev hf; clear ev
      refine lv_istore_n (lv' := [(3, .int x3_1), (0, .int x0), (2, .ref a2), (5, .int x5), (6, .int x6)]) hx hb dJ6_getChars_ba4f3_32 rfl hl (by decide) rfl (fun ls hl => ?_)
      refine lv_iload_n hx hb dJ6_getChars_ba4f3_33 rfl (lv_at hl 0 rfl) ?_
      refine lv_bipush (v := 100) hx hb dJ6_getChars_ba4f3_34 (by decide) ?_
      refine lv_imul hx hb dJ6_getChars_ba4f3_36 ?_
      refine lv_iload_n hx hb dJ6_getChars_ba4f3_37 rfl (lv_at hl 1 rfl) ?_
      refine lv_isub hx hb dJ6_getChars_ba4f3_38 ?_
      refine lv_topi (fun x4_2 ev => ?_)
      have hf := lt_n ev hf; clear ev
      refine lv_istore (lv' := [(4, .int x4_2), (3, .int x3_1), (0, .int x0), (2, .ref a2), (5, .int x5), (6, .int x6)]) hx hb dJ6_getChars_ba4f3_39 hl (by decide) rfl (fun ls hl => ?_)
      refine lv_iload_n hx hb dJ6_getChars_ba4f3_41 rfl (lv_at hl 1 rfl) ?_
      refine lv_istore_n (lv' := [(0, .int x3_1), (4, .int x4_2), (3, .int x3_1), (2, .ref a2), (5, .int x5), (6, .int x6)]) hx hb dJ6_getChars_ba4f3_42 rfl hl (by decide) rfl (fun ls hl => ?_)
      refine lv_aload_n hx hb dJ6_getChars_ba4f3_43 rfl (lv_at hl 3 rfl) ?_
      obtain ⟨x5_3, ev⟩ : ∃ y : Int32, y = x5 + (-1) := ⟨_, rfl⟩
      refine lv_iinc (v := x5_3) (lv' := [(5, .int x5_3), (0, .int x3_1), (4, .int x4_2), (3, .int x3_1), (2, .ref a2), (6, .int x6)]) hx hb dJ6_getChars_ba4f3_44 hl (k := 4) rfl (by rw [ev]; rfl) (by decide) rfl (fun ls hl => ?_)
      have hf := lt_n ev hf; clear ev
      refine lv_iload hx hb dJ6_getChars_ba4f3_47 (lv_at hl 0 rfl) ?_
      refine va_gets hx hb (B.2.2.2.2.2.1.2.2.2.2.2.1.1) w.2.2 hown (hts _ kw_1061) (fun _ h => h) dJ6_getChars_ba4f3_49 ?_
      refine lv_iload hx hb dJ6_getChars_ba4f3_52 (lv_at hl 2 rfl) ?_
      obtain ⟨hin, hf⟩ := ld_e hf
      refine va_tb hx hb (B.2.2.2.2.2.1.2.2.2.2.2.1.2) w.2.2 hin rfl dJ6_getChars_ba4f3_54 ?_
      refine lv_topi (fun v_4 ev => ?_)
      have hf := hf _ ev; clear ev
      obtain ⟨hin, hf⟩ := sto_e hf
      refine mx_bast B w 0 rfl hin dJ6_getChars_ba4f3_55 (fun f2_5 H locs ev w => ?_)
      have hf := hf _ ev; clear ev
      have w : mW E A s [(a2, .inl (E.2.2.1, L2, .inl f2_5))] H locs := w
      refine lv_aload_n hx hb dJ6_getChars_ba4f3_56 rfl (lv_at hl 4 rfl) ?_
      obtain ⟨x5_6, ev⟩ : ∃ y : Int32, y = x5_3 + (-1) := ⟨_, rfl⟩
      refine lv_iinc (v := x5_6) (lv' := [(5, .int x5_6), (0, .int x3_1), (4, .int x4_2), (3, .int x3_1), (2, .ref a2), (6, .int x6)]) hx hb dJ6_getChars_ba4f3_57 hl (k := 0) rfl (by rw [ev]; rfl) (by decide) rfl (fun ls hl => ?_)
      have hf := lt_n ev hf; clear ev
      refine lv_iload hx hb dJ6_getChars_ba4f3_60 (lv_at hl 0 rfl) ?_
      refine va_gets hx hb (B.2.2.2.2.2.1.2.2.2.2.2.2.1.1) w.2.2 hown (hts _ kw_1063) (fun _ h => h) dJ6_getChars_ba4f3_62 ?_
      refine lv_iload hx hb dJ6_getChars_ba4f3_65 (lv_at hl 2 rfl) ?_
      obtain ⟨hin, hf⟩ := ld_e hf
      refine va_tb hx hb (B.2.2.2.2.2.1.2.2.2.2.2.2.1.2) w.2.2 hin rfl dJ6_getChars_ba4f3_67 ?_
      refine lv_topi (fun v_7 ev => ?_)
      have hf := hf _ ev; clear ev
      obtain ⟨hin, hf⟩ := sto_e hf
      refine mx_bast B w 0 rfl hin dJ6_getChars_ba4f3_68 (fun f2_8 H locs ev w => ?_)
      have hf := hf _ ev; clear ev
      have w : mW E A s [(a2, .inl (E.2.2.1, L2, .inl f2_8))] H locs := w
      refine lv_goto (tgt := 22) hx hb dJ6_getChars_ba4f3_69 (by decide) ?_
      exact hrec _ _ _ _ _ _ hf  w (lv_sub hl [1, 4, 0, 5] rfl)
noncomputable def J_J6_getChars_ba4f3_104 (N : Nat) (L2 : Nat)  (x5 : Int32) (x6 : Int32) (f2 : Nat → Int32) : Option (Int32 × (Nat → Int32)) :=
  if (x6 = 0 : Prop) then
  some (x5, f2)
  else
  lt (x5 + (-1)) (fun x5_12 =>
  sto f2 L2 x5_12 (vp_nar .byte 45) (fun f2_13 =>
  some (x5_12, f2_13)))
set_option maxHeartbeats 4000000 in
set_option maxRecDepth 100000 in
theorem j_J6_getChars_ba4f3_104 {E : mE} {l : Launch} {p : Program} {e : Env} {s : State} {m : MethodId} {args : Array Value} {below : List Frame} {meth : Method} {c : Code} {A : Nat → Prop} {Q : State → Prop} {N : Nat} {a2 : Nat} {L2 : Nat} {f20 : Nat → Int32}  {o : Int32 × (Nat → Int32)} (B : mB E yJ6_getChars_ba4f3 cJ6_getChars_ba4f3 7 (some .int) 0 0 (po_J6_getChars_ba4f3 E a2 L2 f20 o) p s m args below meth c A Q) {x5 : Int32} {x6 : Int32} {f2 : Nat → Int32}    {H : Heap} {locs : List Loc} {ls : Array Slot} (hf : J_J6_getChars_ba4f3_104 N L2 x5 x6 f2 = some o)  (w : mW E A s [(a2, .inl (E.2.2.1, L2, .inl f2))] H locs) (hl : lv_has ls 7 [(2, .ref a2), (5, .int x5), (6, .int x6)]) : W p l e ({ frames := 0, cells := 0, slots := 0, locals := 0 } : Room) s m args below meth c H locs 0 0 Q (F0 m 104 ls []) := by
  obtain ⟨hx, hb, hml, hown, hts⟩ := id B.1
  unfold J_J6_getChars_ba4f3_104 at hf
  refine lv_iload hx hb dJ6_getChars_ba4f3_104 (lv_at hl 2 rfl) ?_
  refine lv_if_eq (tgt := 118) hx hb dJ6_getChars_ba4f3_106 (by decide) (fun hc => ?_) (fun hc => ?_)
  · have hf := it_t hc hf
    refine lv_iload hx hb dJ6_getChars_ba4f3_118 (lv_at hl 1 rfl) ?_
    cases hf
    exact mx_iret B w ⟨rfl, rfl⟩ dJ6_getChars_ba4f3_120
  · have hf := it_f hc hf
    refine lv_aload_n hx hb dJ6_getChars_ba4f3_109 rfl (lv_at hl 0 rfl) ?_
    obtain ⟨x5_12, ev⟩ : ∃ y : Int32, y = x5 + (-1) := ⟨_, rfl⟩
    refine lv_iinc (v := x5_12) (lv' := [(5, .int x5_12), (2, .ref a2), (6, .int x6)]) hx hb dJ6_getChars_ba4f3_110 hl (k := 1) rfl (by rw [ev]; rfl) (by decide) rfl (fun ls hl => ?_)
    have hf := lt_n ev hf; clear ev
    refine lv_iload hx hb dJ6_getChars_ba4f3_113 (lv_at hl 0 rfl) ?_
    refine lv_bipush (v := 45) hx hb dJ6_getChars_ba4f3_115 (by decide) ?_
    obtain ⟨hin, hf⟩ := sto_e hf
    refine mx_bast B w 0 rfl hin dJ6_getChars_ba4f3_117 (fun f2_13 H locs ev w => ?_)
    have hf := hf _ ev; clear ev
    have w : mW E A s [(a2, .inl (E.2.2.1, L2, .inl f2_13))] H locs := w
    refine lv_iload hx hb dJ6_getChars_ba4f3_118 (lv_at hl 0 rfl) ?_
    cases hf
    exact mx_iret B w ⟨rfl, rfl⟩ dJ6_getChars_ba4f3_120
noncomputable def J_J6_getChars_ba4f3_12 (N : Nat) (L2 : Nat)  (t0 : Int32) (x0 : Int32) (x5 : Int32) (f2 : Nat → Int32) : Option (Int32 × (Nat → Int32)) :=
  if (t0 = 0 : Prop) then
  lt (-x0) (fun x0_17 =>
  L_J6_getChars_ba4f3_22 N L2 (fun x0 x5 f2 => lt (x5 + (-1)) (fun x5_18 =>
  ld zOnes 100 (-x0) (fun v_19 =>
  sto f2 L2 x5_18 (vp_nar .byte v_19) (fun f2_20 =>
  if (((-9)) ≤ x0 : Prop) then
  J_J6_getChars_ba4f3_104 N L2 x5_18 t0 f2_20
  else
  lt (x5_18 + (-1)) (fun x5_21 =>
  ld zTens 100 (-x0) (fun v_22 =>
  sto f2_20 L2 x5_21 (vp_nar .byte v_22) (fun f2_23 =>
  J_J6_getChars_ba4f3_104 N L2 x5_21 t0 f2_23))))))) t0 N x0_17 x5 f2)
  else
  L_J6_getChars_ba4f3_22 N L2 (fun x0 x5 f2 => lt (x5 + (-1)) (fun x5_9 =>
  ld zOnes 100 (-x0) (fun v_10 =>
  sto f2 L2 x5_9 (vp_nar .byte v_10) (fun f2_11 =>
  if (((-9)) ≤ x0 : Prop) then
  J_J6_getChars_ba4f3_104 N L2 x5_9 t0 f2_11
  else
  lt (x5_9 + (-1)) (fun x5_14 =>
  ld zTens 100 (-x0) (fun v_15 =>
  sto f2_11 L2 x5_14 (vp_nar .byte v_15) (fun f2_16 =>
  J_J6_getChars_ba4f3_104 N L2 x5_14 t0 f2_16))))))) t0 N x0 x5 f2
set_option maxHeartbeats 4000000 in
set_option maxRecDepth 100000 in
theorem j_J6_getChars_ba4f3_12 {E : mE} {l : Launch} {p : Program} {e : Env} {s : State} {m : MethodId} {args : Array Value} {below : List Frame} {meth : Method} {c : Code} {A : Nat → Prop} {Q : State → Prop} {N : Nat} {a2 : Nat} {L2 : Nat} {f20 : Nat → Int32}  {o : Int32 × (Nat → Int32)} (B : mB E yJ6_getChars_ba4f3 cJ6_getChars_ba4f3 7 (some .int) 0 0 (po_J6_getChars_ba4f3 E a2 L2 f20 o) p s m args below meth c A Q) {t0 : Int32} {x0 : Int32} {x5 : Int32} {f2 : Nat → Int32}    {H : Heap} {locs : List Loc} {ls : Array Slot} (hf : J_J6_getChars_ba4f3_12 N L2 t0 x0 x5 f2 = some o)  (w : mW E A s [(a2, .inl (E.2.2.1, L2, .inl f2))] H locs) (hl : lv_has ls 7 [(0, .int x0), (2, .ref a2), (5, .int x5)]) : W p l e ({ frames := 0, cells := 0, slots := 0, locals := 0 } : Room) s m args below meth c H locs 0 0 Q (F0 m 12 ls [.int t0]) := by
  obtain ⟨hx, hb, hml, hown, hts⟩ := id B.1
  unfold J_J6_getChars_ba4f3_12 at hf
  refine lv_istore (lv' := [(6, .int t0), (0, .int x0), (2, .ref a2), (5, .int x5)]) hx hb dJ6_getChars_ba4f3_12 hl (by decide) rfl (fun ls hl => ?_)
  refine lv_iload hx hb dJ6_getChars_ba4f3_14 (lv_at hl 0 rfl) ?_
  refine lv_if_ne (tgt := 22) hx hb dJ6_getChars_ba4f3_16 (by decide) (fun hc => ?_) (fun hc => ?_)
  · have hf := it_f hc hf
    refine l_J6_getChars_ba4f3_22 B _  ?_ N _ _ _ _ _ _ hf  w (lv_sub hl [1, 2, 3, 0] rfl)
    · intro x0 x5 f2 H locs ls hf w hl
      refine lv_aload_n hx hb dJ6_getChars_ba4f3_72 rfl (lv_at hl 1 rfl) ?_
      obtain ⟨x5_9, ev⟩ : ∃ y : Int32, y = x5 + (-1) := ⟨_, rfl⟩
      refine lv_iinc (v := x5_9) (lv' := [(5, .int x5_9), (0, .int x0), (2, .ref a2), (6, .int t0)]) hx hb dJ6_getChars_ba4f3_73 hl (k := 2) rfl (by rw [ev]; rfl) (by decide) rfl (fun ls hl => ?_)
      have hf := lt_n ev hf; clear ev
      refine lv_iload hx hb dJ6_getChars_ba4f3_76 (lv_at hl 0 rfl) ?_
      refine va_gets hx hb (B.2.2.2.2.2.1.2.2.2.2.2.1.1) w.2.2 hown (hts _ kw_1061) (fun _ h => h) dJ6_getChars_ba4f3_78 ?_
      refine lv_iload_n hx hb dJ6_getChars_ba4f3_81 rfl (lv_at hl 1 rfl) ?_
      refine lv_ineg hx hb dJ6_getChars_ba4f3_82 ?_
      obtain ⟨hin, hf⟩ := ld_e hf
      refine va_tb hx hb (B.2.2.2.2.2.1.2.2.2.2.2.1.2) w.2.2 hin rfl dJ6_getChars_ba4f3_83 ?_
      refine lv_topi (fun v_10 ev => ?_)
      have hf := hf _ ev; clear ev
      obtain ⟨hin, hf⟩ := sto_e hf
      refine mx_bast B w 0 rfl hin dJ6_getChars_ba4f3_84 (fun f2_11 H locs ev w => ?_)
      have hf := hf _ ev; clear ev
      have w : mW E A s [(a2, .inl (E.2.2.1, L2, .inl f2_11))] H locs := w
      refine lv_iload_n hx hb dJ6_getChars_ba4f3_85 rfl (lv_at hl 1 rfl) ?_
      refine lv_bipush (v := (-9)) hx hb dJ6_getChars_ba4f3_86 (by decide) ?_
      refine lv_icmp_ge (tgt := 104) hx hb dJ6_getChars_ba4f3_88 (by decide) (fun hc => ?_) (fun hc => ?_)
      · have hf := it_t hc hf
        exact j_J6_getChars_ba4f3_104 B   hf  w (lv_sub hl [2, 0, 3] rfl)
      · have hf := it_f hc hf
        refine lv_aload_n hx hb dJ6_getChars_ba4f3_91 rfl (lv_at hl 2 rfl) ?_
        obtain ⟨x5_14, ev⟩ : ∃ y : Int32, y = x5_9 + (-1) := ⟨_, rfl⟩
        refine lv_iinc (v := x5_14) (lv' := [(5, .int x5_14), (0, .int x0), (2, .ref a2), (6, .int t0)]) hx hb dJ6_getChars_ba4f3_92 hl (k := 0) rfl (by rw [ev]; rfl) (by decide) rfl (fun ls hl => ?_)
        have hf := lt_n ev hf; clear ev
        refine lv_iload hx hb dJ6_getChars_ba4f3_95 (lv_at hl 0 rfl) ?_
        refine va_gets hx hb (B.2.2.2.2.2.1.2.2.2.2.2.2.1.1) w.2.2 hown (hts _ kw_1063) (fun _ h => h) dJ6_getChars_ba4f3_97 ?_
        refine lv_iload_n hx hb dJ6_getChars_ba4f3_100 rfl (lv_at hl 1 rfl) ?_
        refine lv_ineg hx hb dJ6_getChars_ba4f3_101 ?_
        obtain ⟨hin, hf⟩ := ld_e hf
        refine va_tb hx hb (B.2.2.2.2.2.1.2.2.2.2.2.2.1.2) w.2.2 hin rfl dJ6_getChars_ba4f3_102 ?_
        refine lv_topi (fun v_15 ev => ?_)
        have hf := hf _ ev; clear ev
        obtain ⟨hin, hf⟩ := sto_e hf
        refine mx_bast B w 0 rfl hin dJ6_getChars_ba4f3_103 (fun f2_16 H locs ev w => ?_)
        have hf := hf _ ev; clear ev
        have w : mW E A s [(a2, .inl (E.2.2.1, L2, .inl f2_16))] H locs := w
        exact j_J6_getChars_ba4f3_104 B   hf  w (lv_sub hl [2, 0, 3] rfl)
  · have hf := it_t hc hf
    refine lv_iload_n hx hb dJ6_getChars_ba4f3_19 rfl (lv_at hl 1 rfl) ?_
    refine lv_ineg hx hb dJ6_getChars_ba4f3_20 ?_
    refine lv_topi (fun x0_17 ev => ?_)
    have hf := lt_n ev hf; clear ev
    refine lv_istore_n (lv' := [(0, .int x0_17), (6, .int t0), (2, .ref a2), (5, .int x5)]) hx hb dJ6_getChars_ba4f3_21 rfl hl (by decide) rfl (fun ls hl => ?_)
    refine l_J6_getChars_ba4f3_22 B _  ?_ N _ _ _ _ _ _ hf  w (lv_sub hl [0, 2, 3, 1] rfl)
    · intro x0 x5 f2 H locs ls hf w hl
      refine lv_aload_n hx hb dJ6_getChars_ba4f3_72 rfl (lv_at hl 1 rfl) ?_
      obtain ⟨x5_18, ev⟩ : ∃ y : Int32, y = x5 + (-1) := ⟨_, rfl⟩
      refine lv_iinc (v := x5_18) (lv' := [(5, .int x5_18), (0, .int x0), (2, .ref a2), (6, .int t0)]) hx hb dJ6_getChars_ba4f3_73 hl (k := 2) rfl (by rw [ev]; rfl) (by decide) rfl (fun ls hl => ?_)
      have hf := lt_n ev hf; clear ev
      refine lv_iload hx hb dJ6_getChars_ba4f3_76 (lv_at hl 0 rfl) ?_
      refine va_gets hx hb (B.2.2.2.2.2.1.2.2.2.2.2.1.1) w.2.2 hown (hts _ kw_1061) (fun _ h => h) dJ6_getChars_ba4f3_78 ?_
      refine lv_iload_n hx hb dJ6_getChars_ba4f3_81 rfl (lv_at hl 1 rfl) ?_
      refine lv_ineg hx hb dJ6_getChars_ba4f3_82 ?_
      obtain ⟨hin, hf⟩ := ld_e hf
      refine va_tb hx hb (B.2.2.2.2.2.1.2.2.2.2.2.1.2) w.2.2 hin rfl dJ6_getChars_ba4f3_83 ?_
      refine lv_topi (fun v_19 ev => ?_)
      have hf := hf _ ev; clear ev
      obtain ⟨hin, hf⟩ := sto_e hf
      refine mx_bast B w 0 rfl hin dJ6_getChars_ba4f3_84 (fun f2_20 H locs ev w => ?_)
      have hf := hf _ ev; clear ev
      have w : mW E A s [(a2, .inl (E.2.2.1, L2, .inl f2_20))] H locs := w
      refine lv_iload_n hx hb dJ6_getChars_ba4f3_85 rfl (lv_at hl 1 rfl) ?_
      refine lv_bipush (v := (-9)) hx hb dJ6_getChars_ba4f3_86 (by decide) ?_
      refine lv_icmp_ge (tgt := 104) hx hb dJ6_getChars_ba4f3_88 (by decide) (fun hc => ?_) (fun hc => ?_)
      · have hf := it_t hc hf
        exact j_J6_getChars_ba4f3_104 B   hf  w (lv_sub hl [2, 0, 3] rfl)
      · have hf := it_f hc hf
        refine lv_aload_n hx hb dJ6_getChars_ba4f3_91 rfl (lv_at hl 2 rfl) ?_
        obtain ⟨x5_21, ev⟩ : ∃ y : Int32, y = x5_18 + (-1) := ⟨_, rfl⟩
        refine lv_iinc (v := x5_21) (lv' := [(5, .int x5_21), (0, .int x0), (2, .ref a2), (6, .int t0)]) hx hb dJ6_getChars_ba4f3_92 hl (k := 0) rfl (by rw [ev]; rfl) (by decide) rfl (fun ls hl => ?_)
        have hf := lt_n ev hf; clear ev
        refine lv_iload hx hb dJ6_getChars_ba4f3_95 (lv_at hl 0 rfl) ?_
        refine va_gets hx hb (B.2.2.2.2.2.1.2.2.2.2.2.2.1.1) w.2.2 hown (hts _ kw_1063) (fun _ h => h) dJ6_getChars_ba4f3_97 ?_
        refine lv_iload_n hx hb dJ6_getChars_ba4f3_100 rfl (lv_at hl 1 rfl) ?_
        refine lv_ineg hx hb dJ6_getChars_ba4f3_101 ?_
        obtain ⟨hin, hf⟩ := ld_e hf
        refine va_tb hx hb (B.2.2.2.2.2.1.2.2.2.2.2.2.1.2) w.2.2 hin rfl dJ6_getChars_ba4f3_102 ?_
        refine lv_topi (fun v_22 ev => ?_)
        have hf := hf _ ev; clear ev
        obtain ⟨hin, hf⟩ := sto_e hf
        refine mx_bast B w 0 rfl hin dJ6_getChars_ba4f3_103 (fun f2_23 H locs ev w => ?_)
        have hf := hf _ ev; clear ev
        have w : mW E A s [(a2, .inl (E.2.2.1, L2, .inl f2_23))] H locs := w
        exact j_J6_getChars_ba4f3_104 B   hf  w (lv_sub hl [2, 0, 3] rfl)
noncomputable def F_J6_getChars_ba4f3 (N : Nat) (L2 : Nat) (f2 : Nat → Int32) (x0 : Int32) (x1 : Int32) : Option (Int32 × (Nat → Int32)) :=
  if (0 ≤ x0 : Prop) then
  J_J6_getChars_ba4f3_12 N L2 0 x0 x1 f2
  else
  J_J6_getChars_ba4f3_12 N L2 1 x0 x1 f2
set_option maxHeartbeats 4000000 in
set_option maxRecDepth 100000 in
theorem d_J6_getChars_ba4f3 (E : mE) (l : Launch) (N : Nat) (a2 : Nat) (L2 : Nat) (f2 : Nat → Int32)  (x0 : Int32) (x1 : Int32)  (o : Int32 × (Nat → Int32)) (hf : F_J6_getChars_ba4f3 N L2 f2 x0 x1 = some o) : MX E l yJ6_getChars_ba4f3 cJ6_getChars_ba4f3 7 (some .int) ({ frames := 0, cells := 0, slots := 0, locals := 0 } : Room) [.int x0, .int x1, .ref a2] [(a2, .inl (E.2.2.1, L2, .inl f2))] (po_J6_getChars_ba4f3 E a2 L2 f2 o) := by
  refine mx_intro (by decide +kernel) (Nat.le_of_ble_eq_true rfl) ?_
  intro p e s m args below meth c A Q ls B w hl
  obtain ⟨hx, hb, hml, hown, hts⟩ := id B.1
  unfold F_J6_getChars_ba4f3 at hf
  have hl : lv_has ls 7 [(0, .int x0), (1, .int x1), (2, .ref a2)] := hl
  refine lv_iload_n hx hb dJ6_getChars_ba4f3_0 rfl (lv_at hl 1 rfl) ?_
  refine lv_istore (lv' := [(5, .int x1), (0, .int x0), (1, .int x1), (2, .ref a2)]) hx hb dJ6_getChars_ba4f3_1 hl (by decide) rfl (fun ls hl => ?_)
  refine lv_iload_n hx hb dJ6_getChars_ba4f3_3 rfl (lv_at hl 1 rfl) ?_
  refine lv_if_ge (tgt := 11) hx hb dJ6_getChars_ba4f3_4 (by decide) (fun hc => ?_) (fun hc => ?_)
  · have hf := it_t hc hf
    refine lv_iconst (v := 0) hx hb dJ6_getChars_ba4f3_11 (by decide) ?_
    exact j_J6_getChars_ba4f3_12 B   hf  w (lv_sub hl [1, 3, 0] rfl)
  · have hf := it_f hc hf
    refine lv_iconst (v := 1) hx hb dJ6_getChars_ba4f3_7 (by decide) ?_
    refine lv_goto (tgt := 12) hx hb dJ6_getChars_ba4f3_8 (by decide) ?_
    exact j_J6_getChars_ba4f3_12 B   hf  w (lv_sub hl [1, 3, 0] rfl)
-- J5_length_8abf5
def po_J5_length_8abf5 (E : mE) (h : Nat) (a : Nat) (L : Nat) (ml : Int32) (cnt : Int32) (f : Nat → Int32)  (o : Int32) : Option Value → va_W → Prop := (fun (v : Option Value) (w' : va_W) => v = some (.int o) ∧ w' = [(h, .inr (12, [.ref a, .int (0 : Int32), .int ml, .int cnt])), (a, .inl (E.2.2.1, L, .inl f))])
noncomputable def F_J5_length_8abf5 (L : Nat) (cnt : Int32)  : Option (Int32) :=
  some (cnt)
set_option maxHeartbeats 4000000 in
set_option maxRecDepth 100000 in
theorem d_J5_length_8abf5 (E : mE) (l : Launch) (h : Nat) (a : Nat) (L : Nat) (ml : Int32) (cnt : Int32) (f : Nat → Int32)    (o : Int32) (hf : F_J5_length_8abf5 L cnt = some o) : MX E l yJ5_length_8abf5 cJ5_length_8abf5 1 (some .int) ({ frames := 0, cells := 0, slots := 0, locals := 0 } : Room) [.ref h] [(h, .inr (12, [.ref a, .int (0 : Int32), .int ml, .int cnt])), (a, .inl (E.2.2.1, L, .inl f))] (po_J5_length_8abf5 E h a L ml cnt f o) := by
  refine mx_intro (by decide +kernel) (Nat.le_of_ble_eq_true rfl) ?_
  intro p e s m args below meth c A Q ls B w hl
  obtain ⟨hx, hb, hml, hown, hts⟩ := id B.1
  unfold F_J5_length_8abf5 at hf
  have hl : lv_has ls 1 [(0, .ref h)] := hl
  refine lv_aload_n hx hb dJ5_length_8abf5_0 rfl (lv_at hl 0 rfl) ?_
  refine mx_get B w 0 fl_J5_79 rfl rfl dJ5_length_8abf5_1 ?_
  cases hf
  exact mx_iret B w ⟨rfl, rfl⟩ dJ5_length_8abf5_4
-- J5_isLatin1_aae02
def po_J5_isLatin1_aae02 (E : mE) (h : Nat) (a : Nat) (L : Nat) (ml : Int32) (cnt : Int32) (f : Nat → Int32)  (o : Int32) : Option Value → va_W → Prop := (fun (v : Option Value) (w' : va_W) => v = some (.int o) ∧ w' = [(h, .inr (12, [.ref a, .int (0 : Int32), .int ml, .int cnt])), (a, .inl (E.2.2.1, L, .inl f))])
noncomputable def F_J5_isLatin1_aae02 (L : Nat)   : Option (Int32) :=
  ck (¬ ((1 : Int32) = 0)) (ck ((0 : Int32) = 0) (some (1)))
set_option maxHeartbeats 4000000 in
set_option maxRecDepth 100000 in
theorem d_J5_isLatin1_aae02 (E : mE) (l : Launch) (h : Nat) (a : Nat) (L : Nat) (ml : Int32) (cnt : Int32) (f : Nat → Int32)    (o : Int32) (hf : F_J5_isLatin1_aae02 L = some o) : MX E l yJ5_isLatin1_aae02 cJ5_isLatin1_aae02 1 (some .boolean) ({ frames := 0, cells := 0, slots := 0, locals := 0 } : Room) [.ref h] [(h, .inr (12, [.ref a, .int (0 : Int32), .int ml, .int cnt])), (a, .inl (E.2.2.1, L, .inl f))] (po_J5_isLatin1_aae02 E h a L ml cnt f o) := by
  refine mx_intro (by decide +kernel) (Nat.le_of_ble_eq_true rfl) ?_
  intro p e s m args below meth c A Q ls B w hl
  obtain ⟨hx, hb, hml, hown, hts⟩ := id B.1
  unfold F_J5_isLatin1_aae02 at hf
  have hl : lv_has ls 1 [(0, .ref h)] := hl
  refine va_gets hx hb (B.2.2.2.2.2.1.2.2.2.2.1) w.2.2 hown (hts _ kw_929) (fun _ h => h) dJ5_isLatin1_aae02_0 ?_
  obtain ⟨hck, hf⟩ := ck_e hf
  refine lv_if_eq (tgt := 17) hx hb dJ5_isLatin1_aae02_3 (by decide) (fun hc => absurd hc hck) (fun _ => ?_)
  refine lv_aload_n hx hb dJ5_isLatin1_aae02_6 rfl (lv_at hl 0 rfl) ?_
  refine mx_get B w 0 fl_J5_22 rfl rfl dJ5_isLatin1_aae02_7 ?_
  obtain ⟨hck, hf⟩ := ck_e hf
  refine lv_if_ne (tgt := 17) hx hb dJ5_isLatin1_aae02_10 (by decide) (fun hc => absurd hck hc) (fun _ => ?_)
  refine lv_iconst (v := 1) hx hb dJ5_isLatin1_aae02_13 (by decide) ?_
  refine lv_goto (tgt := 18) hx hb dJ5_isLatin1_aae02_14 (by decide) ?_
  cases hf
  exact mx_zret B w rfl ⟨rfl, rfl⟩ dJ5_isLatin1_aae02_18
-- J1_canEncode_fc78d
def po_J1_canEncode_fc78d (E : mE)     (o : Int32) : Option Value → va_W → Prop := (fun (v : Option Value) (w' : va_W) => v = some (.int o) ∧ w' = [])
noncomputable def F_J1_canEncode_fc78d   (x0 : Int32) : Option (Int32) :=
  if (255 < x0 : Prop) then
  some (0)
  else
  some (1)
set_option maxHeartbeats 4000000 in
set_option maxRecDepth 100000 in
theorem d_J1_canEncode_fc78d (E : mE) (l : Launch)     (x0 : Int32)  (o : Int32) (hf : F_J1_canEncode_fc78d x0 = some o) : MX E l yJ1_canEncode_fc78d cJ1_canEncode_fc78d 1 (some .boolean) ({ frames := 0, cells := 0, slots := 0, locals := 0 } : Room) [.int x0] [] (po_J1_canEncode_fc78d E o) := by
  refine mx_intro (by decide +kernel) (Nat.le_of_ble_eq_true rfl) ?_
  intro p e s m args below meth c A Q ls B w hl
  obtain ⟨hx, hb, hml, hown, hts⟩ := id B.1
  unfold F_J1_canEncode_fc78d at hf
  have hl : lv_has ls 1 [(0, .int x0)] := hl
  refine lv_iload_n hx hb dJ1_canEncode_fc78d_0 rfl (lv_at hl 0 rfl) ?_
  refine lv_sipush (v := 255) hx hb dJ1_canEncode_fc78d_1 (by decide) ?_
  refine lv_icmp_gt (tgt := 11) hx hb dJ1_canEncode_fc78d_4 (by decide) (fun hc => ?_) (fun hc => ?_)
  · have hf := it_t hc hf
    refine lv_iconst (v := 0) hx hb dJ1_canEncode_fc78d_11 (by decide) ?_
    cases hf
    exact mx_zret B w rfl ⟨rfl, rfl⟩ dJ1_canEncode_fc78d_12
  · have hf := it_f hc hf
    refine lv_iconst (v := 1) hx hb dJ1_canEncode_fc78d_7 (by decide) ?_
    refine lv_goto (tgt := 12) hx hb dJ1_canEncode_fc78d_8 (by decide) ?_
    cases hf
    exact mx_zret B w rfl ⟨rfl, rfl⟩ dJ1_canEncode_fc78d_12
-- J8_newLength_cabcc
def po_J8_newLength_cabcc (E : mE)     (o : Int32) : Option Value → va_W → Prop := (fun (v : Option Value) (w' : va_W) => v = some (.int o) ∧ w' = [])
noncomputable def F_J8_newLength_cabcc   (x0 : Int32) (x1 : Int32) (x2 : Int32) : Option (Int32) :=
  lt (x0 + (imx x1 x2)) (fun x3_1 =>
  ck (¬ (x3_1 ≤ 0)) (ck (¬ (2147483639 < x3_1)) (some (x3_1))))
set_option maxHeartbeats 4000000 in
set_option maxRecDepth 100000 in
theorem d_J8_newLength_cabcc (E : mE) (l : Launch)     (x0 : Int32) (x1 : Int32) (x2 : Int32)  (o : Int32) (hf : F_J8_newLength_cabcc x0 x1 x2 = some o) : MX E l yJ8_newLength_cabcc cJ8_newLength_cabcc 4 (some .int) ({ frames := 1, cells := 0, slots := 0, locals := 21 } : Room) [.int x0, .int x1, .int x2] [] (po_J8_newLength_cabcc E o) := by
  refine mx_intro (by decide +kernel) (Nat.le_of_ble_eq_true rfl) ?_
  intro p e s m args below meth c A Q ls B w hl
  obtain ⟨hx, hb, hml, hown, hts⟩ := id B.1
  unfold F_J8_newLength_cabcc at hf
  have hl : lv_has ls 4 [(0, .int x0), (1, .int x1), (2, .int x2)] := hl
  refine lv_iload_n hx hb dJ8_newLength_cabcc_0 rfl (lv_at hl 0 rfl) ?_
  refine lv_iload_n hx hb dJ8_newLength_cabcc_1 rfl (lv_at hl 1 rfl) ?_
  refine lv_iload_n hx hb dJ8_newLength_cabcc_2 rfl (lv_at hl 2 rfl) ?_
  refine va_mmax hx hb (by rw [hml]; exact hl.1.symm) hown (hts _ kl_max_J8) (hts _ kw_static_max) (hts _ kw_init_math) (hts _ kw_code_max) (Nat.le_of_ble_eq_true rfl) (Nat.le_of_ble_eq_true rfl) (Nat.le_of_ble_eq_true rfl) (Nat.le_of_ble_eq_true rfl) dJ8_newLength_cabcc_3 ?_
  refine lv_iadd hx hb dJ8_newLength_cabcc_6 ?_
  refine lv_topi (fun x3_1 ev => ?_)
  have hf := lt_n ev hf; clear ev
  refine lv_istore_n (lv' := [(3, .int x3_1), (0, .int x0), (1, .int x1), (2, .int x2)]) hx hb dJ8_newLength_cabcc_7 rfl hl (by decide) rfl (fun ls hl => ?_)
  refine lv_iconst (v := 0) hx hb dJ8_newLength_cabcc_8 (by decide) ?_
  refine lv_iload_n hx hb dJ8_newLength_cabcc_9 rfl (lv_at hl 0 rfl) ?_
  obtain ⟨hck, hf⟩ := ck_e hf
  refine lv_icmp_ge (tgt := 21) hx hb dJ8_newLength_cabcc_10 (by decide) (fun hc => absurd hc hck) (fun _ => ?_)
  refine lv_iload_n hx hb dJ8_newLength_cabcc_13 rfl (lv_at hl 0 rfl) ?_
  refine lv_ldc hx hb hown (hts _ kw_976) dJ8_newLength_cabcc_14 ?_
  obtain ⟨hck, hf⟩ := ck_e hf
  refine lv_icmp_gt (tgt := 21) hx hb dJ8_newLength_cabcc_16 (by decide) (fun hc => absurd hc hck) (fun _ => ?_)
  refine lv_iload_n hx hb dJ8_newLength_cabcc_19 rfl (lv_at hl 0 rfl) ?_
  cases hf
  exact mx_iret B w ⟨rfl, rfl⟩ dJ8_newLength_cabcc_20
-- J5_newCapacity_0f7a4
def po_J5_newCapacity_0f7a4 (E : mE) (h : Nat) (a : Nat) (L : Nat) (ml : Int32) (cnt : Int32) (f : Nat → Int32)  (o : Int32) : Option Value → va_W → Prop := (fun (v : Option Value) (w' : va_W) => v = some (.int o) ∧ w' = [(h, .inr (12, [.ref a, .int (0 : Int32), .int ml, .int cnt])), (a, .inl (E.2.2.1, L, .inl f))])
noncomputable def F_J5_newCapacity_0f7a4 (L : Nat)  (x1 : Int32) : Option (Int32) :=
  lt (nI L) (fun x2_1 =>
  lt (x1 <<< ((0 : Int32) &&& 31)) (fun x3_2 =>
  lt (x3_2 - x2_1) (fun x4_3 =>
  bd (F_J8_newLength_cabcc x2_1 x4_3 (x2_1 + ((2 : Int32) <<< ((0 : Int32) &&& 31)))) (fun o_4 =>
  ck (¬ (o_4 = 2147483647)) (some (o_4 >>> ((0 : Int32) &&& 31)))))))
set_option maxHeartbeats 4000000 in
set_option maxRecDepth 100000 in
theorem d_J5_newCapacity_0f7a4 (E : mE) (l : Launch) (h : Nat) (a : Nat) (L : Nat) (ml : Int32) (cnt : Int32) (f : Nat → Int32)  (x1 : Int32)  (o : Int32) (hf : F_J5_newCapacity_0f7a4 L x1 = some o) : MX E l yJ5_newCapacity_0f7a4 cJ5_newCapacity_0f7a4 6 (some .int) ({ frames := 2, cells := 0, slots := 0, locals := 44 } : Room) [.ref h, .int x1] [(h, .inr (12, [.ref a, .int (0 : Int32), .int ml, .int cnt])), (a, .inl (E.2.2.1, L, .inl f))] (po_J5_newCapacity_0f7a4 E h a L ml cnt f o) := by
  refine mx_intro (by decide +kernel) (Nat.le_of_ble_eq_true rfl) ?_
  intro p e s m args below meth c A Q ls B w hl
  obtain ⟨hx, hb, hml, hown, hts⟩ := id B.1
  unfold F_J5_newCapacity_0f7a4 at hf
  have hl : lv_has ls 6 [(0, .ref h), (1, .int x1)] := hl
  refine lv_aload_n hx hb dJ5_newCapacity_0f7a4_0 rfl (lv_at hl 0 rfl) ?_
  refine mx_get B w 0 fl_J5_15 rfl rfl dJ5_newCapacity_0f7a4_1 ?_
  refine mx_alenb B w 1 rfl dJ5_newCapacity_0f7a4_4 ?_
  refine lv_topi (fun x2_1 ev => ?_)
  have hf := lt_n ev hf; clear ev
  refine lv_istore_n (lv' := [(2, .int x2_1), (0, .ref h), (1, .int x1)]) hx hb dJ5_newCapacity_0f7a4_5 rfl hl (by decide) rfl (fun ls hl => ?_)
  refine lv_iload_n hx hb dJ5_newCapacity_0f7a4_6 rfl (lv_at hl 2 rfl) ?_
  refine lv_aload_n hx hb dJ5_newCapacity_0f7a4_7 rfl (lv_at hl 1 rfl) ?_
  refine mx_get B w 0 fl_J5_22 rfl rfl dJ5_newCapacity_0f7a4_8 ?_
  refine lv_ishl hx hb dJ5_newCapacity_0f7a4_11 ?_
  refine lv_topi (fun x3_2 ev => ?_)
  have hf := lt_n ev hf; clear ev
  refine lv_istore_n (lv' := [(3, .int x3_2), (2, .int x2_1), (0, .ref h), (1, .int x1)]) hx hb dJ5_newCapacity_0f7a4_12 rfl hl (by decide) rfl (fun ls hl => ?_)
  refine lv_iload_n hx hb dJ5_newCapacity_0f7a4_13 rfl (lv_at hl 0 rfl) ?_
  refine lv_iload_n hx hb dJ5_newCapacity_0f7a4_14 rfl (lv_at hl 1 rfl) ?_
  refine lv_isub hx hb dJ5_newCapacity_0f7a4_15 ?_
  refine lv_topi (fun x4_3 ev => ?_)
  have hf := lt_n ev hf; clear ev
  refine lv_istore (lv' := [(4, .int x4_3), (3, .int x3_2), (2, .int x2_1), (0, .ref h), (1, .int x1)]) hx hb dJ5_newCapacity_0f7a4_16 hl (by decide) rfl (fun ls hl => ?_)
  refine lv_iload_n hx hb dJ5_newCapacity_0f7a4_18 rfl (lv_at hl 2 rfl) ?_
  refine lv_iload hx hb dJ5_newCapacity_0f7a4_19 (lv_at hl 0 rfl) ?_
  refine lv_iload_n hx hb dJ5_newCapacity_0f7a4_21 rfl (lv_at hl 2 rfl) ?_
  refine lv_iconst (v := 2) hx hb dJ5_newCapacity_0f7a4_22 (by decide) ?_
  refine lv_aload_n hx hb dJ5_newCapacity_0f7a4_23 rfl (lv_at hl 3 rfl) ?_
  refine mx_get B w 0 fl_J5_22 rfl rfl dJ5_newCapacity_0f7a4_24 ?_
  refine lv_ishl hx hb dJ5_newCapacity_0f7a4_27 ?_
  refine lv_iadd hx hb dJ5_newCapacity_0f7a4_28 ?_
  obtain ⟨o_4, hq, hf⟩ := bd_e hf
  refine mx_callS (As := [.int x2_1, .int x4_3, .int (x2_1 + ((2 : Int32) <<< ((0 : Int32) &&& 31)))]) (rest := []) (wr := [(h, .inr (12, [.ref a, .int (0 : Int32), .int ml, .int cnt])), (a, .inl (E.2.2.1, L, .inl f))]) (d_J8_newLength_cabcc E l   x2_1 x4_3 (x2_1 + ((2 : Int32) <<< ((0 : Int32) &&& 31)))  o_4 hq) B w [] [0, 1] rfl rfl (by decide) (by decide) (by decide) cs_J8_newLength_cabcc kw_972 3 (by decide +kernel) ⟨Nat.le_of_ble_eq_true rfl, Nat.le_of_ble_eq_true rfl⟩ rfl hl.1 rfl (Nat.le_of_ble_eq_true rfl) dJ5_newCapacity_0f7a4_29 rfl rfl ⟨Nat.zero_le _, Nat.zero_le _⟩ (fun v w' H locs hpo w => ?_)
  clear hq
  obtain ⟨rfl, rfl⟩ := hpo
  have w : mW E A s [(h, .inr (12, [.ref a, .int (0 : Int32), .int ml, .int cnt])), (a, .inl (E.2.2.1, L, .inl f))] H locs := w
  refine lv_istore (lv' := [(5, .int o_4), (4, .int x4_3), (3, .int x3_2), (2, .int x2_1), (0, .ref h), (1, .int x1)]) hx hb dJ5_newCapacity_0f7a4_32 hl (by decide) rfl (fun ls hl => ?_)
  refine lv_iload hx hb dJ5_newCapacity_0f7a4_34 (lv_at hl 0 rfl) ?_
  refine lv_ldc hx hb hown (hts _ kw_980) dJ5_newCapacity_0f7a4_36 ?_
  obtain ⟨hck, hf⟩ := ck_e hf
  refine lv_icmp_ne (tgt := 51) hx hb dJ5_newCapacity_0f7a4_38 (by decide) (fun _ => ?_) (fun hc => absurd hc hck)
  refine lv_iload hx hb dJ5_newCapacity_0f7a4_51 (lv_at hl 0 rfl) ?_
  refine lv_aload_n hx hb dJ5_newCapacity_0f7a4_53 rfl (lv_at hl 4 rfl) ?_
  refine mx_get B w 0 fl_J5_22 rfl rfl dJ5_newCapacity_0f7a4_54 ?_
  refine lv_ishr hx hb dJ5_newCapacity_0f7a4_57 ?_
  cases hf
  exact mx_iret B w ⟨rfl, rfl⟩ dJ5_newCapacity_0f7a4_58
