abbrev cX12_in : ByteArray := prog_14_method_2_code
def yX12_in : MethodName := ⟨RX12, "in", "(III)Z"⟩
theorem dX12_in_0 : decode cX12_in 0 = .ok (.iload_n 0, 1) := by decide +kernel
theorem dX12_in_1 : decode cX12_in 1 = .ok (.iload_n 1, 1) := by decide +kernel
theorem dX12_in_2 : decode cX12_in 2 = .ok (.if_icmp .lt 12, 3) := by decide +kernel
theorem dX12_in_5 : decode cX12_in 5 = .ok (.iload_n 0, 1) := by decide +kernel
theorem dX12_in_6 : decode cX12_in 6 = .ok (.iload_n 2, 1) := by decide +kernel
theorem dX12_in_7 : decode cX12_in 7 = .ok (.if_icmp .gt 7, 3) := by decide +kernel
theorem dX12_in_10 : decode cX12_in 10 = .ok (.iconst 1, 1) := by decide +kernel
theorem dX12_in_11 : decode cX12_in 11 = .ok (.goto 4, 3) := by decide +kernel
theorem dX12_in_14 : decode cX12_in 14 = .ok (.iconst 0, 1) := by decide +kernel
theorem dX12_in_15 : decode cX12_in 15 = .ok (.ireturn, 1) := by decide +kernel
abbrev cX12_isRule : ByteArray := prog_14_method_39_code
def yX12_isRule : MethodName := ⟨RX12, "isRule", "(II)Z"⟩
theorem dX12_isRule_0 : decode cX12_isRule 0 = .ok (.iload_n 0, 1) := by decide +kernel
theorem dX12_isRule_1 : decode cX12_isRule 1 = .ok (.tableswitch 89 0 7 #[47, 56, 65, 65, 74, 82, 89, 65], 47) := by decide +kernel
theorem dX12_isRule_48 : decode cX12_isRule 48 = .ok (.iload_n 1, 1) := by decide +kernel
theorem dX12_isRule_49 : decode cX12_isRule 49 = .ok (.iconst 1, 1) := by decide +kernel
theorem dX12_isRule_50 : decode cX12_isRule 50 = .ok (.sipush 200, 3) := by decide +kernel
theorem dX12_isRule_53 : decode cX12_isRule 53 = .ok (.invokestatic 38, 3) := by decide +kernel
theorem dX12_isRule_56 : decode cX12_isRule 56 = .ok (.ireturn, 1) := by decide +kernel
theorem dX12_isRule_57 : decode cX12_isRule 57 = .ok (.iload_n 1, 1) := by decide +kernel
theorem dX12_isRule_58 : decode cX12_isRule 58 = .ok (.iconst 1, 1) := by decide +kernel
theorem dX12_isRule_59 : decode cX12_isRule 59 = .ok (.sipush 500, 3) := by decide +kernel
theorem dX12_isRule_62 : decode cX12_isRule 62 = .ok (.invokestatic 38, 3) := by decide +kernel
theorem dX12_isRule_65 : decode cX12_isRule 65 = .ok (.ireturn, 1) := by decide +kernel
theorem dX12_isRule_66 : decode cX12_isRule 66 = .ok (.iload_n 1, 1) := by decide +kernel
theorem dX12_isRule_67 : decode cX12_isRule 67 = .ok (.iconst 0, 1) := by decide +kernel
theorem dX12_isRule_68 : decode cX12_isRule 68 = .ok (.sipush 999, 3) := by decide +kernel
theorem dX12_isRule_71 : decode cX12_isRule 71 = .ok (.invokestatic 38, 3) := by decide +kernel
theorem dX12_isRule_74 : decode cX12_isRule 74 = .ok (.ireturn, 1) := by decide +kernel
theorem dX12_isRule_75 : decode cX12_isRule 75 = .ok (.iload_n 1, 1) := by decide +kernel
theorem dX12_isRule_76 : decode cX12_isRule 76 = .ok (.iconst 1, 1) := by decide +kernel
theorem dX12_isRule_77 : decode cX12_isRule 77 = .ok (.bipush 8, 2) := by decide +kernel
theorem dX12_isRule_79 : decode cX12_isRule 79 = .ok (.invokestatic 38, 3) := by decide +kernel
theorem dX12_isRule_82 : decode cX12_isRule 82 = .ok (.ireturn, 1) := by decide +kernel
theorem dX12_isRule_83 : decode cX12_isRule 83 = .ok (.iload_n 1, 1) := by decide +kernel
theorem dX12_isRule_84 : decode cX12_isRule 84 = .ok (.iconst 0, 1) := by decide +kernel
theorem dX12_isRule_85 : decode cX12_isRule 85 = .ok (.iconst 1, 1) := by decide +kernel
theorem dX12_isRule_86 : decode cX12_isRule 86 = .ok (.invokestatic 38, 3) := by decide +kernel
theorem dX12_isRule_89 : decode cX12_isRule 89 = .ok (.ireturn, 1) := by decide +kernel
theorem dX12_isRule_90 : decode cX12_isRule 90 = .ok (.iload_n 0, 1) := by decide +kernel
theorem dX12_isRule_91 : decode cX12_isRule 91 = .ok (.bipush 6, 2) := by decide +kernel
theorem dX12_isRule_93 : decode cX12_isRule 93 = .ok (.if_icmp .ne 17, 3) := by decide +kernel
theorem dX12_isRule_96 : decode cX12_isRule 96 = .ok (.iload_n 1, 1) := by decide +kernel
theorem dX12_isRule_97 : decode cX12_isRule 97 = .ok (.iconst 0, 1) := by decide +kernel
theorem dX12_isRule_98 : decode cX12_isRule 98 = .ok (.bipush 20, 2) := by decide +kernel
theorem dX12_isRule_100 : decode cX12_isRule 100 = .ok (.invokestatic 38, 3) := by decide +kernel
theorem dX12_isRule_103 : decode cX12_isRule 103 = .ok (.ifCond .eq 7, 3) := by decide +kernel
theorem dX12_isRule_106 : decode cX12_isRule 106 = .ok (.iconst 1, 1) := by decide +kernel
theorem dX12_isRule_107 : decode cX12_isRule 107 = .ok (.goto 4, 3) := by decide +kernel
theorem dX12_isRule_110 : decode cX12_isRule 110 = .ok (.iconst 0, 1) := by decide +kernel
theorem dX12_isRule_111 : decode cX12_isRule 111 = .ok (.ireturn, 1) := by decide +kernel
theorem kw_1274 : Cond.methodLink "FrequencyShelfModel" 38 yX12_in ∈ TB := tb_at 1274 (by decide +kernel) (by decide +kernel)
theorem kw_1276 : Cond.code yX12_in cX12_in 3 (some .boolean) ∈ TB := tb_at 1276 (by decide +kernel) (by decide +kernel)
theorem kw_1275 : Cond.static yX12_in ∈ TB := tb_at 1275 (by decide +kernel) (by decide +kernel)
theorem kw_75 : Cond.initialized "FrequencyShelfModel" ∈ TB := tb_at 75 (by decide +kernel) (by decide +kernel)
theorem cs_X12_in : Cond.code yX12_in cX12_in 3 (some .boolean) ∈ TB ∧ Cond.static yX12_in ∈ TB ∧ Cond.initialized "FrequencyShelfModel" ∈ TB := ⟨kw_1276, kw_1275, kw_75⟩
abbrev cX12_at : ByteArray := prog_14_method_20_code
def yX12_at : MethodName := ⟨RX12, "at", "(II)I"⟩
theorem dX12_at_0 : decode cX12_at 0 = .ok (.aload_n 0, 1) := by decide +kernel
theorem dX12_at_1 : decode cX12_at 1 = .ok (.getfield 9, 3) := by decide +kernel
theorem dX12_at_4 : decode cX12_at 4 = .ok (.bipush 98, 2) := by decide +kernel
theorem dX12_at_6 : decode cX12_at 6 = .ok (.iload_n 1, 1) := by decide +kernel
theorem dX12_at_7 : decode cX12_at 7 = .ok (.bipush 9, 2) := by decide +kernel
theorem dX12_at_9 : decode cX12_at 9 = .ok (.imul, 1) := by decide +kernel
theorem dX12_at_10 : decode cX12_at 10 = .ok (.iadd, 1) := by decide +kernel
theorem dX12_at_11 : decode cX12_at 11 = .ok (.iload_n 2, 1) := by decide +kernel
theorem dX12_at_12 : decode cX12_at 12 = .ok (.iadd, 1) := by decide +kernel
theorem dX12_at_13 : decode cX12_at 13 = .ok (.iaload, 1) := by decide +kernel
theorem dX12_at_14 : decode cX12_at 14 = .ok (.ireturn, 1) := by decide +kernel
theorem kw_1227 : Cond.fieldLink "FrequencyShelfModel" 9 "FrequencyShelfModel" "g" "[I" ∈ TB := tb_at 1227 (by decide +kernel) (by decide +kernel)
theorem in_X12 : ∀ w ∈ u_ws RX12 TX12 14, w ∈ TB := by decide +kernel
theorem fl_X12_9 : mF RX12 9 11 0 := ⟨RX12, TX12, 14, tyX12, rfl, by decide, in_X12, kw_1227, tyX12_ok, nmX12⟩
abbrev cX12_weight : ByteArray := prog_14_method_26_code
def yX12_weight : MethodName := ⟨RX12, "weight", "()I"⟩
theorem dX12_weight_0 : decode cX12_weight 0 = .ok (.iconst 0, 1) := by decide +kernel
theorem dX12_weight_1 : decode cX12_weight 1 = .ok (.istore_n 1, 1) := by decide +kernel
theorem dX12_weight_2 : decode cX12_weight 2 = .ok (.iconst 0, 1) := by decide +kernel
theorem dX12_weight_3 : decode cX12_weight 3 = .ok (.istore_n 2, 1) := by decide +kernel
theorem dX12_weight_4 : decode cX12_weight 4 = .ok (.iload_n 2, 1) := by decide +kernel
theorem dX12_weight_5 : decode cX12_weight 5 = .ok (.aload_n 0, 1) := by decide +kernel
theorem dX12_weight_6 : decode cX12_weight 6 = .ok (.getfield 9, 3) := by decide +kernel
theorem dX12_weight_9 : decode cX12_weight 9 = .ok (.bipush 13, 2) := by decide +kernel
theorem dX12_weight_11 : decode cX12_weight 11 = .ok (.iaload, 1) := by decide +kernel
theorem dX12_weight_12 : decode cX12_weight 12 = .ok (.if_icmp .ge 18, 3) := by decide +kernel
theorem dX12_weight_15 : decode cX12_weight 15 = .ok (.iload_n 1, 1) := by decide +kernel
theorem dX12_weight_16 : decode cX12_weight 16 = .ok (.aload_n 0, 1) := by decide +kernel
theorem dX12_weight_17 : decode cX12_weight 17 = .ok (.iload_n 2, 1) := by decide +kernel
theorem dX12_weight_18 : decode cX12_weight 18 = .ok (.iconst 2, 1) := by decide +kernel
theorem dX12_weight_19 : decode cX12_weight 19 = .ok (.invokevirtual 86, 3) := by decide +kernel
theorem dX12_weight_22 : decode cX12_weight 22 = .ok (.iadd, 1) := by decide +kernel
theorem dX12_weight_23 : decode cX12_weight 23 = .ok (.istore_n 1, 1) := by decide +kernel
theorem dX12_weight_24 : decode cX12_weight 24 = .ok (.iinc 2 1, 3) := by decide +kernel
theorem dX12_weight_27 : decode cX12_weight 27 = .ok (.goto (-23), 3) := by decide +kernel
theorem dX12_weight_30 : decode cX12_weight 30 = .ok (.iload_n 1, 1) := by decide +kernel
theorem dX12_weight_31 : decode cX12_weight 31 = .ok (.ireturn, 1) := by decide +kernel
theorem kw_1325 : Cond.methodLink "FrequencyShelfModel" 86 yX12_at ∈ TB := tb_at 1325 (by decide +kernel) (by decide +kernel)
theorem kw_1328 : Cond.code yX12_at cX12_at 3 (some .int) ∈ TB := tb_at 1328 (by decide +kernel) (by decide +kernel)
theorem kw_1327 : Cond.instanceMethod yX12_at ∈ TB := tb_at 1327 (by decide +kernel) (by decide +kernel)
theorem kw_17 : Cond.selects "FrequencyShelfModel" yX12_at yX12_at ∈ TB := tb_at 17 (by decide +kernel) (by decide +kernel)
theorem cv_X12_at : Cond.code yX12_at cX12_at 3 (some .int) ∈ TB ∧ Cond.instanceMethod yX12_at ∈ TB ∧ Cond.selects "FrequencyShelfModel" yX12_at yX12_at ∈ TB ∧ Cond.initialized "FrequencyShelfModel" ∈ TB := ⟨kw_1328, kw_1327, kw_17, kw_75⟩
abbrev cX12_isOver : ByteArray := prog_14_method_23_code
def yX12_isOver : MethodName := ⟨RX12, "isOve\x72", "(I)Z"⟩
theorem dX12_isOver_0 : decode cX12_isOver 0 = .ok (.aload_n 0, 1) := by decide +kernel
theorem dX12_isOver_1 : decode cX12_isOver 1 = .ok (.getfield 9, 3) := by decide +kernel
theorem dX12_isOver_4 : decode cX12_isOver 4 = .ok (.iconst 2, 1) := by decide +kernel
theorem dX12_isOver_5 : decode cX12_isOver 5 = .ok (.iaload, 1) := by decide +kernel
theorem dX12_isOver_6 : decode cX12_isOver 6 = .ok (.ifCond .eq 25, 3) := by decide +kernel
theorem dX12_isOver_9 : decode cX12_isOver 9 = .ok (.aload_n 0, 1) := by decide +kernel
theorem dX12_isOver_10 : decode cX12_isOver 10 = .ok (.getfield 9, 3) := by decide +kernel
theorem dX12_isOver_13 : decode cX12_isOver 13 = .ok (.bipush 8, 2) := by decide +kernel
theorem dX12_isOver_15 : decode cX12_isOver 15 = .ok (.iaload, 1) := by decide +kernel
theorem dX12_isOver_16 : decode cX12_isOver 16 = .ok (.iload_n 1, 1) := by decide +kernel
theorem dX12_isOver_17 : decode cX12_isOver 17 = .ok (.aload_n 0, 1) := by decide +kernel
theorem dX12_isOver_18 : decode cX12_isOver 18 = .ok (.getfield 9, 3) := by decide +kernel
theorem dX12_isOver_21 : decode cX12_isOver 21 = .ok (.iconst 2, 1) := by decide +kernel
theorem dX12_isOver_22 : decode cX12_isOver 22 = .ok (.iaload, 1) := by decide +kernel
theorem dX12_isOver_23 : decode cX12_isOver 23 = .ok (.iadd, 1) := by decide +kernel
theorem dX12_isOver_24 : decode cX12_isOver 24 = .ok (.if_icmp .lt 7, 3) := by decide +kernel
theorem dX12_isOver_27 : decode cX12_isOver 27 = .ok (.iconst 1, 1) := by decide +kernel
theorem dX12_isOver_28 : decode cX12_isOver 28 = .ok (.goto 4, 3) := by decide +kernel
theorem dX12_isOver_31 : decode cX12_isOver 31 = .ok (.iconst 0, 1) := by decide +kernel
theorem dX12_isOver_32 : decode cX12_isOver 32 = .ok (.ireturn, 1) := by decide +kernel
abbrev cX12_isStale : ByteArray := prog_14_method_24_code
def yX12_isStale : MethodName := ⟨RX12, "isStale", "(I)Z"⟩
theorem dX12_isStale_0 : decode cX12_isStale 0 = .ok (.aload_n 0, 1) := by decide +kernel
theorem dX12_isStale_1 : decode cX12_isStale 1 = .ok (.aload_n 0, 1) := by decide +kernel
theorem dX12_isStale_2 : decode cX12_isStale 2 = .ok (.iload_n 1, 1) := by decide +kernel
theorem dX12_isStale_3 : decode cX12_isStale 3 = .ok (.iconst 4, 1) := by decide +kernel
theorem dX12_isStale_4 : decode cX12_isStale 4 = .ok (.invokevirtual 86, 3) := by decide +kernel
theorem dX12_isStale_7 : decode cX12_isStale 7 = .ok (.invokevirtual 89, 3) := by decide +kernel
theorem dX12_isStale_10 : decode cX12_isStale 10 = .ok (.ireturn, 1) := by decide +kernel
theorem kw_1341 : Cond.methodLink "FrequencyShelfModel" 89 yX12_isOver ∈ TB := tb_at 1341 (by decide +kernel) (by decide +kernel)
theorem kw_1344 : Cond.code yX12_isOver cX12_isOver 2 (some .boolean) ∈ TB := tb_at 1344 (by decide +kernel) (by decide +kernel)
theorem kw_1343 : Cond.instanceMethod yX12_isOver ∈ TB := tb_at 1343 (by decide +kernel) (by decide +kernel)
theorem kw_21 : Cond.selects "FrequencyShelfModel" yX12_isOver yX12_isOver ∈ TB := tb_at 21 (by decide +kernel) (by decide +kernel)
theorem cv_X12_isOver : Cond.code yX12_isOver cX12_isOver 2 (some .boolean) ∈ TB ∧ Cond.instanceMethod yX12_isOver ∈ TB ∧ Cond.selects "FrequencyShelfModel" yX12_isOver yX12_isOver ∈ TB ∧ Cond.initialized "FrequencyShelfModel" ∈ TB := ⟨kw_1344, kw_1343, kw_21, kw_75⟩
abbrev cX12_isSooner : ByteArray := prog_14_method_27_code
def yX12_isSooner : MethodName := ⟨RX12, "isSoone\x72", "(II)Z"⟩
theorem dX12_isSooner_0 : decode cX12_isSooner 0 = .ok (.aload_n 0, 1) := by decide +kernel
theorem dX12_isSooner_1 : decode cX12_isSooner 1 = .ok (.iload_n 1, 1) := by decide +kernel
theorem dX12_isSooner_2 : decode cX12_isSooner 2 = .ok (.invokevirtual 93, 3) := by decide +kernel
theorem dX12_isSooner_5 : decode cX12_isSooner 5 = .ok (.aload_n 0, 1) := by decide +kernel
theorem dX12_isSooner_6 : decode cX12_isSooner 6 = .ok (.iload_n 2, 1) := by decide +kernel
theorem dX12_isSooner_7 : decode cX12_isSooner 7 = .ok (.invokevirtual 93, 3) := by decide +kernel
theorem dX12_isSooner_10 : decode cX12_isSooner 10 = .ok (.if_icmp .eq 9, 3) := by decide +kernel
theorem dX12_isSooner_13 : decode cX12_isSooner 13 = .ok (.aload_n 0, 1) := by decide +kernel
theorem dX12_isSooner_14 : decode cX12_isSooner 14 = .ok (.iload_n 1, 1) := by decide +kernel
theorem dX12_isSooner_15 : decode cX12_isSooner 15 = .ok (.invokevirtual 93, 3) := by decide +kernel
theorem dX12_isSooner_18 : decode cX12_isSooner 18 = .ok (.ireturn, 1) := by decide +kernel
theorem dX12_isSooner_19 : decode cX12_isSooner 19 = .ok (.aload_n 0, 1) := by decide +kernel
theorem dX12_isSooner_20 : decode cX12_isSooner 20 = .ok (.iload_n 1, 1) := by decide +kernel
theorem dX12_isSooner_21 : decode cX12_isSooner 21 = .ok (.iconst 5, 1) := by decide +kernel
theorem dX12_isSooner_22 : decode cX12_isSooner 22 = .ok (.invokevirtual 86, 3) := by decide +kernel
theorem dX12_isSooner_25 : decode cX12_isSooner 25 = .ok (.aload_n 0, 1) := by decide +kernel
theorem dX12_isSooner_26 : decode cX12_isSooner 26 = .ok (.iload_n 2, 1) := by decide +kernel
theorem dX12_isSooner_27 : decode cX12_isSooner 27 = .ok (.iconst 5, 1) := by decide +kernel
theorem dX12_isSooner_28 : decode cX12_isSooner 28 = .ok (.invokevirtual 86, 3) := by decide +kernel
theorem dX12_isSooner_31 : decode cX12_isSooner 31 = .ok (.if_icmp .eq 24, 3) := by decide +kernel
theorem dX12_isSooner_34 : decode cX12_isSooner 34 = .ok (.aload_n 0, 1) := by decide +kernel
theorem dX12_isSooner_35 : decode cX12_isSooner 35 = .ok (.iload_n 1, 1) := by decide +kernel
theorem dX12_isSooner_36 : decode cX12_isSooner 36 = .ok (.iconst 5, 1) := by decide +kernel
theorem dX12_isSooner_37 : decode cX12_isSooner 37 = .ok (.invokevirtual 86, 3) := by decide +kernel
theorem dX12_isSooner_40 : decode cX12_isSooner 40 = .ok (.aload_n 0, 1) := by decide +kernel
theorem dX12_isSooner_41 : decode cX12_isSooner 41 = .ok (.iload_n 2, 1) := by decide +kernel
theorem dX12_isSooner_42 : decode cX12_isSooner 42 = .ok (.iconst 5, 1) := by decide +kernel
theorem dX12_isSooner_43 : decode cX12_isSooner 43 = .ok (.invokevirtual 86, 3) := by decide +kernel
theorem dX12_isSooner_46 : decode cX12_isSooner 46 = .ok (.if_icmp .ge 7, 3) := by decide +kernel
theorem dX12_isSooner_49 : decode cX12_isSooner 49 = .ok (.iconst 1, 1) := by decide +kernel
theorem dX12_isSooner_50 : decode cX12_isSooner 50 = .ok (.goto 4, 3) := by decide +kernel
theorem dX12_isSooner_53 : decode cX12_isSooner 53 = .ok (.iconst 0, 1) := by decide +kernel
theorem dX12_isSooner_54 : decode cX12_isSooner 54 = .ok (.ireturn, 1) := by decide +kernel
theorem dX12_isSooner_55 : decode cX12_isSooner 55 = .ok (.aload_n 0, 1) := by decide +kernel
theorem dX12_isSooner_56 : decode cX12_isSooner 56 = .ok (.iload_n 1, 1) := by decide +kernel
theorem dX12_isSooner_57 : decode cX12_isSooner 57 = .ok (.bipush 6, 2) := by decide +kernel
theorem dX12_isSooner_59 : decode cX12_isSooner 59 = .ok (.invokevirtual 86, 3) := by decide +kernel
theorem dX12_isSooner_62 : decode cX12_isSooner 62 = .ok (.aload_n 0, 1) := by decide +kernel
theorem dX12_isSooner_63 : decode cX12_isSooner 63 = .ok (.iload_n 2, 1) := by decide +kernel
theorem dX12_isSooner_64 : decode cX12_isSooner 64 = .ok (.bipush 6, 2) := by decide +kernel
theorem dX12_isSooner_66 : decode cX12_isSooner 66 = .ok (.invokevirtual 86, 3) := by decide +kernel
theorem dX12_isSooner_69 : decode cX12_isSooner 69 = .ok (.if_icmp .eq 28, 3) := by decide +kernel
theorem dX12_isSooner_72 : decode cX12_isSooner 72 = .ok (.aload_n 0, 1) := by decide +kernel
theorem dX12_isSooner_73 : decode cX12_isSooner 73 = .ok (.iload_n 1, 1) := by decide +kernel
theorem dX12_isSooner_74 : decode cX12_isSooner 74 = .ok (.bipush 6, 2) := by decide +kernel
theorem dX12_isSooner_76 : decode cX12_isSooner 76 = .ok (.invokevirtual 86, 3) := by decide +kernel
theorem dX12_isSooner_79 : decode cX12_isSooner 79 = .ok (.aload_n 0, 1) := by decide +kernel
theorem dX12_isSooner_80 : decode cX12_isSooner 80 = .ok (.iload_n 2, 1) := by decide +kernel
theorem dX12_isSooner_81 : decode cX12_isSooner 81 = .ok (.bipush 6, 2) := by decide +kernel
theorem dX12_isSooner_83 : decode cX12_isSooner 83 = .ok (.invokevirtual 86, 3) := by decide +kernel
theorem dX12_isSooner_86 : decode cX12_isSooner 86 = .ok (.if_icmp .ge 7, 3) := by decide +kernel
theorem dX12_isSooner_89 : decode cX12_isSooner 89 = .ok (.iconst 1, 1) := by decide +kernel
theorem dX12_isSooner_90 : decode cX12_isSooner 90 = .ok (.goto 29, 3) := by decide +kernel
theorem dX12_isSooner_93 : decode cX12_isSooner 93 = .ok (.iconst 0, 1) := by decide +kernel
theorem dX12_isSooner_94 : decode cX12_isSooner 94 = .ok (.goto 25, 3) := by decide +kernel
theorem dX12_isSooner_97 : decode cX12_isSooner 97 = .ok (.aload_n 0, 1) := by decide +kernel
theorem dX12_isSooner_98 : decode cX12_isSooner 98 = .ok (.iload_n 1, 1) := by decide +kernel
theorem dX12_isSooner_99 : decode cX12_isSooner 99 = .ok (.bipush 7, 2) := by decide +kernel
theorem dX12_isSooner_101 : decode cX12_isSooner 101 = .ok (.invokevirtual 86, 3) := by decide +kernel
theorem dX12_isSooner_104 : decode cX12_isSooner 104 = .ok (.aload_n 0, 1) := by decide +kernel
theorem dX12_isSooner_105 : decode cX12_isSooner 105 = .ok (.iload_n 2, 1) := by decide +kernel
theorem dX12_isSooner_106 : decode cX12_isSooner 106 = .ok (.bipush 7, 2) := by decide +kernel
theorem dX12_isSooner_108 : decode cX12_isSooner 108 = .ok (.invokevirtual 86, 3) := by decide +kernel
theorem dX12_isSooner_111 : decode cX12_isSooner 111 = .ok (.if_icmp .ge 7, 3) := by decide +kernel
theorem dX12_isSooner_114 : decode cX12_isSooner 114 = .ok (.iconst 1, 1) := by decide +kernel
theorem dX12_isSooner_115 : decode cX12_isSooner 115 = .ok (.goto 4, 3) := by decide +kernel
theorem dX12_isSooner_118 : decode cX12_isSooner 118 = .ok (.iconst 0, 1) := by decide +kernel
theorem dX12_isSooner_119 : decode cX12_isSooner 119 = .ok (.ireturn, 1) := by decide +kernel
theorem kw_1337 : Cond.methodLink "FrequencyShelfModel" 93 yX12_isStale ∈ TB := tb_at 1337 (by decide +kernel) (by decide +kernel)
theorem kw_1340 : Cond.code yX12_isStale cX12_isStale 2 (some .boolean) ∈ TB := tb_at 1340 (by decide +kernel) (by decide +kernel)
theorem kw_1339 : Cond.instanceMethod yX12_isStale ∈ TB := tb_at 1339 (by decide +kernel) (by decide +kernel)
theorem kw_20 : Cond.selects "FrequencyShelfModel" yX12_isStale yX12_isStale ∈ TB := tb_at 20 (by decide +kernel) (by decide +kernel)
theorem cv_X12_isStale : Cond.code yX12_isStale cX12_isStale 2 (some .boolean) ∈ TB ∧ Cond.instanceMethod yX12_isStale ∈ TB ∧ Cond.selects "FrequencyShelfModel" yX12_isStale yX12_isStale ∈ TB ∧ Cond.initialized "FrequencyShelfModel" ∈ TB := ⟨kw_1340, kw_1339, kw_20, kw_75⟩
abbrev cX12_firstToGo : ByteArray := prog_14_method_28_code
def yX12_firstToGo : MethodName := ⟨RX12, "firstToGo", "(I)I"⟩
theorem dX12_firstToGo_0 : decode cX12_firstToGo 0 = .ok (.iconst (-1), 1) := by decide +kernel
theorem dX12_firstToGo_1 : decode cX12_firstToGo 1 = .ok (.istore_n 2, 1) := by decide +kernel
theorem dX12_firstToGo_2 : decode cX12_firstToGo 2 = .ok (.iconst 0, 1) := by decide +kernel
theorem dX12_firstToGo_3 : decode cX12_firstToGo 3 = .ok (.istore_n 3, 1) := by decide +kernel
theorem dX12_firstToGo_4 : decode cX12_firstToGo 4 = .ok (.iload_n 3, 1) := by decide +kernel
theorem dX12_firstToGo_5 : decode cX12_firstToGo 5 = .ok (.aload_n 0, 1) := by decide +kernel
theorem dX12_firstToGo_6 : decode cX12_firstToGo 6 = .ok (.getfield 9, 3) := by decide +kernel
theorem dX12_firstToGo_9 : decode cX12_firstToGo 9 = .ok (.bipush 13, 2) := by decide +kernel
theorem dX12_firstToGo_11 : decode cX12_firstToGo 11 = .ok (.iaload, 1) := by decide +kernel
theorem dX12_firstToGo_12 : decode cX12_firstToGo 12 = .ok (.if_icmp .ge 34, 3) := by decide +kernel
theorem dX12_firstToGo_15 : decode cX12_firstToGo 15 = .ok (.aload_n 0, 1) := by decide +kernel
theorem dX12_firstToGo_16 : decode cX12_firstToGo 16 = .ok (.iload_n 3, 1) := by decide +kernel
theorem dX12_firstToGo_17 : decode cX12_firstToGo 17 = .ok (.iconst 0, 1) := by decide +kernel
theorem dX12_firstToGo_18 : decode cX12_firstToGo 18 = .ok (.invokevirtual 86, 3) := by decide +kernel
theorem dX12_firstToGo_21 : decode cX12_firstToGo 21 = .ok (.iload_n 1, 1) := by decide +kernel
theorem dX12_firstToGo_22 : decode cX12_firstToGo 22 = .ok (.if_icmp .eq 18, 3) := by decide +kernel
theorem dX12_firstToGo_25 : decode cX12_firstToGo 25 = .ok (.iload_n 2, 1) := by decide +kernel
theorem dX12_firstToGo_26 : decode cX12_firstToGo 26 = .ok (.ifCond .lt 12, 3) := by decide +kernel
theorem dX12_firstToGo_29 : decode cX12_firstToGo 29 = .ok (.aload_n 0, 1) := by decide +kernel
theorem dX12_firstToGo_30 : decode cX12_firstToGo 30 = .ok (.iload_n 3, 1) := by decide +kernel
theorem dX12_firstToGo_31 : decode cX12_firstToGo 31 = .ok (.iload_n 2, 1) := by decide +kernel
theorem dX12_firstToGo_32 : decode cX12_firstToGo 32 = .ok (.invokevirtual 96, 3) := by decide +kernel
theorem dX12_firstToGo_35 : decode cX12_firstToGo 35 = .ok (.ifCond .eq 5, 3) := by decide +kernel
theorem dX12_firstToGo_38 : decode cX12_firstToGo 38 = .ok (.iload_n 3, 1) := by decide +kernel
theorem dX12_firstToGo_39 : decode cX12_firstToGo 39 = .ok (.istore_n 2, 1) := by decide +kernel
theorem dX12_firstToGo_40 : decode cX12_firstToGo 40 = .ok (.iinc 3 1, 3) := by decide +kernel
theorem dX12_firstToGo_43 : decode cX12_firstToGo 43 = .ok (.goto (-39), 3) := by decide +kernel
theorem dX12_firstToGo_46 : decode cX12_firstToGo 46 = .ok (.iload_n 2, 1) := by decide +kernel
theorem dX12_firstToGo_47 : decode cX12_firstToGo 47 = .ok (.ireturn, 1) := by decide +kernel
theorem kw_1333 : Cond.methodLink "FrequencyShelfModel" 96 yX12_isSooner ∈ TB := tb_at 1333 (by decide +kernel) (by decide +kernel)
theorem kw_1336 : Cond.code yX12_isSooner cX12_isSooner 3 (some .boolean) ∈ TB := tb_at 1336 (by decide +kernel) (by decide +kernel)
theorem kw_1335 : Cond.instanceMethod yX12_isSooner ∈ TB := tb_at 1335 (by decide +kernel) (by decide +kernel)
theorem kw_19 : Cond.selects "FrequencyShelfModel" yX12_isSooner yX12_isSooner ∈ TB := tb_at 19 (by decide +kernel) (by decide +kernel)
theorem cv_X12_isSooner : Cond.code yX12_isSooner cX12_isSooner 3 (some .boolean) ∈ TB ∧ Cond.instanceMethod yX12_isSooner ∈ TB ∧ Cond.selects "FrequencyShelfModel" yX12_isSooner yX12_isSooner ∈ TB ∧ Cond.initialized "FrequencyShelfModel" ∈ TB := ⟨kw_1336, kw_1335, kw_19, kw_75⟩
abbrev cX12_takesOut : ByteArray := prog_14_method_13_code
def yX12_takesOut : MethodName := ⟨RX12, "takesOut", "(IIII)V"⟩
theorem dX12_takesOut_0 : decode cX12_takesOut 0 = .ok (.iload 4, 2) := by decide +kernel
theorem dX12_takesOut_2 : decode cX12_takesOut 2 = .ok (.iload_n 3, 1) := by decide +kernel
theorem dX12_takesOut_3 : decode cX12_takesOut 3 = .ok (.imul, 1) := by decide +kernel
theorem dX12_takesOut_4 : decode cX12_takesOut 4 = .ok (.istore 5, 2) := by decide +kernel
theorem dX12_takesOut_6 : decode cX12_takesOut 6 = .ok (.iload 5, 2) := by decide +kernel
theorem dX12_takesOut_8 : decode cX12_takesOut 8 = .ok (.aload_n 0, 1) := by decide +kernel
theorem dX12_takesOut_9 : decode cX12_takesOut 9 = .ok (.getfield 9, 3) := by decide +kernel
theorem dX12_takesOut_12 : decode cX12_takesOut 12 = .ok (.iload_n 1, 1) := by decide +kernel
theorem dX12_takesOut_13 : decode cX12_takesOut 13 = .ok (.iaload, 1) := by decide +kernel
theorem dX12_takesOut_14 : decode cX12_takesOut 14 = .ok (.iconst 1, 1) := by decide +kernel
theorem dX12_takesOut_15 : decode cX12_takesOut 15 = .ok (.isub, 1) := by decide +kernel
theorem dX12_takesOut_16 : decode cX12_takesOut 16 = .ok (.iload_n 3, 1) := by decide +kernel
theorem dX12_takesOut_17 : decode cX12_takesOut 17 = .ok (.imul, 1) := by decide +kernel
theorem dX12_takesOut_18 : decode cX12_takesOut 18 = .ok (.if_icmp .ge 29, 3) := by decide +kernel
theorem dX12_takesOut_21 : decode cX12_takesOut 21 = .ok (.aload_n 0, 1) := by decide +kernel
theorem dX12_takesOut_22 : decode cX12_takesOut 22 = .ok (.getfield 9, 3) := by decide +kernel
theorem dX12_takesOut_25 : decode cX12_takesOut 25 = .ok (.iload_n 2, 1) := by decide +kernel
theorem dX12_takesOut_26 : decode cX12_takesOut 26 = .ok (.iload 5, 2) := by decide +kernel
theorem dX12_takesOut_28 : decode cX12_takesOut 28 = .ok (.iadd, 1) := by decide +kernel
theorem dX12_takesOut_29 : decode cX12_takesOut 29 = .ok (.aload_n 0, 1) := by decide +kernel
theorem dX12_takesOut_30 : decode cX12_takesOut 30 = .ok (.getfield 9, 3) := by decide +kernel
theorem dX12_takesOut_33 : decode cX12_takesOut 33 = .ok (.iload_n 2, 1) := by decide +kernel
theorem dX12_takesOut_34 : decode cX12_takesOut 34 = .ok (.iload 5, 2) := by decide +kernel
theorem dX12_takesOut_36 : decode cX12_takesOut 36 = .ok (.iadd, 1) := by decide +kernel
theorem dX12_takesOut_37 : decode cX12_takesOut 37 = .ok (.iload_n 3, 1) := by decide +kernel
theorem dX12_takesOut_38 : decode cX12_takesOut 38 = .ok (.iadd, 1) := by decide +kernel
theorem dX12_takesOut_39 : decode cX12_takesOut 39 = .ok (.iaload, 1) := by decide +kernel
theorem dX12_takesOut_40 : decode cX12_takesOut 40 = .ok (.iastore, 1) := by decide +kernel
theorem dX12_takesOut_41 : decode cX12_takesOut 41 = .ok (.iinc 5 1, 3) := by decide +kernel
theorem dX12_takesOut_44 : decode cX12_takesOut 44 = .ok (.goto (-38), 3) := by decide +kernel
theorem dX12_takesOut_47 : decode cX12_takesOut 47 = .ok (.aload_n 0, 1) := by decide +kernel
theorem dX12_takesOut_48 : decode cX12_takesOut 48 = .ok (.getfield 9, 3) := by decide +kernel
theorem dX12_takesOut_51 : decode cX12_takesOut 51 = .ok (.iload_n 1, 1) := by decide +kernel
theorem dX12_takesOut_52 : decode cX12_takesOut 52 = .ok (.dup2, 1) := by decide +kernel
theorem dX12_takesOut_53 : decode cX12_takesOut 53 = .ok (.iaload, 1) := by decide +kernel
theorem dX12_takesOut_54 : decode cX12_takesOut 54 = .ok (.iconst 1, 1) := by decide +kernel
theorem dX12_takesOut_55 : decode cX12_takesOut 55 = .ok (.isub, 1) := by decide +kernel
theorem dX12_takesOut_56 : decode cX12_takesOut 56 = .ok (.iastore, 1) := by decide +kernel
theorem dX12_takesOut_57 : decode cX12_takesOut 57 = .ok (.return_, 1) := by decide +kernel
abbrev cX12_coldRoom : ByteArray := prog_14_method_32_code
def yX12_coldRoom : MethodName := ⟨RX12, "coldRoom", "()V"⟩
theorem dX12_coldRoom_0 : decode cX12_coldRoom 0 = .ok (.aload_n 0, 1) := by decide +kernel
theorem dX12_coldRoom_1 : decode cX12_coldRoom 1 = .ok (.getfield 9, 3) := by decide +kernel
theorem dX12_coldRoom_4 : decode cX12_coldRoom 4 = .ok (.bipush 14, 2) := by decide +kernel
theorem dX12_coldRoom_6 : decode cX12_coldRoom 6 = .ok (.iaload, 1) := by decide +kernel
theorem dX12_coldRoom_7 : decode cX12_coldRoom 7 = .ok (.aload_n 0, 1) := by decide +kernel
theorem dX12_coldRoom_8 : decode cX12_coldRoom 8 = .ok (.getfield 9, 3) := by decide +kernel
theorem dX12_coldRoom_11 : decode cX12_coldRoom 11 = .ok (.bipush 6, 2) := by decide +kernel
theorem dX12_coldRoom_13 : decode cX12_coldRoom 13 = .ok (.iaload, 1) := by decide +kernel
theorem dX12_coldRoom_14 : decode cX12_coldRoom 14 = .ok (.if_icmp .le 17, 3) := by decide +kernel
theorem dX12_coldRoom_17 : decode cX12_coldRoom 17 = .ok (.aload_n 0, 1) := by decide +kernel
theorem dX12_coldRoom_18 : decode cX12_coldRoom 18 = .ok (.bipush 14, 2) := by decide +kernel
theorem dX12_coldRoom_20 : decode cX12_coldRoom 20 = .ok (.sipush 1898, 3) := by decide +kernel
theorem dX12_coldRoom_23 : decode cX12_coldRoom 23 = .ok (.iconst 5, 1) := by decide +kernel
theorem dX12_coldRoom_24 : decode cX12_coldRoom 24 = .ok (.iconst 0, 1) := by decide +kernel
theorem dX12_coldRoom_25 : decode cX12_coldRoom 25 = .ok (.invokevirtual 103, 3) := by decide +kernel
theorem dX12_coldRoom_28 : decode cX12_coldRoom 28 = .ok (.goto (-28), 3) := by decide +kernel
theorem dX12_coldRoom_31 : decode cX12_coldRoom 31 = .ok (.return_, 1) := by decide +kernel
theorem kw_1357 : Cond.methodLink "FrequencyShelfModel" 103 yX12_takesOut ∈ TB := tb_at 1357 (by decide +kernel) (by decide +kernel)
theorem kw_1360 : Cond.code yX12_takesOut cX12_takesOut 6 none ∈ TB := tb_at 1360 (by decide +kernel) (by decide +kernel)
theorem kw_1359 : Cond.instanceMethod yX12_takesOut ∈ TB := tb_at 1359 (by decide +kernel) (by decide +kernel)
theorem kw_25 : Cond.selects "FrequencyShelfModel" yX12_takesOut yX12_takesOut ∈ TB := tb_at 25 (by decide +kernel) (by decide +kernel)
theorem cv_X12_takesOut : Cond.code yX12_takesOut cX12_takesOut 6 none ∈ TB ∧ Cond.instanceMethod yX12_takesOut ∈ TB ∧ Cond.selects "FrequencyShelfModel" yX12_takesOut yX12_takesOut ∈ TB ∧ Cond.initialized "FrequencyShelfModel" ∈ TB := ⟨kw_1360, kw_1359, kw_25, kw_75⟩
abbrev cX12_cools : ByteArray := prog_14_method_31_code
def yX12_cools : MethodName := ⟨RX12, "cools", "(IIIII)V"⟩
theorem dX12_cools_0 : decode cX12_cools 0 = .ok (.sipush 1898, 3) := by decide +kernel
theorem dX12_cools_3 : decode cX12_cools 3 = .ok (.aload_n 0, 1) := by decide +kernel
theorem dX12_cools_4 : decode cX12_cools 4 = .ok (.getfield 9, 3) := by decide +kernel
theorem dX12_cools_7 : decode cX12_cools 7 = .ok (.bipush 14, 2) := by decide +kernel
theorem dX12_cools_9 : decode cX12_cools 9 = .ok (.iaload, 1) := by decide +kernel
theorem dX12_cools_10 : decode cX12_cools 10 = .ok (.iconst 5, 1) := by decide +kernel
theorem dX12_cools_11 : decode cX12_cools 11 = .ok (.imul, 1) := by decide +kernel
theorem dX12_cools_12 : decode cX12_cools 12 = .ok (.iadd, 1) := by decide +kernel
theorem dX12_cools_13 : decode cX12_cools 13 = .ok (.istore 6, 2) := by decide +kernel
theorem dX12_cools_15 : decode cX12_cools 15 = .ok (.aload_n 0, 1) := by decide +kernel
theorem dX12_cools_16 : decode cX12_cools 16 = .ok (.getfield 9, 3) := by decide +kernel
theorem dX12_cools_19 : decode cX12_cools 19 = .ok (.iload 6, 2) := by decide +kernel
theorem dX12_cools_21 : decode cX12_cools 21 = .ok (.iconst 0, 1) := by decide +kernel
theorem dX12_cools_22 : decode cX12_cools 22 = .ok (.iadd, 1) := by decide +kernel
theorem dX12_cools_23 : decode cX12_cools 23 = .ok (.iload_n 1, 1) := by decide +kernel
theorem dX12_cools_24 : decode cX12_cools 24 = .ok (.iastore, 1) := by decide +kernel
theorem dX12_cools_25 : decode cX12_cools 25 = .ok (.aload_n 0, 1) := by decide +kernel
theorem dX12_cools_26 : decode cX12_cools 26 = .ok (.getfield 9, 3) := by decide +kernel
theorem dX12_cools_29 : decode cX12_cools 29 = .ok (.iload 6, 2) := by decide +kernel
theorem dX12_cools_31 : decode cX12_cools 31 = .ok (.iconst 1, 1) := by decide +kernel
theorem dX12_cools_32 : decode cX12_cools 32 = .ok (.iadd, 1) := by decide +kernel
theorem dX12_cools_33 : decode cX12_cools 33 = .ok (.iload_n 2, 1) := by decide +kernel
theorem dX12_cools_34 : decode cX12_cools 34 = .ok (.iastore, 1) := by decide +kernel
theorem dX12_cools_35 : decode cX12_cools 35 = .ok (.aload_n 0, 1) := by decide +kernel
theorem dX12_cools_36 : decode cX12_cools 36 = .ok (.getfield 9, 3) := by decide +kernel
theorem dX12_cools_39 : decode cX12_cools 39 = .ok (.iload 6, 2) := by decide +kernel
theorem dX12_cools_41 : decode cX12_cools 41 = .ok (.iconst 2, 1) := by decide +kernel
theorem dX12_cools_42 : decode cX12_cools 42 = .ok (.iadd, 1) := by decide +kernel
theorem dX12_cools_43 : decode cX12_cools 43 = .ok (.iload_n 3, 1) := by decide +kernel
theorem dX12_cools_44 : decode cX12_cools 44 = .ok (.iastore, 1) := by decide +kernel
theorem dX12_cools_45 : decode cX12_cools 45 = .ok (.aload_n 0, 1) := by decide +kernel
theorem dX12_cools_46 : decode cX12_cools 46 = .ok (.getfield 9, 3) := by decide +kernel
theorem dX12_cools_49 : decode cX12_cools 49 = .ok (.iload 6, 2) := by decide +kernel
theorem dX12_cools_51 : decode cX12_cools 51 = .ok (.iconst 3, 1) := by decide +kernel
theorem dX12_cools_52 : decode cX12_cools 52 = .ok (.iadd, 1) := by decide +kernel
theorem dX12_cools_53 : decode cX12_cools 53 = .ok (.iload 4, 2) := by decide +kernel
theorem dX12_cools_55 : decode cX12_cools 55 = .ok (.iastore, 1) := by decide +kernel
theorem dX12_cools_56 : decode cX12_cools 56 = .ok (.aload_n 0, 1) := by decide +kernel
theorem dX12_cools_57 : decode cX12_cools 57 = .ok (.getfield 9, 3) := by decide +kernel
theorem dX12_cools_60 : decode cX12_cools 60 = .ok (.iload 6, 2) := by decide +kernel
theorem dX12_cools_62 : decode cX12_cools 62 = .ok (.iconst 4, 1) := by decide +kernel
theorem dX12_cools_63 : decode cX12_cools 63 = .ok (.iadd, 1) := by decide +kernel
theorem dX12_cools_64 : decode cX12_cools 64 = .ok (.iload 5, 2) := by decide +kernel
theorem dX12_cools_66 : decode cX12_cools 66 = .ok (.iastore, 1) := by decide +kernel
theorem dX12_cools_67 : decode cX12_cools 67 = .ok (.aload_n 0, 1) := by decide +kernel
theorem dX12_cools_68 : decode cX12_cools 68 = .ok (.getfield 9, 3) := by decide +kernel
theorem dX12_cools_71 : decode cX12_cools 71 = .ok (.bipush 14, 2) := by decide +kernel
theorem dX12_cools_73 : decode cX12_cools 73 = .ok (.dup2, 1) := by decide +kernel
theorem dX12_cools_74 : decode cX12_cools 74 = .ok (.iaload, 1) := by decide +kernel
theorem dX12_cools_75 : decode cX12_cools 75 = .ok (.iconst 1, 1) := by decide +kernel
theorem dX12_cools_76 : decode cX12_cools 76 = .ok (.iadd, 1) := by decide +kernel
theorem dX12_cools_77 : decode cX12_cools 77 = .ok (.iastore, 1) := by decide +kernel
theorem dX12_cools_78 : decode cX12_cools 78 = .ok (.aload_n 0, 1) := by decide +kernel
theorem dX12_cools_79 : decode cX12_cools 79 = .ok (.invokevirtual 114, 3) := by decide +kernel
theorem dX12_cools_82 : decode cX12_cools 82 = .ok (.return_, 1) := by decide +kernel
theorem kw_1353 : Cond.methodLink "FrequencyShelfModel" 114 yX12_coldRoom ∈ TB := tb_at 1353 (by decide +kernel) (by decide +kernel)
theorem kw_1356 : Cond.code yX12_coldRoom cX12_coldRoom 1 none ∈ TB := tb_at 1356 (by decide +kernel) (by decide +kernel)
theorem kw_1355 : Cond.instanceMethod yX12_coldRoom ∈ TB := tb_at 1355 (by decide +kernel) (by decide +kernel)
theorem kw_24 : Cond.selects "FrequencyShelfModel" yX12_coldRoom yX12_coldRoom ∈ TB := tb_at 24 (by decide +kernel) (by decide +kernel)
theorem cv_X12_coldRoom : Cond.code yX12_coldRoom cX12_coldRoom 1 none ∈ TB ∧ Cond.instanceMethod yX12_coldRoom ∈ TB ∧ Cond.selects "FrequencyShelfModel" yX12_coldRoom yX12_coldRoom ∈ TB ∧ Cond.initialized "FrequencyShelfModel" ∈ TB := ⟨kw_1356, kw_1355, kw_24, kw_75⟩
abbrev cX12_slot : ByteArray := prog_14_method_12_code
def yX12_slot : MethodName := ⟨RX12, "slot", "(IIII)I"⟩
theorem dX12_slot_0 : decode cX12_slot 0 = .ok (.aload_n 0, 1) := by decide +kernel
theorem dX12_slot_1 : decode cX12_slot 1 = .ok (.getfield 9, 3) := by decide +kernel
theorem dX12_slot_4 : decode cX12_slot 4 = .ok (.iload_n 1, 1) := by decide +kernel
theorem dX12_slot_5 : decode cX12_slot 5 = .ok (.iaload, 1) := by decide +kernel
theorem dX12_slot_6 : decode cX12_slot 6 = .ok (.iload 4, 2) := by decide +kernel
theorem dX12_slot_8 : decode cX12_slot 8 = .ok (.if_icmp .ne 53, 3) := by decide +kernel
theorem dX12_slot_11 : decode cX12_slot 11 = .ok (.iconst 0, 1) := by decide +kernel
theorem dX12_slot_12 : decode cX12_slot 12 = .ok (.istore 5, 2) := by decide +kernel
theorem dX12_slot_14 : decode cX12_slot 14 = .ok (.iload 5, 2) := by decide +kernel
theorem dX12_slot_16 : decode cX12_slot 16 = .ok (.iload 4, 2) := by decide +kernel
theorem dX12_slot_18 : decode cX12_slot 18 = .ok (.iconst 1, 1) := by decide +kernel
theorem dX12_slot_19 : decode cX12_slot 19 = .ok (.isub, 1) := by decide +kernel
theorem dX12_slot_20 : decode cX12_slot 20 = .ok (.iload_n 3, 1) := by decide +kernel
theorem dX12_slot_21 : decode cX12_slot 21 = .ok (.imul, 1) := by decide +kernel
theorem dX12_slot_22 : decode cX12_slot 22 = .ok (.if_icmp .ge 29, 3) := by decide +kernel
theorem dX12_slot_25 : decode cX12_slot 25 = .ok (.aload_n 0, 1) := by decide +kernel
theorem dX12_slot_26 : decode cX12_slot 26 = .ok (.getfield 9, 3) := by decide +kernel
theorem dX12_slot_29 : decode cX12_slot 29 = .ok (.iload_n 2, 1) := by decide +kernel
theorem dX12_slot_30 : decode cX12_slot 30 = .ok (.iload 5, 2) := by decide +kernel
theorem dX12_slot_32 : decode cX12_slot 32 = .ok (.iadd, 1) := by decide +kernel
theorem dX12_slot_33 : decode cX12_slot 33 = .ok (.aload_n 0, 1) := by decide +kernel
theorem dX12_slot_34 : decode cX12_slot 34 = .ok (.getfield 9, 3) := by decide +kernel
theorem dX12_slot_37 : decode cX12_slot 37 = .ok (.iload_n 2, 1) := by decide +kernel
theorem dX12_slot_38 : decode cX12_slot 38 = .ok (.iload 5, 2) := by decide +kernel
theorem dX12_slot_40 : decode cX12_slot 40 = .ok (.iadd, 1) := by decide +kernel
theorem dX12_slot_41 : decode cX12_slot 41 = .ok (.iload_n 3, 1) := by decide +kernel
theorem dX12_slot_42 : decode cX12_slot 42 = .ok (.iadd, 1) := by decide +kernel
theorem dX12_slot_43 : decode cX12_slot 43 = .ok (.iaload, 1) := by decide +kernel
theorem dX12_slot_44 : decode cX12_slot 44 = .ok (.iastore, 1) := by decide +kernel
theorem dX12_slot_45 : decode cX12_slot 45 = .ok (.iinc 5 1, 3) := by decide +kernel
theorem dX12_slot_48 : decode cX12_slot 48 = .ok (.goto (-34), 3) := by decide +kernel
theorem dX12_slot_51 : decode cX12_slot 51 = .ok (.aload_n 0, 1) := by decide +kernel
theorem dX12_slot_52 : decode cX12_slot 52 = .ok (.getfield 9, 3) := by decide +kernel
theorem dX12_slot_55 : decode cX12_slot 55 = .ok (.iload_n 1, 1) := by decide +kernel
theorem dX12_slot_56 : decode cX12_slot 56 = .ok (.dup2, 1) := by decide +kernel
theorem dX12_slot_57 : decode cX12_slot 57 = .ok (.iaload, 1) := by decide +kernel
theorem dX12_slot_58 : decode cX12_slot 58 = .ok (.iconst 1, 1) := by decide +kernel
theorem dX12_slot_59 : decode cX12_slot 59 = .ok (.isub, 1) := by decide +kernel
theorem dX12_slot_60 : decode cX12_slot 60 = .ok (.iastore, 1) := by decide +kernel
theorem dX12_slot_61 : decode cX12_slot 61 = .ok (.aload_n 0, 1) := by decide +kernel
theorem dX12_slot_62 : decode cX12_slot 62 = .ok (.getfield 9, 3) := by decide +kernel
theorem dX12_slot_65 : decode cX12_slot 65 = .ok (.iload_n 1, 1) := by decide +kernel
theorem dX12_slot_66 : decode cX12_slot 66 = .ok (.dup2, 1) := by decide +kernel
theorem dX12_slot_67 : decode cX12_slot 67 = .ok (.iaload, 1) := by decide +kernel
theorem dX12_slot_68 : decode cX12_slot 68 = .ok (.iconst 1, 1) := by decide +kernel
theorem dX12_slot_69 : decode cX12_slot 69 = .ok (.iadd, 1) := by decide +kernel
theorem dX12_slot_70 : decode cX12_slot 70 = .ok (.iastore, 1) := by decide +kernel
theorem dX12_slot_71 : decode cX12_slot 71 = .ok (.iload_n 2, 1) := by decide +kernel
theorem dX12_slot_72 : decode cX12_slot 72 = .ok (.aload_n 0, 1) := by decide +kernel
theorem dX12_slot_73 : decode cX12_slot 73 = .ok (.getfield 9, 3) := by decide +kernel
theorem dX12_slot_76 : decode cX12_slot 76 = .ok (.iload_n 1, 1) := by decide +kernel
theorem dX12_slot_77 : decode cX12_slot 77 = .ok (.iaload, 1) := by decide +kernel
theorem dX12_slot_78 : decode cX12_slot 78 = .ok (.iconst 1, 1) := by decide +kernel
theorem dX12_slot_79 : decode cX12_slot 79 = .ok (.isub, 1) := by decide +kernel
theorem dX12_slot_80 : decode cX12_slot 80 = .ok (.iload_n 3, 1) := by decide +kernel
theorem dX12_slot_81 : decode cX12_slot 81 = .ok (.imul, 1) := by decide +kernel
theorem dX12_slot_82 : decode cX12_slot 82 = .ok (.iadd, 1) := by decide +kernel
theorem dX12_slot_83 : decode cX12_slot 83 = .ok (.ireturn, 1) := by decide +kernel
abbrev cX12_sizeOf : ByteArray := prog_14_method_5_code
def yX12_sizeOf : MethodName := ⟨RX12, "sizeOf", "(I)I"⟩
theorem dX12_sizeOf_0 : decode cX12_sizeOf 0 = .ok (.iconst 0, 1) := by decide +kernel
theorem dX12_sizeOf_1 : decode cX12_sizeOf 1 = .ok (.istore_n 1, 1) := by decide +kernel
theorem dX12_sizeOf_2 : decode cX12_sizeOf 2 = .ok (.iload_n 0, 1) := by decide +kernel
theorem dX12_sizeOf_3 : decode cX12_sizeOf 3 = .ok (.istore_n 2, 1) := by decide +kernel
theorem dX12_sizeOf_4 : decode cX12_sizeOf 4 = .ok (.iload_n 2, 1) := by decide +kernel
theorem dX12_sizeOf_5 : decode cX12_sizeOf 5 = .ok (.ifCond .le 14, 3) := by decide +kernel
theorem dX12_sizeOf_8 : decode cX12_sizeOf 8 = .ok (.iinc 1 1, 3) := by decide +kernel
theorem dX12_sizeOf_11 : decode cX12_sizeOf 11 = .ok (.iload_n 2, 1) := by decide +kernel
theorem dX12_sizeOf_12 : decode cX12_sizeOf 12 = .ok (.bipush 27, 2) := by decide +kernel
theorem dX12_sizeOf_14 : decode cX12_sizeOf 14 = .ok (.idiv, 1) := by decide +kernel
theorem dX12_sizeOf_15 : decode cX12_sizeOf 15 = .ok (.istore_n 2, 1) := by decide +kernel
theorem dX12_sizeOf_16 : decode cX12_sizeOf 16 = .ok (.goto (-12), 3) := by decide +kernel
theorem dX12_sizeOf_19 : decode cX12_sizeOf 19 = .ok (.iload_n 1, 1) := by decide +kernel
theorem dX12_sizeOf_20 : decode cX12_sizeOf 20 = .ok (.ireturn, 1) := by decide +kernel
abbrev cX12_byteOf : ByteArray := prog_14_method_6_code
def yX12_byteOf : MethodName := ⟨RX12, "byteOf", "(II)I"⟩
theorem dX12_byteOf_0 : decode cX12_byteOf 0 = .ok (.iload_n 0, 1) := by decide +kernel
theorem dX12_byteOf_1 : decode cX12_byteOf 1 = .ok (.istore_n 2, 1) := by decide +kernel
theorem dX12_byteOf_2 : decode cX12_byteOf 2 = .ok (.iload_n 0, 1) := by decide +kernel
theorem dX12_byteOf_3 : decode cX12_byteOf 3 = .ok (.invokestatic 42, 3) := by decide +kernel
theorem dX12_byteOf_6 : decode cX12_byteOf 6 = .ok (.iconst 1, 1) := by decide +kernel
theorem dX12_byteOf_7 : decode cX12_byteOf 7 = .ok (.isub, 1) := by decide +kernel
theorem dX12_byteOf_8 : decode cX12_byteOf 8 = .ok (.istore_n 3, 1) := by decide +kernel
theorem dX12_byteOf_9 : decode cX12_byteOf 9 = .ok (.iload_n 3, 1) := by decide +kernel
theorem dX12_byteOf_10 : decode cX12_byteOf 10 = .ok (.iload_n 1, 1) := by decide +kernel
theorem dX12_byteOf_11 : decode cX12_byteOf 11 = .ok (.if_icmp .le 14, 3) := by decide +kernel
theorem dX12_byteOf_14 : decode cX12_byteOf 14 = .ok (.iload_n 2, 1) := by decide +kernel
theorem dX12_byteOf_15 : decode cX12_byteOf 15 = .ok (.bipush 27, 2) := by decide +kernel
theorem dX12_byteOf_17 : decode cX12_byteOf 17 = .ok (.idiv, 1) := by decide +kernel
theorem dX12_byteOf_18 : decode cX12_byteOf 18 = .ok (.istore_n 2, 1) := by decide +kernel
theorem dX12_byteOf_19 : decode cX12_byteOf 19 = .ok (.iinc 3 (-1), 3) := by decide +kernel
theorem dX12_byteOf_22 : decode cX12_byteOf 22 = .ok (.goto (-13), 3) := by decide +kernel
theorem dX12_byteOf_25 : decode cX12_byteOf 25 = .ok (.bipush 96, 2) := by decide +kernel
theorem dX12_byteOf_27 : decode cX12_byteOf 27 = .ok (.iload_n 2, 1) := by decide +kernel
theorem dX12_byteOf_28 : decode cX12_byteOf 28 = .ok (.bipush 27, 2) := by decide +kernel
theorem dX12_byteOf_30 : decode cX12_byteOf 30 = .ok (.irem, 1) := by decide +kernel
theorem dX12_byteOf_31 : decode cX12_byteOf 31 = .ok (.iadd, 1) := by decide +kernel
theorem dX12_byteOf_32 : decode cX12_byteOf 32 = .ok (.ireturn, 1) := by decide +kernel
theorem kw_1299 : Cond.methodLink "FrequencyShelfModel" 42 yX12_sizeOf ∈ TB := tb_at 1299 (by decide +kernel) (by decide +kernel)
theorem kw_1301 : Cond.code yX12_sizeOf cX12_sizeOf 3 (some .int) ∈ TB := tb_at 1301 (by decide +kernel) (by decide +kernel)
theorem kw_1300 : Cond.static yX12_sizeOf ∈ TB := tb_at 1300 (by decide +kernel) (by decide +kernel)
theorem cs_X12_sizeOf : Cond.code yX12_sizeOf cX12_sizeOf 3 (some .int) ∈ TB ∧ Cond.static yX12_sizeOf ∈ TB ∧ Cond.initialized "FrequencyShelfModel" ∈ TB := ⟨kw_1301, kw_1300, kw_75⟩
abbrev cX12_hashOf : ByteArray := prog_14_method_7_code
def yX12_hashOf : MethodName := ⟨RX12, "hashOf", "(I)I"⟩
theorem dX12_hashOf_0 : decode cX12_hashOf 0 = .ok (.bipush 7, 2) := by decide +kernel
theorem dX12_hashOf_2 : decode cX12_hashOf 2 = .ok (.istore_n 1, 1) := by decide +kernel
theorem dX12_hashOf_3 : decode cX12_hashOf 3 = .ok (.iload_n 0, 1) := by decide +kernel
theorem dX12_hashOf_4 : decode cX12_hashOf 4 = .ok (.invokestatic 42, 3) := by decide +kernel
theorem dX12_hashOf_7 : decode cX12_hashOf 7 = .ok (.istore_n 2, 1) := by decide +kernel
theorem dX12_hashOf_8 : decode cX12_hashOf 8 = .ok (.iconst 0, 1) := by decide +kernel
theorem dX12_hashOf_9 : decode cX12_hashOf 9 = .ok (.istore_n 3, 1) := by decide +kernel
theorem dX12_hashOf_10 : decode cX12_hashOf 10 = .ok (.iload_n 3, 1) := by decide +kernel
theorem dX12_hashOf_11 : decode cX12_hashOf 11 = .ok (.iload_n 2, 1) := by decide +kernel
theorem dX12_hashOf_12 : decode cX12_hashOf 12 = .ok (.if_icmp .ge 20, 3) := by decide +kernel
theorem dX12_hashOf_15 : decode cX12_hashOf 15 = .ok (.iload_n 1, 1) := by decide +kernel
theorem dX12_hashOf_16 : decode cX12_hashOf 16 = .ok (.bipush 31, 2) := by decide +kernel
theorem dX12_hashOf_18 : decode cX12_hashOf 18 = .ok (.imul, 1) := by decide +kernel
theorem dX12_hashOf_19 : decode cX12_hashOf 19 = .ok (.iload_n 0, 1) := by decide +kernel
theorem dX12_hashOf_20 : decode cX12_hashOf 20 = .ok (.iload_n 3, 1) := by decide +kernel
theorem dX12_hashOf_21 : decode cX12_hashOf 21 = .ok (.invokestatic 46, 3) := by decide +kernel
theorem dX12_hashOf_24 : decode cX12_hashOf 24 = .ok (.iadd, 1) := by decide +kernel
theorem dX12_hashOf_25 : decode cX12_hashOf 25 = .ok (.istore_n 1, 1) := by decide +kernel
theorem dX12_hashOf_26 : decode cX12_hashOf 26 = .ok (.iinc 3 1, 3) := by decide +kernel
theorem dX12_hashOf_29 : decode cX12_hashOf 29 = .ok (.goto (-19), 3) := by decide +kernel
theorem dX12_hashOf_32 : decode cX12_hashOf 32 = .ok (.iload_n 1, 1) := by decide +kernel
theorem dX12_hashOf_33 : decode cX12_hashOf 33 = .ok (.ireturn, 1) := by decide +kernel
theorem kw_1302 : Cond.methodLink "FrequencyShelfModel" 46 yX12_byteOf ∈ TB := tb_at 1302 (by decide +kernel) (by decide +kernel)
theorem kw_1304 : Cond.code yX12_byteOf cX12_byteOf 4 (some .int) ∈ TB := tb_at 1304 (by decide +kernel) (by decide +kernel)
theorem kw_1303 : Cond.static yX12_byteOf ∈ TB := tb_at 1303 (by decide +kernel) (by decide +kernel)
theorem cs_X12_byteOf : Cond.code yX12_byteOf cX12_byteOf 4 (some .int) ∈ TB ∧ Cond.static yX12_byteOf ∈ TB ∧ Cond.initialized "FrequencyShelfModel" ∈ TB := ⟨kw_1304, kw_1303, kw_75⟩
abbrev cX12_happens : ByteArray := prog_14_method_14_code
def yX12_happens : MethodName := ⟨RX12, "happens", "(II)V"⟩
theorem dX12_happens_0 : decode cX12_happens 0 = .ok (.aload_n 0, 1) := by decide +kernel
theorem dX12_happens_1 : decode cX12_happens 1 = .ok (.bipush 19, 2) := by decide +kernel
theorem dX12_happens_3 : decode cX12_happens 3 = .ok (.sipush 8667, 3) := by decide +kernel
theorem dX12_happens_6 : decode cX12_happens 6 = .ok (.iconst 3, 1) := by decide +kernel
theorem dX12_happens_7 : decode cX12_happens 7 = .ok (.bipush 40, 2) := by decide +kernel
theorem dX12_happens_9 : decode cX12_happens 9 = .ok (.invokevirtual 60, 3) := by decide +kernel
theorem dX12_happens_12 : decode cX12_happens 12 = .ok (.istore_n 3, 1) := by decide +kernel
theorem dX12_happens_13 : decode cX12_happens 13 = .ok (.aload_n 0, 1) := by decide +kernel
theorem dX12_happens_14 : decode cX12_happens 14 = .ok (.getfield 9, 3) := by decide +kernel
theorem dX12_happens_17 : decode cX12_happens 17 = .ok (.iload_n 3, 1) := by decide +kernel
theorem dX12_happens_18 : decode cX12_happens 18 = .ok (.iload_n 1, 1) := by decide +kernel
theorem dX12_happens_19 : decode cX12_happens 19 = .ok (.iastore, 1) := by decide +kernel
theorem dX12_happens_20 : decode cX12_happens 20 = .ok (.aload_n 0, 1) := by decide +kernel
theorem dX12_happens_21 : decode cX12_happens 21 = .ok (.getfield 9, 3) := by decide +kernel
theorem dX12_happens_24 : decode cX12_happens 24 = .ok (.iload_n 3, 1) := by decide +kernel
theorem dX12_happens_25 : decode cX12_happens 25 = .ok (.iconst 1, 1) := by decide +kernel
theorem dX12_happens_26 : decode cX12_happens 26 = .ok (.iadd, 1) := by decide +kernel
theorem dX12_happens_27 : decode cX12_happens 27 = .ok (.aload_n 0, 1) := by decide +kernel
theorem dX12_happens_28 : decode cX12_happens 28 = .ok (.getfield 9, 3) := by decide +kernel
theorem dX12_happens_31 : decode cX12_happens 31 = .ok (.bipush 8, 2) := by decide +kernel
theorem dX12_happens_33 : decode cX12_happens 33 = .ok (.iaload, 1) := by decide +kernel
theorem dX12_happens_34 : decode cX12_happens 34 = .ok (.iastore, 1) := by decide +kernel
theorem dX12_happens_35 : decode cX12_happens 35 = .ok (.aload_n 0, 1) := by decide +kernel
theorem dX12_happens_36 : decode cX12_happens 36 = .ok (.getfield 9, 3) := by decide +kernel
theorem dX12_happens_39 : decode cX12_happens 39 = .ok (.iload_n 3, 1) := by decide +kernel
theorem dX12_happens_40 : decode cX12_happens 40 = .ok (.iconst 2, 1) := by decide +kernel
theorem dX12_happens_41 : decode cX12_happens 41 = .ok (.iadd, 1) := by decide +kernel
theorem dX12_happens_42 : decode cX12_happens 42 = .ok (.iload_n 2, 1) := by decide +kernel
theorem dX12_happens_43 : decode cX12_happens 43 = .ok (.ifCond .ne 7, 3) := by decide +kernel
theorem dX12_happens_46 : decode cX12_happens 46 = .ok (.iconst 0, 1) := by decide +kernel
theorem dX12_happens_47 : decode cX12_happens 47 = .ok (.goto 7, 3) := by decide +kernel
theorem dX12_happens_50 : decode cX12_happens 50 = .ok (.iload_n 2, 1) := by decide +kernel
theorem dX12_happens_51 : decode cX12_happens 51 = .ok (.invokestatic 64, 3) := by decide +kernel
theorem dX12_happens_54 : decode cX12_happens 54 = .ok (.iastore, 1) := by decide +kernel
theorem dX12_happens_55 : decode cX12_happens 55 = .ok (.return_, 1) := by decide +kernel
theorem kw_1369 : Cond.methodLink "FrequencyShelfModel" 60 yX12_slot ∈ TB := tb_at 1369 (by decide +kernel) (by decide +kernel)
theorem kw_1372 : Cond.code yX12_slot cX12_slot 6 (some .int) ∈ TB := tb_at 1372 (by decide +kernel) (by decide +kernel)
theorem kw_1371 : Cond.instanceMethod yX12_slot ∈ TB := tb_at 1371 (by decide +kernel) (by decide +kernel)
theorem kw_28 : Cond.selects "FrequencyShelfModel" yX12_slot yX12_slot ∈ TB := tb_at 28 (by decide +kernel) (by decide +kernel)
theorem cv_X12_slot : Cond.code yX12_slot cX12_slot 6 (some .int) ∈ TB ∧ Cond.instanceMethod yX12_slot ∈ TB ∧ Cond.selects "FrequencyShelfModel" yX12_slot yX12_slot ∈ TB ∧ Cond.initialized "FrequencyShelfModel" ∈ TB := ⟨kw_1372, kw_1371, kw_28, kw_75⟩
theorem kw_1296 : Cond.methodLink "FrequencyShelfModel" 64 yX12_hashOf ∈ TB := tb_at 1296 (by decide +kernel) (by decide +kernel)
theorem kw_1298 : Cond.code yX12_hashOf cX12_hashOf 4 (some .int) ∈ TB := tb_at 1298 (by decide +kernel) (by decide +kernel)
theorem kw_1297 : Cond.static yX12_hashOf ∈ TB := tb_at 1297 (by decide +kernel) (by decide +kernel)
theorem cs_X12_hashOf : Cond.code yX12_hashOf cX12_hashOf 4 (some .int) ∈ TB ∧ Cond.static yX12_hashOf ∈ TB ∧ Cond.initialized "FrequencyShelfModel" ∈ TB := ⟨kw_1298, kw_1297, kw_75⟩
abbrev cX12_writes : ByteArray := prog_14_method_15_code
def yX12_writes : MethodName := ⟨RX12, "writes", "(II)V"⟩
theorem dX12_writes_0 : decode cX12_writes 0 = .ok (.aload_n 0, 1) := by decide +kernel
theorem dX12_writes_1 : decode cX12_writes 1 = .ok (.bipush 17, 2) := by decide +kernel
theorem dX12_writes_3 : decode cX12_writes 3 = .ok (.sipush 8527, 3) := by decide +kernel
theorem dX12_writes_6 : decode cX12_writes 6 = .ok (.iconst 2, 1) := by decide +kernel
theorem dX12_writes_7 : decode cX12_writes 7 = .ok (.bipush 40, 2) := by decide +kernel
theorem dX12_writes_9 : decode cX12_writes 9 = .ok (.invokevirtual 60, 3) := by decide +kernel
theorem dX12_writes_12 : decode cX12_writes 12 = .ok (.istore_n 3, 1) := by decide +kernel
theorem dX12_writes_13 : decode cX12_writes 13 = .ok (.aload_n 0, 1) := by decide +kernel
theorem dX12_writes_14 : decode cX12_writes 14 = .ok (.getfield 9, 3) := by decide +kernel
theorem dX12_writes_17 : decode cX12_writes 17 = .ok (.iload_n 3, 1) := by decide +kernel
theorem dX12_writes_18 : decode cX12_writes 18 = .ok (.iload_n 1, 1) := by decide +kernel
theorem dX12_writes_19 : decode cX12_writes 19 = .ok (.iastore, 1) := by decide +kernel
theorem dX12_writes_20 : decode cX12_writes 20 = .ok (.aload_n 0, 1) := by decide +kernel
theorem dX12_writes_21 : decode cX12_writes 21 = .ok (.getfield 9, 3) := by decide +kernel
theorem dX12_writes_24 : decode cX12_writes 24 = .ok (.iload_n 3, 1) := by decide +kernel
theorem dX12_writes_25 : decode cX12_writes 25 = .ok (.iconst 1, 1) := by decide +kernel
theorem dX12_writes_26 : decode cX12_writes 26 = .ok (.iadd, 1) := by decide +kernel
theorem dX12_writes_27 : decode cX12_writes 27 = .ok (.iload_n 2, 1) := by decide +kernel
theorem dX12_writes_28 : decode cX12_writes 28 = .ok (.iastore, 1) := by decide +kernel
theorem dX12_writes_29 : decode cX12_writes 29 = .ok (.aload_n 0, 1) := by decide +kernel
theorem dX12_writes_30 : decode cX12_writes 30 = .ok (.getfield 9, 3) := by decide +kernel
theorem dX12_writes_33 : decode cX12_writes 33 = .ok (.bipush 31, 2) := by decide +kernel
theorem dX12_writes_35 : decode cX12_writes 35 = .ok (.dup2, 1) := by decide +kernel
theorem dX12_writes_36 : decode cX12_writes 36 = .ok (.iaload, 1) := by decide +kernel
theorem dX12_writes_37 : decode cX12_writes 37 = .ok (.iconst 1, 1) := by decide +kernel
theorem dX12_writes_38 : decode cX12_writes 38 = .ok (.iadd, 1) := by decide +kernel
theorem dX12_writes_39 : decode cX12_writes 39 = .ok (.iastore, 1) := by decide +kernel
theorem dX12_writes_40 : decode cX12_writes 40 = .ok (.aload_n 0, 1) := by decide +kernel
theorem dX12_writes_41 : decode cX12_writes 41 = .ok (.bipush 11, 2) := by decide +kernel
theorem dX12_writes_43 : decode cX12_writes 43 = .ok (.iload_n 1, 1) := by decide +kernel
theorem dX12_writes_44 : decode cX12_writes 44 = .ok (.invokevirtual 67, 3) := by decide +kernel
theorem dX12_writes_47 : decode cX12_writes 47 = .ok (.return_, 1) := by decide +kernel
theorem kw_1373 : Cond.methodLink "FrequencyShelfModel" 67 yX12_happens ∈ TB := tb_at 1373 (by decide +kernel) (by decide +kernel)
theorem kw_1376 : Cond.code yX12_happens cX12_happens 4 none ∈ TB := tb_at 1376 (by decide +kernel) (by decide +kernel)
theorem kw_1375 : Cond.instanceMethod yX12_happens ∈ TB := tb_at 1375 (by decide +kernel) (by decide +kernel)
theorem kw_29 : Cond.selects "FrequencyShelfModel" yX12_happens yX12_happens ∈ TB := tb_at 29 (by decide +kernel) (by decide +kernel)
theorem cv_X12_happens : Cond.code yX12_happens cX12_happens 4 none ∈ TB ∧ Cond.instanceMethod yX12_happens ∈ TB ∧ Cond.selects "FrequencyShelfModel" yX12_happens yX12_happens ∈ TB ∧ Cond.initialized "FrequencyShelfModel" ∈ TB := ⟨kw_1376, kw_1375, kw_29, kw_75⟩
abbrev cX12_leaves : ByteArray := prog_14_method_29_code
def yX12_leaves : MethodName := ⟨RX12, "leaves", "(II)V"⟩
theorem dX12_leaves_0 : decode cX12_leaves 0 = .ok (.aload_n 0, 1) := by decide +kernel
theorem dX12_leaves_1 : decode cX12_leaves 1 = .ok (.iload_n 1, 1) := by decide +kernel
theorem dX12_leaves_2 : decode cX12_leaves 2 = .ok (.bipush 8, 2) := by decide +kernel
theorem dX12_leaves_4 : decode cX12_leaves 4 = .ok (.invokevirtual 86, 3) := by decide +kernel
theorem dX12_leaves_7 : decode cX12_leaves 7 = .ok (.ifCond .eq 19, 3) := by decide +kernel
theorem dX12_leaves_10 : decode cX12_leaves 10 = .ok (.aload_n 0, 1) := by decide +kernel
theorem dX12_leaves_11 : decode cX12_leaves 11 = .ok (.aload_n 0, 1) := by decide +kernel
theorem dX12_leaves_12 : decode cX12_leaves 12 = .ok (.iload_n 1, 1) := by decide +kernel
theorem dX12_leaves_13 : decode cX12_leaves 13 = .ok (.iconst 0, 1) := by decide +kernel
theorem dX12_leaves_14 : decode cX12_leaves 14 = .ok (.invokevirtual 86, 3) := by decide +kernel
theorem dX12_leaves_17 : decode cX12_leaves 17 = .ok (.aload_n 0, 1) := by decide +kernel
theorem dX12_leaves_18 : decode cX12_leaves 18 = .ok (.iload_n 1, 1) := by decide +kernel
theorem dX12_leaves_19 : decode cX12_leaves 19 = .ok (.iconst 1, 1) := by decide +kernel
theorem dX12_leaves_20 : decode cX12_leaves 20 = .ok (.invokevirtual 86, 3) := by decide +kernel
theorem dX12_leaves_23 : decode cX12_leaves 23 = .ok (.invokevirtual 100, 3) := by decide +kernel
theorem dX12_leaves_26 : decode cX12_leaves 26 = .ok (.aload_n 0, 1) := by decide +kernel
theorem dX12_leaves_27 : decode cX12_leaves 27 = .ok (.iload_n 2, 1) := by decide +kernel
theorem dX12_leaves_28 : decode cX12_leaves 28 = .ok (.aload_n 0, 1) := by decide +kernel
theorem dX12_leaves_29 : decode cX12_leaves 29 = .ok (.iload_n 1, 1) := by decide +kernel
theorem dX12_leaves_30 : decode cX12_leaves 30 = .ok (.iconst 0, 1) := by decide +kernel
theorem dX12_leaves_31 : decode cX12_leaves 31 = .ok (.invokevirtual 86, 3) := by decide +kernel
theorem dX12_leaves_34 : decode cX12_leaves 34 = .ok (.invokevirtual 67, 3) := by decide +kernel
theorem dX12_leaves_37 : decode cX12_leaves 37 = .ok (.aload_n 0, 1) := by decide +kernel
theorem dX12_leaves_38 : decode cX12_leaves 38 = .ok (.bipush 13, 2) := by decide +kernel
theorem dX12_leaves_40 : decode cX12_leaves 40 = .ok (.bipush 98, 2) := by decide +kernel
theorem dX12_leaves_42 : decode cX12_leaves 42 = .ok (.bipush 9, 2) := by decide +kernel
theorem dX12_leaves_44 : decode cX12_leaves 44 = .ok (.iload_n 1, 1) := by decide +kernel
theorem dX12_leaves_45 : decode cX12_leaves 45 = .ok (.invokevirtual 103, 3) := by decide +kernel
theorem dX12_leaves_48 : decode cX12_leaves 48 = .ok (.return_, 1) := by decide +kernel
theorem kw_1365 : Cond.methodLink "FrequencyShelfModel" 100 yX12_writes ∈ TB := tb_at 1365 (by decide +kernel) (by decide +kernel)
theorem kw_1368 : Cond.code yX12_writes cX12_writes 4 none ∈ TB := tb_at 1368 (by decide +kernel) (by decide +kernel)
theorem kw_1367 : Cond.instanceMethod yX12_writes ∈ TB := tb_at 1367 (by decide +kernel) (by decide +kernel)
theorem kw_27 : Cond.selects "FrequencyShelfModel" yX12_writes yX12_writes ∈ TB := tb_at 27 (by decide +kernel) (by decide +kernel)
theorem cv_X12_writes : Cond.code yX12_writes cX12_writes 4 none ∈ TB ∧ Cond.instanceMethod yX12_writes ∈ TB ∧ Cond.selects "FrequencyShelfModel" yX12_writes yX12_writes ∈ TB ∧ Cond.initialized "FrequencyShelfModel" ∈ TB := ⟨kw_1368, kw_1367, kw_27, kw_75⟩
abbrev cX12_yields : ByteArray := prog_14_method_30_code
def yX12_yields : MethodName := ⟨RX12, "yields", "(I)V"⟩
theorem dX12_yields_0 : decode cX12_yields 0 = .ok (.aload_n 0, 1) := by decide +kernel
theorem dX12_yields_1 : decode cX12_yields 1 = .ok (.iload_n 1, 1) := by decide +kernel
theorem dX12_yields_2 : decode cX12_yields 2 = .ok (.invokevirtual 93, 3) := by decide +kernel
theorem dX12_yields_5 : decode cX12_yields 5 = .ok (.ifCond .ne 7, 3) := by decide +kernel
theorem dX12_yields_8 : decode cX12_yields 8 = .ok (.iconst 1, 1) := by decide +kernel
theorem dX12_yields_9 : decode cX12_yields 9 = .ok (.goto 4, 3) := by decide +kernel
theorem dX12_yields_12 : decode cX12_yields 12 = .ok (.iconst 0, 1) := by decide +kernel
theorem dX12_yields_13 : decode cX12_yields 13 = .ok (.istore_n 2, 1) := by decide +kernel
theorem dX12_yields_14 : decode cX12_yields 14 = .ok (.bipush 98, 2) := by decide +kernel
theorem dX12_yields_16 : decode cX12_yields 16 = .ok (.iload_n 1, 1) := by decide +kernel
theorem dX12_yields_17 : decode cX12_yields 17 = .ok (.bipush 9, 2) := by decide +kernel
theorem dX12_yields_19 : decode cX12_yields 19 = .ok (.imul, 1) := by decide +kernel
theorem dX12_yields_20 : decode cX12_yields 20 = .ok (.iadd, 1) := by decide +kernel
theorem dX12_yields_21 : decode cX12_yields 21 = .ok (.istore_n 3, 1) := by decide +kernel
theorem dX12_yields_22 : decode cX12_yields 22 = .ok (.aload_n 0, 1) := by decide +kernel
theorem dX12_yields_23 : decode cX12_yields 23 = .ok (.getfield 9, 3) := by decide +kernel
theorem dX12_yields_26 : decode cX12_yields 26 = .ok (.bipush 27, 2) := by decide +kernel
theorem dX12_yields_28 : decode cX12_yields 28 = .ok (.dup2, 1) := by decide +kernel
theorem dX12_yields_29 : decode cX12_yields 29 = .ok (.iaload, 1) := by decide +kernel
theorem dX12_yields_30 : decode cX12_yields 30 = .ok (.iconst 1, 1) := by decide +kernel
theorem dX12_yields_31 : decode cX12_yields 31 = .ok (.iadd, 1) := by decide +kernel
theorem dX12_yields_32 : decode cX12_yields 32 = .ok (.iastore, 1) := by decide +kernel
theorem dX12_yields_33 : decode cX12_yields 33 = .ok (.iload_n 2, 1) := by decide +kernel
theorem dX12_yields_34 : decode cX12_yields 34 = .ok (.ifCond .eq 47, 3) := by decide +kernel
theorem dX12_yields_37 : decode cX12_yields 37 = .ok (.aload_n 0, 1) := by decide +kernel
theorem dX12_yields_38 : decode cX12_yields 38 = .ok (.aload_n 0, 1) := by decide +kernel
theorem dX12_yields_39 : decode cX12_yields 39 = .ok (.getfield 9, 3) := by decide +kernel
theorem dX12_yields_42 : decode cX12_yields 42 = .ok (.iload_n 3, 1) := by decide +kernel
theorem dX12_yields_43 : decode cX12_yields 43 = .ok (.iconst 0, 1) := by decide +kernel
theorem dX12_yields_44 : decode cX12_yields 44 = .ok (.iadd, 1) := by decide +kernel
theorem dX12_yields_45 : decode cX12_yields 45 = .ok (.iaload, 1) := by decide +kernel
theorem dX12_yields_46 : decode cX12_yields 46 = .ok (.aload_n 0, 1) := by decide +kernel
theorem dX12_yields_47 : decode cX12_yields 47 = .ok (.getfield 9, 3) := by decide +kernel
theorem dX12_yields_50 : decode cX12_yields 50 = .ok (.iload_n 3, 1) := by decide +kernel
theorem dX12_yields_51 : decode cX12_yields 51 = .ok (.iconst 1, 1) := by decide +kernel
theorem dX12_yields_52 : decode cX12_yields 52 = .ok (.iadd, 1) := by decide +kernel
theorem dX12_yields_53 : decode cX12_yields 53 = .ok (.iaload, 1) := by decide +kernel
theorem dX12_yields_54 : decode cX12_yields 54 = .ok (.aload_n 0, 1) := by decide +kernel
theorem dX12_yields_55 : decode cX12_yields 55 = .ok (.getfield 9, 3) := by decide +kernel
theorem dX12_yields_58 : decode cX12_yields 58 = .ok (.iload_n 3, 1) := by decide +kernel
theorem dX12_yields_59 : decode cX12_yields 59 = .ok (.iconst 2, 1) := by decide +kernel
theorem dX12_yields_60 : decode cX12_yields 60 = .ok (.iadd, 1) := by decide +kernel
theorem dX12_yields_61 : decode cX12_yields 61 = .ok (.iaload, 1) := by decide +kernel
theorem dX12_yields_62 : decode cX12_yields 62 = .ok (.aload_n 0, 1) := by decide +kernel
theorem dX12_yields_63 : decode cX12_yields 63 = .ok (.getfield 9, 3) := by decide +kernel
theorem dX12_yields_66 : decode cX12_yields 66 = .ok (.iload_n 3, 1) := by decide +kernel
theorem dX12_yields_67 : decode cX12_yields 67 = .ok (.iconst 3, 1) := by decide +kernel
theorem dX12_yields_68 : decode cX12_yields 68 = .ok (.iadd, 1) := by decide +kernel
theorem dX12_yields_69 : decode cX12_yields 69 = .ok (.iaload, 1) := by decide +kernel
theorem dX12_yields_70 : decode cX12_yields 70 = .ok (.aload_n 0, 1) := by decide +kernel
theorem dX12_yields_71 : decode cX12_yields 71 = .ok (.getfield 9, 3) := by decide +kernel
theorem dX12_yields_74 : decode cX12_yields 74 = .ok (.iload_n 3, 1) := by decide +kernel
theorem dX12_yields_75 : decode cX12_yields 75 = .ok (.iconst 4, 1) := by decide +kernel
theorem dX12_yields_76 : decode cX12_yields 76 = .ok (.iadd, 1) := by decide +kernel
theorem dX12_yields_77 : decode cX12_yields 77 = .ok (.iaload, 1) := by decide +kernel
theorem dX12_yields_78 : decode cX12_yields 78 = .ok (.invokevirtual 107, 3) := by decide +kernel
theorem dX12_yields_81 : decode cX12_yields 81 = .ok (.aload_n 0, 1) := by decide +kernel
theorem dX12_yields_82 : decode cX12_yields 82 = .ok (.iload_n 1, 1) := by decide +kernel
theorem dX12_yields_83 : decode cX12_yields 83 = .ok (.bipush 7, 2) := by decide +kernel
theorem dX12_yields_85 : decode cX12_yields 85 = .ok (.invokevirtual 111, 3) := by decide +kernel
theorem dX12_yields_88 : decode cX12_yields 88 = .ok (.return_, 1) := by decide +kernel
theorem kw_1361 : Cond.methodLink "FrequencyShelfModel" 111 yX12_leaves ∈ TB := tb_at 1361 (by decide +kernel) (by decide +kernel)
theorem kw_1364 : Cond.code yX12_leaves cX12_leaves 3 none ∈ TB := tb_at 1364 (by decide +kernel) (by decide +kernel)
theorem kw_1363 : Cond.instanceMethod yX12_leaves ∈ TB := tb_at 1363 (by decide +kernel) (by decide +kernel)
theorem kw_26 : Cond.selects "FrequencyShelfModel" yX12_leaves yX12_leaves ∈ TB := tb_at 26 (by decide +kernel) (by decide +kernel)
theorem cv_X12_leaves : Cond.code yX12_leaves cX12_leaves 3 none ∈ TB ∧ Cond.instanceMethod yX12_leaves ∈ TB ∧ Cond.selects "FrequencyShelfModel" yX12_leaves yX12_leaves ∈ TB ∧ Cond.initialized "FrequencyShelfModel" ∈ TB := ⟨kw_1364, kw_1363, kw_26, kw_75⟩
theorem kw_1349 : Cond.methodLink "FrequencyShelfModel" 107 yX12_cools ∈ TB := tb_at 1349 (by decide +kernel) (by decide +kernel)
theorem kw_1352 : Cond.code yX12_cools cX12_cools 7 none ∈ TB := tb_at 1352 (by decide +kernel) (by decide +kernel)
theorem kw_1351 : Cond.instanceMethod yX12_cools ∈ TB := tb_at 1351 (by decide +kernel) (by decide +kernel)
theorem kw_23 : Cond.selects "FrequencyShelfModel" yX12_cools yX12_cools ∈ TB := tb_at 23 (by decide +kernel) (by decide +kernel)
theorem cv_X12_cools : Cond.code yX12_cools cX12_cools 7 none ∈ TB ∧ Cond.instanceMethod yX12_cools ∈ TB ∧ Cond.selects "FrequencyShelfModel" yX12_cools yX12_cools ∈ TB ∧ Cond.initialized "FrequencyShelfModel" ∈ TB := ⟨kw_1352, kw_1351, kw_23, kw_75⟩
abbrev cX12_makesRoom : ByteArray := prog_14_method_35_code
def yX12_makesRoom : MethodName := ⟨RX12, "makesRoom", "(II)V"⟩
theorem dX12_makesRoom_0 : decode cX12_makesRoom 0 = .ok (.aload_n 0, 1) := by decide +kernel
theorem dX12_makesRoom_1 : decode cX12_makesRoom 1 = .ok (.invokevirtual 120, 3) := by decide +kernel
theorem dX12_makesRoom_4 : decode cX12_makesRoom 4 = .ok (.iload_n 1, 1) := by decide +kernel
theorem dX12_makesRoom_5 : decode cX12_makesRoom 5 = .ok (.iadd, 1) := by decide +kernel
theorem dX12_makesRoom_6 : decode cX12_makesRoom 6 = .ok (.aload_n 0, 1) := by decide +kernel
theorem dX12_makesRoom_7 : decode cX12_makesRoom 7 = .ok (.getfield 9, 3) := by decide +kernel
theorem dX12_makesRoom_10 : decode cX12_makesRoom 10 = .ok (.iconst 0, 1) := by decide +kernel
theorem dX12_makesRoom_11 : decode cX12_makesRoom 11 = .ok (.iaload, 1) := by decide +kernel
theorem dX12_makesRoom_12 : decode cX12_makesRoom 12 = .ok (.if_icmp .le 15, 3) := by decide +kernel
theorem dX12_makesRoom_15 : decode cX12_makesRoom 15 = .ok (.aload_n 0, 1) := by decide +kernel
theorem dX12_makesRoom_16 : decode cX12_makesRoom 16 = .ok (.aload_n 0, 1) := by decide +kernel
theorem dX12_makesRoom_17 : decode cX12_makesRoom 17 = .ok (.iload_n 2, 1) := by decide +kernel
theorem dX12_makesRoom_18 : decode cX12_makesRoom 18 = .ok (.invokevirtual 123, 3) := by decide +kernel
theorem dX12_makesRoom_21 : decode cX12_makesRoom 21 = .ok (.invokevirtual 126, 3) := by decide +kernel
theorem dX12_makesRoom_24 : decode cX12_makesRoom 24 = .ok (.goto (-24), 3) := by decide +kernel
theorem dX12_makesRoom_27 : decode cX12_makesRoom 27 = .ok (.return_, 1) := by decide +kernel
theorem kw_1321 : Cond.methodLink "FrequencyShelfModel" 120 yX12_weight ∈ TB := tb_at 1321 (by decide +kernel) (by decide +kernel)
theorem kw_1324 : Cond.code yX12_weight cX12_weight 3 (some .int) ∈ TB := tb_at 1324 (by decide +kernel) (by decide +kernel)
theorem kw_1323 : Cond.instanceMethod yX12_weight ∈ TB := tb_at 1323 (by decide +kernel) (by decide +kernel)
theorem kw_16 : Cond.selects "FrequencyShelfModel" yX12_weight yX12_weight ∈ TB := tb_at 16 (by decide +kernel) (by decide +kernel)
theorem cv_X12_weight : Cond.code yX12_weight cX12_weight 3 (some .int) ∈ TB ∧ Cond.instanceMethod yX12_weight ∈ TB ∧ Cond.selects "FrequencyShelfModel" yX12_weight yX12_weight ∈ TB ∧ Cond.initialized "FrequencyShelfModel" ∈ TB := ⟨kw_1324, kw_1323, kw_16, kw_75⟩
theorem kw_1329 : Cond.methodLink "FrequencyShelfModel" 123 yX12_firstToGo ∈ TB := tb_at 1329 (by decide +kernel) (by decide +kernel)
theorem kw_1332 : Cond.code yX12_firstToGo cX12_firstToGo 4 (some .int) ∈ TB := tb_at 1332 (by decide +kernel) (by decide +kernel)
theorem kw_1331 : Cond.instanceMethod yX12_firstToGo ∈ TB := tb_at 1331 (by decide +kernel) (by decide +kernel)
theorem kw_18 : Cond.selects "FrequencyShelfModel" yX12_firstToGo yX12_firstToGo ∈ TB := tb_at 18 (by decide +kernel) (by decide +kernel)
theorem cv_X12_firstToGo : Cond.code yX12_firstToGo cX12_firstToGo 4 (some .int) ∈ TB ∧ Cond.instanceMethod yX12_firstToGo ∈ TB ∧ Cond.selects "FrequencyShelfModel" yX12_firstToGo yX12_firstToGo ∈ TB ∧ Cond.initialized "FrequencyShelfModel" ∈ TB := ⟨kw_1332, kw_1331, kw_18, kw_75⟩
theorem kw_1345 : Cond.methodLink "FrequencyShelfModel" 126 yX12_yields ∈ TB := tb_at 1345 (by decide +kernel) (by decide +kernel)
theorem kw_1348 : Cond.code yX12_yields cX12_yields 4 none ∈ TB := tb_at 1348 (by decide +kernel) (by decide +kernel)
theorem kw_1347 : Cond.instanceMethod yX12_yields ∈ TB := tb_at 1347 (by decide +kernel) (by decide +kernel)
theorem kw_22 : Cond.selects "FrequencyShelfModel" yX12_yields yX12_yields ∈ TB := tb_at 22 (by decide +kernel) (by decide +kernel)
theorem cv_X12_yields : Cond.code yX12_yields cX12_yields 4 none ∈ TB ∧ Cond.instanceMethod yX12_yields ∈ TB ∧ Cond.selects "FrequencyShelfModel" yX12_yields yX12_yields ∈ TB ∧ Cond.initialized "FrequencyShelfModel" ∈ TB := ⟨kw_1348, kw_1347, kw_22, kw_75⟩
abbrev cX12_loadAt : ByteArray := prog_14_method_42_code
def yX12_loadAt : MethodName := ⟨RX12, "loadAt", "(II)I"⟩
theorem dX12_loadAt_0 : decode cX12_loadAt 0 = .ok (.aload_n 0, 1) := by decide +kernel
theorem dX12_loadAt_1 : decode cX12_loadAt 1 = .ok (.getfield 9, 3) := by decide +kernel
theorem dX12_loadAt_4 : decode cX12_loadAt 4 = .ok (.sipush 2003, 3) := by decide +kernel
theorem dX12_loadAt_7 : decode cX12_loadAt 7 = .ok (.iload_n 1, 1) := by decide +kernel
theorem dX12_loadAt_8 : decode cX12_loadAt 8 = .ok (.bipush 20, 2) := by decide +kernel
theorem dX12_loadAt_10 : decode cX12_loadAt 10 = .ok (.imul, 1) := by decide +kernel
theorem dX12_loadAt_11 : decode cX12_loadAt 11 = .ok (.iadd, 1) := by decide +kernel
theorem dX12_loadAt_12 : decode cX12_loadAt 12 = .ok (.iload_n 2, 1) := by decide +kernel
theorem dX12_loadAt_13 : decode cX12_loadAt 13 = .ok (.iadd, 1) := by decide +kernel
theorem dX12_loadAt_14 : decode cX12_loadAt 14 = .ok (.iaload, 1) := by decide +kernel
theorem dX12_loadAt_15 : decode cX12_loadAt 15 = .ok (.ireturn, 1) := by decide +kernel
abbrev cX12_loads : ByteArray := prog_14_method_44_code
def yX12_loads : MethodName := ⟨RX12, "loads", "(I)I"⟩
theorem dX12_loads_0 : decode cX12_loads 0 = .ok (.iconst 0, 1) := by decide +kernel
theorem dX12_loads_1 : decode cX12_loads 1 = .ok (.istore_n 2, 1) := by decide +kernel
theorem dX12_loads_2 : decode cX12_loads 2 = .ok (.iconst 0, 1) := by decide +kernel
theorem dX12_loads_3 : decode cX12_loads 3 = .ok (.istore_n 3, 1) := by decide +kernel
theorem dX12_loads_4 : decode cX12_loads 4 = .ok (.iload_n 3, 1) := by decide +kernel
theorem dX12_loads_5 : decode cX12_loads 5 = .ok (.aload_n 0, 1) := by decide +kernel
theorem dX12_loads_6 : decode cX12_loads 6 = .ok (.getfield 9, 3) := by decide +kernel
theorem dX12_loads_9 : decode cX12_loads 9 = .ok (.bipush 15, 2) := by decide +kernel
theorem dX12_loads_11 : decode cX12_loads 11 = .ok (.iaload, 1) := by decide +kernel
theorem dX12_loads_12 : decode cX12_loads 12 = .ok (.if_icmp .ge 27, 3) := by decide +kernel
theorem dX12_loads_15 : decode cX12_loads 15 = .ok (.iload_n 2, 1) := by decide +kernel
theorem dX12_loads_16 : decode cX12_loads 16 = .ok (.aload_n 0, 1) := by decide +kernel
theorem dX12_loads_17 : decode cX12_loads 17 = .ok (.iload_n 3, 1) := by decide +kernel
theorem dX12_loads_18 : decode cX12_loads 18 = .ok (.iconst 1, 1) := by decide +kernel
theorem dX12_loads_19 : decode cX12_loads 19 = .ok (.invokevirtual 147, 3) := by decide +kernel
theorem dX12_loads_22 : decode cX12_loads 22 = .ok (.iload_n 1, 1) := by decide +kernel
theorem dX12_loads_23 : decode cX12_loads 23 = .ok (.if_icmp .ne 7, 3) := by decide +kernel
theorem dX12_loads_26 : decode cX12_loads 26 = .ok (.iconst 1, 1) := by decide +kernel
theorem dX12_loads_27 : decode cX12_loads 27 = .ok (.goto 4, 3) := by decide +kernel
theorem dX12_loads_30 : decode cX12_loads 30 = .ok (.iconst 0, 1) := by decide +kernel
theorem dX12_loads_31 : decode cX12_loads 31 = .ok (.iadd, 1) := by decide +kernel
theorem dX12_loads_32 : decode cX12_loads 32 = .ok (.istore_n 2, 1) := by decide +kernel
theorem dX12_loads_33 : decode cX12_loads 33 = .ok (.iinc 3 1, 3) := by decide +kernel
theorem dX12_loads_36 : decode cX12_loads 36 = .ok (.goto (-32), 3) := by decide +kernel
theorem dX12_loads_39 : decode cX12_loads 39 = .ok (.iload_n 2, 1) := by decide +kernel
theorem dX12_loads_40 : decode cX12_loads 40 = .ok (.ireturn, 1) := by decide +kernel
theorem kw_1385 : Cond.methodLink "FrequencyShelfModel" 147 yX12_loadAt ∈ TB := tb_at 1385 (by decide +kernel) (by decide +kernel)
theorem kw_1388 : Cond.code yX12_loadAt cX12_loadAt 3 (some .int) ∈ TB := tb_at 1388 (by decide +kernel) (by decide +kernel)
theorem kw_1387 : Cond.instanceMethod yX12_loadAt ∈ TB := tb_at 1387 (by decide +kernel) (by decide +kernel)
theorem kw_32 : Cond.selects "FrequencyShelfModel" yX12_loadAt yX12_loadAt ∈ TB := tb_at 32 (by decide +kernel) (by decide +kernel)
theorem cv_X12_loadAt : Cond.code yX12_loadAt cX12_loadAt 3 (some .int) ∈ TB ∧ Cond.instanceMethod yX12_loadAt ∈ TB ∧ Cond.selects "FrequencyShelfModel" yX12_loadAt yX12_loadAt ∈ TB ∧ Cond.initialized "FrequencyShelfModel" ∈ TB := ⟨kw_1388, kw_1387, kw_32, kw_75⟩
abbrev cX12_runs : ByteArray := prog_14_method_45_code
def yX12_runs : MethodName := ⟨RX12, "runs", "()V"⟩
theorem dX12_runs_0 : decode cX12_runs 0 = .ok (.aload_n 0, 1) := by decide +kernel
theorem dX12_runs_1 : decode cX12_runs 1 = .ok (.getfield 9, 3) := by decide +kernel
theorem dX12_runs_4 : decode cX12_runs 4 = .ok (.iconst 4, 1) := by decide +kernel
theorem dX12_runs_5 : decode cX12_runs 5 = .ok (.iaload, 1) := by decide +kernel
theorem dX12_runs_6 : decode cX12_runs 6 = .ok (.aload_n 0, 1) := by decide +kernel
theorem dX12_runs_7 : decode cX12_runs 7 = .ok (.iconst 2, 1) := by decide +kernel
theorem dX12_runs_8 : decode cX12_runs 8 = .ok (.invokevirtual 153, 3) := by decide +kernel
theorem dX12_runs_11 : decode cX12_runs 11 = .ok (.isub, 1) := by decide +kernel
theorem dX12_runs_12 : decode cX12_runs 12 = .ok (.istore_n 1, 1) := by decide +kernel
theorem dX12_runs_13 : decode cX12_runs 13 = .ok (.iconst 0, 1) := by decide +kernel
theorem dX12_runs_14 : decode cX12_runs 14 = .ok (.istore_n 2, 1) := by decide +kernel
theorem dX12_runs_15 : decode cX12_runs 15 = .ok (.iload_n 2, 1) := by decide +kernel
theorem dX12_runs_16 : decode cX12_runs 16 = .ok (.aload_n 0, 1) := by decide +kernel
theorem dX12_runs_17 : decode cX12_runs 17 = .ok (.getfield 9, 3) := by decide +kernel
theorem dX12_runs_20 : decode cX12_runs 20 = .ok (.bipush 15, 2) := by decide +kernel
theorem dX12_runs_22 : decode cX12_runs 22 = .ok (.iaload, 1) := by decide +kernel
theorem dX12_runs_23 : decode cX12_runs 23 = .ok (.if_icmp .ge 109, 3) := by decide +kernel
theorem dX12_runs_26 : decode cX12_runs 26 = .ok (.iload_n 1, 1) := by decide +kernel
theorem dX12_runs_27 : decode cX12_runs 27 = .ok (.ifCond .le 105, 3) := by decide +kernel
theorem dX12_runs_30 : decode cX12_runs 30 = .ok (.aload_n 0, 1) := by decide +kernel
theorem dX12_runs_31 : decode cX12_runs 31 = .ok (.iload_n 2, 1) := by decide +kernel
theorem dX12_runs_32 : decode cX12_runs 32 = .ok (.iconst 1, 1) := by decide +kernel
theorem dX12_runs_33 : decode cX12_runs 33 = .ok (.invokevirtual 147, 3) := by decide +kernel
theorem dX12_runs_36 : decode cX12_runs 36 = .ok (.iconst 1, 1) := by decide +kernel
theorem dX12_runs_37 : decode cX12_runs 37 = .ok (.if_icmp .ne 89, 3) := by decide +kernel
theorem dX12_runs_40 : decode cX12_runs 40 = .ok (.aload_n 0, 1) := by decide +kernel
theorem dX12_runs_41 : decode cX12_runs 41 = .ok (.getfield 9, 3) := by decide +kernel
theorem dX12_runs_44 : decode cX12_runs 44 = .ok (.sipush 2003, 3) := by decide +kernel
theorem dX12_runs_47 : decode cX12_runs 47 = .ok (.iload_n 2, 1) := by decide +kernel
theorem dX12_runs_48 : decode cX12_runs 48 = .ok (.bipush 20, 2) := by decide +kernel
theorem dX12_runs_50 : decode cX12_runs 50 = .ok (.imul, 1) := by decide +kernel
theorem dX12_runs_51 : decode cX12_runs 51 = .ok (.iadd, 1) := by decide +kernel
theorem dX12_runs_52 : decode cX12_runs 52 = .ok (.iconst 1, 1) := by decide +kernel
theorem dX12_runs_53 : decode cX12_runs 53 = .ok (.iadd, 1) := by decide +kernel
theorem dX12_runs_54 : decode cX12_runs 54 = .ok (.iconst 2, 1) := by decide +kernel
theorem dX12_runs_55 : decode cX12_runs 55 = .ok (.iastore, 1) := by decide +kernel
theorem dX12_runs_56 : decode cX12_runs 56 = .ok (.aload_n 0, 1) := by decide +kernel
theorem dX12_runs_57 : decode cX12_runs 57 = .ok (.getfield 9, 3) := by decide +kernel
theorem dX12_runs_60 : decode cX12_runs 60 = .ok (.sipush 2003, 3) := by decide +kernel
theorem dX12_runs_63 : decode cX12_runs 63 = .ok (.iload_n 2, 1) := by decide +kernel
theorem dX12_runs_64 : decode cX12_runs 64 = .ok (.bipush 20, 2) := by decide +kernel
theorem dX12_runs_66 : decode cX12_runs 66 = .ok (.imul, 1) := by decide +kernel
theorem dX12_runs_67 : decode cX12_runs 67 = .ok (.iadd, 1) := by decide +kernel
theorem dX12_runs_68 : decode cX12_runs 68 = .ok (.iconst 2, 1) := by decide +kernel
theorem dX12_runs_69 : decode cX12_runs 69 = .ok (.iadd, 1) := by decide +kernel
theorem dX12_runs_70 : decode cX12_runs 70 = .ok (.aload_n 0, 1) := by decide +kernel
theorem dX12_runs_71 : decode cX12_runs 71 = .ok (.getfield 9, 3) := by decide +kernel
theorem dX12_runs_74 : decode cX12_runs 74 = .ok (.bipush 8, 2) := by decide +kernel
theorem dX12_runs_76 : decode cX12_runs 76 = .ok (.iaload, 1) := by decide +kernel
theorem dX12_runs_77 : decode cX12_runs 77 = .ok (.iastore, 1) := by decide +kernel
theorem dX12_runs_78 : decode cX12_runs 78 = .ok (.aload_n 0, 1) := by decide +kernel
theorem dX12_runs_79 : decode cX12_runs 79 = .ok (.getfield 9, 3) := by decide +kernel
theorem dX12_runs_82 : decode cX12_runs 82 = .ok (.aload_n 0, 1) := by decide +kernel
theorem dX12_runs_83 : decode cX12_runs 83 = .ok (.bipush 16, 2) := by decide +kernel
theorem dX12_runs_85 : decode cX12_runs 85 = .ok (.sipush 8467, 3) := by decide +kernel
theorem dX12_runs_88 : decode cX12_runs 88 = .ok (.iconst 1, 1) := by decide +kernel
theorem dX12_runs_89 : decode cX12_runs 89 = .ok (.bipush 60, 2) := by decide +kernel
theorem dX12_runs_91 : decode cX12_runs 91 = .ok (.invokevirtual 60, 3) := by decide +kernel
theorem dX12_runs_94 : decode cX12_runs 94 = .ok (.aload_n 0, 1) := by decide +kernel
theorem dX12_runs_95 : decode cX12_runs 95 = .ok (.iload_n 2, 1) := by decide +kernel
theorem dX12_runs_96 : decode cX12_runs 96 = .ok (.iconst 0, 1) := by decide +kernel
theorem dX12_runs_97 : decode cX12_runs 97 = .ok (.invokevirtual 147, 3) := by decide +kernel
theorem dX12_runs_100 : decode cX12_runs 100 = .ok (.iastore, 1) := by decide +kernel
theorem dX12_runs_101 : decode cX12_runs 101 = .ok (.aload_n 0, 1) := by decide +kernel
theorem dX12_runs_102 : decode cX12_runs 102 = .ok (.getfield 9, 3) := by decide +kernel
theorem dX12_runs_105 : decode cX12_runs 105 = .ok (.bipush 22, 2) := by decide +kernel
theorem dX12_runs_107 : decode cX12_runs 107 = .ok (.dup2, 1) := by decide +kernel
theorem dX12_runs_108 : decode cX12_runs 108 = .ok (.iaload, 1) := by decide +kernel
theorem dX12_runs_109 : decode cX12_runs 109 = .ok (.iconst 1, 1) := by decide +kernel
theorem dX12_runs_110 : decode cX12_runs 110 = .ok (.iadd, 1) := by decide +kernel
theorem dX12_runs_111 : decode cX12_runs 111 = .ok (.iastore, 1) := by decide +kernel
theorem dX12_runs_112 : decode cX12_runs 112 = .ok (.aload_n 0, 1) := by decide +kernel
theorem dX12_runs_113 : decode cX12_runs 113 = .ok (.iconst 3, 1) := by decide +kernel
theorem dX12_runs_114 : decode cX12_runs 114 = .ok (.aload_n 0, 1) := by decide +kernel
theorem dX12_runs_115 : decode cX12_runs 115 = .ok (.iload_n 2, 1) := by decide +kernel
theorem dX12_runs_116 : decode cX12_runs 116 = .ok (.iconst 0, 1) := by decide +kernel
theorem dX12_runs_117 : decode cX12_runs 117 = .ok (.invokevirtual 147, 3) := by decide +kernel
theorem dX12_runs_120 : decode cX12_runs 120 = .ok (.invokevirtual 67, 3) := by decide +kernel
theorem dX12_runs_123 : decode cX12_runs 123 = .ok (.iinc 1 (-1), 3) := by decide +kernel
theorem dX12_runs_126 : decode cX12_runs 126 = .ok (.iinc 2 1, 3) := by decide +kernel
theorem dX12_runs_129 : decode cX12_runs 129 = .ok (.goto (-114), 3) := by decide +kernel
theorem dX12_runs_132 : decode cX12_runs 132 = .ok (.return_, 1) := by decide +kernel
theorem kw_1381 : Cond.methodLink "FrequencyShelfModel" 153 yX12_loads ∈ TB := tb_at 1381 (by decide +kernel) (by decide +kernel)
theorem kw_1384 : Cond.code yX12_loads cX12_loads 4 (some .int) ∈ TB := tb_at 1384 (by decide +kernel) (by decide +kernel)
theorem kw_1383 : Cond.instanceMethod yX12_loads ∈ TB := tb_at 1383 (by decide +kernel) (by decide +kernel)
theorem kw_31 : Cond.selects "FrequencyShelfModel" yX12_loads yX12_loads ∈ TB := tb_at 31 (by decide +kernel) (by decide +kernel)
theorem cv_X12_loads : Cond.code yX12_loads cX12_loads 4 (some .int) ∈ TB ∧ Cond.instanceMethod yX12_loads ∈ TB ∧ Cond.selects "FrequencyShelfModel" yX12_loads yX12_loads ∈ TB ∧ Cond.initialized "FrequencyShelfModel" ∈ TB := ⟨kw_1384, kw_1383, kw_31, kw_75⟩
abbrev cX12_rule : ByteArray := prog_14_method_40_code
def yX12_rule : MethodName := ⟨RX12, "rule", "(II)I"⟩
theorem dX12_rule_0 : decode cX12_rule 0 = .ok (.iload_n 1, 1) := by decide +kernel
theorem dX12_rule_1 : decode cX12_rule 1 = .ok (.iload_n 2, 1) := by decide +kernel
theorem dX12_rule_2 : decode cX12_rule 2 = .ok (.invokestatic 140, 3) := by decide +kernel
theorem dX12_rule_5 : decode cX12_rule 5 = .ok (.ifCond .ne 7, 3) := by decide +kernel
theorem dX12_rule_8 : decode cX12_rule 8 = .ok (.sipush (-1001), 3) := by decide +kernel
theorem dX12_rule_11 : decode cX12_rule 11 = .ok (.ireturn, 1) := by decide +kernel
theorem dX12_rule_12 : decode cX12_rule 12 = .ok (.aload_n 0, 1) := by decide +kernel
theorem dX12_rule_13 : decode cX12_rule 13 = .ok (.getfield 9, 3) := by decide +kernel
theorem dX12_rule_16 : decode cX12_rule 16 = .ok (.iload_n 1, 1) := by decide +kernel
theorem dX12_rule_17 : decode cX12_rule 17 = .ok (.iaload, 1) := by decide +kernel
theorem dX12_rule_18 : decode cX12_rule 18 = .ok (.istore_n 3, 1) := by decide +kernel
theorem dX12_rule_19 : decode cX12_rule 19 = .ok (.aload_n 0, 1) := by decide +kernel
theorem dX12_rule_20 : decode cX12_rule 20 = .ok (.getfield 9, 3) := by decide +kernel
theorem dX12_rule_23 : decode cX12_rule 23 = .ok (.iload_n 1, 1) := by decide +kernel
theorem dX12_rule_24 : decode cX12_rule 24 = .ok (.iload_n 2, 1) := by decide +kernel
theorem dX12_rule_25 : decode cX12_rule 25 = .ok (.iastore, 1) := by decide +kernel
theorem dX12_rule_26 : decode cX12_rule 26 = .ok (.iload_n 1, 1) := by decide +kernel
theorem dX12_rule_27 : decode cX12_rule 27 = .ok (.ifCond .ne 12, 3) := by decide +kernel
theorem dX12_rule_30 : decode cX12_rule 30 = .ok (.aload_n 0, 1) := by decide +kernel
theorem dX12_rule_31 : decode cX12_rule 31 = .ok (.iconst 0, 1) := by decide +kernel
theorem dX12_rule_32 : decode cX12_rule 32 = .ok (.iconst 0, 1) := by decide +kernel
theorem dX12_rule_33 : decode cX12_rule 33 = .ok (.invokevirtual 133, 3) := by decide +kernel
theorem dX12_rule_36 : decode cX12_rule 36 = .ok (.goto 41, 3) := by decide +kernel
theorem dX12_rule_39 : decode cX12_rule 39 = .ok (.iload_n 1, 1) := by decide +kernel
theorem dX12_rule_40 : decode cX12_rule 40 = .ok (.iconst 1, 1) := by decide +kernel
theorem dX12_rule_41 : decode cX12_rule 41 = .ok (.if_icmp .ne 14, 3) := by decide +kernel
theorem dX12_rule_44 : decode cX12_rule 44 = .ok (.aload_n 0, 1) := by decide +kernel
theorem dX12_rule_45 : decode cX12_rule 45 = .ok (.getfield 9, 3) := by decide +kernel
theorem dX12_rule_48 : decode cX12_rule 48 = .ok (.bipush 11, 2) := by decide +kernel
theorem dX12_rule_50 : decode cX12_rule 50 = .ok (.iconst 0, 1) := by decide +kernel
theorem dX12_rule_51 : decode cX12_rule 51 = .ok (.iastore, 1) := by decide +kernel
theorem dX12_rule_52 : decode cX12_rule 52 = .ok (.goto 25, 3) := by decide +kernel
theorem dX12_rule_55 : decode cX12_rule 55 = .ok (.iload_n 1, 1) := by decide +kernel
theorem dX12_rule_56 : decode cX12_rule 56 = .ok (.iconst 4, 1) := by decide +kernel
theorem dX12_rule_57 : decode cX12_rule 57 = .ok (.if_icmp .ne 10, 3) := by decide +kernel
theorem dX12_rule_60 : decode cX12_rule 60 = .ok (.aload_n 0, 1) := by decide +kernel
theorem dX12_rule_61 : decode cX12_rule 61 = .ok (.invokevirtual 143, 3) := by decide +kernel
theorem dX12_rule_64 : decode cX12_rule 64 = .ok (.goto 13, 3) := by decide +kernel
theorem dX12_rule_67 : decode cX12_rule 67 = .ok (.iload_n 1, 1) := by decide +kernel
theorem dX12_rule_68 : decode cX12_rule 68 = .ok (.bipush 6, 2) := by decide +kernel
theorem dX12_rule_70 : decode cX12_rule 70 = .ok (.if_icmp .ne 7, 3) := by decide +kernel
theorem dX12_rule_73 : decode cX12_rule 73 = .ok (.aload_n 0, 1) := by decide +kernel
theorem dX12_rule_74 : decode cX12_rule 74 = .ok (.invokevirtual 114, 3) := by decide +kernel
theorem dX12_rule_77 : decode cX12_rule 77 = .ok (.iload_n 3, 1) := by decide +kernel
theorem dX12_rule_78 : decode cX12_rule 78 = .ok (.ireturn, 1) := by decide +kernel
theorem kw_1314 : Cond.methodLink "FrequencyShelfModel" 140 yX12_isRule ∈ TB := tb_at 1314 (by decide +kernel) (by decide +kernel)
theorem kw_1316 : Cond.code yX12_isRule cX12_isRule 2 (some .boolean) ∈ TB := tb_at 1316 (by decide +kernel) (by decide +kernel)
theorem kw_1315 : Cond.static yX12_isRule ∈ TB := tb_at 1315 (by decide +kernel) (by decide +kernel)
theorem cs_X12_isRule : Cond.code yX12_isRule cX12_isRule 2 (some .boolean) ∈ TB ∧ Cond.static yX12_isRule ∈ TB ∧ Cond.initialized "FrequencyShelfModel" ∈ TB := ⟨kw_1316, kw_1315, kw_75⟩
theorem kw_1377 : Cond.methodLink "FrequencyShelfModel" 143 yX12_runs ∈ TB := tb_at 1377 (by decide +kernel) (by decide +kernel)
theorem kw_1380 : Cond.code yX12_runs cX12_runs 3 none ∈ TB := tb_at 1380 (by decide +kernel) (by decide +kernel)
theorem kw_1379 : Cond.instanceMethod yX12_runs ∈ TB := tb_at 1379 (by decide +kernel) (by decide +kernel)
theorem kw_30 : Cond.selects "FrequencyShelfModel" yX12_runs yX12_runs ∈ TB := tb_at 30 (by decide +kernel) (by decide +kernel)
theorem cv_X12_runs : Cond.code yX12_runs cX12_runs 3 none ∈ TB ∧ Cond.instanceMethod yX12_runs ∈ TB ∧ Cond.selects "FrequencyShelfModel" yX12_runs yX12_runs ∈ TB ∧ Cond.initialized "FrequencyShelfModel" ∈ TB := ⟨kw_1380, kw_1379, kw_30, kw_75⟩
theorem kw_1317 : Cond.methodLink "FrequencyShelfModel" 133 yX12_makesRoom ∈ TB := tb_at 1317 (by decide +kernel) (by decide +kernel)
theorem kw_1320 : Cond.code yX12_makesRoom cX12_makesRoom 3 none ∈ TB := tb_at 1320 (by decide +kernel) (by decide +kernel)
theorem kw_1319 : Cond.instanceMethod yX12_makesRoom ∈ TB := tb_at 1319 (by decide +kernel) (by decide +kernel)
theorem kw_15 : Cond.selects "FrequencyShelfModel" yX12_makesRoom yX12_makesRoom ∈ TB := tb_at 15 (by decide +kernel) (by decide +kernel)
theorem cv_X12_makesRoom : Cond.code yX12_makesRoom cX12_makesRoom 3 none ∈ TB ∧ Cond.instanceMethod yX12_makesRoom ∈ TB ∧ Cond.selects "FrequencyShelfModel" yX12_makesRoom yX12_makesRoom ∈ TB ∧ Cond.initialized "FrequencyShelfModel" ∈ TB := ⟨kw_1320, kw_1319, kw_15, kw_75⟩
abbrev cX12_delivers : ByteArray := prog_14_method_49_code
def yX12_delivers : MethodName := ⟨RX12, "delivers", "(II)I"⟩
theorem dX12_delivers_0 : decode cX12_delivers 0 = .ok (.aload_n 0, 1) := by decide +kernel
theorem dX12_delivers_1 : decode cX12_delivers 1 = .ok (.iload_n 1, 1) := by decide +kernel
theorem dX12_delivers_2 : decode cX12_delivers 2 = .ok (.iconst 3, 1) := by decide +kernel
theorem dX12_delivers_3 : decode cX12_delivers 3 = .ok (.invokevirtual 147, 3) := by decide +kernel
theorem dX12_delivers_6 : decode cX12_delivers 6 = .ok (.istore_n 3, 1) := by decide +kernel
theorem dX12_delivers_7 : decode cX12_delivers 7 = .ok (.iconst 0, 1) := by decide +kernel
theorem dX12_delivers_8 : decode cX12_delivers 8 = .ok (.istore 4, 2) := by decide +kernel
theorem dX12_delivers_10 : decode cX12_delivers 10 = .ok (.iload 4, 2) := by decide +kernel
theorem dX12_delivers_12 : decode cX12_delivers 12 = .ok (.iload_n 3, 1) := by decide +kernel
theorem dX12_delivers_13 : decode cX12_delivers 13 = .ok (.if_icmp .ge 128, 3) := by decide +kernel
theorem dX12_delivers_16 : decode cX12_delivers 16 = .ok (.aload_n 0, 1) := by decide +kernel
theorem dX12_delivers_17 : decode cX12_delivers 17 = .ok (.iload_n 1, 1) := by decide +kernel
theorem dX12_delivers_18 : decode cX12_delivers 18 = .ok (.iconst 4, 1) := by decide +kernel
theorem dX12_delivers_19 : decode cX12_delivers 19 = .ok (.iload 4, 2) := by decide +kernel
theorem dX12_delivers_21 : decode cX12_delivers 21 = .ok (.iadd, 1) := by decide +kernel
theorem dX12_delivers_22 : decode cX12_delivers 22 = .ok (.invokevirtual 147, 3) := by decide +kernel
theorem dX12_delivers_25 : decode cX12_delivers 25 = .ok (.istore 5, 2) := by decide +kernel
theorem dX12_delivers_27 : decode cX12_delivers 27 = .ok (.aload_n 0, 1) := by decide +kernel
theorem dX12_delivers_28 : decode cX12_delivers 28 = .ok (.getfield 9, 3) := by decide +kernel
theorem dX12_delivers_31 : decode cX12_delivers 31 = .ok (.bipush 29, 2) := by decide +kernel
theorem dX12_delivers_33 : decode cX12_delivers 33 = .ok (.dup2, 1) := by decide +kernel
theorem dX12_delivers_34 : decode cX12_delivers 34 = .ok (.iaload, 1) := by decide +kernel
theorem dX12_delivers_35 : decode cX12_delivers 35 = .ok (.aload_n 0, 1) := by decide +kernel
theorem dX12_delivers_36 : decode cX12_delivers 36 = .ok (.getfield 9, 3) := by decide +kernel
theorem dX12_delivers_39 : decode cX12_delivers 39 = .ok (.sipush 8003, 3) := by decide +kernel
theorem dX12_delivers_42 : decode cX12_delivers 42 = .ok (.iload 5, 2) := by decide +kernel
theorem dX12_delivers_44 : decode cX12_delivers 44 = .ok (.iadd, 1) := by decide +kernel
theorem dX12_delivers_45 : decode cX12_delivers 45 = .ok (.iaload, 1) := by decide +kernel
theorem dX12_delivers_46 : decode cX12_delivers 46 = .ok (.bipush 12, 2) := by decide +kernel
theorem dX12_delivers_48 : decode cX12_delivers 48 = .ok (.if_icmp .ne 7, 3) := by decide +kernel
theorem dX12_delivers_51 : decode cX12_delivers 51 = .ok (.iconst 1, 1) := by decide +kernel
theorem dX12_delivers_52 : decode cX12_delivers 52 = .ok (.goto 4, 3) := by decide +kernel
theorem dX12_delivers_55 : decode cX12_delivers 55 = .ok (.iconst 0, 1) := by decide +kernel
theorem dX12_delivers_56 : decode cX12_delivers 56 = .ok (.iadd, 1) := by decide +kernel
theorem dX12_delivers_57 : decode cX12_delivers 57 = .ok (.iastore, 1) := by decide +kernel
theorem dX12_delivers_58 : decode cX12_delivers 58 = .ok (.aload_n 0, 1) := by decide +kernel
theorem dX12_delivers_59 : decode cX12_delivers 59 = .ok (.sipush 8003, 3) := by decide +kernel
theorem dX12_delivers_62 : decode cX12_delivers 62 = .ok (.iload 5, 2) := by decide +kernel
theorem dX12_delivers_64 : decode cX12_delivers 64 = .ok (.iadd, 1) := by decide +kernel
theorem dX12_delivers_65 : decode cX12_delivers 65 = .ok (.sipush 8019, 3) := by decide +kernel
theorem dX12_delivers_68 : decode cX12_delivers 68 = .ok (.bipush 24, 2) := by decide +kernel
theorem dX12_delivers_70 : decode cX12_delivers 70 = .ok (.iload 5, 2) := by decide +kernel
theorem dX12_delivers_72 : decode cX12_delivers 72 = .ok (.imul, 1) := by decide +kernel
theorem dX12_delivers_73 : decode cX12_delivers 73 = .ok (.iadd, 1) := by decide +kernel
theorem dX12_delivers_74 : decode cX12_delivers 74 = .ok (.iconst 2, 1) := by decide +kernel
theorem dX12_delivers_75 : decode cX12_delivers 75 = .ok (.bipush 12, 2) := by decide +kernel
theorem dX12_delivers_77 : decode cX12_delivers 77 = .ok (.invokevirtual 60, 3) := by decide +kernel
theorem dX12_delivers_80 : decode cX12_delivers 80 = .ok (.istore 6, 2) := by decide +kernel
theorem dX12_delivers_82 : decode cX12_delivers 82 = .ok (.aload_n 0, 1) := by decide +kernel
theorem dX12_delivers_83 : decode cX12_delivers 83 = .ok (.getfield 9, 3) := by decide +kernel
theorem dX12_delivers_86 : decode cX12_delivers 86 = .ok (.iload 6, 2) := by decide +kernel
theorem dX12_delivers_88 : decode cX12_delivers 88 = .ok (.aload_n 0, 1) := by decide +kernel
theorem dX12_delivers_89 : decode cX12_delivers 89 = .ok (.iload_n 1, 1) := by decide +kernel
theorem dX12_delivers_90 : decode cX12_delivers 90 = .ok (.iconst 0, 1) := by decide +kernel
theorem dX12_delivers_91 : decode cX12_delivers 91 = .ok (.invokevirtual 147, 3) := by decide +kernel
theorem dX12_delivers_94 : decode cX12_delivers 94 = .ok (.iastore, 1) := by decide +kernel
theorem dX12_delivers_95 : decode cX12_delivers 95 = .ok (.aload_n 0, 1) := by decide +kernel
theorem dX12_delivers_96 : decode cX12_delivers 96 = .ok (.getfield 9, 3) := by decide +kernel
theorem dX12_delivers_99 : decode cX12_delivers 99 = .ok (.iload 6, 2) := by decide +kernel
theorem dX12_delivers_101 : decode cX12_delivers 101 = .ok (.iconst 1, 1) := by decide +kernel
theorem dX12_delivers_102 : decode cX12_delivers 102 = .ok (.iadd, 1) := by decide +kernel
theorem dX12_delivers_103 : decode cX12_delivers 103 = .ok (.iload_n 2, 1) := by decide +kernel
theorem dX12_delivers_104 : decode cX12_delivers 104 = .ok (.iastore, 1) := by decide +kernel
theorem dX12_delivers_105 : decode cX12_delivers 105 = .ok (.aload_n 0, 1) := by decide +kernel
theorem dX12_delivers_106 : decode cX12_delivers 106 = .ok (.getfield 9, 3) := by decide +kernel
theorem dX12_delivers_109 : decode cX12_delivers 109 = .ok (.bipush 28, 2) := by decide +kernel
theorem dX12_delivers_111 : decode cX12_delivers 111 = .ok (.dup2, 1) := by decide +kernel
theorem dX12_delivers_112 : decode cX12_delivers 112 = .ok (.iaload, 1) := by decide +kernel
theorem dX12_delivers_113 : decode cX12_delivers 113 = .ok (.iconst 1, 1) := by decide +kernel
theorem dX12_delivers_114 : decode cX12_delivers 114 = .ok (.iadd, 1) := by decide +kernel
theorem dX12_delivers_115 : decode cX12_delivers 115 = .ok (.iastore, 1) := by decide +kernel
theorem dX12_delivers_116 : decode cX12_delivers 116 = .ok (.aload_n 0, 1) := by decide +kernel
theorem dX12_delivers_117 : decode cX12_delivers 117 = .ok (.getfield 9, 3) := by decide +kernel
theorem dX12_delivers_120 : decode cX12_delivers 120 = .ok (.sipush 8403, 3) := by decide +kernel
theorem dX12_delivers_123 : decode cX12_delivers 123 = .ok (.iconst 4, 1) := by decide +kernel
theorem dX12_delivers_124 : decode cX12_delivers 124 = .ok (.iload 5, 2) := by decide +kernel
theorem dX12_delivers_126 : decode cX12_delivers 126 = .ok (.imul, 1) := by decide +kernel
theorem dX12_delivers_127 : decode cX12_delivers 127 = .ok (.iadd, 1) := by decide +kernel
theorem dX12_delivers_128 : decode cX12_delivers 128 = .ok (.iconst 2, 1) := by decide +kernel
theorem dX12_delivers_129 : decode cX12_delivers 129 = .ok (.iadd, 1) := by decide +kernel
theorem dX12_delivers_130 : decode cX12_delivers 130 = .ok (.dup2, 1) := by decide +kernel
theorem dX12_delivers_131 : decode cX12_delivers 131 = .ok (.iaload, 1) := by decide +kernel
theorem dX12_delivers_132 : decode cX12_delivers 132 = .ok (.iconst 1, 1) := by decide +kernel
theorem dX12_delivers_133 : decode cX12_delivers 133 = .ok (.iadd, 1) := by decide +kernel
theorem dX12_delivers_134 : decode cX12_delivers 134 = .ok (.iastore, 1) := by decide +kernel
theorem dX12_delivers_135 : decode cX12_delivers 135 = .ok (.iinc 4 1, 3) := by decide +kernel
theorem dX12_delivers_138 : decode cX12_delivers 138 = .ok (.goto (-128), 3) := by decide +kernel
theorem dX12_delivers_141 : decode cX12_delivers 141 = .ok (.aload_n 0, 1) := by decide +kernel
theorem dX12_delivers_142 : decode cX12_delivers 142 = .ok (.bipush 15, 2) := by decide +kernel
theorem dX12_delivers_144 : decode cX12_delivers 144 = .ok (.sipush 2003, 3) := by decide +kernel
theorem dX12_delivers_147 : decode cX12_delivers 147 = .ok (.bipush 20, 2) := by decide +kernel
theorem dX12_delivers_149 : decode cX12_delivers 149 = .ok (.iload_n 1, 1) := by decide +kernel
theorem dX12_delivers_150 : decode cX12_delivers 150 = .ok (.invokevirtual 103, 3) := by decide +kernel
theorem dX12_delivers_153 : decode cX12_delivers 153 = .ok (.iload_n 3, 1) := by decide +kernel
theorem dX12_delivers_154 : decode cX12_delivers 154 = .ok (.ireturn, 1) := by decide +kernel
abbrev cX12_fails : ByteArray := prog_14_method_50_code
def yX12_fails : MethodName := ⟨RX12, "fails", "(II)I"⟩
theorem dX12_fails_0 : decode cX12_fails 0 = .ok (.aload_n 0, 1) := by decide +kernel
theorem dX12_fails_1 : decode cX12_fails 1 = .ok (.iload_n 1, 1) := by decide +kernel
theorem dX12_fails_2 : decode cX12_fails 2 = .ok (.iconst 0, 1) := by decide +kernel
theorem dX12_fails_3 : decode cX12_fails 3 = .ok (.invokevirtual 147, 3) := by decide +kernel
theorem dX12_fails_6 : decode cX12_fails 6 = .ok (.istore_n 3, 1) := by decide +kernel
theorem dX12_fails_7 : decode cX12_fails 7 = .ok (.aload_n 0, 1) := by decide +kernel
theorem dX12_fails_8 : decode cX12_fails 8 = .ok (.iload_n 1, 1) := by decide +kernel
theorem dX12_fails_9 : decode cX12_fails 9 = .ok (.iload_n 2, 1) := by decide +kernel
theorem dX12_fails_10 : decode cX12_fails 10 = .ok (.ineg, 1) := by decide +kernel
theorem dX12_fails_11 : decode cX12_fails 11 = .ok (.invokevirtual 159, 3) := by decide +kernel
theorem dX12_fails_14 : decode cX12_fails 14 = .ok (.istore 4, 2) := by decide +kernel
theorem dX12_fails_16 : decode cX12_fails 16 = .ok (.aload_n 0, 1) := by decide +kernel
theorem dX12_fails_17 : decode cX12_fails 17 = .ok (.getfield 9, 3) := by decide +kernel
theorem dX12_fails_20 : decode cX12_fails 20 = .ok (.bipush 25, 2) := by decide +kernel
theorem dX12_fails_22 : decode cX12_fails 22 = .ok (.dup2, 1) := by decide +kernel
theorem dX12_fails_23 : decode cX12_fails 23 = .ok (.iaload, 1) := by decide +kernel
theorem dX12_fails_24 : decode cX12_fails 24 = .ok (.iconst 1, 1) := by decide +kernel
theorem dX12_fails_25 : decode cX12_fails 25 = .ok (.iadd, 1) := by decide +kernel
theorem dX12_fails_26 : decode cX12_fails 26 = .ok (.iastore, 1) := by decide +kernel
theorem dX12_fails_27 : decode cX12_fails 27 = .ok (.aload_n 0, 1) := by decide +kernel
theorem dX12_fails_28 : decode cX12_fails 28 = .ok (.bipush 6, 2) := by decide +kernel
theorem dX12_fails_30 : decode cX12_fails 30 = .ok (.iload_n 3, 1) := by decide +kernel
theorem dX12_fails_31 : decode cX12_fails 31 = .ok (.invokevirtual 67, 3) := by decide +kernel
theorem dX12_fails_34 : decode cX12_fails 34 = .ok (.aload_n 0, 1) := by decide +kernel
theorem dX12_fails_35 : decode cX12_fails 35 = .ok (.invokevirtual 143, 3) := by decide +kernel
theorem dX12_fails_38 : decode cX12_fails 38 = .ok (.iload 4, 2) := by decide +kernel
theorem dX12_fails_40 : decode cX12_fails 40 = .ok (.ireturn, 1) := by decide +kernel
theorem kw_1398 : Cond.methodLink "FrequencyShelfModel" 159 yX12_delivers ∈ TB := tb_at 1398 (by decide +kernel) (by decide +kernel)
theorem kw_1401 : Cond.code yX12_delivers cX12_delivers 7 (some .int) ∈ TB := tb_at 1401 (by decide +kernel) (by decide +kernel)
theorem kw_1400 : Cond.instanceMethod yX12_delivers ∈ TB := tb_at 1400 (by decide +kernel) (by decide +kernel)
theorem kw_34 : Cond.selects "FrequencyShelfModel" yX12_delivers yX12_delivers ∈ TB := tb_at 34 (by decide +kernel) (by decide +kernel)
theorem cv_X12_delivers : Cond.code yX12_delivers cX12_delivers 7 (some .int) ∈ TB ∧ Cond.instanceMethod yX12_delivers ∈ TB ∧ Cond.selects "FrequencyShelfModel" yX12_delivers yX12_delivers ∈ TB ∧ Cond.initialized "FrequencyShelfModel" ∈ TB := ⟨kw_1401, kw_1400, kw_34, kw_75⟩
abbrev cX12_step : ByteArray := prog_14_method_41_code
def yX12_step : MethodName := ⟨RX12, "step", "(I)I"⟩
theorem dX12_step_0 : decode cX12_step 0 = .ok (.iload_n 1, 1) := by decide +kernel
theorem dX12_step_1 : decode cX12_step 1 = .ok (.iconst 1, 1) := by decide +kernel
theorem dX12_step_2 : decode cX12_step 2 = .ok (.sipush 1000, 3) := by decide +kernel
theorem dX12_step_5 : decode cX12_step 5 = .ok (.invokestatic 38, 3) := by decide +kernel
theorem dX12_step_8 : decode cX12_step 8 = .ok (.ifCond .ne 7, 3) := by decide +kernel
theorem dX12_step_11 : decode cX12_step 11 = .ok (.sipush (-1001), 3) := by decide +kernel
theorem dX12_step_14 : decode cX12_step 14 = .ok (.ireturn, 1) := by decide +kernel
theorem dX12_step_15 : decode cX12_step 15 = .ok (.aload_n 0, 1) := by decide +kernel
theorem dX12_step_16 : decode cX12_step 16 = .ok (.getfield 9, 3) := by decide +kernel
theorem dX12_step_19 : decode cX12_step 19 = .ok (.bipush 8, 2) := by decide +kernel
theorem dX12_step_21 : decode cX12_step 21 = .ok (.iaload, 1) := by decide +kernel
theorem dX12_step_22 : decode cX12_step 22 = .ok (.iload_n 1, 1) := by decide +kernel
theorem dX12_step_23 : decode cX12_step 23 = .ok (.iadd, 1) := by decide +kernel
theorem dX12_step_24 : decode cX12_step 24 = .ok (.ldc 146, 2) := by decide +kernel
theorem dX12_step_26 : decode cX12_step 26 = .ok (.if_icmp .le 7, 3) := by decide +kernel
theorem dX12_step_29 : decode cX12_step 29 = .ok (.sipush (-1004), 3) := by decide +kernel
theorem dX12_step_32 : decode cX12_step 32 = .ok (.ireturn, 1) := by decide +kernel
theorem dX12_step_33 : decode cX12_step 33 = .ok (.aload_n 0, 1) := by decide +kernel
theorem dX12_step_34 : decode cX12_step 34 = .ok (.getfield 9, 3) := by decide +kernel
theorem dX12_step_37 : decode cX12_step 37 = .ok (.bipush 8, 2) := by decide +kernel
theorem dX12_step_39 : decode cX12_step 39 = .ok (.dup2, 1) := by decide +kernel
theorem dX12_step_40 : decode cX12_step 40 = .ok (.iaload, 1) := by decide +kernel
theorem dX12_step_41 : decode cX12_step 41 = .ok (.iload_n 1, 1) := by decide +kernel
theorem dX12_step_42 : decode cX12_step 42 = .ok (.iadd, 1) := by decide +kernel
theorem dX12_step_43 : decode cX12_step 43 = .ok (.iastore, 1) := by decide +kernel
theorem dX12_step_44 : decode cX12_step 44 = .ok (.iconst 0, 1) := by decide +kernel
theorem dX12_step_45 : decode cX12_step 45 = .ok (.istore_n 2, 1) := by decide +kernel
theorem dX12_step_46 : decode cX12_step 46 = .ok (.aload_n 0, 1) := by decide +kernel
theorem dX12_step_47 : decode cX12_step 47 = .ok (.getfield 9, 3) := by decide +kernel
theorem dX12_step_50 : decode cX12_step 50 = .ok (.bipush 7, 2) := by decide +kernel
theorem dX12_step_52 : decode cX12_step 52 = .ok (.iaload, 1) := by decide +kernel
theorem dX12_step_53 : decode cX12_step 53 = .ok (.ifCond .le 90, 3) := by decide +kernel
theorem dX12_step_56 : decode cX12_step 56 = .ok (.iload_n 2, 1) := by decide +kernel
theorem dX12_step_57 : decode cX12_step 57 = .ok (.aload_n 0, 1) := by decide +kernel
theorem dX12_step_58 : decode cX12_step 58 = .ok (.getfield 9, 3) := by decide +kernel
theorem dX12_step_61 : decode cX12_step 61 = .ok (.bipush 15, 2) := by decide +kernel
theorem dX12_step_63 : decode cX12_step 63 = .ok (.iaload, 1) := by decide +kernel
theorem dX12_step_64 : decode cX12_step 64 = .ok (.if_icmp .ge 79, 3) := by decide +kernel
theorem dX12_step_67 : decode cX12_step 67 = .ok (.aload_n 0, 1) := by decide +kernel
theorem dX12_step_68 : decode cX12_step 68 = .ok (.iload_n 2, 1) := by decide +kernel
theorem dX12_step_69 : decode cX12_step 69 = .ok (.iconst 1, 1) := by decide +kernel
theorem dX12_step_70 : decode cX12_step 70 = .ok (.invokevirtual 147, 3) := by decide +kernel
theorem dX12_step_73 : decode cX12_step 73 = .ok (.iconst 2, 1) := by decide +kernel
theorem dX12_step_74 : decode cX12_step 74 = .ok (.if_icmp .ne 63, 3) := by decide +kernel
theorem dX12_step_77 : decode cX12_step 77 = .ok (.aload_n 0, 1) := by decide +kernel
theorem dX12_step_78 : decode cX12_step 78 = .ok (.getfield 9, 3) := by decide +kernel
theorem dX12_step_81 : decode cX12_step 81 = .ok (.bipush 8, 2) := by decide +kernel
theorem dX12_step_83 : decode cX12_step 83 = .ok (.iaload, 1) := by decide +kernel
theorem dX12_step_84 : decode cX12_step 84 = .ok (.aload_n 0, 1) := by decide +kernel
theorem dX12_step_85 : decode cX12_step 85 = .ok (.iload_n 2, 1) := by decide +kernel
theorem dX12_step_86 : decode cX12_step 86 = .ok (.iconst 2, 1) := by decide +kernel
theorem dX12_step_87 : decode cX12_step 87 = .ok (.invokevirtual 147, 3) := by decide +kernel
theorem dX12_step_90 : decode cX12_step 90 = .ok (.aload_n 0, 1) := by decide +kernel
theorem dX12_step_91 : decode cX12_step 91 = .ok (.getfield 9, 3) := by decide +kernel
theorem dX12_step_94 : decode cX12_step 94 = .ok (.bipush 7, 2) := by decide +kernel
theorem dX12_step_96 : decode cX12_step 96 = .ok (.iaload, 1) := by decide +kernel
theorem dX12_step_97 : decode cX12_step 97 = .ok (.iadd, 1) := by decide +kernel
theorem dX12_step_98 : decode cX12_step 98 = .ok (.if_icmp .lt 39, 3) := by decide +kernel
theorem dX12_step_101 : decode cX12_step 101 = .ok (.aload_n 0, 1) := by decide +kernel
theorem dX12_step_102 : decode cX12_step 102 = .ok (.iload_n 2, 1) := by decide +kernel
theorem dX12_step_103 : decode cX12_step 103 = .ok (.iconst 0, 1) := by decide +kernel
theorem dX12_step_104 : decode cX12_step 104 = .ok (.invokevirtual 147, 3) := by decide +kernel
theorem dX12_step_107 : decode cX12_step 107 = .ok (.istore_n 3, 1) := by decide +kernel
theorem dX12_step_108 : decode cX12_step 108 = .ok (.aload_n 0, 1) := by decide +kernel
theorem dX12_step_109 : decode cX12_step 109 = .ok (.bipush 13, 2) := by decide +kernel
theorem dX12_step_111 : decode cX12_step 111 = .ok (.iload_n 3, 1) := by decide +kernel
theorem dX12_step_112 : decode cX12_step 112 = .ok (.invokevirtual 67, 3) := by decide +kernel
theorem dX12_step_115 : decode cX12_step 115 = .ok (.aload_n 0, 1) := by decide +kernel
theorem dX12_step_116 : decode cX12_step 116 = .ok (.getfield 9, 3) := by decide +kernel
theorem dX12_step_119 : decode cX12_step 119 = .ok (.bipush 33, 2) := by decide +kernel
theorem dX12_step_121 : decode cX12_step 121 = .ok (.dup2, 1) := by decide +kernel
theorem dX12_step_122 : decode cX12_step 122 = .ok (.iaload, 1) := by decide +kernel
theorem dX12_step_123 : decode cX12_step 123 = .ok (.iconst 1, 1) := by decide +kernel
theorem dX12_step_124 : decode cX12_step 124 = .ok (.iadd, 1) := by decide +kernel
theorem dX12_step_125 : decode cX12_step 125 = .ok (.iastore, 1) := by decide +kernel
theorem dX12_step_126 : decode cX12_step 126 = .ok (.aload_n 0, 1) := by decide +kernel
theorem dX12_step_127 : decode cX12_step 127 = .ok (.iload_n 2, 1) := by decide +kernel
theorem dX12_step_128 : decode cX12_step 128 = .ok (.bipush 99, 2) := by decide +kernel
theorem dX12_step_130 : decode cX12_step 130 = .ok (.invokevirtual 150, 3) := by decide +kernel
theorem dX12_step_133 : decode cX12_step 133 = .ok (.pop, 1) := by decide +kernel
theorem dX12_step_134 : decode cX12_step 134 = .ok (.goto (-88), 3) := by decide +kernel
theorem dX12_step_137 : decode cX12_step 137 = .ok (.iinc 2 1, 3) := by decide +kernel
theorem dX12_step_140 : decode cX12_step 140 = .ok (.goto (-94), 3) := by decide +kernel
theorem dX12_step_143 : decode cX12_step 143 = .ok (.aload_n 0, 1) := by decide +kernel
theorem dX12_step_144 : decode cX12_step 144 = .ok (.getfield 9, 3) := by decide +kernel
theorem dX12_step_147 : decode cX12_step 147 = .ok (.bipush 8, 2) := by decide +kernel
theorem dX12_step_149 : decode cX12_step 149 = .ok (.iaload, 1) := by decide +kernel
theorem dX12_step_150 : decode cX12_step 150 = .ok (.ireturn, 1) := by decide +kernel
theorem kw_1393 : Cond.constant "FrequencyShelfModel" 146 99999 ∈ TB := tb_at 1393 (by decide +kernel) (by decide +kernel)
theorem kw_1394 : Cond.methodLink "FrequencyShelfModel" 150 yX12_fails ∈ TB := tb_at 1394 (by decide +kernel) (by decide +kernel)
theorem kw_1397 : Cond.code yX12_fails cX12_fails 5 (some .int) ∈ TB := tb_at 1397 (by decide +kernel) (by decide +kernel)
theorem kw_1396 : Cond.instanceMethod yX12_fails ∈ TB := tb_at 1396 (by decide +kernel) (by decide +kernel)
theorem kw_33 : Cond.selects "FrequencyShelfModel" yX12_fails yX12_fails ∈ TB := tb_at 33 (by decide +kernel) (by decide +kernel)
theorem cv_X12_fails : Cond.code yX12_fails cX12_fails 5 (some .int) ∈ TB ∧ Cond.instanceMethod yX12_fails ∈ TB ∧ Cond.selects "FrequencyShelfModel" yX12_fails yX12_fails ∈ TB ∧ Cond.initialized "FrequencyShelfModel" ∈ TB := ⟨kw_1397, kw_1396, kw_33, kw_75⟩
abbrev cX12_feed : ByteArray := prog_14_method_11_code
def yX12_feed : MethodName := ⟨RX12, "feed", "(I)I"⟩
theorem dX12_feed_0 : decode cX12_feed 0 = .ok (.iload_n 1, 1) := by decide +kernel
theorem dX12_feed_1 : decode cX12_feed 1 = .ok (.bipush 97, 2) := by decide +kernel
theorem dX12_feed_3 : decode cX12_feed 3 = .ok (.bipush 122, 2) := by decide +kernel
theorem dX12_feed_5 : decode cX12_feed 5 = .ok (.invokestatic 38, 3) := by decide +kernel
theorem dX12_feed_8 : decode cX12_feed 8 = .ok (.ifCond .ne 13, 3) := by decide +kernel
theorem dX12_feed_11 : decode cX12_feed 11 = .ok (.iload_n 1, 1) := by decide +kernel
theorem dX12_feed_12 : decode cX12_feed 12 = .ok (.bipush 32, 2) := by decide +kernel
theorem dX12_feed_14 : decode cX12_feed 14 = .ok (.if_icmp .eq 7, 3) := by decide +kernel
theorem dX12_feed_17 : decode cX12_feed 17 = .ok (.sipush (-1001), 3) := by decide +kernel
theorem dX12_feed_20 : decode cX12_feed 20 = .ok (.ireturn, 1) := by decide +kernel
theorem dX12_feed_21 : decode cX12_feed 21 = .ok (.aload_n 0, 1) := by decide +kernel
theorem dX12_feed_22 : decode cX12_feed 22 = .ok (.getfield 54, 3) := by decide +kernel
theorem dX12_feed_25 : decode cX12_feed 25 = .ok (.bipush 60, 2) := by decide +kernel
theorem dX12_feed_27 : decode cX12_feed 27 = .ok (.if_icmp .ne 7, 3) := by decide +kernel
theorem dX12_feed_30 : decode cX12_feed 30 = .ok (.sipush (-1004), 3) := by decide +kernel
theorem dX12_feed_33 : decode cX12_feed 33 = .ok (.ireturn, 1) := by decide +kernel
theorem dX12_feed_34 : decode cX12_feed 34 = .ok (.aload_n 0, 1) := by decide +kernel
theorem dX12_feed_35 : decode cX12_feed 35 = .ok (.getfield 16, 3) := by decide +kernel
theorem dX12_feed_38 : decode cX12_feed 38 = .ok (.aload_n 0, 1) := by decide +kernel
theorem dX12_feed_39 : decode cX12_feed 39 = .ok (.getfield 54, 3) := by decide +kernel
theorem dX12_feed_42 : decode cX12_feed 42 = .ok (.iload_n 1, 1) := by decide +kernel
theorem dX12_feed_43 : decode cX12_feed 43 = .ok (.i2b, 1) := by decide +kernel
theorem dX12_feed_44 : decode cX12_feed 44 = .ok (.bastore, 1) := by decide +kernel
theorem dX12_feed_45 : decode cX12_feed 45 = .ok (.aload_n 0, 1) := by decide +kernel
theorem dX12_feed_46 : decode cX12_feed 46 = .ok (.dup, 1) := by decide +kernel
theorem dX12_feed_47 : decode cX12_feed 47 = .ok (.getfield 54, 3) := by decide +kernel
theorem dX12_feed_50 : decode cX12_feed 50 = .ok (.iconst 1, 1) := by decide +kernel
theorem dX12_feed_51 : decode cX12_feed 51 = .ok (.iadd, 1) := by decide +kernel
theorem dX12_feed_52 : decode cX12_feed 52 = .ok (.putfield 54, 3) := by decide +kernel
theorem dX12_feed_55 : decode cX12_feed 55 = .ok (.aload_n 0, 1) := by decide +kernel
theorem dX12_feed_56 : decode cX12_feed 56 = .ok (.getfield 54, 3) := by decide +kernel
theorem dX12_feed_59 : decode cX12_feed 59 = .ok (.ireturn, 1) := by decide +kernel
theorem kw_1231 : Cond.fieldLink "FrequencyShelfModel" 54 "FrequencyShelfModel" "taped" "I" ∈ TB := tb_at 1231 (by decide +kernel) (by decide +kernel)
theorem fl_X12_54 : mF RX12 54 11 4 := ⟨RX12, TX12, 14, tyX12, rfl, by decide, in_X12, kw_1231, tyX12_ok, nmX12⟩
theorem kw_1230 : Cond.fieldLink "FrequencyShelfModel" 16 "FrequencyShelfModel" "tape" "[B" ∈ TB := tb_at 1230 (by decide +kernel) (by decide +kernel)
theorem fl_X12_16 : mF RX12 16 11 3 := ⟨RX12, TX12, 14, tyX12, rfl, by decide, in_X12, kw_1230, tyX12_ok, nmX12⟩
theorem fi_X12_4 : mFi 11 4 := fun _ _ _ h => by cases h; exact ⟨rfl, by decide +kernel⟩
abbrev cX12_isAsker : ByteArray := prog_14_method_4_code
def yX12_isAsker : MethodName := ⟨RX12, "isAske\x72", "(I)Z"⟩
theorem dX12_isAsker_0 : decode cX12_isAsker 0 = .ok (.iload_n 0, 1) := by decide +kernel
theorem dX12_isAsker_1 : decode cX12_isAsker 1 = .ok (.iconst 0, 1) := by decide +kernel
theorem dX12_isAsker_2 : decode cX12_isAsker 2 = .ok (.bipush 15, 2) := by decide +kernel
theorem dX12_isAsker_4 : decode cX12_isAsker 4 = .ok (.invokestatic 38, 3) := by decide +kernel
theorem dX12_isAsker_7 : decode cX12_isAsker 7 = .ok (.ireturn, 1) := by decide +kernel
abbrev cX12_keyAt : ByteArray := prog_14_method_9_code
def yX12_keyAt : MethodName := ⟨RX12, "keyAt", "(I)I"⟩
theorem dX12_keyAt_0 : decode cX12_keyAt 0 = .ok (.aload_n 0, 1) := by decide +kernel
theorem dX12_keyAt_1 : decode cX12_keyAt 1 = .ok (.iload_n 1, 1) := by decide +kernel
theorem dX12_keyAt_2 : decode cX12_keyAt 2 = .ok (.putfield 50, 3) := by decide +kernel
theorem dX12_keyAt_5 : decode cX12_keyAt 5 = .ok (.iconst 0, 1) := by decide +kernel
theorem dX12_keyAt_6 : decode cX12_keyAt 6 = .ok (.istore_n 2, 1) := by decide +kernel
theorem dX12_keyAt_7 : decode cX12_keyAt 7 = .ok (.aload_n 0, 1) := by decide +kernel
theorem dX12_keyAt_8 : decode cX12_keyAt 8 = .ok (.getfield 50, 3) := by decide +kernel
theorem dX12_keyAt_11 : decode cX12_keyAt 11 = .ok (.aload_n 0, 1) := by decide +kernel
theorem dX12_keyAt_12 : decode cX12_keyAt 12 = .ok (.getfield 54, 3) := by decide +kernel
theorem dX12_keyAt_15 : decode cX12_keyAt 15 = .ok (.if_icmp .ge 66, 3) := by decide +kernel
theorem dX12_keyAt_18 : decode cX12_keyAt 18 = .ok (.aload_n 0, 1) := by decide +kernel
theorem dX12_keyAt_19 : decode cX12_keyAt 19 = .ok (.getfield 16, 3) := by decide +kernel
theorem dX12_keyAt_22 : decode cX12_keyAt 22 = .ok (.aload_n 0, 1) := by decide +kernel
theorem dX12_keyAt_23 : decode cX12_keyAt 23 = .ok (.getfield 50, 3) := by decide +kernel
theorem dX12_keyAt_26 : decode cX12_keyAt 26 = .ok (.baload, 1) := by decide +kernel
theorem dX12_keyAt_27 : decode cX12_keyAt 27 = .ok (.bipush 97, 2) := by decide +kernel
theorem dX12_keyAt_29 : decode cX12_keyAt 29 = .ok (.bipush 122, 2) := by decide +kernel
theorem dX12_keyAt_31 : decode cX12_keyAt 31 = .ok (.invokestatic 38, 3) := by decide +kernel
theorem dX12_keyAt_34 : decode cX12_keyAt 34 = .ok (.ifCond .eq 47, 3) := by decide +kernel
theorem dX12_keyAt_37 : decode cX12_keyAt 37 = .ok (.aload_n 0, 1) := by decide +kernel
theorem dX12_keyAt_38 : decode cX12_keyAt 38 = .ok (.getfield 50, 3) := by decide +kernel
theorem dX12_keyAt_41 : decode cX12_keyAt 41 = .ok (.iload_n 1, 1) := by decide +kernel
theorem dX12_keyAt_42 : decode cX12_keyAt 42 = .ok (.isub, 1) := by decide +kernel
theorem dX12_keyAt_43 : decode cX12_keyAt 43 = .ok (.bipush 6, 2) := by decide +kernel
theorem dX12_keyAt_45 : decode cX12_keyAt 45 = .ok (.if_icmp .ge 36, 3) := by decide +kernel
theorem dX12_keyAt_48 : decode cX12_keyAt 48 = .ok (.iload_n 2, 1) := by decide +kernel
theorem dX12_keyAt_49 : decode cX12_keyAt 49 = .ok (.bipush 27, 2) := by decide +kernel
theorem dX12_keyAt_51 : decode cX12_keyAt 51 = .ok (.imul, 1) := by decide +kernel
theorem dX12_keyAt_52 : decode cX12_keyAt 52 = .ok (.aload_n 0, 1) := by decide +kernel
theorem dX12_keyAt_53 : decode cX12_keyAt 53 = .ok (.getfield 16, 3) := by decide +kernel
theorem dX12_keyAt_56 : decode cX12_keyAt 56 = .ok (.aload_n 0, 1) := by decide +kernel
theorem dX12_keyAt_57 : decode cX12_keyAt 57 = .ok (.getfield 50, 3) := by decide +kernel
theorem dX12_keyAt_60 : decode cX12_keyAt 60 = .ok (.baload, 1) := by decide +kernel
theorem dX12_keyAt_61 : decode cX12_keyAt 61 = .ok (.iadd, 1) := by decide +kernel
theorem dX12_keyAt_62 : decode cX12_keyAt 62 = .ok (.bipush 97, 2) := by decide +kernel
theorem dX12_keyAt_64 : decode cX12_keyAt 64 = .ok (.isub, 1) := by decide +kernel
theorem dX12_keyAt_65 : decode cX12_keyAt 65 = .ok (.iconst 1, 1) := by decide +kernel
theorem dX12_keyAt_66 : decode cX12_keyAt 66 = .ok (.iadd, 1) := by decide +kernel
theorem dX12_keyAt_67 : decode cX12_keyAt 67 = .ok (.istore_n 2, 1) := by decide +kernel
theorem dX12_keyAt_68 : decode cX12_keyAt 68 = .ok (.aload_n 0, 1) := by decide +kernel
theorem dX12_keyAt_69 : decode cX12_keyAt 69 = .ok (.dup, 1) := by decide +kernel
theorem dX12_keyAt_70 : decode cX12_keyAt 70 = .ok (.getfield 50, 3) := by decide +kernel
theorem dX12_keyAt_73 : decode cX12_keyAt 73 = .ok (.iconst 1, 1) := by decide +kernel
theorem dX12_keyAt_74 : decode cX12_keyAt 74 = .ok (.iadd, 1) := by decide +kernel
theorem dX12_keyAt_75 : decode cX12_keyAt 75 = .ok (.putfield 50, 3) := by decide +kernel
theorem dX12_keyAt_78 : decode cX12_keyAt 78 = .ok (.goto (-71), 3) := by decide +kernel
theorem dX12_keyAt_81 : decode cX12_keyAt 81 = .ok (.iload_n 2, 1) := by decide +kernel
theorem dX12_keyAt_82 : decode cX12_keyAt 82 = .ok (.ireturn, 1) := by decide +kernel
theorem kw_1232 : Cond.fieldLink "FrequencyShelfModel" 50 "FrequencyShelfModel" "spot" "I" ∈ TB := tb_at 1232 (by decide +kernel) (by decide +kernel)
theorem fl_X12_50 : mF RX12 50 11 5 := ⟨RX12, TX12, 14, tyX12, rfl, by decide, in_X12, kw_1232, tyX12_ok, nmX12⟩
theorem fi_X12_5 : mFi 11 5 := fun _ _ _ h => by cases h; exact ⟨rfl, by decide +kernel⟩
abbrev cX12_takesKey : ByteArray := prog_14_method_10_code
def yX12_takesKey : MethodName := ⟨RX12, "takesKey", "()I"⟩
theorem dX12_takesKey_0 : decode cX12_takesKey 0 = .ok (.aload_n 0, 1) := by decide +kernel
theorem dX12_takesKey_1 : decode cX12_takesKey 1 = .ok (.iconst 0, 1) := by decide +kernel
theorem dX12_takesKey_2 : decode cX12_takesKey 2 = .ok (.invokevirtual 57, 3) := by decide +kernel
theorem dX12_takesKey_5 : decode cX12_takesKey 5 = .ok (.istore_n 1, 1) := by decide +kernel
theorem dX12_takesKey_6 : decode cX12_takesKey 6 = .ok (.aload_n 0, 1) := by decide +kernel
theorem dX12_takesKey_7 : decode cX12_takesKey 7 = .ok (.getfield 50, 3) := by decide +kernel
theorem dX12_takesKey_10 : decode cX12_takesKey 10 = .ok (.aload_n 0, 1) := by decide +kernel
theorem dX12_takesKey_11 : decode cX12_takesKey 11 = .ok (.getfield 54, 3) := by decide +kernel
theorem dX12_takesKey_14 : decode cX12_takesKey 14 = .ok (.if_icmp .ne 7, 3) := by decide +kernel
theorem dX12_takesKey_17 : decode cX12_takesKey 17 = .ok (.iconst 1, 1) := by decide +kernel
theorem dX12_takesKey_18 : decode cX12_takesKey 18 = .ok (.goto 4, 3) := by decide +kernel
theorem dX12_takesKey_21 : decode cX12_takesKey 21 = .ok (.iconst 0, 1) := by decide +kernel
theorem dX12_takesKey_22 : decode cX12_takesKey 22 = .ok (.istore_n 2, 1) := by decide +kernel
theorem dX12_takesKey_23 : decode cX12_takesKey 23 = .ok (.aload_n 0, 1) := by decide +kernel
theorem dX12_takesKey_24 : decode cX12_takesKey 24 = .ok (.iconst 0, 1) := by decide +kernel
theorem dX12_takesKey_25 : decode cX12_takesKey 25 = .ok (.putfield 54, 3) := by decide +kernel
theorem dX12_takesKey_28 : decode cX12_takesKey 28 = .ok (.iload_n 2, 1) := by decide +kernel
theorem dX12_takesKey_29 : decode cX12_takesKey 29 = .ok (.ifCond .eq 7, 3) := by decide +kernel
theorem dX12_takesKey_32 : decode cX12_takesKey 32 = .ok (.iload_n 1, 1) := by decide +kernel
theorem dX12_takesKey_33 : decode cX12_takesKey 33 = .ok (.goto 4, 3) := by decide +kernel
theorem dX12_takesKey_36 : decode cX12_takesKey 36 = .ok (.iconst 0, 1) := by decide +kernel
theorem dX12_takesKey_37 : decode cX12_takesKey 37 = .ok (.ireturn, 1) := by decide +kernel
theorem kw_1285 : Cond.methodLink "FrequencyShelfModel" 57 yX12_keyAt ∈ TB := tb_at 1285 (by decide +kernel) (by decide +kernel)
theorem kw_1288 : Cond.code yX12_keyAt cX12_keyAt 3 (some .int) ∈ TB := tb_at 1288 (by decide +kernel) (by decide +kernel)
theorem kw_1287 : Cond.instanceMethod yX12_keyAt ∈ TB := tb_at 1287 (by decide +kernel) (by decide +kernel)
theorem kw_13 : Cond.selects "FrequencyShelfModel" yX12_keyAt yX12_keyAt ∈ TB := tb_at 13 (by decide +kernel) (by decide +kernel)
theorem cv_X12_keyAt : Cond.code yX12_keyAt cX12_keyAt 3 (some .int) ∈ TB ∧ Cond.instanceMethod yX12_keyAt ∈ TB ∧ Cond.selects "FrequencyShelfModel" yX12_keyAt yX12_keyAt ∈ TB ∧ Cond.initialized "FrequencyShelfModel" ∈ TB := ⟨kw_1288, kw_1287, kw_13, kw_75⟩
abbrev cX12_placeOf : ByteArray := prog_14_method_16_code
def yX12_placeOf : MethodName := ⟨RX12, "placeOf", "(II)I"⟩
theorem dX12_placeOf_0 : decode cX12_placeOf 0 = .ok (.iload_n 0, 1) := by decide +kernel
theorem dX12_placeOf_1 : decode cX12_placeOf 1 = .ok (.invokestatic 64, 3) := by decide +kernel
theorem dX12_placeOf_4 : decode cX12_placeOf 4 = .ok (.iconst 2, 1) := by decide +kernel
theorem dX12_placeOf_5 : decode cX12_placeOf 5 = .ok (.iload_n 1, 1) := by decide +kernel
theorem dX12_placeOf_6 : decode cX12_placeOf 6 = .ok (.imul, 1) := by decide +kernel
theorem dX12_placeOf_7 : decode cX12_placeOf 7 = .ok (.iconst 1, 1) := by decide +kernel
theorem dX12_placeOf_8 : decode cX12_placeOf 8 = .ok (.iadd, 1) := by decide +kernel
theorem dX12_placeOf_9 : decode cX12_placeOf 9 = .ok (.imul, 1) := by decide +kernel
theorem dX12_placeOf_10 : decode cX12_placeOf 10 = .ok (.iconst 3, 1) := by decide +kernel
theorem dX12_placeOf_11 : decode cX12_placeOf 11 = .ok (.iconst 5, 1) := by decide +kernel
theorem dX12_placeOf_12 : decode cX12_placeOf 12 = .ok (.iload_n 1, 1) := by decide +kernel
theorem dX12_placeOf_13 : decode cX12_placeOf 13 = .ok (.imul, 1) := by decide +kernel
theorem dX12_placeOf_14 : decode cX12_placeOf 14 = .ok (.iadd, 1) := by decide +kernel
theorem dX12_placeOf_15 : decode cX12_placeOf 15 = .ok (.iushr, 1) := by decide +kernel
theorem dX12_placeOf_16 : decode cX12_placeOf 16 = .ok (.bipush 16, 2) := by decide +kernel
theorem dX12_placeOf_18 : decode cX12_placeOf 18 = .ok (.irem, 1) := by decide +kernel
theorem dX12_placeOf_19 : decode cX12_placeOf 19 = .ok (.ireturn, 1) := by decide +kernel
abbrev cX12_uses : ByteArray := prog_14_method_56_code
def yX12_uses : MethodName := ⟨RX12, "uses", "(II)V"⟩
theorem dX12_uses_0 : decode cX12_uses 0 = .ok (.aload_n 0, 1) := by decide +kernel
theorem dX12_uses_1 : decode cX12_uses 1 = .ok (.getfield 9, 3) := by decide +kernel
theorem dX12_uses_4 : decode cX12_uses 4 = .ok (.bipush 9, 2) := by decide +kernel
theorem dX12_uses_6 : decode cX12_uses 6 = .ok (.dup2, 1) := by decide +kernel
theorem dX12_uses_7 : decode cX12_uses 7 = .ok (.iaload, 1) := by decide +kernel
theorem dX12_uses_8 : decode cX12_uses 8 = .ok (.iconst 1, 1) := by decide +kernel
theorem dX12_uses_9 : decode cX12_uses 9 = .ok (.iadd, 1) := by decide +kernel
theorem dX12_uses_10 : decode cX12_uses 10 = .ok (.iastore, 1) := by decide +kernel
theorem dX12_uses_11 : decode cX12_uses 11 = .ok (.aload_n 0, 1) := by decide +kernel
theorem dX12_uses_12 : decode cX12_uses 12 = .ok (.getfield 9, 3) := by decide +kernel
theorem dX12_uses_15 : decode cX12_uses 15 = .ok (.bipush 20, 2) := by decide +kernel
theorem dX12_uses_17 : decode cX12_uses 17 = .ok (.dup2, 1) := by decide +kernel
theorem dX12_uses_18 : decode cX12_uses 18 = .ok (.iaload, 1) := by decide +kernel
theorem dX12_uses_19 : decode cX12_uses 19 = .ok (.iconst 1, 1) := by decide +kernel
theorem dX12_uses_20 : decode cX12_uses 20 = .ok (.iadd, 1) := by decide +kernel
theorem dX12_uses_21 : decode cX12_uses 21 = .ok (.iastore, 1) := by decide +kernel
theorem dX12_uses_22 : decode cX12_uses 22 = .ok (.aload_n 0, 1) := by decide +kernel
theorem dX12_uses_23 : decode cX12_uses 23 = .ok (.getfield 9, 3) := by decide +kernel
theorem dX12_uses_26 : decode cX12_uses 26 = .ok (.sipush 8403, 3) := by decide +kernel
theorem dX12_uses_29 : decode cX12_uses 29 = .ok (.iconst 4, 1) := by decide +kernel
theorem dX12_uses_30 : decode cX12_uses 30 = .ok (.iload_n 2, 1) := by decide +kernel
theorem dX12_uses_31 : decode cX12_uses 31 = .ok (.imul, 1) := by decide +kernel
theorem dX12_uses_32 : decode cX12_uses 32 = .ok (.iadd, 1) := by decide +kernel
theorem dX12_uses_33 : decode cX12_uses 33 = .ok (.dup2, 1) := by decide +kernel
theorem dX12_uses_34 : decode cX12_uses 34 = .ok (.iaload, 1) := by decide +kernel
theorem dX12_uses_35 : decode cX12_uses 35 = .ok (.iconst 1, 1) := by decide +kernel
theorem dX12_uses_36 : decode cX12_uses 36 = .ok (.iadd, 1) := by decide +kernel
theorem dX12_uses_37 : decode cX12_uses 37 = .ok (.iastore, 1) := by decide +kernel
theorem dX12_uses_38 : decode cX12_uses 38 = .ok (.aload_n 0, 1) := by decide +kernel
theorem dX12_uses_39 : decode cX12_uses 39 = .ok (.getfield 9, 3) := by decide +kernel
theorem dX12_uses_42 : decode cX12_uses 42 = .ok (.aload_n 0, 1) := by decide +kernel
theorem dX12_uses_43 : decode cX12_uses 43 = .ok (.bipush 18, 2) := by decide +kernel
theorem dX12_uses_45 : decode cX12_uses 45 = .ok (.sipush 8607, 3) := by decide +kernel
theorem dX12_uses_48 : decode cX12_uses 48 = .ok (.iconst 1, 1) := by decide +kernel
theorem dX12_uses_49 : decode cX12_uses 49 = .ok (.bipush 60, 2) := by decide +kernel
theorem dX12_uses_51 : decode cX12_uses 51 = .ok (.invokevirtual 60, 3) := by decide +kernel
theorem dX12_uses_54 : decode cX12_uses 54 = .ok (.iload_n 1, 1) := by decide +kernel
theorem dX12_uses_55 : decode cX12_uses 55 = .ok (.iastore, 1) := by decide +kernel
theorem dX12_uses_56 : decode cX12_uses 56 = .ok (.iconst 0, 1) := by decide +kernel
theorem dX12_uses_57 : decode cX12_uses 57 = .ok (.istore_n 3, 1) := by decide +kernel
theorem dX12_uses_58 : decode cX12_uses 58 = .ok (.iload_n 3, 1) := by decide +kernel
theorem dX12_uses_59 : decode cX12_uses 59 = .ok (.iconst 4, 1) := by decide +kernel
theorem dX12_uses_60 : decode cX12_uses 60 = .ok (.if_icmp .ge 45, 3) := by decide +kernel
theorem dX12_uses_63 : decode cX12_uses 63 = .ok (.bipush 34, 2) := by decide +kernel
theorem dX12_uses_65 : decode cX12_uses 65 = .ok (.bipush 16, 2) := by decide +kernel
theorem dX12_uses_67 : decode cX12_uses 67 = .ok (.iload_n 3, 1) := by decide +kernel
theorem dX12_uses_68 : decode cX12_uses 68 = .ok (.imul, 1) := by decide +kernel
theorem dX12_uses_69 : decode cX12_uses 69 = .ok (.iadd, 1) := by decide +kernel
theorem dX12_uses_70 : decode cX12_uses 70 = .ok (.iload_n 1, 1) := by decide +kernel
theorem dX12_uses_71 : decode cX12_uses 71 = .ok (.iload_n 3, 1) := by decide +kernel
theorem dX12_uses_72 : decode cX12_uses 72 = .ok (.invokestatic 71, 3) := by decide +kernel
theorem dX12_uses_75 : decode cX12_uses 75 = .ok (.iadd, 1) := by decide +kernel
theorem dX12_uses_76 : decode cX12_uses 76 = .ok (.istore 4, 2) := by decide +kernel
theorem dX12_uses_78 : decode cX12_uses 78 = .ok (.aload_n 0, 1) := by decide +kernel
theorem dX12_uses_79 : decode cX12_uses 79 = .ok (.getfield 9, 3) := by decide +kernel
theorem dX12_uses_82 : decode cX12_uses 82 = .ok (.iload 4, 2) := by decide +kernel
theorem dX12_uses_84 : decode cX12_uses 84 = .ok (.bipush 15, 2) := by decide +kernel
theorem dX12_uses_86 : decode cX12_uses 86 = .ok (.aload_n 0, 1) := by decide +kernel
theorem dX12_uses_87 : decode cX12_uses 87 = .ok (.getfield 9, 3) := by decide +kernel
theorem dX12_uses_90 : decode cX12_uses 90 = .ok (.iload 4, 2) := by decide +kernel
theorem dX12_uses_92 : decode cX12_uses 92 = .ok (.iaload, 1) := by decide +kernel
theorem dX12_uses_93 : decode cX12_uses 93 = .ok (.iconst 1, 1) := by decide +kernel
theorem dX12_uses_94 : decode cX12_uses 94 = .ok (.iadd, 1) := by decide +kernel
theorem dX12_uses_95 : decode cX12_uses 95 = .ok (.invokestatic 74, 3) := by decide +kernel
theorem dX12_uses_98 : decode cX12_uses 98 = .ok (.iastore, 1) := by decide +kernel
theorem dX12_uses_99 : decode cX12_uses 99 = .ok (.iinc 3 1, 3) := by decide +kernel
theorem dX12_uses_102 : decode cX12_uses 102 = .ok (.goto (-44), 3) := by decide +kernel
theorem dX12_uses_105 : decode cX12_uses 105 = .ok (.return_, 1) := by decide +kernel
theorem kw_1293 : Cond.methodLink "FrequencyShelfModel" 71 yX12_placeOf ∈ TB := tb_at 1293 (by decide +kernel) (by decide +kernel)
theorem kw_1295 : Cond.code yX12_placeOf cX12_placeOf 2 (some .int) ∈ TB := tb_at 1295 (by decide +kernel) (by decide +kernel)
theorem kw_1294 : Cond.static yX12_placeOf ∈ TB := tb_at 1294 (by decide +kernel) (by decide +kernel)
theorem cs_X12_placeOf : Cond.code yX12_placeOf cX12_placeOf 2 (some .int) ∈ TB ∧ Cond.static yX12_placeOf ∈ TB ∧ Cond.initialized "FrequencyShelfModel" ∈ TB := ⟨kw_1295, kw_1294, kw_75⟩
theorem kw_static_min : Cond.static Lib.Math.min.name ∈ TB := tb_at 605 (by decide +kernel) (by decide +kernel)
theorem kw_init_math : Cond.initialized "java/lang/Math" ∈ TB := tb_at 66 (by decide +kernel) (by decide +kernel)
theorem kw_code_min : Cond.code Lib.Math.min.name Lib.Math.min.code 2 (some .int) ∈ TB := tb_at 606 (by decide +kernel) (by decide +kernel)
theorem kl_min_X12 : Cond.methodLink RX12 74 Lib.Math.min.name ∈ TB := tb_at 1305 (by decide +kernel) (by decide +kernel)
abbrev cX12_entryOf : ByteArray := prog_14_method_22_code
def yX12_entryOf : MethodName := ⟨RX12, "entryOf", "(I)I"⟩
theorem dX12_entryOf_0 : decode cX12_entryOf 0 = .ok (.iconst 0, 1) := by decide +kernel
theorem dX12_entryOf_1 : decode cX12_entryOf 1 = .ok (.istore_n 2, 1) := by decide +kernel
theorem dX12_entryOf_2 : decode cX12_entryOf 2 = .ok (.iload_n 2, 1) := by decide +kernel
theorem dX12_entryOf_3 : decode cX12_entryOf 3 = .ok (.aload_n 0, 1) := by decide +kernel
theorem dX12_entryOf_4 : decode cX12_entryOf 4 = .ok (.getfield 9, 3) := by decide +kernel
theorem dX12_entryOf_7 : decode cX12_entryOf 7 = .ok (.bipush 13, 2) := by decide +kernel
theorem dX12_entryOf_9 : decode cX12_entryOf 9 = .ok (.iaload, 1) := by decide +kernel
theorem dX12_entryOf_10 : decode cX12_entryOf 10 = .ok (.if_icmp .ge 21, 3) := by decide +kernel
theorem dX12_entryOf_13 : decode cX12_entryOf 13 = .ok (.aload_n 0, 1) := by decide +kernel
theorem dX12_entryOf_14 : decode cX12_entryOf 14 = .ok (.iload_n 2, 1) := by decide +kernel
theorem dX12_entryOf_15 : decode cX12_entryOf 15 = .ok (.iconst 0, 1) := by decide +kernel
theorem dX12_entryOf_16 : decode cX12_entryOf 16 = .ok (.invokevirtual 86, 3) := by decide +kernel
theorem dX12_entryOf_19 : decode cX12_entryOf 19 = .ok (.iload_n 1, 1) := by decide +kernel
theorem dX12_entryOf_20 : decode cX12_entryOf 20 = .ok (.if_icmp .ne 5, 3) := by decide +kernel
theorem dX12_entryOf_23 : decode cX12_entryOf 23 = .ok (.iload_n 2, 1) := by decide +kernel
theorem dX12_entryOf_24 : decode cX12_entryOf 24 = .ok (.ireturn, 1) := by decide +kernel
theorem dX12_entryOf_25 : decode cX12_entryOf 25 = .ok (.iinc 2 1, 3) := by decide +kernel
theorem dX12_entryOf_28 : decode cX12_entryOf 28 = .ok (.goto (-26), 3) := by decide +kernel
theorem dX12_entryOf_31 : decode cX12_entryOf 31 = .ok (.iconst (-1), 1) := by decide +kernel
theorem dX12_entryOf_32 : decode cX12_entryOf 32 = .ok (.ireturn, 1) := by decide +kernel
-- X12_in
def po_X12_in (E : mE)     (o : Int32) : Option Value → va_W → Prop := (fun (v : Option Value) (w' : va_W) => v = some (.int o) ∧ w' = [])
noncomputable def F_X12_in   (x0 : Int32) (x1 : Int32) (x2 : Int32) : Option (Int32) :=
  if (x0 < x1 : Prop) then
  some (0)
  else
  if (x2 < x0 : Prop) then
  some (0)
  else
  some (1)
set_option maxHeartbeats 4000000 in
set_option maxRecDepth 100000 in
theorem d_X12_in (E : mE) (l : Launch)     (x0 : Int32) (x1 : Int32) (x2 : Int32)  (o : Int32) (hf : F_X12_in x0 x1 x2 = some o) : MX E l yX12_in cX12_in 3 (some .boolean) ({ frames := 0, cells := 0, slots := 0, locals := 0 } : Room) [.int x0, .int x1, .int x2] [] (po_X12_in E o) := by
  refine mx_intro (by decide +kernel) (Nat.le_of_ble_eq_true rfl) ?_
  intro p e s m args below meth c A Q ls B w hl
  obtain ⟨hx, hb, hml, hown, hts⟩ := id B.1
  unfold F_X12_in at hf
  have hl : lv_has ls 3 [(0, .int x0), (1, .int x1), (2, .int x2)] := hl
  refine lv_iload_n hx hb dX12_in_0 rfl (lv_at hl 0 rfl) ?_
  refine lv_iload_n hx hb dX12_in_1 rfl (lv_at hl 1 rfl) ?_
  refine lv_icmp_lt (tgt := 14) hx hb dX12_in_2 (by decide) (fun hc => ?_) (fun hc => ?_)
  · have hf := it_t hc hf
    refine lv_iconst (v := 0) hx hb dX12_in_14 (by decide) ?_
    cases hf
    exact mx_zret B w rfl ⟨rfl, rfl⟩ dX12_in_15
  · have hf := it_f hc hf
    refine lv_iload_n hx hb dX12_in_5 rfl (lv_at hl 0 rfl) ?_
    refine lv_iload_n hx hb dX12_in_6 rfl (lv_at hl 2 rfl) ?_
    refine lv_icmp_gt (tgt := 14) hx hb dX12_in_7 (by decide) (fun hc => ?_) (fun hc => ?_)
    · have hf := it_t hc hf
      refine lv_iconst (v := 0) hx hb dX12_in_14 (by decide) ?_
      cases hf
      exact mx_zret B w rfl ⟨rfl, rfl⟩ dX12_in_15
    · have hf := it_f hc hf
      refine lv_iconst (v := 1) hx hb dX12_in_10 (by decide) ?_
      refine lv_goto (tgt := 15) hx hb dX12_in_11 (by decide) ?_
      cases hf
      exact mx_zret B w rfl ⟨rfl, rfl⟩ dX12_in_15
-- X12_isRule
def po_X12_isRule (E : mE)     (o : Int32) : Option Value → va_W → Prop := (fun (v : Option Value) (w' : va_W) => v = some (.int o) ∧ w' = [])
noncomputable def F_X12_isRule   (x0 : Int32) (x1 : Int32) : Option (Int32) :=
  if (x0 = 0 : Prop) then
  bd (F_X12_in x1 1 200) (fun o_1 =>
  ck (o_1 = 0 ∨ o_1 = 1) (some (o_1)))
  else
  if (x0 = 1 : Prop) then
  bd (F_X12_in x1 1 500) (fun o_2 =>
  ck (o_2 = 0 ∨ o_2 = 1) (some (o_2)))
  else
  if (x0 = 2 : Prop) then
  bd (F_X12_in x1 0 999) (fun o_3 =>
  ck (o_3 = 0 ∨ o_3 = 1) (some (o_3)))
  else
  if (x0 = 3 : Prop) then
  bd (F_X12_in x1 0 999) (fun o_4 =>
  ck (o_4 = 0 ∨ o_4 = 1) (some (o_4)))
  else
  if (x0 = 4 : Prop) then
  bd (F_X12_in x1 1 8) (fun o_5 =>
  ck (o_5 = 0 ∨ o_5 = 1) (some (o_5)))
  else
  if (x0 = 5 : Prop) then
  bd (F_X12_in x1 0 1) (fun o_6 =>
  ck (o_6 = 0 ∨ o_6 = 1) (some (o_6)))
  else
  if (x0 = 6 : Prop) then
  if (x0 = 6 : Prop) then
  bd (F_X12_in x1 0 20) (fun o_7 =>
  if (o_7 = 0 : Prop) then
  some (0)
  else
  some (1))
  else
  some (0)
  else
  if (x0 = 7 : Prop) then
  bd (F_X12_in x1 0 999) (fun o_8 =>
  ck (o_8 = 0 ∨ o_8 = 1) (some (o_8)))
  else
  if (x0 = 6 : Prop) then
  bd (F_X12_in x1 0 20) (fun o_9 =>
  if (o_9 = 0 : Prop) then
  some (0)
  else
  some (1))
  else
  some (0)
set_option maxHeartbeats 4000000 in
set_option maxRecDepth 100000 in
theorem d_X12_isRule (E : mE) (l : Launch)     (x0 : Int32) (x1 : Int32)  (o : Int32) (hf : F_X12_isRule x0 x1 = some o) : MX E l yX12_isRule cX12_isRule 2 (some .boolean) ({ frames := 1, cells := 0, slots := 0, locals := 22 } : Room) [.int x0, .int x1] [] (po_X12_isRule E o) := by
  refine mx_intro (by decide +kernel) (Nat.le_of_ble_eq_true rfl) ?_
  intro p e s m args below meth c A Q ls B w hl
  obtain ⟨hx, hb, hml, hown, hts⟩ := id B.1
  unfold F_X12_isRule at hf
  have hl : lv_has ls 2 [(0, .int x0), (1, .int x1)] := hl
  refine lv_iload_n hx hb dX12_isRule_0 rfl (lv_at hl 0 rfl) ?_
  by_cases hs0 : x0 = 0
  · have hf := it_t hs0 hf
    refine lv_tableIn (off := 47) (tgt := 48) hx hb dX12_isRule_1 (by rw [hs0]; decide) (by rw [hs0]; decide) (by rw [hs0]; decide) (by decide) ?_
    refine lv_iload_n hx hb dX12_isRule_48 rfl (lv_at hl 1 rfl) ?_
    refine lv_iconst (v := 1) hx hb dX12_isRule_49 (by decide) ?_
    refine lv_sipush (v := 200) hx hb dX12_isRule_50 (by decide) ?_
    obtain ⟨o_1, hq, hf⟩ := bd_e hf
    refine mx_callS (As := [.int x1, .int 1, .int 200]) (rest := []) (wr := []) (d_X12_in E l   x1 1 200  o_1 hq) B w [] [] rfl rfl (by decide) (by decide) (by decide) cs_X12_in kw_1274 3 (by decide +kernel) ⟨Nat.le_of_ble_eq_true rfl, Nat.le_of_ble_eq_true rfl⟩ rfl hl.1 rfl (Nat.le_of_ble_eq_true rfl) dX12_isRule_53 rfl rfl ⟨Nat.zero_le _, Nat.zero_le _⟩ (fun v w' H locs hpo w => ?_)
    clear hq
    obtain ⟨rfl, rfl⟩ := hpo
    obtain ⟨hz, hf⟩ := ck_e hf
    cases hf
    exact mx_zret B w (nar_z hz) ⟨rfl, rfl⟩ dX12_isRule_56
  · have hf := it_f hs0 hf
    by_cases hs1 : x0 = 1
    · have hf := it_t hs1 hf
      refine lv_tableIn (off := 56) (tgt := 57) hx hb dX12_isRule_1 (by rw [hs1]; decide) (by rw [hs1]; decide) (by rw [hs1]; decide) (by decide) ?_
      refine lv_iload_n hx hb dX12_isRule_57 rfl (lv_at hl 1 rfl) ?_
      refine lv_iconst (v := 1) hx hb dX12_isRule_58 (by decide) ?_
      refine lv_sipush (v := 500) hx hb dX12_isRule_59 (by decide) ?_
      obtain ⟨o_2, hq, hf⟩ := bd_e hf
      refine mx_callS (As := [.int x1, .int 1, .int 500]) (rest := []) (wr := []) (d_X12_in E l   x1 1 500  o_2 hq) B w [] [] rfl rfl (by decide) (by decide) (by decide) cs_X12_in kw_1274 3 (by decide +kernel) ⟨Nat.le_of_ble_eq_true rfl, Nat.le_of_ble_eq_true rfl⟩ rfl hl.1 rfl (Nat.le_of_ble_eq_true rfl) dX12_isRule_62 rfl rfl ⟨Nat.zero_le _, Nat.zero_le _⟩ (fun v w' H locs hpo w => ?_)
      clear hq
      obtain ⟨rfl, rfl⟩ := hpo
      obtain ⟨hz, hf⟩ := ck_e hf
      cases hf
      exact mx_zret B w (nar_z hz) ⟨rfl, rfl⟩ dX12_isRule_65
    · have hf := it_f hs1 hf
      by_cases hs2 : x0 = 2
      · have hf := it_t hs2 hf
        refine lv_tableIn (off := 65) (tgt := 66) hx hb dX12_isRule_1 (by rw [hs2]; decide) (by rw [hs2]; decide) (by rw [hs2]; decide) (by decide) ?_
        refine lv_iload_n hx hb dX12_isRule_66 rfl (lv_at hl 1 rfl) ?_
        refine lv_iconst (v := 0) hx hb dX12_isRule_67 (by decide) ?_
        refine lv_sipush (v := 999) hx hb dX12_isRule_68 (by decide) ?_
        obtain ⟨o_3, hq, hf⟩ := bd_e hf
        refine mx_callS (As := [.int x1, .int 0, .int 999]) (rest := []) (wr := []) (d_X12_in E l   x1 0 999  o_3 hq) B w [] [] rfl rfl (by decide) (by decide) (by decide) cs_X12_in kw_1274 3 (by decide +kernel) ⟨Nat.le_of_ble_eq_true rfl, Nat.le_of_ble_eq_true rfl⟩ rfl hl.1 rfl (Nat.le_of_ble_eq_true rfl) dX12_isRule_71 rfl rfl ⟨Nat.zero_le _, Nat.zero_le _⟩ (fun v w' H locs hpo w => ?_)
        clear hq
        obtain ⟨rfl, rfl⟩ := hpo
        obtain ⟨hz, hf⟩ := ck_e hf
        cases hf
        exact mx_zret B w (nar_z hz) ⟨rfl, rfl⟩ dX12_isRule_74
      · have hf := it_f hs2 hf
        by_cases hs3 : x0 = 3
        · have hf := it_t hs3 hf
          refine lv_tableIn (off := 65) (tgt := 66) hx hb dX12_isRule_1 (by rw [hs3]; decide) (by rw [hs3]; decide) (by rw [hs3]; decide) (by decide) ?_
          refine lv_iload_n hx hb dX12_isRule_66 rfl (lv_at hl 1 rfl) ?_
          refine lv_iconst (v := 0) hx hb dX12_isRule_67 (by decide) ?_
          refine lv_sipush (v := 999) hx hb dX12_isRule_68 (by decide) ?_
          obtain ⟨o_4, hq, hf⟩ := bd_e hf
          refine mx_callS (As := [.int x1, .int 0, .int 999]) (rest := []) (wr := []) (d_X12_in E l   x1 0 999  o_4 hq) B w [] [] rfl rfl (by decide) (by decide) (by decide) cs_X12_in kw_1274 3 (by decide +kernel) ⟨Nat.le_of_ble_eq_true rfl, Nat.le_of_ble_eq_true rfl⟩ rfl hl.1 rfl (Nat.le_of_ble_eq_true rfl) dX12_isRule_71 rfl rfl ⟨Nat.zero_le _, Nat.zero_le _⟩ (fun v w' H locs hpo w => ?_)
          clear hq
          obtain ⟨rfl, rfl⟩ := hpo
          obtain ⟨hz, hf⟩ := ck_e hf
          cases hf
          exact mx_zret B w (nar_z hz) ⟨rfl, rfl⟩ dX12_isRule_74
        · have hf := it_f hs3 hf
          by_cases hs4 : x0 = 4
          · have hf := it_t hs4 hf
            refine lv_tableIn (off := 74) (tgt := 75) hx hb dX12_isRule_1 (by rw [hs4]; decide) (by rw [hs4]; decide) (by rw [hs4]; decide) (by decide) ?_
            refine lv_iload_n hx hb dX12_isRule_75 rfl (lv_at hl 1 rfl) ?_
            refine lv_iconst (v := 1) hx hb dX12_isRule_76 (by decide) ?_
            refine lv_bipush (v := 8) hx hb dX12_isRule_77 (by decide) ?_
            obtain ⟨o_5, hq, hf⟩ := bd_e hf
            refine mx_callS (As := [.int x1, .int 1, .int 8]) (rest := []) (wr := []) (d_X12_in E l   x1 1 8  o_5 hq) B w [] [] rfl rfl (by decide) (by decide) (by decide) cs_X12_in kw_1274 3 (by decide +kernel) ⟨Nat.le_of_ble_eq_true rfl, Nat.le_of_ble_eq_true rfl⟩ rfl hl.1 rfl (Nat.le_of_ble_eq_true rfl) dX12_isRule_79 rfl rfl ⟨Nat.zero_le _, Nat.zero_le _⟩ (fun v w' H locs hpo w => ?_)
            clear hq
            obtain ⟨rfl, rfl⟩ := hpo
            obtain ⟨hz, hf⟩ := ck_e hf
            cases hf
            exact mx_zret B w (nar_z hz) ⟨rfl, rfl⟩ dX12_isRule_82
          · have hf := it_f hs4 hf
            by_cases hs5 : x0 = 5
            · have hf := it_t hs5 hf
              refine lv_tableIn (off := 82) (tgt := 83) hx hb dX12_isRule_1 (by rw [hs5]; decide) (by rw [hs5]; decide) (by rw [hs5]; decide) (by decide) ?_
              refine lv_iload_n hx hb dX12_isRule_83 rfl (lv_at hl 1 rfl) ?_
              refine lv_iconst (v := 0) hx hb dX12_isRule_84 (by decide) ?_
              refine lv_iconst (v := 1) hx hb dX12_isRule_85 (by decide) ?_
              obtain ⟨o_6, hq, hf⟩ := bd_e hf
              refine mx_callS (As := [.int x1, .int 0, .int 1]) (rest := []) (wr := []) (d_X12_in E l   x1 0 1  o_6 hq) B w [] [] rfl rfl (by decide) (by decide) (by decide) cs_X12_in kw_1274 3 (by decide +kernel) ⟨Nat.le_of_ble_eq_true rfl, Nat.le_of_ble_eq_true rfl⟩ rfl hl.1 rfl (Nat.le_of_ble_eq_true rfl) dX12_isRule_86 rfl rfl ⟨Nat.zero_le _, Nat.zero_le _⟩ (fun v w' H locs hpo w => ?_)
              clear hq
              obtain ⟨rfl, rfl⟩ := hpo
              obtain ⟨hz, hf⟩ := ck_e hf
              cases hf
              exact mx_zret B w (nar_z hz) ⟨rfl, rfl⟩ dX12_isRule_89
            · have hf := it_f hs5 hf
              by_cases hs6 : x0 = 6
              · have hf := it_t hs6 hf
                refine lv_tableIn (off := 89) (tgt := 90) hx hb dX12_isRule_1 (by rw [hs6]; decide) (by rw [hs6]; decide) (by rw [hs6]; decide) (by decide) ?_
                refine lv_iload_n hx hb dX12_isRule_90 rfl (lv_at hl 0 rfl) ?_
                refine lv_bipush (v := 6) hx hb dX12_isRule_91 (by decide) ?_
                refine lv_icmp_ne (tgt := 110) hx hb dX12_isRule_93 (by decide) (fun hc => ?_) (fun hc => ?_)
                · have hf := it_f hc hf
                  refine lv_iconst (v := 0) hx hb dX12_isRule_110 (by decide) ?_
                  cases hf
                  exact mx_zret B w rfl ⟨rfl, rfl⟩ dX12_isRule_111
                · have hf := it_t hc hf
                  refine lv_iload_n hx hb dX12_isRule_96 rfl (lv_at hl 1 rfl) ?_
                  refine lv_iconst (v := 0) hx hb dX12_isRule_97 (by decide) ?_
                  refine lv_bipush (v := 20) hx hb dX12_isRule_98 (by decide) ?_
                  obtain ⟨o_7, hq, hf⟩ := bd_e hf
                  refine mx_callS (As := [.int x1, .int 0, .int 20]) (rest := []) (wr := []) (d_X12_in E l   x1 0 20  o_7 hq) B w [] [] rfl rfl (by decide) (by decide) (by decide) cs_X12_in kw_1274 3 (by decide +kernel) ⟨Nat.le_of_ble_eq_true rfl, Nat.le_of_ble_eq_true rfl⟩ rfl hl.1 rfl (Nat.le_of_ble_eq_true rfl) dX12_isRule_100 rfl rfl ⟨Nat.zero_le _, Nat.zero_le _⟩ (fun v w' H locs hpo w => ?_)
                  clear hq
                  obtain ⟨rfl, rfl⟩ := hpo
                  refine lv_if_eq (tgt := 110) hx hb dX12_isRule_103 (by decide) (fun hc => ?_) (fun hc => ?_)
                  · have hf := it_t hc hf
                    refine lv_iconst (v := 0) hx hb dX12_isRule_110 (by decide) ?_
                    cases hf
                    exact mx_zret B w rfl ⟨rfl, rfl⟩ dX12_isRule_111
                  · have hf := it_f hc hf
                    refine lv_iconst (v := 1) hx hb dX12_isRule_106 (by decide) ?_
                    refine lv_goto (tgt := 111) hx hb dX12_isRule_107 (by decide) ?_
                    cases hf
                    exact mx_zret B w rfl ⟨rfl, rfl⟩ dX12_isRule_111
              · have hf := it_f hs6 hf
                by_cases hs7 : x0 = 7
                · have hf := it_t hs7 hf
                  refine lv_tableIn (off := 65) (tgt := 66) hx hb dX12_isRule_1 (by rw [hs7]; decide) (by rw [hs7]; decide) (by rw [hs7]; decide) (by decide) ?_
                  refine lv_iload_n hx hb dX12_isRule_66 rfl (lv_at hl 1 rfl) ?_
                  refine lv_iconst (v := 0) hx hb dX12_isRule_67 (by decide) ?_
                  refine lv_sipush (v := 999) hx hb dX12_isRule_68 (by decide) ?_
                  obtain ⟨o_8, hq, hf⟩ := bd_e hf
                  refine mx_callS (As := [.int x1, .int 0, .int 999]) (rest := []) (wr := []) (d_X12_in E l   x1 0 999  o_8 hq) B w [] [] rfl rfl (by decide) (by decide) (by decide) cs_X12_in kw_1274 3 (by decide +kernel) ⟨Nat.le_of_ble_eq_true rfl, Nat.le_of_ble_eq_true rfl⟩ rfl hl.1 rfl (Nat.le_of_ble_eq_true rfl) dX12_isRule_71 rfl rfl ⟨Nat.zero_le _, Nat.zero_le _⟩ (fun v w' H locs hpo w => ?_)
                  clear hq
                  obtain ⟨rfl, rfl⟩ := hpo
                  obtain ⟨hz, hf⟩ := ck_e hf
                  cases hf
                  exact mx_zret B w (nar_z hz) ⟨rfl, rfl⟩ dX12_isRule_74
                · have hf := it_f hs7 hf
                  have hz0 := lv_neT (a := 0) hs0 (by decide)
                  have hz1 := lv_neT (a := 1) hs1 (by decide)
                  have hz2 := lv_neT (a := 2) hs2 (by decide)
                  have hz3 := lv_neT (a := 3) hs3 (by decide)
                  have hz4 := lv_neT (a := 4) hs4 (by decide)
                  have hz5 := lv_neT (a := 5) hs5 (by decide)
                  have hz6 := lv_neT (a := 6) hs6 (by decide)
                  have hz7 := lv_neT (a := 7) hs7 (by decide)
                  refine lv_tableOut (tgt := 90) hx hb dX12_isRule_1 (by omega) (by decide) ?_
                  refine lv_iload_n hx hb dX12_isRule_90 rfl (lv_at hl 0 rfl) ?_
                  refine lv_bipush (v := 6) hx hb dX12_isRule_91 (by decide) ?_
                  refine lv_icmp_ne (tgt := 110) hx hb dX12_isRule_93 (by decide) (fun hc => ?_) (fun hc => ?_)
                  · have hf := it_f hc hf
                    refine lv_iconst (v := 0) hx hb dX12_isRule_110 (by decide) ?_
                    cases hf
                    exact mx_zret B w rfl ⟨rfl, rfl⟩ dX12_isRule_111
                  · have hf := it_t hc hf
                    refine lv_iload_n hx hb dX12_isRule_96 rfl (lv_at hl 1 rfl) ?_
                    refine lv_iconst (v := 0) hx hb dX12_isRule_97 (by decide) ?_
                    refine lv_bipush (v := 20) hx hb dX12_isRule_98 (by decide) ?_
                    obtain ⟨o_9, hq, hf⟩ := bd_e hf
                    refine mx_callS (As := [.int x1, .int 0, .int 20]) (rest := []) (wr := []) (d_X12_in E l   x1 0 20  o_9 hq) B w [] [] rfl rfl (by decide) (by decide) (by decide) cs_X12_in kw_1274 3 (by decide +kernel) ⟨Nat.le_of_ble_eq_true rfl, Nat.le_of_ble_eq_true rfl⟩ rfl hl.1 rfl (Nat.le_of_ble_eq_true rfl) dX12_isRule_100 rfl rfl ⟨Nat.zero_le _, Nat.zero_le _⟩ (fun v w' H locs hpo w => ?_)
                    clear hq
                    obtain ⟨rfl, rfl⟩ := hpo
                    refine lv_if_eq (tgt := 110) hx hb dX12_isRule_103 (by decide) (fun hc => ?_) (fun hc => ?_)
                    · have hf := it_t hc hf
                      refine lv_iconst (v := 0) hx hb dX12_isRule_110 (by decide) ?_
                      cases hf
                      exact mx_zret B w rfl ⟨rfl, rfl⟩ dX12_isRule_111
                    · have hf := it_f hc hf
                      refine lv_iconst (v := 1) hx hb dX12_isRule_106 (by decide) ?_
                      refine lv_goto (tgt := 111) hx hb dX12_isRule_107 (by decide) ?_
                      cases hf
                      exact mx_zret B w rfl ⟨rfl, rfl⟩ dX12_isRule_111
-- X12_at
def po_X12_at (E : mE) (h : Nat) (a_g : Nat) (a_kept : Nat) (a_tape : Nat) (a_written : Nat) (a_asked : Nat) (a_there : Nat) (a_counts : Nat) (a_lasts : Nat) (a_cames : Nat)  (g : Nat → Int32) (kept : Nat → Int32) (isKept : Int32) (tape : Nat → Int32) (taped : Int32) (spot : Int32) (written : Nat → Int32) (writtenMany : Int32) (asked : Nat → Int32) (askedMany : Int32) (there : Nat → Int32) (counts : Nat → Int32) (lasts : Nat → Int32) (cames : Nat → Int32)  (o : Int32) : Option Value → va_W → Prop := (fun (v : Option Value) (w' : va_W) => v = some (.int o) ∧ w' = [(h, .inr (11, [.ref a_g, .ref a_kept, .int isKept, .ref a_tape, .int taped, .int spot, .ref a_written, .int writtenMany, .ref a_asked, .int askedMany, .ref a_there, .ref a_counts, .ref a_lasts, .ref a_cames])), (a_g, .inl (E.2.1, 8787, .inl g)), (a_kept, .inl (E.2.1, 8787, .inl kept)), (a_tape, .inl (E.2.2.1, 60, .inl tape)), (a_written, .inl (E.2.1, 40, .inl written)), (a_asked, .inl (E.2.1, 60, .inl asked)), (a_there, .inl (E.2.1, 12, .inl there)), (a_counts, .inl (E.2.1, 12, .inl counts)), (a_lasts, .inl (E.2.1, 12, .inl lasts)), (a_cames, .inl (E.2.1, 12, .inl cames))])
noncomputable def F_X12_at  (g : Nat → Int32) (x1 : Int32) (x2 : Int32) : Option (Int32) :=
  ld g 8787 ((98 + (x1 * 9)) + x2) (fun v_1 =>
  some (v_1))
set_option maxHeartbeats 4000000 in
set_option maxRecDepth 100000 in
theorem d_X12_at (E : mE) (l : Launch) (h : Nat) (a_g : Nat) (a_kept : Nat) (a_tape : Nat) (a_written : Nat) (a_asked : Nat) (a_there : Nat) (a_counts : Nat) (a_lasts : Nat) (a_cames : Nat)  (g : Nat → Int32) (kept : Nat → Int32) (isKept : Int32) (tape : Nat → Int32) (taped : Int32) (spot : Int32) (written : Nat → Int32) (writtenMany : Int32) (asked : Nat → Int32) (askedMany : Int32) (there : Nat → Int32) (counts : Nat → Int32) (lasts : Nat → Int32) (cames : Nat → Int32)  (x1 : Int32) (x2 : Int32)  (o : Int32) (hf : F_X12_at g x1 x2 = some o) : MX E l yX12_at cX12_at 3 (some .int) ({ frames := 0, cells := 0, slots := 0, locals := 0 } : Room) [.ref h, .int x1, .int x2] [(h, .inr (11, [.ref a_g, .ref a_kept, .int isKept, .ref a_tape, .int taped, .int spot, .ref a_written, .int writtenMany, .ref a_asked, .int askedMany, .ref a_there, .ref a_counts, .ref a_lasts, .ref a_cames])), (a_g, .inl (E.2.1, 8787, .inl g)), (a_kept, .inl (E.2.1, 8787, .inl kept)), (a_tape, .inl (E.2.2.1, 60, .inl tape)), (a_written, .inl (E.2.1, 40, .inl written)), (a_asked, .inl (E.2.1, 60, .inl asked)), (a_there, .inl (E.2.1, 12, .inl there)), (a_counts, .inl (E.2.1, 12, .inl counts)), (a_lasts, .inl (E.2.1, 12, .inl lasts)), (a_cames, .inl (E.2.1, 12, .inl cames))] (po_X12_at E h a_g a_kept a_tape a_written a_asked a_there a_counts a_lasts a_cames g kept isKept tape taped spot written writtenMany asked askedMany there counts lasts cames o) := by
  refine mx_intro (by decide +kernel) (Nat.le_of_ble_eq_true rfl) ?_
  intro p e s m args below meth c A Q ls B w hl
  obtain ⟨hx, hb, hml, hown, hts⟩ := id B.1
  unfold F_X12_at at hf
  have hl : lv_has ls 3 [(0, .ref h), (1, .int x1), (2, .int x2)] := hl
  refine lv_aload_n hx hb dX12_at_0 rfl (lv_at hl 0 rfl) ?_
  refine mx_get B w 0 fl_X12_9 rfl rfl dX12_at_1 ?_
  refine lv_bipush (v := 98) hx hb dX12_at_4 (by decide) ?_
  refine lv_iload_n hx hb dX12_at_6 rfl (lv_at hl 1 rfl) ?_
  refine lv_bipush (v := 9) hx hb dX12_at_7 (by decide) ?_
  refine lv_imul hx hb dX12_at_9 ?_
  refine lv_iadd hx hb dX12_at_10 ?_
  refine lv_iload_n hx hb dX12_at_11 rfl (lv_at hl 2 rfl) ?_
  refine lv_iadd hx hb dX12_at_12 ?_
  obtain ⟨hin, hf⟩ := ld_e hf
  refine mx_iald B w 1 rfl hin dX12_at_13 (fun v_1 ev => ?_)
  have hf := hf _ ev; clear ev
  cases hf
  exact mx_iret B w ⟨rfl, rfl⟩ dX12_at_14
-- X12_weight
def po_X12_weight (E : mE) (h : Nat) (a_g : Nat) (a_kept : Nat) (a_tape : Nat) (a_written : Nat) (a_asked : Nat) (a_there : Nat) (a_counts : Nat) (a_lasts : Nat) (a_cames : Nat)  (g : Nat → Int32) (kept : Nat → Int32) (isKept : Int32) (tape : Nat → Int32) (taped : Int32) (spot : Int32) (written : Nat → Int32) (writtenMany : Int32) (asked : Nat → Int32) (askedMany : Int32) (there : Nat → Int32) (counts : Nat → Int32) (lasts : Nat → Int32) (cames : Nat → Int32)  (o : Int32) : Option Value → va_W → Prop := (fun (v : Option Value) (w' : va_W) => v = some (.int o) ∧ w' = [(h, .inr (11, [.ref a_g, .ref a_kept, .int isKept, .ref a_tape, .int taped, .int spot, .ref a_written, .int writtenMany, .ref a_asked, .int askedMany, .ref a_there, .ref a_counts, .ref a_lasts, .ref a_cames])), (a_g, .inl (E.2.1, 8787, .inl g)), (a_kept, .inl (E.2.1, 8787, .inl kept)), (a_tape, .inl (E.2.2.1, 60, .inl tape)), (a_written, .inl (E.2.1, 40, .inl written)), (a_asked, .inl (E.2.1, 60, .inl asked)), (a_there, .inl (E.2.1, 12, .inl there)), (a_counts, .inl (E.2.1, 12, .inl counts)), (a_lasts, .inl (E.2.1, 12, .inl lasts)), (a_cames, .inl (E.2.1, 12, .inl cames))])
noncomputable def K_X12_weight_4 (N : Nat)  (rec : Int32 → Int32 → Option (Int32)) (k30 : Int32 → Option (Int32))  (g : Nat → Int32) (x1 : Int32) (x2 : Int32)  : Option (Int32) :=
  ld g 8787 13 (fun v_1 =>
  if (v_1 ≤ x2 : Prop) then
  k30 x1
  else
  bd (F_X12_at g x2 2) (fun o_2 =>
  lt (x1 + o_2) (fun x1_3 =>
  lt (x2 + 1) (fun x2_4 =>
  rec x1_3 x2_4))))
noncomputable def L_X12_weight_4 (N : Nat)  (k30 : Int32 → Option (Int32))  (g : Nat → Int32) (n : Nat) : Int32 → Int32 → Option (Int32) :=
  Nat.rec (motive := fun _ => Int32 → Int32 → Option (Int32)) (fun _ _ => none) (fun _ rec => K_X12_weight_4 N rec k30 g) n
set_option maxHeartbeats 4000000 in
set_option maxRecDepth 100000 in
theorem l_X12_weight_4 {E : mE} {l : Launch} {p : Program} {e : Env} {s : State} {m : MethodId} {args : Array Value} {below : List Frame} {meth : Method} {c : Code} {A : Nat → Prop} {Q : State → Prop} {N : Nat} {h : Nat} {a_g : Nat} {a_kept : Nat} {a_tape : Nat} {a_written : Nat} {a_asked : Nat} {a_there : Nat} {a_counts : Nat} {a_lasts : Nat} {a_cames : Nat}  {g : Nat → Int32} {kept : Nat → Int32} {isKept : Int32} {tape : Nat → Int32} {taped : Int32} {spot : Int32} {written : Nat → Int32} {writtenMany : Int32} {asked : Nat → Int32} {askedMany : Int32} {there : Nat → Int32} {counts : Nat → Int32} {lasts : Nat → Int32} {cames : Nat → Int32}  {o : Int32} (B : mB E yX12_weight cX12_weight 3 (some .int) 0 0 (po_X12_weight E h a_g a_kept a_tape a_written a_asked a_there a_counts a_lasts a_cames g kept isKept tape taped spot written writtenMany asked askedMany there counts lasts cames o) p s m args below meth c A Q)    (k30 : Int32 → Option (Int32))  (hk30 : ∀ (x1 : Int32)   (H : Heap) (locs : List Loc) (ls : Array Slot), k30 x1 = some o → mW E A s [(h, .inr (11, [.ref a_g, .ref a_kept, .int isKept, .ref a_tape, .int taped, .int spot, .ref a_written, .int writtenMany, .ref a_asked, .int askedMany, .ref a_there, .ref a_counts, .ref a_lasts, .ref a_cames])), (a_g, .inl (E.2.1, 8787, .inl g)), (a_kept, .inl (E.2.1, 8787, .inl kept)), (a_tape, .inl (E.2.2.1, 60, .inl tape)), (a_written, .inl (E.2.1, 40, .inl written)), (a_asked, .inl (E.2.1, 60, .inl asked)), (a_there, .inl (E.2.1, 12, .inl there)), (a_counts, .inl (E.2.1, 12, .inl counts)), (a_lasts, .inl (E.2.1, 12, .inl lasts)), (a_cames, .inl (E.2.1, 12, .inl cames))] H locs → lv_has ls 3 [(1, .int x1)] → W p l e ({ frames := 1, cells := 0, slots := 0, locals := 22 } : Room) s m args below meth c H locs 0 0 Q (F0 m 30 ls [])) : ∀ n : Nat, ∀ (x1 : Int32) (x2 : Int32)   (H : Heap) (locs : List Loc) (ls : Array Slot), L_X12_weight_4 N k30 g n x1 x2 = some o → mW E A s [(h, .inr (11, [.ref a_g, .ref a_kept, .int isKept, .ref a_tape, .int taped, .int spot, .ref a_written, .int writtenMany, .ref a_asked, .int askedMany, .ref a_there, .ref a_counts, .ref a_lasts, .ref a_cames])), (a_g, .inl (E.2.1, 8787, .inl g)), (a_kept, .inl (E.2.1, 8787, .inl kept)), (a_tape, .inl (E.2.2.1, 60, .inl tape)), (a_written, .inl (E.2.1, 40, .inl written)), (a_asked, .inl (E.2.1, 60, .inl asked)), (a_there, .inl (E.2.1, 12, .inl there)), (a_counts, .inl (E.2.1, 12, .inl counts)), (a_lasts, .inl (E.2.1, 12, .inl lasts)), (a_cames, .inl (E.2.1, 12, .inl cames))] H locs → lv_has ls 3 [(0, .ref h), (1, .int x1), (2, .int x2)] → W p l e ({ frames := 1, cells := 0, slots := 0, locals := 22 } : Room) s m args below meth c H locs 0 0 Q (F0 m 4 ls []) := by
  obtain ⟨hx, hb, hml, hown, hts⟩ := id B.1
  intro n
  induction n with
  | zero =>
    intro x1 x2 H locs ls hf w hl
    exact nomatch hf
  | succ n hrec =>
    intro x1 x2 H locs ls hf w hl
    have hf : K_X12_weight_4 N (L_X12_weight_4 N k30 g n) k30 g x1 x2 = some o := hf
    unfold K_X12_weight_4 at hf
    refine lv_iload_n hx hb dX12_weight_4 rfl (lv_at hl 2 rfl) ?_
    refine lv_aload_n hx hb dX12_weight_5 rfl (lv_at hl 0 rfl) ?_
    refine mx_get B w 0 fl_X12_9 rfl rfl dX12_weight_6 ?_
    refine lv_bipush (v := 13) hx hb dX12_weight_9 (by decide) ?_
    obtain ⟨hin, hf⟩ := ld_e hf
    refine mx_iald B w 1 rfl hin dX12_weight_11 (fun v_1 ev => ?_)
    have hf := hf _ ev; clear ev
    refine lv_icmp_ge (tgt := 30) hx hb dX12_weight_12 (by decide) (fun hc => ?_) (fun hc => ?_)
    · have hf := it_t hc hf
      exact hk30 _ _ _ _ hf  w (lv_sub hl [1] rfl)
    · have hf := it_f hc hf
      refine lv_iload_n hx hb dX12_weight_15 rfl (lv_at hl 1 rfl) ?_
      refine lv_aload_n hx hb dX12_weight_16 rfl (lv_at hl 0 rfl) ?_
      refine lv_iload_n hx hb dX12_weight_17 rfl (lv_at hl 2 rfl) ?_
      refine lv_iconst (v := 2) hx hb dX12_weight_18 (by decide) ?_
      obtain ⟨o_2, hq, hf⟩ := bd_e hf
      refine mx_callV (As := [.int x2, .int 2]) (rest := [.int x1]) (wr := []) (d_X12_at E l  h a_g a_kept a_tape a_written a_asked a_there a_counts a_lasts a_cames g kept isKept tape taped spot written writtenMany asked askedMany there counts lasts cames x2 2  o_2 hq) B w [0, 1, 2, 3, 4, 5, 6, 7, 8, 9] [] rfl rfl (by decide) (by decide) (by decide) 0 rfl rfl cv_X12_at kw_1325 2 (by decide +kernel) ⟨Nat.le_of_ble_eq_true rfl, Nat.le_of_ble_eq_true rfl⟩ rfl hl.1 rfl (Nat.le_of_ble_eq_true rfl) dX12_weight_19 rfl rfl ⟨Nat.zero_le _, Nat.zero_le _⟩ (fun v w' H locs hpo w => ?_)
      clear hq
      obtain ⟨rfl, rfl⟩ := hpo
      have w : mW E A s [(h, .inr (11, [.ref a_g, .ref a_kept, .int isKept, .ref a_tape, .int taped, .int spot, .ref a_written, .int writtenMany, .ref a_asked, .int askedMany, .ref a_there, .ref a_counts, .ref a_lasts, .ref a_cames])), (a_g, .inl (E.2.1, 8787, .inl g)), (a_kept, .inl (E.2.1, 8787, .inl kept)), (a_tape, .inl (E.2.2.1, 60, .inl tape)), (a_written, .inl (E.2.1, 40, .inl written)), (a_asked, .inl (E.2.1, 60, .inl asked)), (a_there, .inl (E.2.1, 12, .inl there)), (a_counts, .inl (E.2.1, 12, .inl counts)), (a_lasts, .inl (E.2.1, 12, .inl lasts)), (a_cames, .inl (E.2.1, 12, .inl cames))] H locs := w
      refine lv_iadd hx hb dX12_weight_22 ?_
      refine lv_topi (fun x1_3 ev => ?_)
      have hf := lt_n ev hf; clear ev
      refine lv_istore_n (lv' := [(1, .int x1_3), (0, .ref h), (2, .int x2)]) hx hb dX12_weight_23 rfl hl (by decide) rfl (fun ls hl => ?_)
      obtain ⟨x2_4, ev⟩ : ∃ y : Int32, y = x2 + 1 := ⟨_, rfl⟩
      refine lv_iinc (v := x2_4) (lv' := [(2, .int x2_4), (1, .int x1_3), (0, .ref h)]) hx hb dX12_weight_24 hl (k := 2) rfl (by rw [ev]; rfl) (by decide) rfl (fun ls hl => ?_)
      have hf := lt_n ev hf; clear ev
      refine lv_goto (tgt := 4) hx hb dX12_weight_27 (by decide) ?_
      exact hrec _ _ _ _ _ hf  w (lv_sub hl [2, 1, 0] rfl)
noncomputable def F_X12_weight (N : Nat)  (g : Nat → Int32)  : Option (Int32) :=
  L_X12_weight_4 N (fun x1 => some (x1)) g N 0 0
set_option maxHeartbeats 4000000 in
set_option maxRecDepth 100000 in
theorem d_X12_weight (E : mE) (l : Launch) (N : Nat) (h : Nat) (a_g : Nat) (a_kept : Nat) (a_tape : Nat) (a_written : Nat) (a_asked : Nat) (a_there : Nat) (a_counts : Nat) (a_lasts : Nat) (a_cames : Nat)  (g : Nat → Int32) (kept : Nat → Int32) (isKept : Int32) (tape : Nat → Int32) (taped : Int32) (spot : Int32) (written : Nat → Int32) (writtenMany : Int32) (asked : Nat → Int32) (askedMany : Int32) (there : Nat → Int32) (counts : Nat → Int32) (lasts : Nat → Int32) (cames : Nat → Int32)    (o : Int32) (hf : F_X12_weight N g = some o) : MX E l yX12_weight cX12_weight 3 (some .int) ({ frames := 1, cells := 0, slots := 0, locals := 22 } : Room) [.ref h] [(h, .inr (11, [.ref a_g, .ref a_kept, .int isKept, .ref a_tape, .int taped, .int spot, .ref a_written, .int writtenMany, .ref a_asked, .int askedMany, .ref a_there, .ref a_counts, .ref a_lasts, .ref a_cames])), (a_g, .inl (E.2.1, 8787, .inl g)), (a_kept, .inl (E.2.1, 8787, .inl kept)), (a_tape, .inl (E.2.2.1, 60, .inl tape)), (a_written, .inl (E.2.1, 40, .inl written)), (a_asked, .inl (E.2.1, 60, .inl asked)), (a_there, .inl (E.2.1, 12, .inl there)), (a_counts, .inl (E.2.1, 12, .inl counts)), (a_lasts, .inl (E.2.1, 12, .inl lasts)), (a_cames, .inl (E.2.1, 12, .inl cames))] (po_X12_weight E h a_g a_kept a_tape a_written a_asked a_there a_counts a_lasts a_cames g kept isKept tape taped spot written writtenMany asked askedMany there counts lasts cames o) := by
  refine mx_intro (by decide +kernel) (Nat.le_of_ble_eq_true rfl) ?_
  intro p e s m args below meth c A Q ls B w hl
  obtain ⟨hx, hb, hml, hown, hts⟩ := id B.1
  unfold F_X12_weight at hf
  have hl : lv_has ls 3 [(0, .ref h)] := hl
  refine lv_iconst (v := 0) hx hb dX12_weight_0 (by decide) ?_
  refine lv_istore_n (lv' := [(1, .int 0), (0, .ref h)]) hx hb dX12_weight_1 rfl hl (by decide) rfl (fun ls hl => ?_)
  refine lv_iconst (v := 0) hx hb dX12_weight_2 (by decide) ?_
  refine lv_istore_n (lv' := [(2, .int 0), (1, .int 0), (0, .ref h)]) hx hb dX12_weight_3 rfl hl (by decide) rfl (fun ls hl => ?_)
  refine l_X12_weight_4 B _  ?_ N _ _ _ _ _ hf  w (lv_sub hl [2, 1, 0] rfl)
  · intro x1 H locs ls hf w hl
    refine lv_iload_n hx hb dX12_weight_30 rfl (lv_at hl 0 rfl) ?_
    cases hf
    exact mx_iret B w ⟨rfl, rfl⟩ dX12_weight_31
-- X12_isOver
def po_X12_isOver (E : mE) (h : Nat) (a_g : Nat) (a_kept : Nat) (a_tape : Nat) (a_written : Nat) (a_asked : Nat) (a_there : Nat) (a_counts : Nat) (a_lasts : Nat) (a_cames : Nat)  (g : Nat → Int32) (kept : Nat → Int32) (isKept : Int32) (tape : Nat → Int32) (taped : Int32) (spot : Int32) (written : Nat → Int32) (writtenMany : Int32) (asked : Nat → Int32) (askedMany : Int32) (there : Nat → Int32) (counts : Nat → Int32) (lasts : Nat → Int32) (cames : Nat → Int32)  (o : Int32) : Option Value → va_W → Prop := (fun (v : Option Value) (w' : va_W) => v = some (.int o) ∧ w' = [(h, .inr (11, [.ref a_g, .ref a_kept, .int isKept, .ref a_tape, .int taped, .int spot, .ref a_written, .int writtenMany, .ref a_asked, .int askedMany, .ref a_there, .ref a_counts, .ref a_lasts, .ref a_cames])), (a_g, .inl (E.2.1, 8787, .inl g)), (a_kept, .inl (E.2.1, 8787, .inl kept)), (a_tape, .inl (E.2.2.1, 60, .inl tape)), (a_written, .inl (E.2.1, 40, .inl written)), (a_asked, .inl (E.2.1, 60, .inl asked)), (a_there, .inl (E.2.1, 12, .inl there)), (a_counts, .inl (E.2.1, 12, .inl counts)), (a_lasts, .inl (E.2.1, 12, .inl lasts)), (a_cames, .inl (E.2.1, 12, .inl cames))])
noncomputable def F_X12_isOver  (g : Nat → Int32) (x1 : Int32) : Option (Int32) :=
  ld g 8787 2 (fun v_1 =>
  if (v_1 = 0 : Prop) then
  some (0)
  else
  ld g 8787 8 (fun v_2 =>
  ld g 8787 2 (fun v_3 =>
  if (v_2 < (x1 + v_3) : Prop) then
  some (0)
  else
  some (1))))
set_option maxHeartbeats 4000000 in
set_option maxRecDepth 100000 in
theorem d_X12_isOver (E : mE) (l : Launch) (h : Nat) (a_g : Nat) (a_kept : Nat) (a_tape : Nat) (a_written : Nat) (a_asked : Nat) (a_there : Nat) (a_counts : Nat) (a_lasts : Nat) (a_cames : Nat)  (g : Nat → Int32) (kept : Nat → Int32) (isKept : Int32) (tape : Nat → Int32) (taped : Int32) (spot : Int32) (written : Nat → Int32) (writtenMany : Int32) (asked : Nat → Int32) (askedMany : Int32) (there : Nat → Int32) (counts : Nat → Int32) (lasts : Nat → Int32) (cames : Nat → Int32)  (x1 : Int32)  (o : Int32) (hf : F_X12_isOver g x1 = some o) : MX E l yX12_isOver cX12_isOver 2 (some .boolean) ({ frames := 0, cells := 0, slots := 0, locals := 0 } : Room) [.ref h, .int x1] [(h, .inr (11, [.ref a_g, .ref a_kept, .int isKept, .ref a_tape, .int taped, .int spot, .ref a_written, .int writtenMany, .ref a_asked, .int askedMany, .ref a_there, .ref a_counts, .ref a_lasts, .ref a_cames])), (a_g, .inl (E.2.1, 8787, .inl g)), (a_kept, .inl (E.2.1, 8787, .inl kept)), (a_tape, .inl (E.2.2.1, 60, .inl tape)), (a_written, .inl (E.2.1, 40, .inl written)), (a_asked, .inl (E.2.1, 60, .inl asked)), (a_there, .inl (E.2.1, 12, .inl there)), (a_counts, .inl (E.2.1, 12, .inl counts)), (a_lasts, .inl (E.2.1, 12, .inl lasts)), (a_cames, .inl (E.2.1, 12, .inl cames))] (po_X12_isOver E h a_g a_kept a_tape a_written a_asked a_there a_counts a_lasts a_cames g kept isKept tape taped spot written writtenMany asked askedMany there counts lasts cames o) := by
  refine mx_intro (by decide +kernel) (Nat.le_of_ble_eq_true rfl) ?_
  intro p e s m args below meth c A Q ls B w hl
  obtain ⟨hx, hb, hml, hown, hts⟩ := id B.1
  unfold F_X12_isOver at hf
  have hl : lv_has ls 2 [(0, .ref h), (1, .int x1)] := hl
  refine lv_aload_n hx hb dX12_isOver_0 rfl (lv_at hl 0 rfl) ?_
  refine mx_get B w 0 fl_X12_9 rfl rfl dX12_isOver_1 ?_
  refine lv_iconst (v := 2) hx hb dX12_isOver_4 (by decide) ?_
  obtain ⟨hin, hf⟩ := ld_e hf
  refine mx_iald B w 1 rfl hin dX12_isOver_5 (fun v_1 ev => ?_)
  have hf := hf _ ev; clear ev
  refine lv_if_eq (tgt := 31) hx hb dX12_isOver_6 (by decide) (fun hc => ?_) (fun hc => ?_)
  · have hf := it_t hc hf
    refine lv_iconst (v := 0) hx hb dX12_isOver_31 (by decide) ?_
    cases hf
    exact mx_zret B w rfl ⟨rfl, rfl⟩ dX12_isOver_32
  · have hf := it_f hc hf
    refine lv_aload_n hx hb dX12_isOver_9 rfl (lv_at hl 0 rfl) ?_
    refine mx_get B w 0 fl_X12_9 rfl rfl dX12_isOver_10 ?_
    refine lv_bipush (v := 8) hx hb dX12_isOver_13 (by decide) ?_
    obtain ⟨hin, hf⟩ := ld_e hf
    refine mx_iald B w 1 rfl hin dX12_isOver_15 (fun v_2 ev => ?_)
    have hf := hf _ ev; clear ev
    refine lv_iload_n hx hb dX12_isOver_16 rfl (lv_at hl 1 rfl) ?_
    refine lv_aload_n hx hb dX12_isOver_17 rfl (lv_at hl 0 rfl) ?_
    refine mx_get B w 0 fl_X12_9 rfl rfl dX12_isOver_18 ?_
    refine lv_iconst (v := 2) hx hb dX12_isOver_21 (by decide) ?_
    obtain ⟨hin, hf⟩ := ld_e hf
    refine mx_iald B w 1 rfl hin dX12_isOver_22 (fun v_3 ev => ?_)
    have hf := hf _ ev; clear ev
    refine lv_iadd hx hb dX12_isOver_23 ?_
    refine lv_icmp_lt (tgt := 31) hx hb dX12_isOver_24 (by decide) (fun hc => ?_) (fun hc => ?_)
    · have hf := it_t hc hf
      refine lv_iconst (v := 0) hx hb dX12_isOver_31 (by decide) ?_
      cases hf
      exact mx_zret B w rfl ⟨rfl, rfl⟩ dX12_isOver_32
    · have hf := it_f hc hf
      refine lv_iconst (v := 1) hx hb dX12_isOver_27 (by decide) ?_
      refine lv_goto (tgt := 32) hx hb dX12_isOver_28 (by decide) ?_
      cases hf
      exact mx_zret B w rfl ⟨rfl, rfl⟩ dX12_isOver_32
-- X12_isStale
def po_X12_isStale (E : mE) (h : Nat) (a_g : Nat) (a_kept : Nat) (a_tape : Nat) (a_written : Nat) (a_asked : Nat) (a_there : Nat) (a_counts : Nat) (a_lasts : Nat) (a_cames : Nat)  (g : Nat → Int32) (kept : Nat → Int32) (isKept : Int32) (tape : Nat → Int32) (taped : Int32) (spot : Int32) (written : Nat → Int32) (writtenMany : Int32) (asked : Nat → Int32) (askedMany : Int32) (there : Nat → Int32) (counts : Nat → Int32) (lasts : Nat → Int32) (cames : Nat → Int32)  (o : Int32) : Option Value → va_W → Prop := (fun (v : Option Value) (w' : va_W) => v = some (.int o) ∧ w' = [(h, .inr (11, [.ref a_g, .ref a_kept, .int isKept, .ref a_tape, .int taped, .int spot, .ref a_written, .int writtenMany, .ref a_asked, .int askedMany, .ref a_there, .ref a_counts, .ref a_lasts, .ref a_cames])), (a_g, .inl (E.2.1, 8787, .inl g)), (a_kept, .inl (E.2.1, 8787, .inl kept)), (a_tape, .inl (E.2.2.1, 60, .inl tape)), (a_written, .inl (E.2.1, 40, .inl written)), (a_asked, .inl (E.2.1, 60, .inl asked)), (a_there, .inl (E.2.1, 12, .inl there)), (a_counts, .inl (E.2.1, 12, .inl counts)), (a_lasts, .inl (E.2.1, 12, .inl lasts)), (a_cames, .inl (E.2.1, 12, .inl cames))])
noncomputable def F_X12_isStale  (g : Nat → Int32) (x1 : Int32) : Option (Int32) :=
  bd (F_X12_at g x1 4) (fun o_1 =>
  bd (F_X12_isOver g o_1) (fun o_2 =>
  ck (o_2 = 0 ∨ o_2 = 1) (some (o_2))))
set_option maxHeartbeats 4000000 in
set_option maxRecDepth 100000 in
theorem d_X12_isStale (E : mE) (l : Launch) (h : Nat) (a_g : Nat) (a_kept : Nat) (a_tape : Nat) (a_written : Nat) (a_asked : Nat) (a_there : Nat) (a_counts : Nat) (a_lasts : Nat) (a_cames : Nat)  (g : Nat → Int32) (kept : Nat → Int32) (isKept : Int32) (tape : Nat → Int32) (taped : Int32) (spot : Int32) (written : Nat → Int32) (writtenMany : Int32) (asked : Nat → Int32) (askedMany : Int32) (there : Nat → Int32) (counts : Nat → Int32) (lasts : Nat → Int32) (cames : Nat → Int32)  (x1 : Int32)  (o : Int32) (hf : F_X12_isStale g x1 = some o) : MX E l yX12_isStale cX12_isStale 2 (some .boolean) ({ frames := 1, cells := 0, slots := 0, locals := 22 } : Room) [.ref h, .int x1] [(h, .inr (11, [.ref a_g, .ref a_kept, .int isKept, .ref a_tape, .int taped, .int spot, .ref a_written, .int writtenMany, .ref a_asked, .int askedMany, .ref a_there, .ref a_counts, .ref a_lasts, .ref a_cames])), (a_g, .inl (E.2.1, 8787, .inl g)), (a_kept, .inl (E.2.1, 8787, .inl kept)), (a_tape, .inl (E.2.2.1, 60, .inl tape)), (a_written, .inl (E.2.1, 40, .inl written)), (a_asked, .inl (E.2.1, 60, .inl asked)), (a_there, .inl (E.2.1, 12, .inl there)), (a_counts, .inl (E.2.1, 12, .inl counts)), (a_lasts, .inl (E.2.1, 12, .inl lasts)), (a_cames, .inl (E.2.1, 12, .inl cames))] (po_X12_isStale E h a_g a_kept a_tape a_written a_asked a_there a_counts a_lasts a_cames g kept isKept tape taped spot written writtenMany asked askedMany there counts lasts cames o) := by
  refine mx_intro (by decide +kernel) (Nat.le_of_ble_eq_true rfl) ?_
  intro p e s m args below meth c A Q ls B w hl
  obtain ⟨hx, hb, hml, hown, hts⟩ := id B.1
  unfold F_X12_isStale at hf
  have hl : lv_has ls 2 [(0, .ref h), (1, .int x1)] := hl
  refine lv_aload_n hx hb dX12_isStale_0 rfl (lv_at hl 0 rfl) ?_
  refine lv_aload_n hx hb dX12_isStale_1 rfl (lv_at hl 0 rfl) ?_
  refine lv_iload_n hx hb dX12_isStale_2 rfl (lv_at hl 1 rfl) ?_
  refine lv_iconst (v := 4) hx hb dX12_isStale_3 (by decide) ?_
  obtain ⟨o_1, hq, hf⟩ := bd_e hf
  refine mx_callV (As := [.int x1, .int 4]) (rest := [.ref h]) (wr := []) (d_X12_at E l  h a_g a_kept a_tape a_written a_asked a_there a_counts a_lasts a_cames g kept isKept tape taped spot written writtenMany asked askedMany there counts lasts cames x1 4  o_1 hq) B w [0, 1, 2, 3, 4, 5, 6, 7, 8, 9] [] rfl rfl (by decide) (by decide) (by decide) 0 rfl rfl cv_X12_at kw_1325 2 (by decide +kernel) ⟨Nat.le_of_ble_eq_true rfl, Nat.le_of_ble_eq_true rfl⟩ rfl hl.1 rfl (Nat.le_of_ble_eq_true rfl) dX12_isStale_4 rfl rfl ⟨Nat.zero_le _, Nat.zero_le _⟩ (fun v w' H locs hpo w => ?_)
  clear hq
  obtain ⟨rfl, rfl⟩ := hpo
  have w : mW E A s [(h, .inr (11, [.ref a_g, .ref a_kept, .int isKept, .ref a_tape, .int taped, .int spot, .ref a_written, .int writtenMany, .ref a_asked, .int askedMany, .ref a_there, .ref a_counts, .ref a_lasts, .ref a_cames])), (a_g, .inl (E.2.1, 8787, .inl g)), (a_kept, .inl (E.2.1, 8787, .inl kept)), (a_tape, .inl (E.2.2.1, 60, .inl tape)), (a_written, .inl (E.2.1, 40, .inl written)), (a_asked, .inl (E.2.1, 60, .inl asked)), (a_there, .inl (E.2.1, 12, .inl there)), (a_counts, .inl (E.2.1, 12, .inl counts)), (a_lasts, .inl (E.2.1, 12, .inl lasts)), (a_cames, .inl (E.2.1, 12, .inl cames))] H locs := w
  obtain ⟨o_2, hq, hf⟩ := bd_e hf
  refine mx_callV (As := [.int o_1]) (rest := []) (wr := []) (d_X12_isOver E l  h a_g a_kept a_tape a_written a_asked a_there a_counts a_lasts a_cames g kept isKept tape taped spot written writtenMany asked askedMany there counts lasts cames o_1  o_2 hq) B w [0, 1, 2, 3, 4, 5, 6, 7, 8, 9] [] rfl rfl (by decide) (by decide) (by decide) 0 rfl rfl cv_X12_isOver kw_1341 1 (by decide +kernel) ⟨Nat.le_of_ble_eq_true rfl, Nat.le_of_ble_eq_true rfl⟩ rfl hl.1 rfl (Nat.le_of_ble_eq_true rfl) dX12_isStale_7 rfl rfl ⟨Nat.zero_le _, Nat.zero_le _⟩ (fun v w' H locs hpo w => ?_)
  clear hq
  obtain ⟨rfl, rfl⟩ := hpo
  have w : mW E A s [(h, .inr (11, [.ref a_g, .ref a_kept, .int isKept, .ref a_tape, .int taped, .int spot, .ref a_written, .int writtenMany, .ref a_asked, .int askedMany, .ref a_there, .ref a_counts, .ref a_lasts, .ref a_cames])), (a_g, .inl (E.2.1, 8787, .inl g)), (a_kept, .inl (E.2.1, 8787, .inl kept)), (a_tape, .inl (E.2.2.1, 60, .inl tape)), (a_written, .inl (E.2.1, 40, .inl written)), (a_asked, .inl (E.2.1, 60, .inl asked)), (a_there, .inl (E.2.1, 12, .inl there)), (a_counts, .inl (E.2.1, 12, .inl counts)), (a_lasts, .inl (E.2.1, 12, .inl lasts)), (a_cames, .inl (E.2.1, 12, .inl cames))] H locs := w
  obtain ⟨hz, hf⟩ := ck_e hf
  cases hf
  exact mx_zret B w (nar_z hz) ⟨rfl, rfl⟩ dX12_isStale_10
-- X12_isSooner
def po_X12_isSooner (E : mE) (h : Nat) (a_g : Nat) (a_kept : Nat) (a_tape : Nat) (a_written : Nat) (a_asked : Nat) (a_there : Nat) (a_counts : Nat) (a_lasts : Nat) (a_cames : Nat)  (g : Nat → Int32) (kept : Nat → Int32) (isKept : Int32) (tape : Nat → Int32) (taped : Int32) (spot : Int32) (written : Nat → Int32) (writtenMany : Int32) (asked : Nat → Int32) (askedMany : Int32) (there : Nat → Int32) (counts : Nat → Int32) (lasts : Nat → Int32) (cames : Nat → Int32)  (o : Int32) : Option Value → va_W → Prop := (fun (v : Option Value) (w' : va_W) => v = some (.int o) ∧ w' = [(h, .inr (11, [.ref a_g, .ref a_kept, .int isKept, .ref a_tape, .int taped, .int spot, .ref a_written, .int writtenMany, .ref a_asked, .int askedMany, .ref a_there, .ref a_counts, .ref a_lasts, .ref a_cames])), (a_g, .inl (E.2.1, 8787, .inl g)), (a_kept, .inl (E.2.1, 8787, .inl kept)), (a_tape, .inl (E.2.2.1, 60, .inl tape)), (a_written, .inl (E.2.1, 40, .inl written)), (a_asked, .inl (E.2.1, 60, .inl asked)), (a_there, .inl (E.2.1, 12, .inl there)), (a_counts, .inl (E.2.1, 12, .inl counts)), (a_lasts, .inl (E.2.1, 12, .inl lasts)), (a_cames, .inl (E.2.1, 12, .inl cames))])
noncomputable def F_X12_isSooner  (g : Nat → Int32) (x1 : Int32) (x2 : Int32) : Option (Int32) :=
  bd (F_X12_isStale g x1) (fun o_1 =>
  bd (F_X12_isStale g x2) (fun o_2 =>
  if (o_1 = o_2 : Prop) then
  bd (F_X12_at g x1 5) (fun o_3 =>
  bd (F_X12_at g x2 5) (fun o_4 =>
  if (o_3 = o_4 : Prop) then
  bd (F_X12_at g x1 6) (fun o_5 =>
  bd (F_X12_at g x2 6) (fun o_6 =>
  if (o_5 = o_6 : Prop) then
  bd (F_X12_at g x1 7) (fun o_7 =>
  bd (F_X12_at g x2 7) (fun o_8 =>
  if (o_8 ≤ o_7 : Prop) then
  some (0)
  else
  some (1)))
  else
  bd (F_X12_at g x1 6) (fun o_9 =>
  bd (F_X12_at g x2 6) (fun o_10 =>
  if (o_10 ≤ o_9 : Prop) then
  some (0)
  else
  some (1)))))
  else
  bd (F_X12_at g x1 5) (fun o_11 =>
  bd (F_X12_at g x2 5) (fun o_12 =>
  if (o_12 ≤ o_11 : Prop) then
  some (0)
  else
  some (1)))))
  else
  bd (F_X12_isStale g x1) (fun o_13 =>
  ck (o_13 = 0 ∨ o_13 = 1) (some (o_13)))))
set_option maxHeartbeats 4000000 in
set_option maxRecDepth 100000 in
theorem d_X12_isSooner (E : mE) (l : Launch) (h : Nat) (a_g : Nat) (a_kept : Nat) (a_tape : Nat) (a_written : Nat) (a_asked : Nat) (a_there : Nat) (a_counts : Nat) (a_lasts : Nat) (a_cames : Nat)  (g : Nat → Int32) (kept : Nat → Int32) (isKept : Int32) (tape : Nat → Int32) (taped : Int32) (spot : Int32) (written : Nat → Int32) (writtenMany : Int32) (asked : Nat → Int32) (askedMany : Int32) (there : Nat → Int32) (counts : Nat → Int32) (lasts : Nat → Int32) (cames : Nat → Int32)  (x1 : Int32) (x2 : Int32)  (o : Int32) (hf : F_X12_isSooner g x1 x2 = some o) : MX E l yX12_isSooner cX12_isSooner 3 (some .boolean) ({ frames := 2, cells := 0, slots := 0, locals := 43 } : Room) [.ref h, .int x1, .int x2] [(h, .inr (11, [.ref a_g, .ref a_kept, .int isKept, .ref a_tape, .int taped, .int spot, .ref a_written, .int writtenMany, .ref a_asked, .int askedMany, .ref a_there, .ref a_counts, .ref a_lasts, .ref a_cames])), (a_g, .inl (E.2.1, 8787, .inl g)), (a_kept, .inl (E.2.1, 8787, .inl kept)), (a_tape, .inl (E.2.2.1, 60, .inl tape)), (a_written, .inl (E.2.1, 40, .inl written)), (a_asked, .inl (E.2.1, 60, .inl asked)), (a_there, .inl (E.2.1, 12, .inl there)), (a_counts, .inl (E.2.1, 12, .inl counts)), (a_lasts, .inl (E.2.1, 12, .inl lasts)), (a_cames, .inl (E.2.1, 12, .inl cames))] (po_X12_isSooner E h a_g a_kept a_tape a_written a_asked a_there a_counts a_lasts a_cames g kept isKept tape taped spot written writtenMany asked askedMany there counts lasts cames o) := by
  refine mx_intro (by decide +kernel) (Nat.le_of_ble_eq_true rfl) ?_
  intro p e s m args below meth c A Q ls B w hl
  obtain ⟨hx, hb, hml, hown, hts⟩ := id B.1
  unfold F_X12_isSooner at hf
  have hl : lv_has ls 3 [(0, .ref h), (1, .int x1), (2, .int x2)] := hl
  refine lv_aload_n hx hb dX12_isSooner_0 rfl (lv_at hl 0 rfl) ?_
  refine lv_iload_n hx hb dX12_isSooner_1 rfl (lv_at hl 1 rfl) ?_
  obtain ⟨o_1, hq, hf⟩ := bd_e hf
  refine mx_callV (As := [.int x1]) (rest := []) (wr := []) (d_X12_isStale E l  h a_g a_kept a_tape a_written a_asked a_there a_counts a_lasts a_cames g kept isKept tape taped spot written writtenMany asked askedMany there counts lasts cames x1  o_1 hq) B w [0, 1, 2, 3, 4, 5, 6, 7, 8, 9] [] rfl rfl (by decide) (by decide) (by decide) 0 rfl rfl cv_X12_isStale kw_1337 1 (by decide +kernel) ⟨Nat.le_of_ble_eq_true rfl, Nat.le_of_ble_eq_true rfl⟩ rfl hl.1 rfl (Nat.le_of_ble_eq_true rfl) dX12_isSooner_2 rfl rfl ⟨Nat.zero_le _, Nat.zero_le _⟩ (fun v w' H locs hpo w => ?_)
  clear hq
  obtain ⟨rfl, rfl⟩ := hpo
  have w : mW E A s [(h, .inr (11, [.ref a_g, .ref a_kept, .int isKept, .ref a_tape, .int taped, .int spot, .ref a_written, .int writtenMany, .ref a_asked, .int askedMany, .ref a_there, .ref a_counts, .ref a_lasts, .ref a_cames])), (a_g, .inl (E.2.1, 8787, .inl g)), (a_kept, .inl (E.2.1, 8787, .inl kept)), (a_tape, .inl (E.2.2.1, 60, .inl tape)), (a_written, .inl (E.2.1, 40, .inl written)), (a_asked, .inl (E.2.1, 60, .inl asked)), (a_there, .inl (E.2.1, 12, .inl there)), (a_counts, .inl (E.2.1, 12, .inl counts)), (a_lasts, .inl (E.2.1, 12, .inl lasts)), (a_cames, .inl (E.2.1, 12, .inl cames))] H locs := w
  refine lv_aload_n hx hb dX12_isSooner_5 rfl (lv_at hl 0 rfl) ?_
  refine lv_iload_n hx hb dX12_isSooner_6 rfl (lv_at hl 2 rfl) ?_
  obtain ⟨o_2, hq, hf⟩ := bd_e hf
  refine mx_callV (As := [.int x2]) (rest := [.int o_1]) (wr := []) (d_X12_isStale E l  h a_g a_kept a_tape a_written a_asked a_there a_counts a_lasts a_cames g kept isKept tape taped spot written writtenMany asked askedMany there counts lasts cames x2  o_2 hq) B w [0, 1, 2, 3, 4, 5, 6, 7, 8, 9] [] rfl rfl (by decide) (by decide) (by decide) 0 rfl rfl cv_X12_isStale kw_1337 1 (by decide +kernel) ⟨Nat.le_of_ble_eq_true rfl, Nat.le_of_ble_eq_true rfl⟩ rfl hl.1 rfl (Nat.le_of_ble_eq_true rfl) dX12_isSooner_7 rfl rfl ⟨Nat.zero_le _, Nat.zero_le _⟩ (fun v w' H locs hpo w => ?_)
  clear hq
  obtain ⟨rfl, rfl⟩ := hpo
  have w : mW E A s [(h, .inr (11, [.ref a_g, .ref a_kept, .int isKept, .ref a_tape, .int taped, .int spot, .ref a_written, .int writtenMany, .ref a_asked, .int askedMany, .ref a_there, .ref a_counts, .ref a_lasts, .ref a_cames])), (a_g, .inl (E.2.1, 8787, .inl g)), (a_kept, .inl (E.2.1, 8787, .inl kept)), (a_tape, .inl (E.2.2.1, 60, .inl tape)), (a_written, .inl (E.2.1, 40, .inl written)), (a_asked, .inl (E.2.1, 60, .inl asked)), (a_there, .inl (E.2.1, 12, .inl there)), (a_counts, .inl (E.2.1, 12, .inl counts)), (a_lasts, .inl (E.2.1, 12, .inl lasts)), (a_cames, .inl (E.2.1, 12, .inl cames))] H locs := w
  refine lv_icmp_eq (tgt := 19) hx hb dX12_isSooner_10 (by decide) (fun hc => ?_) (fun hc => ?_)
  · have hf := it_t hc hf
    refine lv_aload_n hx hb dX12_isSooner_19 rfl (lv_at hl 0 rfl) ?_
    refine lv_iload_n hx hb dX12_isSooner_20 rfl (lv_at hl 1 rfl) ?_
    refine lv_iconst (v := 5) hx hb dX12_isSooner_21 (by decide) ?_
    obtain ⟨o_3, hq, hf⟩ := bd_e hf
    refine mx_callV (As := [.int x1, .int 5]) (rest := []) (wr := []) (d_X12_at E l  h a_g a_kept a_tape a_written a_asked a_there a_counts a_lasts a_cames g kept isKept tape taped spot written writtenMany asked askedMany there counts lasts cames x1 5  o_3 hq) B w [0, 1, 2, 3, 4, 5, 6, 7, 8, 9] [] rfl rfl (by decide) (by decide) (by decide) 0 rfl rfl cv_X12_at kw_1325 2 (by decide +kernel) ⟨Nat.le_of_ble_eq_true rfl, Nat.le_of_ble_eq_true rfl⟩ rfl hl.1 rfl (Nat.le_of_ble_eq_true rfl) dX12_isSooner_22 rfl rfl ⟨Nat.zero_le _, Nat.zero_le _⟩ (fun v w' H locs hpo w => ?_)
    clear hq
    obtain ⟨rfl, rfl⟩ := hpo
    have w : mW E A s [(h, .inr (11, [.ref a_g, .ref a_kept, .int isKept, .ref a_tape, .int taped, .int spot, .ref a_written, .int writtenMany, .ref a_asked, .int askedMany, .ref a_there, .ref a_counts, .ref a_lasts, .ref a_cames])), (a_g, .inl (E.2.1, 8787, .inl g)), (a_kept, .inl (E.2.1, 8787, .inl kept)), (a_tape, .inl (E.2.2.1, 60, .inl tape)), (a_written, .inl (E.2.1, 40, .inl written)), (a_asked, .inl (E.2.1, 60, .inl asked)), (a_there, .inl (E.2.1, 12, .inl there)), (a_counts, .inl (E.2.1, 12, .inl counts)), (a_lasts, .inl (E.2.1, 12, .inl lasts)), (a_cames, .inl (E.2.1, 12, .inl cames))] H locs := w
    refine lv_aload_n hx hb dX12_isSooner_25 rfl (lv_at hl 0 rfl) ?_
    refine lv_iload_n hx hb dX12_isSooner_26 rfl (lv_at hl 2 rfl) ?_
    refine lv_iconst (v := 5) hx hb dX12_isSooner_27 (by decide) ?_
    obtain ⟨o_4, hq, hf⟩ := bd_e hf
    refine mx_callV (As := [.int x2, .int 5]) (rest := [.int o_3]) (wr := []) (d_X12_at E l  h a_g a_kept a_tape a_written a_asked a_there a_counts a_lasts a_cames g kept isKept tape taped spot written writtenMany asked askedMany there counts lasts cames x2 5  o_4 hq) B w [0, 1, 2, 3, 4, 5, 6, 7, 8, 9] [] rfl rfl (by decide) (by decide) (by decide) 0 rfl rfl cv_X12_at kw_1325 2 (by decide +kernel) ⟨Nat.le_of_ble_eq_true rfl, Nat.le_of_ble_eq_true rfl⟩ rfl hl.1 rfl (Nat.le_of_ble_eq_true rfl) dX12_isSooner_28 rfl rfl ⟨Nat.zero_le _, Nat.zero_le _⟩ (fun v w' H locs hpo w => ?_)
    clear hq
    obtain ⟨rfl, rfl⟩ := hpo
    have w : mW E A s [(h, .inr (11, [.ref a_g, .ref a_kept, .int isKept, .ref a_tape, .int taped, .int spot, .ref a_written, .int writtenMany, .ref a_asked, .int askedMany, .ref a_there, .ref a_counts, .ref a_lasts, .ref a_cames])), (a_g, .inl (E.2.1, 8787, .inl g)), (a_kept, .inl (E.2.1, 8787, .inl kept)), (a_tape, .inl (E.2.2.1, 60, .inl tape)), (a_written, .inl (E.2.1, 40, .inl written)), (a_asked, .inl (E.2.1, 60, .inl asked)), (a_there, .inl (E.2.1, 12, .inl there)), (a_counts, .inl (E.2.1, 12, .inl counts)), (a_lasts, .inl (E.2.1, 12, .inl lasts)), (a_cames, .inl (E.2.1, 12, .inl cames))] H locs := w
    refine lv_icmp_eq (tgt := 55) hx hb dX12_isSooner_31 (by decide) (fun hc => ?_) (fun hc => ?_)
    · have hf := it_t hc hf
      refine lv_aload_n hx hb dX12_isSooner_55 rfl (lv_at hl 0 rfl) ?_
      refine lv_iload_n hx hb dX12_isSooner_56 rfl (lv_at hl 1 rfl) ?_
      refine lv_bipush (v := 6) hx hb dX12_isSooner_57 (by decide) ?_
      obtain ⟨o_5, hq, hf⟩ := bd_e hf
      refine mx_callV (As := [.int x1, .int 6]) (rest := []) (wr := []) (d_X12_at E l  h a_g a_kept a_tape a_written a_asked a_there a_counts a_lasts a_cames g kept isKept tape taped spot written writtenMany asked askedMany there counts lasts cames x1 6  o_5 hq) B w [0, 1, 2, 3, 4, 5, 6, 7, 8, 9] [] rfl rfl (by decide) (by decide) (by decide) 0 rfl rfl cv_X12_at kw_1325 2 (by decide +kernel) ⟨Nat.le_of_ble_eq_true rfl, Nat.le_of_ble_eq_true rfl⟩ rfl hl.1 rfl (Nat.le_of_ble_eq_true rfl) dX12_isSooner_59 rfl rfl ⟨Nat.zero_le _, Nat.zero_le _⟩ (fun v w' H locs hpo w => ?_)
      clear hq
      obtain ⟨rfl, rfl⟩ := hpo
      have w : mW E A s [(h, .inr (11, [.ref a_g, .ref a_kept, .int isKept, .ref a_tape, .int taped, .int spot, .ref a_written, .int writtenMany, .ref a_asked, .int askedMany, .ref a_there, .ref a_counts, .ref a_lasts, .ref a_cames])), (a_g, .inl (E.2.1, 8787, .inl g)), (a_kept, .inl (E.2.1, 8787, .inl kept)), (a_tape, .inl (E.2.2.1, 60, .inl tape)), (a_written, .inl (E.2.1, 40, .inl written)), (a_asked, .inl (E.2.1, 60, .inl asked)), (a_there, .inl (E.2.1, 12, .inl there)), (a_counts, .inl (E.2.1, 12, .inl counts)), (a_lasts, .inl (E.2.1, 12, .inl lasts)), (a_cames, .inl (E.2.1, 12, .inl cames))] H locs := w
      refine lv_aload_n hx hb dX12_isSooner_62 rfl (lv_at hl 0 rfl) ?_
      refine lv_iload_n hx hb dX12_isSooner_63 rfl (lv_at hl 2 rfl) ?_
      refine lv_bipush (v := 6) hx hb dX12_isSooner_64 (by decide) ?_
      obtain ⟨o_6, hq, hf⟩ := bd_e hf
      refine mx_callV (As := [.int x2, .int 6]) (rest := [.int o_5]) (wr := []) (d_X12_at E l  h a_g a_kept a_tape a_written a_asked a_there a_counts a_lasts a_cames g kept isKept tape taped spot written writtenMany asked askedMany there counts lasts cames x2 6  o_6 hq) B w [0, 1, 2, 3, 4, 5, 6, 7, 8, 9] [] rfl rfl (by decide) (by decide) (by decide) 0 rfl rfl cv_X12_at kw_1325 2 (by decide +kernel) ⟨Nat.le_of_ble_eq_true rfl, Nat.le_of_ble_eq_true rfl⟩ rfl hl.1 rfl (Nat.le_of_ble_eq_true rfl) dX12_isSooner_66 rfl rfl ⟨Nat.zero_le _, Nat.zero_le _⟩ (fun v w' H locs hpo w => ?_)
      clear hq
      obtain ⟨rfl, rfl⟩ := hpo
      have w : mW E A s [(h, .inr (11, [.ref a_g, .ref a_kept, .int isKept, .ref a_tape, .int taped, .int spot, .ref a_written, .int writtenMany, .ref a_asked, .int askedMany, .ref a_there, .ref a_counts, .ref a_lasts, .ref a_cames])), (a_g, .inl (E.2.1, 8787, .inl g)), (a_kept, .inl (E.2.1, 8787, .inl kept)), (a_tape, .inl (E.2.2.1, 60, .inl tape)), (a_written, .inl (E.2.1, 40, .inl written)), (a_asked, .inl (E.2.1, 60, .inl asked)), (a_there, .inl (E.2.1, 12, .inl there)), (a_counts, .inl (E.2.1, 12, .inl counts)), (a_lasts, .inl (E.2.1, 12, .inl lasts)), (a_cames, .inl (E.2.1, 12, .inl cames))] H locs := w
      refine lv_icmp_eq (tgt := 97) hx hb dX12_isSooner_69 (by decide) (fun hc => ?_) (fun hc => ?_)
      · have hf := it_t hc hf
        refine lv_aload_n hx hb dX12_isSooner_97 rfl (lv_at hl 0 rfl) ?_
        refine lv_iload_n hx hb dX12_isSooner_98 rfl (lv_at hl 1 rfl) ?_
        refine lv_bipush (v := 7) hx hb dX12_isSooner_99 (by decide) ?_
        obtain ⟨o_7, hq, hf⟩ := bd_e hf
        refine mx_callV (As := [.int x1, .int 7]) (rest := []) (wr := []) (d_X12_at E l  h a_g a_kept a_tape a_written a_asked a_there a_counts a_lasts a_cames g kept isKept tape taped spot written writtenMany asked askedMany there counts lasts cames x1 7  o_7 hq) B w [0, 1, 2, 3, 4, 5, 6, 7, 8, 9] [] rfl rfl (by decide) (by decide) (by decide) 0 rfl rfl cv_X12_at kw_1325 2 (by decide +kernel) ⟨Nat.le_of_ble_eq_true rfl, Nat.le_of_ble_eq_true rfl⟩ rfl hl.1 rfl (Nat.le_of_ble_eq_true rfl) dX12_isSooner_101 rfl rfl ⟨Nat.zero_le _, Nat.zero_le _⟩ (fun v w' H locs hpo w => ?_)
        clear hq
        obtain ⟨rfl, rfl⟩ := hpo
        have w : mW E A s [(h, .inr (11, [.ref a_g, .ref a_kept, .int isKept, .ref a_tape, .int taped, .int spot, .ref a_written, .int writtenMany, .ref a_asked, .int askedMany, .ref a_there, .ref a_counts, .ref a_lasts, .ref a_cames])), (a_g, .inl (E.2.1, 8787, .inl g)), (a_kept, .inl (E.2.1, 8787, .inl kept)), (a_tape, .inl (E.2.2.1, 60, .inl tape)), (a_written, .inl (E.2.1, 40, .inl written)), (a_asked, .inl (E.2.1, 60, .inl asked)), (a_there, .inl (E.2.1, 12, .inl there)), (a_counts, .inl (E.2.1, 12, .inl counts)), (a_lasts, .inl (E.2.1, 12, .inl lasts)), (a_cames, .inl (E.2.1, 12, .inl cames))] H locs := w
        refine lv_aload_n hx hb dX12_isSooner_104 rfl (lv_at hl 0 rfl) ?_
        refine lv_iload_n hx hb dX12_isSooner_105 rfl (lv_at hl 2 rfl) ?_
        refine lv_bipush (v := 7) hx hb dX12_isSooner_106 (by decide) ?_
        obtain ⟨o_8, hq, hf⟩ := bd_e hf
        refine mx_callV (As := [.int x2, .int 7]) (rest := [.int o_7]) (wr := []) (d_X12_at E l  h a_g a_kept a_tape a_written a_asked a_there a_counts a_lasts a_cames g kept isKept tape taped spot written writtenMany asked askedMany there counts lasts cames x2 7  o_8 hq) B w [0, 1, 2, 3, 4, 5, 6, 7, 8, 9] [] rfl rfl (by decide) (by decide) (by decide) 0 rfl rfl cv_X12_at kw_1325 2 (by decide +kernel) ⟨Nat.le_of_ble_eq_true rfl, Nat.le_of_ble_eq_true rfl⟩ rfl hl.1 rfl (Nat.le_of_ble_eq_true rfl) dX12_isSooner_108 rfl rfl ⟨Nat.zero_le _, Nat.zero_le _⟩ (fun v w' H locs hpo w => ?_)
        clear hq
        obtain ⟨rfl, rfl⟩ := hpo
        have w : mW E A s [(h, .inr (11, [.ref a_g, .ref a_kept, .int isKept, .ref a_tape, .int taped, .int spot, .ref a_written, .int writtenMany, .ref a_asked, .int askedMany, .ref a_there, .ref a_counts, .ref a_lasts, .ref a_cames])), (a_g, .inl (E.2.1, 8787, .inl g)), (a_kept, .inl (E.2.1, 8787, .inl kept)), (a_tape, .inl (E.2.2.1, 60, .inl tape)), (a_written, .inl (E.2.1, 40, .inl written)), (a_asked, .inl (E.2.1, 60, .inl asked)), (a_there, .inl (E.2.1, 12, .inl there)), (a_counts, .inl (E.2.1, 12, .inl counts)), (a_lasts, .inl (E.2.1, 12, .inl lasts)), (a_cames, .inl (E.2.1, 12, .inl cames))] H locs := w
        refine lv_icmp_ge (tgt := 118) hx hb dX12_isSooner_111 (by decide) (fun hc => ?_) (fun hc => ?_)
        · have hf := it_t hc hf
          refine lv_iconst (v := 0) hx hb dX12_isSooner_118 (by decide) ?_
          cases hf
          exact mx_zret B w rfl ⟨rfl, rfl⟩ dX12_isSooner_119
        · have hf := it_f hc hf
          refine lv_iconst (v := 1) hx hb dX12_isSooner_114 (by decide) ?_
          refine lv_goto (tgt := 119) hx hb dX12_isSooner_115 (by decide) ?_
          cases hf
          exact mx_zret B w rfl ⟨rfl, rfl⟩ dX12_isSooner_119
      · have hf := it_f hc hf
        refine lv_aload_n hx hb dX12_isSooner_72 rfl (lv_at hl 0 rfl) ?_
        refine lv_iload_n hx hb dX12_isSooner_73 rfl (lv_at hl 1 rfl) ?_
        refine lv_bipush (v := 6) hx hb dX12_isSooner_74 (by decide) ?_
        obtain ⟨o_9, hq, hf⟩ := bd_e hf
        refine mx_callV (As := [.int x1, .int 6]) (rest := []) (wr := []) (d_X12_at E l  h a_g a_kept a_tape a_written a_asked a_there a_counts a_lasts a_cames g kept isKept tape taped spot written writtenMany asked askedMany there counts lasts cames x1 6  o_9 hq) B w [0, 1, 2, 3, 4, 5, 6, 7, 8, 9] [] rfl rfl (by decide) (by decide) (by decide) 0 rfl rfl cv_X12_at kw_1325 2 (by decide +kernel) ⟨Nat.le_of_ble_eq_true rfl, Nat.le_of_ble_eq_true rfl⟩ rfl hl.1 rfl (Nat.le_of_ble_eq_true rfl) dX12_isSooner_76 rfl rfl ⟨Nat.zero_le _, Nat.zero_le _⟩ (fun v w' H locs hpo w => ?_)
        clear hq
        obtain ⟨rfl, rfl⟩ := hpo
        have w : mW E A s [(h, .inr (11, [.ref a_g, .ref a_kept, .int isKept, .ref a_tape, .int taped, .int spot, .ref a_written, .int writtenMany, .ref a_asked, .int askedMany, .ref a_there, .ref a_counts, .ref a_lasts, .ref a_cames])), (a_g, .inl (E.2.1, 8787, .inl g)), (a_kept, .inl (E.2.1, 8787, .inl kept)), (a_tape, .inl (E.2.2.1, 60, .inl tape)), (a_written, .inl (E.2.1, 40, .inl written)), (a_asked, .inl (E.2.1, 60, .inl asked)), (a_there, .inl (E.2.1, 12, .inl there)), (a_counts, .inl (E.2.1, 12, .inl counts)), (a_lasts, .inl (E.2.1, 12, .inl lasts)), (a_cames, .inl (E.2.1, 12, .inl cames))] H locs := w
        refine lv_aload_n hx hb dX12_isSooner_79 rfl (lv_at hl 0 rfl) ?_
        refine lv_iload_n hx hb dX12_isSooner_80 rfl (lv_at hl 2 rfl) ?_
        refine lv_bipush (v := 6) hx hb dX12_isSooner_81 (by decide) ?_
        obtain ⟨o_10, hq, hf⟩ := bd_e hf
        refine mx_callV (As := [.int x2, .int 6]) (rest := [.int o_9]) (wr := []) (d_X12_at E l  h a_g a_kept a_tape a_written a_asked a_there a_counts a_lasts a_cames g kept isKept tape taped spot written writtenMany asked askedMany there counts lasts cames x2 6  o_10 hq) B w [0, 1, 2, 3, 4, 5, 6, 7, 8, 9] [] rfl rfl (by decide) (by decide) (by decide) 0 rfl rfl cv_X12_at kw_1325 2 (by decide +kernel) ⟨Nat.le_of_ble_eq_true rfl, Nat.le_of_ble_eq_true rfl⟩ rfl hl.1 rfl (Nat.le_of_ble_eq_true rfl) dX12_isSooner_83 rfl rfl ⟨Nat.zero_le _, Nat.zero_le _⟩ (fun v w' H locs hpo w => ?_)
        clear hq
        obtain ⟨rfl, rfl⟩ := hpo
        have w : mW E A s [(h, .inr (11, [.ref a_g, .ref a_kept, .int isKept, .ref a_tape, .int taped, .int spot, .ref a_written, .int writtenMany, .ref a_asked, .int askedMany, .ref a_there, .ref a_counts, .ref a_lasts, .ref a_cames])), (a_g, .inl (E.2.1, 8787, .inl g)), (a_kept, .inl (E.2.1, 8787, .inl kept)), (a_tape, .inl (E.2.2.1, 60, .inl tape)), (a_written, .inl (E.2.1, 40, .inl written)), (a_asked, .inl (E.2.1, 60, .inl asked)), (a_there, .inl (E.2.1, 12, .inl there)), (a_counts, .inl (E.2.1, 12, .inl counts)), (a_lasts, .inl (E.2.1, 12, .inl lasts)), (a_cames, .inl (E.2.1, 12, .inl cames))] H locs := w
        refine lv_icmp_ge (tgt := 93) hx hb dX12_isSooner_86 (by decide) (fun hc => ?_) (fun hc => ?_)
        · have hf := it_t hc hf
          refine lv_iconst (v := 0) hx hb dX12_isSooner_93 (by decide) ?_
          refine lv_goto (tgt := 119) hx hb dX12_isSooner_94 (by decide) ?_
          cases hf
          exact mx_zret B w rfl ⟨rfl, rfl⟩ dX12_isSooner_119
        · have hf := it_f hc hf
          refine lv_iconst (v := 1) hx hb dX12_isSooner_89 (by decide) ?_
          refine lv_goto (tgt := 119) hx hb dX12_isSooner_90 (by decide) ?_
          cases hf
          exact mx_zret B w rfl ⟨rfl, rfl⟩ dX12_isSooner_119
    · have hf := it_f hc hf
      refine lv_aload_n hx hb dX12_isSooner_34 rfl (lv_at hl 0 rfl) ?_
      refine lv_iload_n hx hb dX12_isSooner_35 rfl (lv_at hl 1 rfl) ?_
      refine lv_iconst (v := 5) hx hb dX12_isSooner_36 (by decide) ?_
      obtain ⟨o_11, hq, hf⟩ := bd_e hf
      refine mx_callV (As := [.int x1, .int 5]) (rest := []) (wr := []) (d_X12_at E l  h a_g a_kept a_tape a_written a_asked a_there a_counts a_lasts a_cames g kept isKept tape taped spot written writtenMany asked askedMany there counts lasts cames x1 5  o_11 hq) B w [0, 1, 2, 3, 4, 5, 6, 7, 8, 9] [] rfl rfl (by decide) (by decide) (by decide) 0 rfl rfl cv_X12_at kw_1325 2 (by decide +kernel) ⟨Nat.le_of_ble_eq_true rfl, Nat.le_of_ble_eq_true rfl⟩ rfl hl.1 rfl (Nat.le_of_ble_eq_true rfl) dX12_isSooner_37 rfl rfl ⟨Nat.zero_le _, Nat.zero_le _⟩ (fun v w' H locs hpo w => ?_)
      clear hq
      obtain ⟨rfl, rfl⟩ := hpo
      have w : mW E A s [(h, .inr (11, [.ref a_g, .ref a_kept, .int isKept, .ref a_tape, .int taped, .int spot, .ref a_written, .int writtenMany, .ref a_asked, .int askedMany, .ref a_there, .ref a_counts, .ref a_lasts, .ref a_cames])), (a_g, .inl (E.2.1, 8787, .inl g)), (a_kept, .inl (E.2.1, 8787, .inl kept)), (a_tape, .inl (E.2.2.1, 60, .inl tape)), (a_written, .inl (E.2.1, 40, .inl written)), (a_asked, .inl (E.2.1, 60, .inl asked)), (a_there, .inl (E.2.1, 12, .inl there)), (a_counts, .inl (E.2.1, 12, .inl counts)), (a_lasts, .inl (E.2.1, 12, .inl lasts)), (a_cames, .inl (E.2.1, 12, .inl cames))] H locs := w
      refine lv_aload_n hx hb dX12_isSooner_40 rfl (lv_at hl 0 rfl) ?_
      refine lv_iload_n hx hb dX12_isSooner_41 rfl (lv_at hl 2 rfl) ?_
      refine lv_iconst (v := 5) hx hb dX12_isSooner_42 (by decide) ?_
      obtain ⟨o_12, hq, hf⟩ := bd_e hf
      refine mx_callV (As := [.int x2, .int 5]) (rest := [.int o_11]) (wr := []) (d_X12_at E l  h a_g a_kept a_tape a_written a_asked a_there a_counts a_lasts a_cames g kept isKept tape taped spot written writtenMany asked askedMany there counts lasts cames x2 5  o_12 hq) B w [0, 1, 2, 3, 4, 5, 6, 7, 8, 9] [] rfl rfl (by decide) (by decide) (by decide) 0 rfl rfl cv_X12_at kw_1325 2 (by decide +kernel) ⟨Nat.le_of_ble_eq_true rfl, Nat.le_of_ble_eq_true rfl⟩ rfl hl.1 rfl (Nat.le_of_ble_eq_true rfl) dX12_isSooner_43 rfl rfl ⟨Nat.zero_le _, Nat.zero_le _⟩ (fun v w' H locs hpo w => ?_)
      clear hq
      obtain ⟨rfl, rfl⟩ := hpo
      have w : mW E A s [(h, .inr (11, [.ref a_g, .ref a_kept, .int isKept, .ref a_tape, .int taped, .int spot, .ref a_written, .int writtenMany, .ref a_asked, .int askedMany, .ref a_there, .ref a_counts, .ref a_lasts, .ref a_cames])), (a_g, .inl (E.2.1, 8787, .inl g)), (a_kept, .inl (E.2.1, 8787, .inl kept)), (a_tape, .inl (E.2.2.1, 60, .inl tape)), (a_written, .inl (E.2.1, 40, .inl written)), (a_asked, .inl (E.2.1, 60, .inl asked)), (a_there, .inl (E.2.1, 12, .inl there)), (a_counts, .inl (E.2.1, 12, .inl counts)), (a_lasts, .inl (E.2.1, 12, .inl lasts)), (a_cames, .inl (E.2.1, 12, .inl cames))] H locs := w
      refine lv_icmp_ge (tgt := 53) hx hb dX12_isSooner_46 (by decide) (fun hc => ?_) (fun hc => ?_)
      · have hf := it_t hc hf
        refine lv_iconst (v := 0) hx hb dX12_isSooner_53 (by decide) ?_
        cases hf
        exact mx_zret B w rfl ⟨rfl, rfl⟩ dX12_isSooner_54
      · have hf := it_f hc hf
        refine lv_iconst (v := 1) hx hb dX12_isSooner_49 (by decide) ?_
        refine lv_goto (tgt := 54) hx hb dX12_isSooner_50 (by decide) ?_
        cases hf
        exact mx_zret B w rfl ⟨rfl, rfl⟩ dX12_isSooner_54
  · have hf := it_f hc hf
    refine lv_aload_n hx hb dX12_isSooner_13 rfl (lv_at hl 0 rfl) ?_
    refine lv_iload_n hx hb dX12_isSooner_14 rfl (lv_at hl 1 rfl) ?_
    obtain ⟨o_13, hq, hf⟩ := bd_e hf
    refine mx_callV (As := [.int x1]) (rest := []) (wr := []) (d_X12_isStale E l  h a_g a_kept a_tape a_written a_asked a_there a_counts a_lasts a_cames g kept isKept tape taped spot written writtenMany asked askedMany there counts lasts cames x1  o_13 hq) B w [0, 1, 2, 3, 4, 5, 6, 7, 8, 9] [] rfl rfl (by decide) (by decide) (by decide) 0 rfl rfl cv_X12_isStale kw_1337 1 (by decide +kernel) ⟨Nat.le_of_ble_eq_true rfl, Nat.le_of_ble_eq_true rfl⟩ rfl hl.1 rfl (Nat.le_of_ble_eq_true rfl) dX12_isSooner_15 rfl rfl ⟨Nat.zero_le _, Nat.zero_le _⟩ (fun v w' H locs hpo w => ?_)
    clear hq
    obtain ⟨rfl, rfl⟩ := hpo
    have w : mW E A s [(h, .inr (11, [.ref a_g, .ref a_kept, .int isKept, .ref a_tape, .int taped, .int spot, .ref a_written, .int writtenMany, .ref a_asked, .int askedMany, .ref a_there, .ref a_counts, .ref a_lasts, .ref a_cames])), (a_g, .inl (E.2.1, 8787, .inl g)), (a_kept, .inl (E.2.1, 8787, .inl kept)), (a_tape, .inl (E.2.2.1, 60, .inl tape)), (a_written, .inl (E.2.1, 40, .inl written)), (a_asked, .inl (E.2.1, 60, .inl asked)), (a_there, .inl (E.2.1, 12, .inl there)), (a_counts, .inl (E.2.1, 12, .inl counts)), (a_lasts, .inl (E.2.1, 12, .inl lasts)), (a_cames, .inl (E.2.1, 12, .inl cames))] H locs := w
    obtain ⟨hz, hf⟩ := ck_e hf
    cases hf
    exact mx_zret B w (nar_z hz) ⟨rfl, rfl⟩ dX12_isSooner_18
-- X12_firstToGo
def po_X12_firstToGo (E : mE) (h : Nat) (a_g : Nat) (a_kept : Nat) (a_tape : Nat) (a_written : Nat) (a_asked : Nat) (a_there : Nat) (a_counts : Nat) (a_lasts : Nat) (a_cames : Nat)  (g : Nat → Int32) (kept : Nat → Int32) (isKept : Int32) (tape : Nat → Int32) (taped : Int32) (spot : Int32) (written : Nat → Int32) (writtenMany : Int32) (asked : Nat → Int32) (askedMany : Int32) (there : Nat → Int32) (counts : Nat → Int32) (lasts : Nat → Int32) (cames : Nat → Int32)  (o : Int32) : Option Value → va_W → Prop := (fun (v : Option Value) (w' : va_W) => v = some (.int o) ∧ w' = [(h, .inr (11, [.ref a_g, .ref a_kept, .int isKept, .ref a_tape, .int taped, .int spot, .ref a_written, .int writtenMany, .ref a_asked, .int askedMany, .ref a_there, .ref a_counts, .ref a_lasts, .ref a_cames])), (a_g, .inl (E.2.1, 8787, .inl g)), (a_kept, .inl (E.2.1, 8787, .inl kept)), (a_tape, .inl (E.2.2.1, 60, .inl tape)), (a_written, .inl (E.2.1, 40, .inl written)), (a_asked, .inl (E.2.1, 60, .inl asked)), (a_there, .inl (E.2.1, 12, .inl there)), (a_counts, .inl (E.2.1, 12, .inl counts)), (a_lasts, .inl (E.2.1, 12, .inl lasts)), (a_cames, .inl (E.2.1, 12, .inl cames))])
noncomputable def J_X12_firstToGo_40 (N : Nat)  (rec : Int32 → Int32 → Option (Int32)) (k46 : Int32 → Option (Int32)) (x1 : Int32) (x2 : Int32) (x3 : Int32) (g : Nat → Int32) : Option (Int32) :=
  lt (x3 + 1) (fun x3_3 =>
  rec x2 x3_3)
set_option maxHeartbeats 4000000 in
set_option maxRecDepth 100000 in
theorem j_X12_firstToGo_40 {E : mE} {l : Launch} {p : Program} {e : Env} {s : State} {m : MethodId} {args : Array Value} {below : List Frame} {meth : Method} {c : Code} {A : Nat → Prop} {Q : State → Prop} {N : Nat} {h : Nat} {a_g : Nat} {a_kept : Nat} {a_tape : Nat} {a_written : Nat} {a_asked : Nat} {a_there : Nat} {a_counts : Nat} {a_lasts : Nat} {a_cames : Nat}  {g : Nat → Int32} {kept : Nat → Int32} {isKept : Int32} {tape : Nat → Int32} {taped : Int32} {spot : Int32} {written : Nat → Int32} {writtenMany : Int32} {asked : Nat → Int32} {askedMany : Int32} {there : Nat → Int32} {counts : Nat → Int32} {lasts : Nat → Int32} {cames : Nat → Int32}  {o : Int32} (B : mB E yX12_firstToGo cX12_firstToGo 4 (some .int) 0 0 (po_X12_firstToGo E h a_g a_kept a_tape a_written a_asked a_there a_counts a_lasts a_cames g kept isKept tape taped spot written writtenMany asked askedMany there counts lasts cames o) p s m args below meth c A Q) {x1 : Int32} {x2 : Int32} {x3 : Int32}   (rec : Int32 → Int32 → Option (Int32)) (k46 : Int32 → Option (Int32)) (hrec : ∀ (x2 : Int32) (x3 : Int32)   (H : Heap) (locs : List Loc) (ls : Array Slot), rec x2 x3 = some o → mW E A s [(h, .inr (11, [.ref a_g, .ref a_kept, .int isKept, .ref a_tape, .int taped, .int spot, .ref a_written, .int writtenMany, .ref a_asked, .int askedMany, .ref a_there, .ref a_counts, .ref a_lasts, .ref a_cames])), (a_g, .inl (E.2.1, 8787, .inl g)), (a_kept, .inl (E.2.1, 8787, .inl kept)), (a_tape, .inl (E.2.2.1, 60, .inl tape)), (a_written, .inl (E.2.1, 40, .inl written)), (a_asked, .inl (E.2.1, 60, .inl asked)), (a_there, .inl (E.2.1, 12, .inl there)), (a_counts, .inl (E.2.1, 12, .inl counts)), (a_lasts, .inl (E.2.1, 12, .inl lasts)), (a_cames, .inl (E.2.1, 12, .inl cames))] H locs → lv_has ls 4 [(0, .ref h), (1, .int x1), (2, .int x2), (3, .int x3)] → W p l e ({ frames := 3, cells := 0, slots := 0, locals := 65 } : Room) s m args below meth c H locs 0 0 Q (F0 m 4 ls [])) (hk46 : ∀ (x2 : Int32)   (H : Heap) (locs : List Loc) (ls : Array Slot), k46 x2 = some o → mW E A s [(h, .inr (11, [.ref a_g, .ref a_kept, .int isKept, .ref a_tape, .int taped, .int spot, .ref a_written, .int writtenMany, .ref a_asked, .int askedMany, .ref a_there, .ref a_counts, .ref a_lasts, .ref a_cames])), (a_g, .inl (E.2.1, 8787, .inl g)), (a_kept, .inl (E.2.1, 8787, .inl kept)), (a_tape, .inl (E.2.2.1, 60, .inl tape)), (a_written, .inl (E.2.1, 40, .inl written)), (a_asked, .inl (E.2.1, 60, .inl asked)), (a_there, .inl (E.2.1, 12, .inl there)), (a_counts, .inl (E.2.1, 12, .inl counts)), (a_lasts, .inl (E.2.1, 12, .inl lasts)), (a_cames, .inl (E.2.1, 12, .inl cames))] H locs → lv_has ls 4 [(2, .int x2)] → W p l e ({ frames := 3, cells := 0, slots := 0, locals := 65 } : Room) s m args below meth c H locs 0 0 Q (F0 m 46 ls [])) {H : Heap} {locs : List Loc} {ls : Array Slot} (hf : J_X12_firstToGo_40 N rec k46 x1 x2 x3 g = some o)  (w : mW E A s [(h, .inr (11, [.ref a_g, .ref a_kept, .int isKept, .ref a_tape, .int taped, .int spot, .ref a_written, .int writtenMany, .ref a_asked, .int askedMany, .ref a_there, .ref a_counts, .ref a_lasts, .ref a_cames])), (a_g, .inl (E.2.1, 8787, .inl g)), (a_kept, .inl (E.2.1, 8787, .inl kept)), (a_tape, .inl (E.2.2.1, 60, .inl tape)), (a_written, .inl (E.2.1, 40, .inl written)), (a_asked, .inl (E.2.1, 60, .inl asked)), (a_there, .inl (E.2.1, 12, .inl there)), (a_counts, .inl (E.2.1, 12, .inl counts)), (a_lasts, .inl (E.2.1, 12, .inl lasts)), (a_cames, .inl (E.2.1, 12, .inl cames))] H locs) (hl : lv_has ls 4 [(0, .ref h), (1, .int x1), (2, .int x2), (3, .int x3)]) : W p l e ({ frames := 3, cells := 0, slots := 0, locals := 65 } : Room) s m args below meth c H locs 0 0 Q (F0 m 40 ls []) := by
  obtain ⟨hx, hb, hml, hown, hts⟩ := id B.1
  unfold J_X12_firstToGo_40 at hf
  obtain ⟨x3_3, ev⟩ : ∃ y : Int32, y = x3 + 1 := ⟨_, rfl⟩
  refine lv_iinc (v := x3_3) (lv' := [(3, .int x3_3), (0, .ref h), (1, .int x1), (2, .int x2)]) hx hb dX12_firstToGo_40 hl (k := 3) rfl (by rw [ev]; rfl) (by decide) rfl (fun ls hl => ?_)
  have hf := lt_n ev hf; clear ev
  refine lv_goto (tgt := 4) hx hb dX12_firstToGo_43 (by decide) ?_
  exact hrec _ _ _ _ _ hf  w (lv_sub hl [1, 2, 3, 0] rfl)
noncomputable def J_X12_firstToGo_38 (N : Nat)  (rec : Int32 → Int32 → Option (Int32)) (k46 : Int32 → Option (Int32)) (x1 : Int32) (x3 : Int32) (g : Nat → Int32) : Option (Int32) :=
  J_X12_firstToGo_40 N rec k46 x1 x3 x3 g
set_option maxHeartbeats 4000000 in
set_option maxRecDepth 100000 in
theorem j_X12_firstToGo_38 {E : mE} {l : Launch} {p : Program} {e : Env} {s : State} {m : MethodId} {args : Array Value} {below : List Frame} {meth : Method} {c : Code} {A : Nat → Prop} {Q : State → Prop} {N : Nat} {h : Nat} {a_g : Nat} {a_kept : Nat} {a_tape : Nat} {a_written : Nat} {a_asked : Nat} {a_there : Nat} {a_counts : Nat} {a_lasts : Nat} {a_cames : Nat}  {g : Nat → Int32} {kept : Nat → Int32} {isKept : Int32} {tape : Nat → Int32} {taped : Int32} {spot : Int32} {written : Nat → Int32} {writtenMany : Int32} {asked : Nat → Int32} {askedMany : Int32} {there : Nat → Int32} {counts : Nat → Int32} {lasts : Nat → Int32} {cames : Nat → Int32}  {o : Int32} (B : mB E yX12_firstToGo cX12_firstToGo 4 (some .int) 0 0 (po_X12_firstToGo E h a_g a_kept a_tape a_written a_asked a_there a_counts a_lasts a_cames g kept isKept tape taped spot written writtenMany asked askedMany there counts lasts cames o) p s m args below meth c A Q) {x1 : Int32} {x3 : Int32}   (rec : Int32 → Int32 → Option (Int32)) (k46 : Int32 → Option (Int32)) (hrec : ∀ (x2 : Int32) (x3 : Int32)   (H : Heap) (locs : List Loc) (ls : Array Slot), rec x2 x3 = some o → mW E A s [(h, .inr (11, [.ref a_g, .ref a_kept, .int isKept, .ref a_tape, .int taped, .int spot, .ref a_written, .int writtenMany, .ref a_asked, .int askedMany, .ref a_there, .ref a_counts, .ref a_lasts, .ref a_cames])), (a_g, .inl (E.2.1, 8787, .inl g)), (a_kept, .inl (E.2.1, 8787, .inl kept)), (a_tape, .inl (E.2.2.1, 60, .inl tape)), (a_written, .inl (E.2.1, 40, .inl written)), (a_asked, .inl (E.2.1, 60, .inl asked)), (a_there, .inl (E.2.1, 12, .inl there)), (a_counts, .inl (E.2.1, 12, .inl counts)), (a_lasts, .inl (E.2.1, 12, .inl lasts)), (a_cames, .inl (E.2.1, 12, .inl cames))] H locs → lv_has ls 4 [(0, .ref h), (1, .int x1), (2, .int x2), (3, .int x3)] → W p l e ({ frames := 3, cells := 0, slots := 0, locals := 65 } : Room) s m args below meth c H locs 0 0 Q (F0 m 4 ls [])) (hk46 : ∀ (x2 : Int32)   (H : Heap) (locs : List Loc) (ls : Array Slot), k46 x2 = some o → mW E A s [(h, .inr (11, [.ref a_g, .ref a_kept, .int isKept, .ref a_tape, .int taped, .int spot, .ref a_written, .int writtenMany, .ref a_asked, .int askedMany, .ref a_there, .ref a_counts, .ref a_lasts, .ref a_cames])), (a_g, .inl (E.2.1, 8787, .inl g)), (a_kept, .inl (E.2.1, 8787, .inl kept)), (a_tape, .inl (E.2.2.1, 60, .inl tape)), (a_written, .inl (E.2.1, 40, .inl written)), (a_asked, .inl (E.2.1, 60, .inl asked)), (a_there, .inl (E.2.1, 12, .inl there)), (a_counts, .inl (E.2.1, 12, .inl counts)), (a_lasts, .inl (E.2.1, 12, .inl lasts)), (a_cames, .inl (E.2.1, 12, .inl cames))] H locs → lv_has ls 4 [(2, .int x2)] → W p l e ({ frames := 3, cells := 0, slots := 0, locals := 65 } : Room) s m args below meth c H locs 0 0 Q (F0 m 46 ls [])) {H : Heap} {locs : List Loc} {ls : Array Slot} (hf : J_X12_firstToGo_38 N rec k46 x1 x3 g = some o)  (w : mW E A s [(h, .inr (11, [.ref a_g, .ref a_kept, .int isKept, .ref a_tape, .int taped, .int spot, .ref a_written, .int writtenMany, .ref a_asked, .int askedMany, .ref a_there, .ref a_counts, .ref a_lasts, .ref a_cames])), (a_g, .inl (E.2.1, 8787, .inl g)), (a_kept, .inl (E.2.1, 8787, .inl kept)), (a_tape, .inl (E.2.2.1, 60, .inl tape)), (a_written, .inl (E.2.1, 40, .inl written)), (a_asked, .inl (E.2.1, 60, .inl asked)), (a_there, .inl (E.2.1, 12, .inl there)), (a_counts, .inl (E.2.1, 12, .inl counts)), (a_lasts, .inl (E.2.1, 12, .inl lasts)), (a_cames, .inl (E.2.1, 12, .inl cames))] H locs) (hl : lv_has ls 4 [(0, .ref h), (1, .int x1), (3, .int x3)]) : W p l e ({ frames := 3, cells := 0, slots := 0, locals := 65 } : Room) s m args below meth c H locs 0 0 Q (F0 m 38 ls []) := by
  obtain ⟨hx, hb, hml, hown, hts⟩ := id B.1
  unfold J_X12_firstToGo_38 at hf
  refine lv_iload_n hx hb dX12_firstToGo_38 rfl (lv_at hl 2 rfl) ?_
  refine lv_istore_n (lv' := [(2, .int x3), (0, .ref h), (1, .int x1), (3, .int x3)]) hx hb dX12_firstToGo_39 rfl hl (by decide) rfl (fun ls hl => ?_)
  exact j_X12_firstToGo_40 B _ _ hrec hk46 hf  w (lv_sub hl [1, 2, 0, 3] rfl)
noncomputable def K_X12_firstToGo_4 (N : Nat)  (rec : Int32 → Int32 → Option (Int32)) (k46 : Int32 → Option (Int32)) (x1 : Int32) (g : Nat → Int32) (x2 : Int32) (x3 : Int32)  : Option (Int32) :=
  ld g 8787 13 (fun v_1 =>
  if (v_1 ≤ x3 : Prop) then
  k46 x2
  else
  bd (F_X12_at g x3 0) (fun o_2 =>
  if (o_2 = x1 : Prop) then
  J_X12_firstToGo_40 N rec k46 x1 x2 x3 g
  else
  if (x2 < 0 : Prop) then
  J_X12_firstToGo_38 N rec k46 x1 x3 g
  else
  bd (F_X12_isSooner g x3 x2) (fun o_4 =>
  if (o_4 = 0 : Prop) then
  J_X12_firstToGo_40 N rec k46 x1 x2 x3 g
  else
  J_X12_firstToGo_38 N rec k46 x1 x3 g)))
noncomputable def L_X12_firstToGo_4 (N : Nat)  (k46 : Int32 → Option (Int32)) (x1 : Int32) (g : Nat → Int32) (n : Nat) : Int32 → Int32 → Option (Int32) :=
  Nat.rec (motive := fun _ => Int32 → Int32 → Option (Int32)) (fun _ _ => none) (fun _ rec => K_X12_firstToGo_4 N rec k46 x1 g) n
set_option maxHeartbeats 4000000 in
set_option maxRecDepth 100000 in
theorem l_X12_firstToGo_4 {E : mE} {l : Launch} {p : Program} {e : Env} {s : State} {m : MethodId} {args : Array Value} {below : List Frame} {meth : Method} {c : Code} {A : Nat → Prop} {Q : State → Prop} {N : Nat} {h : Nat} {a_g : Nat} {a_kept : Nat} {a_tape : Nat} {a_written : Nat} {a_asked : Nat} {a_there : Nat} {a_counts : Nat} {a_lasts : Nat} {a_cames : Nat}  {g : Nat → Int32} {kept : Nat → Int32} {isKept : Int32} {tape : Nat → Int32} {taped : Int32} {spot : Int32} {written : Nat → Int32} {writtenMany : Int32} {asked : Nat → Int32} {askedMany : Int32} {there : Nat → Int32} {counts : Nat → Int32} {lasts : Nat → Int32} {cames : Nat → Int32}  {o : Int32} (B : mB E yX12_firstToGo cX12_firstToGo 4 (some .int) 0 0 (po_X12_firstToGo E h a_g a_kept a_tape a_written a_asked a_there a_counts a_lasts a_cames g kept isKept tape taped spot written writtenMany asked askedMany there counts lasts cames o) p s m args below meth c A Q)   {x1 : Int32} (k46 : Int32 → Option (Int32))  (hk46 : ∀ (x2 : Int32)   (H : Heap) (locs : List Loc) (ls : Array Slot), k46 x2 = some o → mW E A s [(h, .inr (11, [.ref a_g, .ref a_kept, .int isKept, .ref a_tape, .int taped, .int spot, .ref a_written, .int writtenMany, .ref a_asked, .int askedMany, .ref a_there, .ref a_counts, .ref a_lasts, .ref a_cames])), (a_g, .inl (E.2.1, 8787, .inl g)), (a_kept, .inl (E.2.1, 8787, .inl kept)), (a_tape, .inl (E.2.2.1, 60, .inl tape)), (a_written, .inl (E.2.1, 40, .inl written)), (a_asked, .inl (E.2.1, 60, .inl asked)), (a_there, .inl (E.2.1, 12, .inl there)), (a_counts, .inl (E.2.1, 12, .inl counts)), (a_lasts, .inl (E.2.1, 12, .inl lasts)), (a_cames, .inl (E.2.1, 12, .inl cames))] H locs → lv_has ls 4 [(2, .int x2)] → W p l e ({ frames := 3, cells := 0, slots := 0, locals := 65 } : Room) s m args below meth c H locs 0 0 Q (F0 m 46 ls [])) : ∀ n : Nat, ∀ (x2 : Int32) (x3 : Int32)   (H : Heap) (locs : List Loc) (ls : Array Slot), L_X12_firstToGo_4 N k46 x1 g n x2 x3 = some o → mW E A s [(h, .inr (11, [.ref a_g, .ref a_kept, .int isKept, .ref a_tape, .int taped, .int spot, .ref a_written, .int writtenMany, .ref a_asked, .int askedMany, .ref a_there, .ref a_counts, .ref a_lasts, .ref a_cames])), (a_g, .inl (E.2.1, 8787, .inl g)), (a_kept, .inl (E.2.1, 8787, .inl kept)), (a_tape, .inl (E.2.2.1, 60, .inl tape)), (a_written, .inl (E.2.1, 40, .inl written)), (a_asked, .inl (E.2.1, 60, .inl asked)), (a_there, .inl (E.2.1, 12, .inl there)), (a_counts, .inl (E.2.1, 12, .inl counts)), (a_lasts, .inl (E.2.1, 12, .inl lasts)), (a_cames, .inl (E.2.1, 12, .inl cames))] H locs → lv_has ls 4 [(0, .ref h), (1, .int x1), (2, .int x2), (3, .int x3)] → W p l e ({ frames := 3, cells := 0, slots := 0, locals := 65 } : Room) s m args below meth c H locs 0 0 Q (F0 m 4 ls []) := by
  obtain ⟨hx, hb, hml, hown, hts⟩ := id B.1
  intro n
  induction n with
  | zero =>
    intro x2 x3 H locs ls hf w hl
    exact nomatch hf
  | succ n hrec =>
    intro x2 x3 H locs ls hf w hl
    have hf : K_X12_firstToGo_4 N (L_X12_firstToGo_4 N k46 x1 g n) k46 x1 g x2 x3 = some o := hf
    unfold K_X12_firstToGo_4 at hf
    refine lv_iload_n hx hb dX12_firstToGo_4 rfl (lv_at hl 3 rfl) ?_
    refine lv_aload_n hx hb dX12_firstToGo_5 rfl (lv_at hl 0 rfl) ?_
    refine mx_get B w 0 fl_X12_9 rfl rfl dX12_firstToGo_6 ?_
    refine lv_bipush (v := 13) hx hb dX12_firstToGo_9 (by decide) ?_
    obtain ⟨hin, hf⟩ := ld_e hf
    refine mx_iald B w 1 rfl hin dX12_firstToGo_11 (fun v_1 ev => ?_)
    have hf := hf _ ev; clear ev
    refine lv_icmp_ge (tgt := 46) hx hb dX12_firstToGo_12 (by decide) (fun hc => ?_) (fun hc => ?_)
    · have hf := it_t hc hf
      exact hk46 _ _ _ _ hf  w (lv_sub hl [2] rfl)
    · have hf := it_f hc hf
      refine lv_aload_n hx hb dX12_firstToGo_15 rfl (lv_at hl 0 rfl) ?_
      refine lv_iload_n hx hb dX12_firstToGo_16 rfl (lv_at hl 3 rfl) ?_
      refine lv_iconst (v := 0) hx hb dX12_firstToGo_17 (by decide) ?_
      obtain ⟨o_2, hq, hf⟩ := bd_e hf
      refine mx_callV (As := [.int x3, .int 0]) (rest := []) (wr := []) (d_X12_at E l  h a_g a_kept a_tape a_written a_asked a_there a_counts a_lasts a_cames g kept isKept tape taped spot written writtenMany asked askedMany there counts lasts cames x3 0  o_2 hq) B w [0, 1, 2, 3, 4, 5, 6, 7, 8, 9] [] rfl rfl (by decide) (by decide) (by decide) 0 rfl rfl cv_X12_at kw_1325 2 (by decide +kernel) ⟨Nat.le_of_ble_eq_true rfl, Nat.le_of_ble_eq_true rfl⟩ rfl hl.1 rfl (Nat.le_of_ble_eq_true rfl) dX12_firstToGo_18 rfl rfl ⟨Nat.zero_le _, Nat.zero_le _⟩ (fun v w' H locs hpo w => ?_)
      clear hq
      obtain ⟨rfl, rfl⟩ := hpo
      have w : mW E A s [(h, .inr (11, [.ref a_g, .ref a_kept, .int isKept, .ref a_tape, .int taped, .int spot, .ref a_written, .int writtenMany, .ref a_asked, .int askedMany, .ref a_there, .ref a_counts, .ref a_lasts, .ref a_cames])), (a_g, .inl (E.2.1, 8787, .inl g)), (a_kept, .inl (E.2.1, 8787, .inl kept)), (a_tape, .inl (E.2.2.1, 60, .inl tape)), (a_written, .inl (E.2.1, 40, .inl written)), (a_asked, .inl (E.2.1, 60, .inl asked)), (a_there, .inl (E.2.1, 12, .inl there)), (a_counts, .inl (E.2.1, 12, .inl counts)), (a_lasts, .inl (E.2.1, 12, .inl lasts)), (a_cames, .inl (E.2.1, 12, .inl cames))] H locs := w
      refine lv_iload_n hx hb dX12_firstToGo_21 rfl (lv_at hl 1 rfl) ?_
      refine lv_icmp_eq (tgt := 40) hx hb dX12_firstToGo_22 (by decide) (fun hc => ?_) (fun hc => ?_)
      · have hf := it_t hc hf
        exact j_X12_firstToGo_40 B _ _ hrec hk46 hf  w (lv_sub hl [0, 1, 2, 3] rfl)
      · have hf := it_f hc hf
        refine lv_iload_n hx hb dX12_firstToGo_25 rfl (lv_at hl 2 rfl) ?_
        refine lv_if_lt (tgt := 38) hx hb dX12_firstToGo_26 (by decide) (fun hc => ?_) (fun hc => ?_)
        · have hf := it_t hc hf
          exact j_X12_firstToGo_38 B _ _ hrec hk46 hf  w (lv_sub hl [0, 1, 3] rfl)
        · have hf := it_f hc hf
          refine lv_aload_n hx hb dX12_firstToGo_29 rfl (lv_at hl 0 rfl) ?_
          refine lv_iload_n hx hb dX12_firstToGo_30 rfl (lv_at hl 3 rfl) ?_
          refine lv_iload_n hx hb dX12_firstToGo_31 rfl (lv_at hl 2 rfl) ?_
          obtain ⟨o_4, hq, hf⟩ := bd_e hf
          refine mx_callV (As := [.int x3, .int x2]) (rest := []) (wr := []) (d_X12_isSooner E l  h a_g a_kept a_tape a_written a_asked a_there a_counts a_lasts a_cames g kept isKept tape taped spot written writtenMany asked askedMany there counts lasts cames x3 x2  o_4 hq) B w [0, 1, 2, 3, 4, 5, 6, 7, 8, 9] [] rfl rfl (by decide) (by decide) (by decide) 0 rfl rfl cv_X12_isSooner kw_1333 2 (by decide +kernel) ⟨Nat.le_of_ble_eq_true rfl, Nat.le_of_ble_eq_true rfl⟩ rfl hl.1 rfl (Nat.le_of_ble_eq_true rfl) dX12_firstToGo_32 rfl rfl ⟨Nat.zero_le _, Nat.zero_le _⟩ (fun v w' H locs hpo w => ?_)
          clear hq
          obtain ⟨rfl, rfl⟩ := hpo
          have w : mW E A s [(h, .inr (11, [.ref a_g, .ref a_kept, .int isKept, .ref a_tape, .int taped, .int spot, .ref a_written, .int writtenMany, .ref a_asked, .int askedMany, .ref a_there, .ref a_counts, .ref a_lasts, .ref a_cames])), (a_g, .inl (E.2.1, 8787, .inl g)), (a_kept, .inl (E.2.1, 8787, .inl kept)), (a_tape, .inl (E.2.2.1, 60, .inl tape)), (a_written, .inl (E.2.1, 40, .inl written)), (a_asked, .inl (E.2.1, 60, .inl asked)), (a_there, .inl (E.2.1, 12, .inl there)), (a_counts, .inl (E.2.1, 12, .inl counts)), (a_lasts, .inl (E.2.1, 12, .inl lasts)), (a_cames, .inl (E.2.1, 12, .inl cames))] H locs := w
          refine lv_if_eq (tgt := 40) hx hb dX12_firstToGo_35 (by decide) (fun hc => ?_) (fun hc => ?_)
          · have hf := it_t hc hf
            exact j_X12_firstToGo_40 B _ _ hrec hk46 hf  w (lv_sub hl [0, 1, 2, 3] rfl)
          · have hf := it_f hc hf
            exact j_X12_firstToGo_38 B _ _ hrec hk46 hf  w (lv_sub hl [0, 1, 3] rfl)
noncomputable def F_X12_firstToGo (N : Nat)  (g : Nat → Int32) (x1 : Int32) : Option (Int32) :=
  L_X12_firstToGo_4 N (fun x2 => some (x2)) x1 g N ((-1)) 0
set_option maxHeartbeats 4000000 in
set_option maxRecDepth 100000 in
theorem d_X12_firstToGo (E : mE) (l : Launch) (N : Nat) (h : Nat) (a_g : Nat) (a_kept : Nat) (a_tape : Nat) (a_written : Nat) (a_asked : Nat) (a_there : Nat) (a_counts : Nat) (a_lasts : Nat) (a_cames : Nat)  (g : Nat → Int32) (kept : Nat → Int32) (isKept : Int32) (tape : Nat → Int32) (taped : Int32) (spot : Int32) (written : Nat → Int32) (writtenMany : Int32) (asked : Nat → Int32) (askedMany : Int32) (there : Nat → Int32) (counts : Nat → Int32) (lasts : Nat → Int32) (cames : Nat → Int32)  (x1 : Int32)  (o : Int32) (hf : F_X12_firstToGo N g x1 = some o) : MX E l yX12_firstToGo cX12_firstToGo 4 (some .int) ({ frames := 3, cells := 0, slots := 0, locals := 65 } : Room) [.ref h, .int x1] [(h, .inr (11, [.ref a_g, .ref a_kept, .int isKept, .ref a_tape, .int taped, .int spot, .ref a_written, .int writtenMany, .ref a_asked, .int askedMany, .ref a_there, .ref a_counts, .ref a_lasts, .ref a_cames])), (a_g, .inl (E.2.1, 8787, .inl g)), (a_kept, .inl (E.2.1, 8787, .inl kept)), (a_tape, .inl (E.2.2.1, 60, .inl tape)), (a_written, .inl (E.2.1, 40, .inl written)), (a_asked, .inl (E.2.1, 60, .inl asked)), (a_there, .inl (E.2.1, 12, .inl there)), (a_counts, .inl (E.2.1, 12, .inl counts)), (a_lasts, .inl (E.2.1, 12, .inl lasts)), (a_cames, .inl (E.2.1, 12, .inl cames))] (po_X12_firstToGo E h a_g a_kept a_tape a_written a_asked a_there a_counts a_lasts a_cames g kept isKept tape taped spot written writtenMany asked askedMany there counts lasts cames o) := by
  refine mx_intro (by decide +kernel) (Nat.le_of_ble_eq_true rfl) ?_
  intro p e s m args below meth c A Q ls B w hl
  obtain ⟨hx, hb, hml, hown, hts⟩ := id B.1
  unfold F_X12_firstToGo at hf
  have hl : lv_has ls 4 [(0, .ref h), (1, .int x1)] := hl
  refine lv_iconst (v := (-1)) hx hb dX12_firstToGo_0 (by decide) ?_
  refine lv_istore_n (lv' := [(2, .int ((-1))), (0, .ref h), (1, .int x1)]) hx hb dX12_firstToGo_1 rfl hl (by decide) rfl (fun ls hl => ?_)
  refine lv_iconst (v := 0) hx hb dX12_firstToGo_2 (by decide) ?_
  refine lv_istore_n (lv' := [(3, .int 0), (2, .int ((-1))), (0, .ref h), (1, .int x1)]) hx hb dX12_firstToGo_3 rfl hl (by decide) rfl (fun ls hl => ?_)
  refine l_X12_firstToGo_4 B _  ?_ N _ _ _ _ _ hf  w (lv_sub hl [2, 3, 1, 0] rfl)
  · intro x2 H locs ls hf w hl
    refine lv_iload_n hx hb dX12_firstToGo_46 rfl (lv_at hl 0 rfl) ?_
    cases hf
    exact mx_iret B w ⟨rfl, rfl⟩ dX12_firstToGo_47
-- X12_takesOut
def po_X12_takesOut (E : mE) (h : Nat) (a_g : Nat) (a_kept : Nat) (a_tape : Nat) (a_written : Nat) (a_asked : Nat) (a_there : Nat) (a_counts : Nat) (a_lasts : Nat) (a_cames : Nat)  (g : Nat → Int32) (kept : Nat → Int32) (isKept : Int32) (tape : Nat → Int32) (taped : Int32) (spot : Int32) (written : Nat → Int32) (writtenMany : Int32) (asked : Nat → Int32) (askedMany : Int32) (there : Nat → Int32) (counts : Nat → Int32) (lasts : Nat → Int32) (cames : Nat → Int32)  (o : (Nat → Int32)) : Option Value → va_W → Prop := (fun (v : Option Value) (w' : va_W) => v = none ∧ w' = [(h, .inr (11, [.ref a_g, .ref a_kept, .int isKept, .ref a_tape, .int taped, .int spot, .ref a_written, .int writtenMany, .ref a_asked, .int askedMany, .ref a_there, .ref a_counts, .ref a_lasts, .ref a_cames])), (a_g, .inl (E.2.1, 8787, .inl o)), (a_kept, .inl (E.2.1, 8787, .inl kept)), (a_tape, .inl (E.2.2.1, 60, .inl tape)), (a_written, .inl (E.2.1, 40, .inl written)), (a_asked, .inl (E.2.1, 60, .inl asked)), (a_there, .inl (E.2.1, 12, .inl there)), (a_counts, .inl (E.2.1, 12, .inl counts)), (a_lasts, .inl (E.2.1, 12, .inl lasts)), (a_cames, .inl (E.2.1, 12, .inl cames))])
noncomputable def K_X12_takesOut_6 (N : Nat)  (rec : Int32 → (Nat → Int32) → (Option ((Nat → Int32)))) (k47 : (Nat → Int32) → (Option ((Nat → Int32)))) (x1 : Int32) (x2 : Int32) (x3 : Int32)  (x5 : Int32) (g : Nat → Int32) : Option ((Nat → Int32)) :=
  ld g 8787 x1 (fun v_2 =>
  if (((v_2 - 1) * x3) ≤ x5 : Prop) then
  k47 g
  else
  ld g 8787 ((x2 + x5) + x3) (fun v_3 =>
  sto g 8787 (x2 + x5) v_3 (fun g_4 =>
  lt (x5 + 1) (fun x5_5 =>
  rec x5_5 g_4))))
noncomputable def L_X12_takesOut_6 (N : Nat)  (k47 : (Nat → Int32) → (Option ((Nat → Int32)))) (x1 : Int32) (x2 : Int32) (x3 : Int32)  (n : Nat) : Int32 → (Nat → Int32) → (Option ((Nat → Int32))) :=
  Nat.rec (motive := fun _ => Int32 → (Nat → Int32) → (Option ((Nat → Int32)))) (fun _ _ => none) (fun _ rec => K_X12_takesOut_6 N rec k47 x1 x2 x3) n
set_option maxHeartbeats 4000000 in
set_option maxRecDepth 100000 in
theorem l_X12_takesOut_6 {E : mE} {l : Launch} {p : Program} {e : Env} {s : State} {m : MethodId} {args : Array Value} {below : List Frame} {meth : Method} {c : Code} {A : Nat → Prop} {Q : State → Prop} {N : Nat} {h : Nat} {a_g : Nat} {a_kept : Nat} {a_tape : Nat} {a_written : Nat} {a_asked : Nat} {a_there : Nat} {a_counts : Nat} {a_lasts : Nat} {a_cames : Nat}  {g0 : Nat → Int32} {kept : Nat → Int32} {isKept : Int32} {tape : Nat → Int32} {taped : Int32} {spot : Int32} {written : Nat → Int32} {writtenMany : Int32} {asked : Nat → Int32} {askedMany : Int32} {there : Nat → Int32} {counts : Nat → Int32} {lasts : Nat → Int32} {cames : Nat → Int32}  {o : (Nat → Int32)} (B : mB E yX12_takesOut cX12_takesOut 6 none 0 0 (po_X12_takesOut E h a_g a_kept a_tape a_written a_asked a_there a_counts a_lasts a_cames g0 kept isKept tape taped spot written writtenMany asked askedMany there counts lasts cames o) p s m args below meth c A Q)   {x1 : Int32} {x2 : Int32} {x3 : Int32} (k47 : (Nat → Int32) → (Option ((Nat → Int32))))  (hk47 : ∀  (g : Nat → Int32)  (H : Heap) (locs : List Loc) (ls : Array Slot), k47 g = some o → mW E A s [(h, .inr (11, [.ref a_g, .ref a_kept, .int isKept, .ref a_tape, .int taped, .int spot, .ref a_written, .int writtenMany, .ref a_asked, .int askedMany, .ref a_there, .ref a_counts, .ref a_lasts, .ref a_cames])), (a_g, .inl (E.2.1, 8787, .inl g)), (a_kept, .inl (E.2.1, 8787, .inl kept)), (a_tape, .inl (E.2.2.1, 60, .inl tape)), (a_written, .inl (E.2.1, 40, .inl written)), (a_asked, .inl (E.2.1, 60, .inl asked)), (a_there, .inl (E.2.1, 12, .inl there)), (a_counts, .inl (E.2.1, 12, .inl counts)), (a_lasts, .inl (E.2.1, 12, .inl lasts)), (a_cames, .inl (E.2.1, 12, .inl cames))] H locs → lv_has ls 6 [(0, .ref h), (1, .int x1)] → W p l e ({ frames := 0, cells := 0, slots := 0, locals := 0 } : Room) s m args below meth c H locs 0 0 Q (F0 m 47 ls [])) : ∀ n : Nat, ∀ (x5 : Int32) (g : Nat → Int32)  (H : Heap) (locs : List Loc) (ls : Array Slot), L_X12_takesOut_6 N k47 x1 x2 x3 n x5 g = some o → mW E A s [(h, .inr (11, [.ref a_g, .ref a_kept, .int isKept, .ref a_tape, .int taped, .int spot, .ref a_written, .int writtenMany, .ref a_asked, .int askedMany, .ref a_there, .ref a_counts, .ref a_lasts, .ref a_cames])), (a_g, .inl (E.2.1, 8787, .inl g)), (a_kept, .inl (E.2.1, 8787, .inl kept)), (a_tape, .inl (E.2.2.1, 60, .inl tape)), (a_written, .inl (E.2.1, 40, .inl written)), (a_asked, .inl (E.2.1, 60, .inl asked)), (a_there, .inl (E.2.1, 12, .inl there)), (a_counts, .inl (E.2.1, 12, .inl counts)), (a_lasts, .inl (E.2.1, 12, .inl lasts)), (a_cames, .inl (E.2.1, 12, .inl cames))] H locs → lv_has ls 6 [(0, .ref h), (1, .int x1), (2, .int x2), (3, .int x3), (5, .int x5)] → W p l e ({ frames := 0, cells := 0, slots := 0, locals := 0 } : Room) s m args below meth c H locs 0 0 Q (F0 m 6 ls []) := by
  obtain ⟨hx, hb, hml, hown, hts⟩ := id B.1
  intro n
  induction n with
  | zero =>
    intro x5 g H locs ls hf w hl
    exact nomatch hf
  | succ n hrec =>
    intro x5 g H locs ls hf w hl
    have hf : K_X12_takesOut_6 N (L_X12_takesOut_6 N k47 x1 x2 x3 n) k47 x1 x2 x3 x5 g = some o := hf
    unfold K_X12_takesOut_6 at hf
    refine lv_iload hx hb dX12_takesOut_6 (lv_at hl 4 rfl) ?_
    refine lv_aload_n hx hb dX12_takesOut_8 rfl (lv_at hl 0 rfl) ?_
    refine mx_get B w 0 fl_X12_9 rfl rfl dX12_takesOut_9 ?_
    refine lv_iload_n hx hb dX12_takesOut_12 rfl (lv_at hl 1 rfl) ?_
    obtain ⟨hin, hf⟩ := ld_e hf
    refine mx_iald B w 1 rfl hin dX12_takesOut_13 (fun v_2 ev => ?_)
    have hf := hf _ ev; clear ev
    refine lv_iconst (v := 1) hx hb dX12_takesOut_14 (by decide) ?_
    refine lv_isub hx hb dX12_takesOut_15 ?_
    refine lv_iload_n hx hb dX12_takesOut_16 rfl (lv_at hl 3 rfl) ?_
    refine lv_imul hx hb dX12_takesOut_17 ?_
    refine lv_icmp_ge (tgt := 47) hx hb dX12_takesOut_18 (by decide) (fun hc => ?_) (fun hc => ?_)
    · have hf := it_t hc hf
      exact hk47 _ _ _ _ hf  w (lv_sub hl [0, 1] rfl)
    · have hf := it_f hc hf
      refine lv_aload_n hx hb dX12_takesOut_21 rfl (lv_at hl 0 rfl) ?_
      refine mx_get B w 0 fl_X12_9 rfl rfl dX12_takesOut_22 ?_
      refine lv_iload_n hx hb dX12_takesOut_25 rfl (lv_at hl 2 rfl) ?_
      refine lv_iload hx hb dX12_takesOut_26 (lv_at hl 4 rfl) ?_
      refine lv_iadd hx hb dX12_takesOut_28 ?_
      refine lv_aload_n hx hb dX12_takesOut_29 rfl (lv_at hl 0 rfl) ?_
      refine mx_get B w 0 fl_X12_9 rfl rfl dX12_takesOut_30 ?_
      refine lv_iload_n hx hb dX12_takesOut_33 rfl (lv_at hl 2 rfl) ?_
      refine lv_iload hx hb dX12_takesOut_34 (lv_at hl 4 rfl) ?_
      refine lv_iadd hx hb dX12_takesOut_36 ?_
      refine lv_iload_n hx hb dX12_takesOut_37 rfl (lv_at hl 3 rfl) ?_
      refine lv_iadd hx hb dX12_takesOut_38 ?_
      obtain ⟨hin, hf⟩ := ld_e hf
      refine mx_iald B w 1 rfl hin dX12_takesOut_39 (fun v_3 ev => ?_)
      have hf := hf _ ev; clear ev
      obtain ⟨hin, hf⟩ := sto_e hf
      refine mx_iast B w 1 rfl hin dX12_takesOut_40 (fun g_4 H locs ev w => ?_)
      have hf := hf _ ev; clear ev
      have w : mW E A s [(h, .inr (11, [.ref a_g, .ref a_kept, .int isKept, .ref a_tape, .int taped, .int spot, .ref a_written, .int writtenMany, .ref a_asked, .int askedMany, .ref a_there, .ref a_counts, .ref a_lasts, .ref a_cames])), (a_g, .inl (E.2.1, 8787, .inl g_4)), (a_kept, .inl (E.2.1, 8787, .inl kept)), (a_tape, .inl (E.2.2.1, 60, .inl tape)), (a_written, .inl (E.2.1, 40, .inl written)), (a_asked, .inl (E.2.1, 60, .inl asked)), (a_there, .inl (E.2.1, 12, .inl there)), (a_counts, .inl (E.2.1, 12, .inl counts)), (a_lasts, .inl (E.2.1, 12, .inl lasts)), (a_cames, .inl (E.2.1, 12, .inl cames))] H locs := w
      obtain ⟨x5_5, ev⟩ : ∃ y : Int32, y = x5 + 1 := ⟨_, rfl⟩
      refine lv_iinc (v := x5_5) (lv' := [(5, .int x5_5), (0, .ref h), (1, .int x1), (2, .int x2), (3, .int x3)]) hx hb dX12_takesOut_41 hl (k := 4) rfl (by rw [ev]; rfl) (by decide) rfl (fun ls hl => ?_)
      have hf := lt_n ev hf; clear ev
      refine lv_goto (tgt := 6) hx hb dX12_takesOut_44 (by decide) ?_
      exact hrec _ _ _ _ _ hf  w (lv_sub hl [1, 2, 3, 4, 0] rfl)
noncomputable def F_X12_takesOut (N : Nat)  (g : Nat → Int32) (x1 : Int32) (x2 : Int32) (x3 : Int32) (x4 : Int32) : Option ((Nat → Int32)) :=
  lt (x4 * x3) (fun x5_1 =>
  L_X12_takesOut_6 N (fun g => ld g 8787 x1 (fun v_6 =>
  sto g 8787 x1 (v_6 - 1) (fun g_7 =>
  some (g_7)))) x1 x2 x3 N x5_1 g)
set_option maxHeartbeats 4000000 in
set_option maxRecDepth 100000 in
theorem d_X12_takesOut (E : mE) (l : Launch) (N : Nat) (h : Nat) (a_g : Nat) (a_kept : Nat) (a_tape : Nat) (a_written : Nat) (a_asked : Nat) (a_there : Nat) (a_counts : Nat) (a_lasts : Nat) (a_cames : Nat)  (g : Nat → Int32) (kept : Nat → Int32) (isKept : Int32) (tape : Nat → Int32) (taped : Int32) (spot : Int32) (written : Nat → Int32) (writtenMany : Int32) (asked : Nat → Int32) (askedMany : Int32) (there : Nat → Int32) (counts : Nat → Int32) (lasts : Nat → Int32) (cames : Nat → Int32)  (x1 : Int32) (x2 : Int32) (x3 : Int32) (x4 : Int32)  (o : (Nat → Int32)) (hf : F_X12_takesOut N g x1 x2 x3 x4 = some o) : MX E l yX12_takesOut cX12_takesOut 6 none ({ frames := 0, cells := 0, slots := 0, locals := 0 } : Room) [.ref h, .int x1, .int x2, .int x3, .int x4] [(h, .inr (11, [.ref a_g, .ref a_kept, .int isKept, .ref a_tape, .int taped, .int spot, .ref a_written, .int writtenMany, .ref a_asked, .int askedMany, .ref a_there, .ref a_counts, .ref a_lasts, .ref a_cames])), (a_g, .inl (E.2.1, 8787, .inl g)), (a_kept, .inl (E.2.1, 8787, .inl kept)), (a_tape, .inl (E.2.2.1, 60, .inl tape)), (a_written, .inl (E.2.1, 40, .inl written)), (a_asked, .inl (E.2.1, 60, .inl asked)), (a_there, .inl (E.2.1, 12, .inl there)), (a_counts, .inl (E.2.1, 12, .inl counts)), (a_lasts, .inl (E.2.1, 12, .inl lasts)), (a_cames, .inl (E.2.1, 12, .inl cames))] (po_X12_takesOut E h a_g a_kept a_tape a_written a_asked a_there a_counts a_lasts a_cames g kept isKept tape taped spot written writtenMany asked askedMany there counts lasts cames o) := by
  refine mx_intro (by decide +kernel) (Nat.le_of_ble_eq_true rfl) ?_
  intro p e s m args below meth c A Q ls B w hl
  obtain ⟨hx, hb, hml, hown, hts⟩ := id B.1
  unfold F_X12_takesOut at hf
  have hl : lv_has ls 6 [(0, .ref h), (1, .int x1), (2, .int x2), (3, .int x3), (4, .int x4)] := hl
  refine lv_iload hx hb dX12_takesOut_0 (lv_at hl 4 rfl) ?_
  refine lv_iload_n hx hb dX12_takesOut_2 rfl (lv_at hl 3 rfl) ?_
  refine lv_imul hx hb dX12_takesOut_3 ?_
  refine lv_topi (fun x5_1 ev => ?_)
  have hf := lt_n ev hf; clear ev
  refine lv_istore (lv' := [(5, .int x5_1), (0, .ref h), (1, .int x1), (2, .int x2), (3, .int x3), (4, .int x4)]) hx hb dX12_takesOut_4 hl (by decide) rfl (fun ls hl => ?_)
  refine l_X12_takesOut_6 B _  ?_ N _ _ _ _ _ hf  w (lv_sub hl [1, 2, 3, 4, 0] rfl)
  · intro g H locs ls hf w hl
    refine lv_aload_n hx hb dX12_takesOut_47 rfl (lv_at hl 0 rfl) ?_
    refine mx_get B w 0 fl_X12_9 rfl rfl dX12_takesOut_48 ?_
    refine lv_iload_n hx hb dX12_takesOut_51 rfl (lv_at hl 1 rfl) ?_
    refine lv_dup2_11 hx hb dX12_takesOut_52 rfl rfl ?_
    obtain ⟨hin, hf⟩ := ld_e hf
    refine mx_iald B w 1 rfl hin dX12_takesOut_53 (fun v_6 ev => ?_)
    have hf := hf _ ev; clear ev
    refine lv_iconst (v := 1) hx hb dX12_takesOut_54 (by decide) ?_
    refine lv_isub hx hb dX12_takesOut_55 ?_
    obtain ⟨hin, hf⟩ := sto_e hf
    refine mx_iast B w 1 rfl hin dX12_takesOut_56 (fun g_7 H locs ev w => ?_)
    have hf := hf _ ev; clear ev
    have w : mW E A s [(h, .inr (11, [.ref a_g, .ref a_kept, .int isKept, .ref a_tape, .int taped, .int spot, .ref a_written, .int writtenMany, .ref a_asked, .int askedMany, .ref a_there, .ref a_counts, .ref a_lasts, .ref a_cames])), (a_g, .inl (E.2.1, 8787, .inl g_7)), (a_kept, .inl (E.2.1, 8787, .inl kept)), (a_tape, .inl (E.2.2.1, 60, .inl tape)), (a_written, .inl (E.2.1, 40, .inl written)), (a_asked, .inl (E.2.1, 60, .inl asked)), (a_there, .inl (E.2.1, 12, .inl there)), (a_counts, .inl (E.2.1, 12, .inl counts)), (a_lasts, .inl (E.2.1, 12, .inl lasts)), (a_cames, .inl (E.2.1, 12, .inl cames))] H locs := w
    cases hf
    exact mx_vret B w ⟨rfl, rfl⟩ dX12_takesOut_57
-- X12_coldRoom
def po_X12_coldRoom (E : mE) (h : Nat) (a_g : Nat) (a_kept : Nat) (a_tape : Nat) (a_written : Nat) (a_asked : Nat) (a_there : Nat) (a_counts : Nat) (a_lasts : Nat) (a_cames : Nat)  (g : Nat → Int32) (kept : Nat → Int32) (isKept : Int32) (tape : Nat → Int32) (taped : Int32) (spot : Int32) (written : Nat → Int32) (writtenMany : Int32) (asked : Nat → Int32) (askedMany : Int32) (there : Nat → Int32) (counts : Nat → Int32) (lasts : Nat → Int32) (cames : Nat → Int32)  (o : (Nat → Int32)) : Option Value → va_W → Prop := (fun (v : Option Value) (w' : va_W) => v = none ∧ w' = [(h, .inr (11, [.ref a_g, .ref a_kept, .int isKept, .ref a_tape, .int taped, .int spot, .ref a_written, .int writtenMany, .ref a_asked, .int askedMany, .ref a_there, .ref a_counts, .ref a_lasts, .ref a_cames])), (a_g, .inl (E.2.1, 8787, .inl o)), (a_kept, .inl (E.2.1, 8787, .inl kept)), (a_tape, .inl (E.2.2.1, 60, .inl tape)), (a_written, .inl (E.2.1, 40, .inl written)), (a_asked, .inl (E.2.1, 60, .inl asked)), (a_there, .inl (E.2.1, 12, .inl there)), (a_counts, .inl (E.2.1, 12, .inl counts)), (a_lasts, .inl (E.2.1, 12, .inl lasts)), (a_cames, .inl (E.2.1, 12, .inl cames))])
noncomputable def K_X12_coldRoom_0 (N : Nat)  (rec : (Nat → Int32) → (Option ((Nat → Int32)))) (k31 : (Nat → Int32) → (Option ((Nat → Int32))))    (g : Nat → Int32) : Option ((Nat → Int32)) :=
  ld g 8787 14 (fun v_4 =>
  ld g 8787 6 (fun v_5 =>
  if (v_4 ≤ v_5 : Prop) then
  k31 g
  else
  bd (F_X12_takesOut N g 14 1898 5 0) (fun o_6 =>
  rec o_6)))
noncomputable def L_X12_coldRoom_0 (N : Nat)  (k31 : (Nat → Int32) → (Option ((Nat → Int32))))   (n : Nat) : (Nat → Int32) → (Option ((Nat → Int32))) :=
  Nat.rec (motive := fun _ => (Nat → Int32) → (Option ((Nat → Int32)))) (fun _ => none) (fun _ rec => K_X12_coldRoom_0 N rec k31) n
set_option maxHeartbeats 4000000 in
set_option maxRecDepth 100000 in
theorem l_X12_coldRoom_0 {E : mE} {l : Launch} {p : Program} {e : Env} {s : State} {m : MethodId} {args : Array Value} {below : List Frame} {meth : Method} {c : Code} {A : Nat → Prop} {Q : State → Prop} {N : Nat} {h : Nat} {a_g : Nat} {a_kept : Nat} {a_tape : Nat} {a_written : Nat} {a_asked : Nat} {a_there : Nat} {a_counts : Nat} {a_lasts : Nat} {a_cames : Nat}  {g0 : Nat → Int32} {kept : Nat → Int32} {isKept : Int32} {tape : Nat → Int32} {taped : Int32} {spot : Int32} {written : Nat → Int32} {writtenMany : Int32} {asked : Nat → Int32} {askedMany : Int32} {there : Nat → Int32} {counts : Nat → Int32} {lasts : Nat → Int32} {cames : Nat → Int32}  {o : (Nat → Int32)} (B : mB E yX12_coldRoom cX12_coldRoom 1 none 0 0 (po_X12_coldRoom E h a_g a_kept a_tape a_written a_asked a_there a_counts a_lasts a_cames g0 kept isKept tape taped spot written writtenMany asked askedMany there counts lasts cames o) p s m args below meth c A Q)    (k31 : (Nat → Int32) → (Option ((Nat → Int32))))  (hk31 : ∀  (g : Nat → Int32)  (H : Heap) (locs : List Loc) (ls : Array Slot), k31 g = some o → mW E A s [(h, .inr (11, [.ref a_g, .ref a_kept, .int isKept, .ref a_tape, .int taped, .int spot, .ref a_written, .int writtenMany, .ref a_asked, .int askedMany, .ref a_there, .ref a_counts, .ref a_lasts, .ref a_cames])), (a_g, .inl (E.2.1, 8787, .inl g)), (a_kept, .inl (E.2.1, 8787, .inl kept)), (a_tape, .inl (E.2.2.1, 60, .inl tape)), (a_written, .inl (E.2.1, 40, .inl written)), (a_asked, .inl (E.2.1, 60, .inl asked)), (a_there, .inl (E.2.1, 12, .inl there)), (a_counts, .inl (E.2.1, 12, .inl counts)), (a_lasts, .inl (E.2.1, 12, .inl lasts)), (a_cames, .inl (E.2.1, 12, .inl cames))] H locs → lv_has ls 1 [] → W p l e ({ frames := 1, cells := 0, slots := 0, locals := 25 } : Room) s m args below meth c H locs 0 0 Q (F0 m 31 ls [])) : ∀ n : Nat, ∀  (g : Nat → Int32)  (H : Heap) (locs : List Loc) (ls : Array Slot), L_X12_coldRoom_0 N k31 n g = some o → mW E A s [(h, .inr (11, [.ref a_g, .ref a_kept, .int isKept, .ref a_tape, .int taped, .int spot, .ref a_written, .int writtenMany, .ref a_asked, .int askedMany, .ref a_there, .ref a_counts, .ref a_lasts, .ref a_cames])), (a_g, .inl (E.2.1, 8787, .inl g)), (a_kept, .inl (E.2.1, 8787, .inl kept)), (a_tape, .inl (E.2.2.1, 60, .inl tape)), (a_written, .inl (E.2.1, 40, .inl written)), (a_asked, .inl (E.2.1, 60, .inl asked)), (a_there, .inl (E.2.1, 12, .inl there)), (a_counts, .inl (E.2.1, 12, .inl counts)), (a_lasts, .inl (E.2.1, 12, .inl lasts)), (a_cames, .inl (E.2.1, 12, .inl cames))] H locs → lv_has ls 1 [(0, .ref h)] → W p l e ({ frames := 1, cells := 0, slots := 0, locals := 25 } : Room) s m args below meth c H locs 0 0 Q (F0 m 0 ls []) := by
  obtain ⟨hx, hb, hml, hown, hts⟩ := id B.1
  intro n
  induction n with
  | zero =>
    intro g H locs ls hf w hl
    exact nomatch hf
  | succ n hrec =>
    intro g H locs ls hf w hl
    have hf : K_X12_coldRoom_0 N (L_X12_coldRoom_0 N k31 n) k31 g = some o := hf
    unfold K_X12_coldRoom_0 at hf
    refine lv_aload_n hx hb dX12_coldRoom_0 rfl (lv_at hl 0 rfl) ?_
    refine mx_get B w 0 fl_X12_9 rfl rfl dX12_coldRoom_1 ?_
    refine lv_bipush (v := 14) hx hb dX12_coldRoom_4 (by decide) ?_
    obtain ⟨hin, hf⟩ := ld_e hf
    refine mx_iald B w 1 rfl hin dX12_coldRoom_6 (fun v_4 ev => ?_)
    have hf := hf _ ev; clear ev
    refine lv_aload_n hx hb dX12_coldRoom_7 rfl (lv_at hl 0 rfl) ?_
    refine mx_get B w 0 fl_X12_9 rfl rfl dX12_coldRoom_8 ?_
    refine lv_bipush (v := 6) hx hb dX12_coldRoom_11 (by decide) ?_
    obtain ⟨hin, hf⟩ := ld_e hf
    refine mx_iald B w 1 rfl hin dX12_coldRoom_13 (fun v_5 ev => ?_)
    have hf := hf _ ev; clear ev
    refine lv_icmp_le (tgt := 31) hx hb dX12_coldRoom_14 (by decide) (fun hc => ?_) (fun hc => ?_)
    · have hf := it_t hc hf
      exact hk31 _ _ _ _ hf  w (lv_sub hl [] rfl)
    · have hf := it_f hc hf
      refine lv_aload_n hx hb dX12_coldRoom_17 rfl (lv_at hl 0 rfl) ?_
      refine lv_bipush (v := 14) hx hb dX12_coldRoom_18 (by decide) ?_
      refine lv_sipush (v := 1898) hx hb dX12_coldRoom_20 (by decide) ?_
      refine lv_iconst (v := 5) hx hb dX12_coldRoom_23 (by decide) ?_
      refine lv_iconst (v := 0) hx hb dX12_coldRoom_24 (by decide) ?_
      obtain ⟨o_6, hq, hf⟩ := bd_e hf
      refine mx_callV (As := [.int 14, .int 1898, .int 5, .int 0]) (rest := []) (wr := []) (d_X12_takesOut E l N h a_g a_kept a_tape a_written a_asked a_there a_counts a_lasts a_cames g kept isKept tape taped spot written writtenMany asked askedMany there counts lasts cames 14 1898 5 0  o_6 hq) B w [0, 1, 2, 3, 4, 5, 6, 7, 8, 9] [] rfl rfl (by decide) (by decide) (by decide) 0 rfl rfl cv_X12_takesOut kw_1357 4 (by decide +kernel) ⟨Nat.le_of_ble_eq_true rfl, Nat.le_of_ble_eq_true rfl⟩ rfl hl.1 rfl (Nat.le_of_ble_eq_true rfl) dX12_coldRoom_25 rfl rfl ⟨Nat.zero_le _, Nat.zero_le _⟩ (fun v w' H locs hpo w => ?_)
      clear hq
      obtain ⟨rfl, rfl⟩ := hpo
      have w : mW E A s [(h, .inr (11, [.ref a_g, .ref a_kept, .int isKept, .ref a_tape, .int taped, .int spot, .ref a_written, .int writtenMany, .ref a_asked, .int askedMany, .ref a_there, .ref a_counts, .ref a_lasts, .ref a_cames])), (a_g, .inl (E.2.1, 8787, .inl o_6)), (a_kept, .inl (E.2.1, 8787, .inl kept)), (a_tape, .inl (E.2.2.1, 60, .inl tape)), (a_written, .inl (E.2.1, 40, .inl written)), (a_asked, .inl (E.2.1, 60, .inl asked)), (a_there, .inl (E.2.1, 12, .inl there)), (a_counts, .inl (E.2.1, 12, .inl counts)), (a_lasts, .inl (E.2.1, 12, .inl lasts)), (a_cames, .inl (E.2.1, 12, .inl cames))] H locs := w
      refine lv_goto (tgt := 0) hx hb dX12_coldRoom_28 (by decide) ?_
      exact hrec _ _ _ _ hf  w (lv_sub hl [0] rfl)
noncomputable def F_X12_coldRoom (N : Nat)  (g : Nat → Int32)  : Option ((Nat → Int32)) :=
  ld g 8787 14 (fun v_1 =>
  ld g 8787 6 (fun v_2 =>
  if (v_1 ≤ v_2 : Prop) then
  some (g)
  else
  bd (F_X12_takesOut N g 14 1898 5 0) (fun o_3 =>
  L_X12_coldRoom_0 N (fun g => some (g)) N o_3)))
set_option maxHeartbeats 4000000 in
set_option maxRecDepth 100000 in
theorem d_X12_coldRoom (E : mE) (l : Launch) (N : Nat) (h : Nat) (a_g : Nat) (a_kept : Nat) (a_tape : Nat) (a_written : Nat) (a_asked : Nat) (a_there : Nat) (a_counts : Nat) (a_lasts : Nat) (a_cames : Nat)  (g : Nat → Int32) (kept : Nat → Int32) (isKept : Int32) (tape : Nat → Int32) (taped : Int32) (spot : Int32) (written : Nat → Int32) (writtenMany : Int32) (asked : Nat → Int32) (askedMany : Int32) (there : Nat → Int32) (counts : Nat → Int32) (lasts : Nat → Int32) (cames : Nat → Int32)    (o : (Nat → Int32)) (hf : F_X12_coldRoom N g = some o) : MX E l yX12_coldRoom cX12_coldRoom 1 none ({ frames := 1, cells := 0, slots := 0, locals := 25 } : Room) [.ref h] [(h, .inr (11, [.ref a_g, .ref a_kept, .int isKept, .ref a_tape, .int taped, .int spot, .ref a_written, .int writtenMany, .ref a_asked, .int askedMany, .ref a_there, .ref a_counts, .ref a_lasts, .ref a_cames])), (a_g, .inl (E.2.1, 8787, .inl g)), (a_kept, .inl (E.2.1, 8787, .inl kept)), (a_tape, .inl (E.2.2.1, 60, .inl tape)), (a_written, .inl (E.2.1, 40, .inl written)), (a_asked, .inl (E.2.1, 60, .inl asked)), (a_there, .inl (E.2.1, 12, .inl there)), (a_counts, .inl (E.2.1, 12, .inl counts)), (a_lasts, .inl (E.2.1, 12, .inl lasts)), (a_cames, .inl (E.2.1, 12, .inl cames))] (po_X12_coldRoom E h a_g a_kept a_tape a_written a_asked a_there a_counts a_lasts a_cames g kept isKept tape taped spot written writtenMany asked askedMany there counts lasts cames o) := by
  refine mx_intro (by decide +kernel) (Nat.le_of_ble_eq_true rfl) ?_
  intro p e s m args below meth c A Q ls B w hl
  obtain ⟨hx, hb, hml, hown, hts⟩ := id B.1
  unfold F_X12_coldRoom at hf
  have hl : lv_has ls 1 [(0, .ref h)] := hl
  refine lv_aload_n hx hb dX12_coldRoom_0 rfl (lv_at hl 0 rfl) ?_
  refine mx_get B w 0 fl_X12_9 rfl rfl dX12_coldRoom_1 ?_
  refine lv_bipush (v := 14) hx hb dX12_coldRoom_4 (by decide) ?_
  obtain ⟨hin, hf⟩ := ld_e hf
  refine mx_iald B w 1 rfl hin dX12_coldRoom_6 (fun v_1 ev => ?_)
  have hf := hf _ ev; clear ev
  refine lv_aload_n hx hb dX12_coldRoom_7 rfl (lv_at hl 0 rfl) ?_
  refine mx_get B w 0 fl_X12_9 rfl rfl dX12_coldRoom_8 ?_
  refine lv_bipush (v := 6) hx hb dX12_coldRoom_11 (by decide) ?_
  obtain ⟨hin, hf⟩ := ld_e hf
  refine mx_iald B w 1 rfl hin dX12_coldRoom_13 (fun v_2 ev => ?_)
  have hf := hf _ ev; clear ev
  refine lv_icmp_le (tgt := 31) hx hb dX12_coldRoom_14 (by decide) (fun hc => ?_) (fun hc => ?_)
  · have hf := it_t hc hf
    cases hf
    exact mx_vret B w ⟨rfl, rfl⟩ dX12_coldRoom_31
  · have hf := it_f hc hf
    refine lv_aload_n hx hb dX12_coldRoom_17 rfl (lv_at hl 0 rfl) ?_
    refine lv_bipush (v := 14) hx hb dX12_coldRoom_18 (by decide) ?_
    refine lv_sipush (v := 1898) hx hb dX12_coldRoom_20 (by decide) ?_
    refine lv_iconst (v := 5) hx hb dX12_coldRoom_23 (by decide) ?_
    refine lv_iconst (v := 0) hx hb dX12_coldRoom_24 (by decide) ?_
    obtain ⟨o_3, hq, hf⟩ := bd_e hf
    refine mx_callV (As := [.int 14, .int 1898, .int 5, .int 0]) (rest := []) (wr := []) (d_X12_takesOut E l N h a_g a_kept a_tape a_written a_asked a_there a_counts a_lasts a_cames g kept isKept tape taped spot written writtenMany asked askedMany there counts lasts cames 14 1898 5 0  o_3 hq) B w [0, 1, 2, 3, 4, 5, 6, 7, 8, 9] [] rfl rfl (by decide) (by decide) (by decide) 0 rfl rfl cv_X12_takesOut kw_1357 4 (by decide +kernel) ⟨Nat.le_of_ble_eq_true rfl, Nat.le_of_ble_eq_true rfl⟩ rfl hl.1 rfl (Nat.le_of_ble_eq_true rfl) dX12_coldRoom_25 rfl rfl ⟨Nat.zero_le _, Nat.zero_le _⟩ (fun v w' H locs hpo w => ?_)
    clear hq
    obtain ⟨rfl, rfl⟩ := hpo
    have w : mW E A s [(h, .inr (11, [.ref a_g, .ref a_kept, .int isKept, .ref a_tape, .int taped, .int spot, .ref a_written, .int writtenMany, .ref a_asked, .int askedMany, .ref a_there, .ref a_counts, .ref a_lasts, .ref a_cames])), (a_g, .inl (E.2.1, 8787, .inl o_3)), (a_kept, .inl (E.2.1, 8787, .inl kept)), (a_tape, .inl (E.2.2.1, 60, .inl tape)), (a_written, .inl (E.2.1, 40, .inl written)), (a_asked, .inl (E.2.1, 60, .inl asked)), (a_there, .inl (E.2.1, 12, .inl there)), (a_counts, .inl (E.2.1, 12, .inl counts)), (a_lasts, .inl (E.2.1, 12, .inl lasts)), (a_cames, .inl (E.2.1, 12, .inl cames))] H locs := w
    refine lv_goto (tgt := 0) hx hb dX12_coldRoom_28 (by decide) ?_
    refine l_X12_coldRoom_0 B _  ?_ N _ _ _ _ hf  w (lv_sub hl [0] rfl)
    · intro g H locs ls hf w hl
      cases hf
      exact mx_vret B w ⟨rfl, rfl⟩ dX12_coldRoom_31
-- X12_cools
def po_X12_cools (E : mE) (h : Nat) (a_g : Nat) (a_kept : Nat) (a_tape : Nat) (a_written : Nat) (a_asked : Nat) (a_there : Nat) (a_counts : Nat) (a_lasts : Nat) (a_cames : Nat)  (g : Nat → Int32) (kept : Nat → Int32) (isKept : Int32) (tape : Nat → Int32) (taped : Int32) (spot : Int32) (written : Nat → Int32) (writtenMany : Int32) (asked : Nat → Int32) (askedMany : Int32) (there : Nat → Int32) (counts : Nat → Int32) (lasts : Nat → Int32) (cames : Nat → Int32)  (o : (Nat → Int32)) : Option Value → va_W → Prop := (fun (v : Option Value) (w' : va_W) => v = none ∧ w' = [(h, .inr (11, [.ref a_g, .ref a_kept, .int isKept, .ref a_tape, .int taped, .int spot, .ref a_written, .int writtenMany, .ref a_asked, .int askedMany, .ref a_there, .ref a_counts, .ref a_lasts, .ref a_cames])), (a_g, .inl (E.2.1, 8787, .inl o)), (a_kept, .inl (E.2.1, 8787, .inl kept)), (a_tape, .inl (E.2.2.1, 60, .inl tape)), (a_written, .inl (E.2.1, 40, .inl written)), (a_asked, .inl (E.2.1, 60, .inl asked)), (a_there, .inl (E.2.1, 12, .inl there)), (a_counts, .inl (E.2.1, 12, .inl counts)), (a_lasts, .inl (E.2.1, 12, .inl lasts)), (a_cames, .inl (E.2.1, 12, .inl cames))])
noncomputable def F_X12_cools (N : Nat)  (g : Nat → Int32) (x1 : Int32) (x2 : Int32) (x3 : Int32) (x4 : Int32) (x5 : Int32) : Option ((Nat → Int32)) :=
  ld g 8787 14 (fun v_1 =>
  lt (1898 + (v_1 * 5)) (fun x6_2 =>
  sto g 8787 (x6_2 + 0) x1 (fun g_3 =>
  sto g_3 8787 (x6_2 + 1) x2 (fun g_4 =>
  sto g_4 8787 (x6_2 + 2) x3 (fun g_5 =>
  sto g_5 8787 (x6_2 + 3) x4 (fun g_6 =>
  sto g_6 8787 (x6_2 + 4) x5 (fun g_7 =>
  ld g_7 8787 14 (fun v_8 =>
  sto g_7 8787 14 (v_8 + 1) (fun g_9 =>
  bd (F_X12_coldRoom N g_9) (fun o_10 =>
  some (o_10)))))))))))
set_option maxHeartbeats 4000000 in
set_option maxRecDepth 100000 in
theorem d_X12_cools (E : mE) (l : Launch) (N : Nat) (h : Nat) (a_g : Nat) (a_kept : Nat) (a_tape : Nat) (a_written : Nat) (a_asked : Nat) (a_there : Nat) (a_counts : Nat) (a_lasts : Nat) (a_cames : Nat)  (g : Nat → Int32) (kept : Nat → Int32) (isKept : Int32) (tape : Nat → Int32) (taped : Int32) (spot : Int32) (written : Nat → Int32) (writtenMany : Int32) (asked : Nat → Int32) (askedMany : Int32) (there : Nat → Int32) (counts : Nat → Int32) (lasts : Nat → Int32) (cames : Nat → Int32)  (x1 : Int32) (x2 : Int32) (x3 : Int32) (x4 : Int32) (x5 : Int32)  (o : (Nat → Int32)) (hf : F_X12_cools N g x1 x2 x3 x4 x5 = some o) : MX E l yX12_cools cX12_cools 7 none ({ frames := 2, cells := 0, slots := 0, locals := 45 } : Room) [.ref h, .int x1, .int x2, .int x3, .int x4, .int x5] [(h, .inr (11, [.ref a_g, .ref a_kept, .int isKept, .ref a_tape, .int taped, .int spot, .ref a_written, .int writtenMany, .ref a_asked, .int askedMany, .ref a_there, .ref a_counts, .ref a_lasts, .ref a_cames])), (a_g, .inl (E.2.1, 8787, .inl g)), (a_kept, .inl (E.2.1, 8787, .inl kept)), (a_tape, .inl (E.2.2.1, 60, .inl tape)), (a_written, .inl (E.2.1, 40, .inl written)), (a_asked, .inl (E.2.1, 60, .inl asked)), (a_there, .inl (E.2.1, 12, .inl there)), (a_counts, .inl (E.2.1, 12, .inl counts)), (a_lasts, .inl (E.2.1, 12, .inl lasts)), (a_cames, .inl (E.2.1, 12, .inl cames))] (po_X12_cools E h a_g a_kept a_tape a_written a_asked a_there a_counts a_lasts a_cames g kept isKept tape taped spot written writtenMany asked askedMany there counts lasts cames o) := by
  refine mx_intro (by decide +kernel) (Nat.le_of_ble_eq_true rfl) ?_
  intro p e s m args below meth c A Q ls B w hl
  obtain ⟨hx, hb, hml, hown, hts⟩ := id B.1
  unfold F_X12_cools at hf
  have hl : lv_has ls 7 [(0, .ref h), (1, .int x1), (2, .int x2), (3, .int x3), (4, .int x4), (5, .int x5)] := hl
  refine lv_sipush (v := 1898) hx hb dX12_cools_0 (by decide) ?_
  refine lv_aload_n hx hb dX12_cools_3 rfl (lv_at hl 0 rfl) ?_
  refine mx_get B w 0 fl_X12_9 rfl rfl dX12_cools_4 ?_
  refine lv_bipush (v := 14) hx hb dX12_cools_7 (by decide) ?_
  obtain ⟨hin, hf⟩ := ld_e hf
  refine mx_iald B w 1 rfl hin dX12_cools_9 (fun v_1 ev => ?_)
  have hf := hf _ ev; clear ev
  refine lv_iconst (v := 5) hx hb dX12_cools_10 (by decide) ?_
  refine lv_imul hx hb dX12_cools_11 ?_
  refine lv_iadd hx hb dX12_cools_12 ?_
  refine lv_topi (fun x6_2 ev => ?_)
  have hf := lt_n ev hf; clear ev
  refine lv_istore (lv' := [(6, .int x6_2), (0, .ref h), (1, .int x1), (2, .int x2), (3, .int x3), (4, .int x4), (5, .int x5)]) hx hb dX12_cools_13 hl (by decide) rfl (fun ls hl => ?_)
  refine lv_aload_n hx hb dX12_cools_15 rfl (lv_at hl 1 rfl) ?_
  refine mx_get B w 0 fl_X12_9 rfl rfl dX12_cools_16 ?_
  refine lv_iload hx hb dX12_cools_19 (lv_at hl 0 rfl) ?_
  refine lv_iconst (v := 0) hx hb dX12_cools_21 (by decide) ?_
  refine lv_iadd hx hb dX12_cools_22 ?_
  refine lv_iload_n hx hb dX12_cools_23 rfl (lv_at hl 2 rfl) ?_
  obtain ⟨hin, hf⟩ := sto_e hf
  refine mx_iast B w 1 rfl hin dX12_cools_24 (fun g_3 H locs ev w => ?_)
  have hf := hf _ ev; clear ev
  have w : mW E A s [(h, .inr (11, [.ref a_g, .ref a_kept, .int isKept, .ref a_tape, .int taped, .int spot, .ref a_written, .int writtenMany, .ref a_asked, .int askedMany, .ref a_there, .ref a_counts, .ref a_lasts, .ref a_cames])), (a_g, .inl (E.2.1, 8787, .inl g_3)), (a_kept, .inl (E.2.1, 8787, .inl kept)), (a_tape, .inl (E.2.2.1, 60, .inl tape)), (a_written, .inl (E.2.1, 40, .inl written)), (a_asked, .inl (E.2.1, 60, .inl asked)), (a_there, .inl (E.2.1, 12, .inl there)), (a_counts, .inl (E.2.1, 12, .inl counts)), (a_lasts, .inl (E.2.1, 12, .inl lasts)), (a_cames, .inl (E.2.1, 12, .inl cames))] H locs := w
  refine lv_aload_n hx hb dX12_cools_25 rfl (lv_at hl 1 rfl) ?_
  refine mx_get B w 0 fl_X12_9 rfl rfl dX12_cools_26 ?_
  refine lv_iload hx hb dX12_cools_29 (lv_at hl 0 rfl) ?_
  refine lv_iconst (v := 1) hx hb dX12_cools_31 (by decide) ?_
  refine lv_iadd hx hb dX12_cools_32 ?_
  refine lv_iload_n hx hb dX12_cools_33 rfl (lv_at hl 3 rfl) ?_
  obtain ⟨hin, hf⟩ := sto_e hf
  refine mx_iast B w 1 rfl hin dX12_cools_34 (fun g_4 H locs ev w => ?_)
  have hf := hf _ ev; clear ev
  have w : mW E A s [(h, .inr (11, [.ref a_g, .ref a_kept, .int isKept, .ref a_tape, .int taped, .int spot, .ref a_written, .int writtenMany, .ref a_asked, .int askedMany, .ref a_there, .ref a_counts, .ref a_lasts, .ref a_cames])), (a_g, .inl (E.2.1, 8787, .inl g_4)), (a_kept, .inl (E.2.1, 8787, .inl kept)), (a_tape, .inl (E.2.2.1, 60, .inl tape)), (a_written, .inl (E.2.1, 40, .inl written)), (a_asked, .inl (E.2.1, 60, .inl asked)), (a_there, .inl (E.2.1, 12, .inl there)), (a_counts, .inl (E.2.1, 12, .inl counts)), (a_lasts, .inl (E.2.1, 12, .inl lasts)), (a_cames, .inl (E.2.1, 12, .inl cames))] H locs := w
  refine lv_aload_n hx hb dX12_cools_35 rfl (lv_at hl 1 rfl) ?_
  refine mx_get B w 0 fl_X12_9 rfl rfl dX12_cools_36 ?_
  refine lv_iload hx hb dX12_cools_39 (lv_at hl 0 rfl) ?_
  refine lv_iconst (v := 2) hx hb dX12_cools_41 (by decide) ?_
  refine lv_iadd hx hb dX12_cools_42 ?_
  refine lv_iload_n hx hb dX12_cools_43 rfl (lv_at hl 4 rfl) ?_
  obtain ⟨hin, hf⟩ := sto_e hf
  refine mx_iast B w 1 rfl hin dX12_cools_44 (fun g_5 H locs ev w => ?_)
  have hf := hf _ ev; clear ev
  have w : mW E A s [(h, .inr (11, [.ref a_g, .ref a_kept, .int isKept, .ref a_tape, .int taped, .int spot, .ref a_written, .int writtenMany, .ref a_asked, .int askedMany, .ref a_there, .ref a_counts, .ref a_lasts, .ref a_cames])), (a_g, .inl (E.2.1, 8787, .inl g_5)), (a_kept, .inl (E.2.1, 8787, .inl kept)), (a_tape, .inl (E.2.2.1, 60, .inl tape)), (a_written, .inl (E.2.1, 40, .inl written)), (a_asked, .inl (E.2.1, 60, .inl asked)), (a_there, .inl (E.2.1, 12, .inl there)), (a_counts, .inl (E.2.1, 12, .inl counts)), (a_lasts, .inl (E.2.1, 12, .inl lasts)), (a_cames, .inl (E.2.1, 12, .inl cames))] H locs := w
  refine lv_aload_n hx hb dX12_cools_45 rfl (lv_at hl 1 rfl) ?_
  refine mx_get B w 0 fl_X12_9 rfl rfl dX12_cools_46 ?_
  refine lv_iload hx hb dX12_cools_49 (lv_at hl 0 rfl) ?_
  refine lv_iconst (v := 3) hx hb dX12_cools_51 (by decide) ?_
  refine lv_iadd hx hb dX12_cools_52 ?_
  refine lv_iload hx hb dX12_cools_53 (lv_at hl 5 rfl) ?_
  obtain ⟨hin, hf⟩ := sto_e hf
  refine mx_iast B w 1 rfl hin dX12_cools_55 (fun g_6 H locs ev w => ?_)
  have hf := hf _ ev; clear ev
  have w : mW E A s [(h, .inr (11, [.ref a_g, .ref a_kept, .int isKept, .ref a_tape, .int taped, .int spot, .ref a_written, .int writtenMany, .ref a_asked, .int askedMany, .ref a_there, .ref a_counts, .ref a_lasts, .ref a_cames])), (a_g, .inl (E.2.1, 8787, .inl g_6)), (a_kept, .inl (E.2.1, 8787, .inl kept)), (a_tape, .inl (E.2.2.1, 60, .inl tape)), (a_written, .inl (E.2.1, 40, .inl written)), (a_asked, .inl (E.2.1, 60, .inl asked)), (a_there, .inl (E.2.1, 12, .inl there)), (a_counts, .inl (E.2.1, 12, .inl counts)), (a_lasts, .inl (E.2.1, 12, .inl lasts)), (a_cames, .inl (E.2.1, 12, .inl cames))] H locs := w
  refine lv_aload_n hx hb dX12_cools_56 rfl (lv_at hl 1 rfl) ?_
  refine mx_get B w 0 fl_X12_9 rfl rfl dX12_cools_57 ?_
  refine lv_iload hx hb dX12_cools_60 (lv_at hl 0 rfl) ?_
  refine lv_iconst (v := 4) hx hb dX12_cools_62 (by decide) ?_
  refine lv_iadd hx hb dX12_cools_63 ?_
  refine lv_iload hx hb dX12_cools_64 (lv_at hl 6 rfl) ?_
  obtain ⟨hin, hf⟩ := sto_e hf
  refine mx_iast B w 1 rfl hin dX12_cools_66 (fun g_7 H locs ev w => ?_)
  have hf := hf _ ev; clear ev
  have w : mW E A s [(h, .inr (11, [.ref a_g, .ref a_kept, .int isKept, .ref a_tape, .int taped, .int spot, .ref a_written, .int writtenMany, .ref a_asked, .int askedMany, .ref a_there, .ref a_counts, .ref a_lasts, .ref a_cames])), (a_g, .inl (E.2.1, 8787, .inl g_7)), (a_kept, .inl (E.2.1, 8787, .inl kept)), (a_tape, .inl (E.2.2.1, 60, .inl tape)), (a_written, .inl (E.2.1, 40, .inl written)), (a_asked, .inl (E.2.1, 60, .inl asked)), (a_there, .inl (E.2.1, 12, .inl there)), (a_counts, .inl (E.2.1, 12, .inl counts)), (a_lasts, .inl (E.2.1, 12, .inl lasts)), (a_cames, .inl (E.2.1, 12, .inl cames))] H locs := w
  refine lv_aload_n hx hb dX12_cools_67 rfl (lv_at hl 1 rfl) ?_
  refine mx_get B w 0 fl_X12_9 rfl rfl dX12_cools_68 ?_
  refine lv_bipush (v := 14) hx hb dX12_cools_71 (by decide) ?_
  refine lv_dup2_11 hx hb dX12_cools_73 rfl rfl ?_
  obtain ⟨hin, hf⟩ := ld_e hf
  refine mx_iald B w 1 rfl hin dX12_cools_74 (fun v_8 ev => ?_)
  have hf := hf _ ev; clear ev
  refine lv_iconst (v := 1) hx hb dX12_cools_75 (by decide) ?_
  refine lv_iadd hx hb dX12_cools_76 ?_
  obtain ⟨hin, hf⟩ := sto_e hf
  refine mx_iast B w 1 rfl hin dX12_cools_77 (fun g_9 H locs ev w => ?_)
  have hf := hf _ ev; clear ev
  have w : mW E A s [(h, .inr (11, [.ref a_g, .ref a_kept, .int isKept, .ref a_tape, .int taped, .int spot, .ref a_written, .int writtenMany, .ref a_asked, .int askedMany, .ref a_there, .ref a_counts, .ref a_lasts, .ref a_cames])), (a_g, .inl (E.2.1, 8787, .inl g_9)), (a_kept, .inl (E.2.1, 8787, .inl kept)), (a_tape, .inl (E.2.2.1, 60, .inl tape)), (a_written, .inl (E.2.1, 40, .inl written)), (a_asked, .inl (E.2.1, 60, .inl asked)), (a_there, .inl (E.2.1, 12, .inl there)), (a_counts, .inl (E.2.1, 12, .inl counts)), (a_lasts, .inl (E.2.1, 12, .inl lasts)), (a_cames, .inl (E.2.1, 12, .inl cames))] H locs := w
  refine lv_aload_n hx hb dX12_cools_78 rfl (lv_at hl 1 rfl) ?_
  obtain ⟨o_10, hq, hf⟩ := bd_e hf
  refine mx_callV (As := []) (rest := []) (wr := []) (d_X12_coldRoom E l N h a_g a_kept a_tape a_written a_asked a_there a_counts a_lasts a_cames g_9 kept isKept tape taped spot written writtenMany asked askedMany there counts lasts cames   o_10 hq) B w [0, 1, 2, 3, 4, 5, 6, 7, 8, 9] [] rfl rfl (by decide) (by decide) (by decide) 0 rfl rfl cv_X12_coldRoom kw_1353 0 (by decide +kernel) ⟨Nat.le_of_ble_eq_true rfl, Nat.le_of_ble_eq_true rfl⟩ rfl hl.1 rfl (Nat.le_of_ble_eq_true rfl) dX12_cools_79 rfl rfl ⟨Nat.zero_le _, Nat.zero_le _⟩ (fun v w' H locs hpo w => ?_)
  clear hq
  obtain ⟨rfl, rfl⟩ := hpo
  have w : mW E A s [(h, .inr (11, [.ref a_g, .ref a_kept, .int isKept, .ref a_tape, .int taped, .int spot, .ref a_written, .int writtenMany, .ref a_asked, .int askedMany, .ref a_there, .ref a_counts, .ref a_lasts, .ref a_cames])), (a_g, .inl (E.2.1, 8787, .inl o_10)), (a_kept, .inl (E.2.1, 8787, .inl kept)), (a_tape, .inl (E.2.2.1, 60, .inl tape)), (a_written, .inl (E.2.1, 40, .inl written)), (a_asked, .inl (E.2.1, 60, .inl asked)), (a_there, .inl (E.2.1, 12, .inl there)), (a_counts, .inl (E.2.1, 12, .inl counts)), (a_lasts, .inl (E.2.1, 12, .inl lasts)), (a_cames, .inl (E.2.1, 12, .inl cames))] H locs := w
  cases hf
  exact mx_vret B w ⟨rfl, rfl⟩ dX12_cools_82
-- X12_slot
def po_X12_slot (E : mE) (h : Nat) (a_g : Nat) (a_kept : Nat) (a_tape : Nat) (a_written : Nat) (a_asked : Nat) (a_there : Nat) (a_counts : Nat) (a_lasts : Nat) (a_cames : Nat)  (g : Nat → Int32) (kept : Nat → Int32) (isKept : Int32) (tape : Nat → Int32) (taped : Int32) (spot : Int32) (written : Nat → Int32) (writtenMany : Int32) (asked : Nat → Int32) (askedMany : Int32) (there : Nat → Int32) (counts : Nat → Int32) (lasts : Nat → Int32) (cames : Nat → Int32)  (o : Int32 × (Nat → Int32)) : Option Value → va_W → Prop := (fun (v : Option Value) (w' : va_W) => v = some (.int o.1) ∧ w' = [(h, .inr (11, [.ref a_g, .ref a_kept, .int isKept, .ref a_tape, .int taped, .int spot, .ref a_written, .int writtenMany, .ref a_asked, .int askedMany, .ref a_there, .ref a_counts, .ref a_lasts, .ref a_cames])), (a_g, .inl (E.2.1, 8787, .inl o.2)), (a_kept, .inl (E.2.1, 8787, .inl kept)), (a_tape, .inl (E.2.2.1, 60, .inl tape)), (a_written, .inl (E.2.1, 40, .inl written)), (a_asked, .inl (E.2.1, 60, .inl asked)), (a_there, .inl (E.2.1, 12, .inl there)), (a_counts, .inl (E.2.1, 12, .inl counts)), (a_lasts, .inl (E.2.1, 12, .inl lasts)), (a_cames, .inl (E.2.1, 12, .inl cames))])
noncomputable def J_X12_slot_61 (N : Nat)   (x1 : Int32) (x2 : Int32) (x3 : Int32) (g : Nat → Int32) : Option (Int32 × (Nat → Int32)) :=
  ld g 8787 x1 (fun v_2 =>
  sto g 8787 x1 (v_2 + 1) (fun g_3 =>
  ld g_3 8787 x1 (fun v_4 =>
  some (x2 + ((v_4 - 1) * x3), g_3))))
set_option maxHeartbeats 4000000 in
set_option maxRecDepth 100000 in
theorem j_X12_slot_61 {E : mE} {l : Launch} {p : Program} {e : Env} {s : State} {m : MethodId} {args : Array Value} {below : List Frame} {meth : Method} {c : Code} {A : Nat → Prop} {Q : State → Prop} {N : Nat} {h : Nat} {a_g : Nat} {a_kept : Nat} {a_tape : Nat} {a_written : Nat} {a_asked : Nat} {a_there : Nat} {a_counts : Nat} {a_lasts : Nat} {a_cames : Nat}  {g0 : Nat → Int32} {kept : Nat → Int32} {isKept : Int32} {tape : Nat → Int32} {taped : Int32} {spot : Int32} {written : Nat → Int32} {writtenMany : Int32} {asked : Nat → Int32} {askedMany : Int32} {there : Nat → Int32} {counts : Nat → Int32} {lasts : Nat → Int32} {cames : Nat → Int32}  {o : Int32 × (Nat → Int32)} (B : mB E yX12_slot cX12_slot 6 (some .int) 0 0 (po_X12_slot E h a_g a_kept a_tape a_written a_asked a_there a_counts a_lasts a_cames g0 kept isKept tape taped spot written writtenMany asked askedMany there counts lasts cames o) p s m args below meth c A Q) {x1 : Int32} {x2 : Int32} {x3 : Int32} {g : Nat → Int32}    {H : Heap} {locs : List Loc} {ls : Array Slot} (hf : J_X12_slot_61 N x1 x2 x3 g = some o)  (w : mW E A s [(h, .inr (11, [.ref a_g, .ref a_kept, .int isKept, .ref a_tape, .int taped, .int spot, .ref a_written, .int writtenMany, .ref a_asked, .int askedMany, .ref a_there, .ref a_counts, .ref a_lasts, .ref a_cames])), (a_g, .inl (E.2.1, 8787, .inl g)), (a_kept, .inl (E.2.1, 8787, .inl kept)), (a_tape, .inl (E.2.2.1, 60, .inl tape)), (a_written, .inl (E.2.1, 40, .inl written)), (a_asked, .inl (E.2.1, 60, .inl asked)), (a_there, .inl (E.2.1, 12, .inl there)), (a_counts, .inl (E.2.1, 12, .inl counts)), (a_lasts, .inl (E.2.1, 12, .inl lasts)), (a_cames, .inl (E.2.1, 12, .inl cames))] H locs) (hl : lv_has ls 6 [(0, .ref h), (1, .int x1), (2, .int x2), (3, .int x3)]) : W p l e ({ frames := 0, cells := 0, slots := 0, locals := 0 } : Room) s m args below meth c H locs 0 0 Q (F0 m 61 ls []) := by
  obtain ⟨hx, hb, hml, hown, hts⟩ := id B.1
  unfold J_X12_slot_61 at hf
  refine lv_aload_n hx hb dX12_slot_61 rfl (lv_at hl 0 rfl) ?_
  refine mx_get B w 0 fl_X12_9 rfl rfl dX12_slot_62 ?_
  refine lv_iload_n hx hb dX12_slot_65 rfl (lv_at hl 1 rfl) ?_
  refine lv_dup2_11 hx hb dX12_slot_66 rfl rfl ?_
  obtain ⟨hin, hf⟩ := ld_e hf
  refine mx_iald B w 1 rfl hin dX12_slot_67 (fun v_2 ev => ?_)
  have hf := hf _ ev; clear ev
  refine lv_iconst (v := 1) hx hb dX12_slot_68 (by decide) ?_
  refine lv_iadd hx hb dX12_slot_69 ?_
  obtain ⟨hin, hf⟩ := sto_e hf
  refine mx_iast B w 1 rfl hin dX12_slot_70 (fun g_3 H locs ev w => ?_)
  have hf := hf _ ev; clear ev
  have w : mW E A s [(h, .inr (11, [.ref a_g, .ref a_kept, .int isKept, .ref a_tape, .int taped, .int spot, .ref a_written, .int writtenMany, .ref a_asked, .int askedMany, .ref a_there, .ref a_counts, .ref a_lasts, .ref a_cames])), (a_g, .inl (E.2.1, 8787, .inl g_3)), (a_kept, .inl (E.2.1, 8787, .inl kept)), (a_tape, .inl (E.2.2.1, 60, .inl tape)), (a_written, .inl (E.2.1, 40, .inl written)), (a_asked, .inl (E.2.1, 60, .inl asked)), (a_there, .inl (E.2.1, 12, .inl there)), (a_counts, .inl (E.2.1, 12, .inl counts)), (a_lasts, .inl (E.2.1, 12, .inl lasts)), (a_cames, .inl (E.2.1, 12, .inl cames))] H locs := w
  refine lv_iload_n hx hb dX12_slot_71 rfl (lv_at hl 2 rfl) ?_
  refine lv_aload_n hx hb dX12_slot_72 rfl (lv_at hl 0 rfl) ?_
  refine mx_get B w 0 fl_X12_9 rfl rfl dX12_slot_73 ?_
  refine lv_iload_n hx hb dX12_slot_76 rfl (lv_at hl 1 rfl) ?_
  obtain ⟨hin, hf⟩ := ld_e hf
  refine mx_iald B w 1 rfl hin dX12_slot_77 (fun v_4 ev => ?_)
  have hf := hf _ ev; clear ev
  refine lv_iconst (v := 1) hx hb dX12_slot_78 (by decide) ?_
  refine lv_isub hx hb dX12_slot_79 ?_
  refine lv_iload_n hx hb dX12_slot_80 rfl (lv_at hl 3 rfl) ?_
  refine lv_imul hx hb dX12_slot_81 ?_
  refine lv_iadd hx hb dX12_slot_82 ?_
  cases hf
  exact mx_iret B w ⟨rfl, rfl⟩ dX12_slot_83
noncomputable def K_X12_slot_14 (N : Nat)  (rec : Int32 → (Nat → Int32) → (Option (Int32 × (Nat → Int32)))) (k51 : (Nat → Int32) → (Option (Int32 × (Nat → Int32)))) (x1 : Int32) (x2 : Int32) (x3 : Int32) (x4 : Int32)  (x5 : Int32) (g : Nat → Int32) : Option (Int32 × (Nat → Int32)) :=
  if (((x4 - 1) * x3) ≤ x5 : Prop) then
  k51 g
  else
  ld g 8787 ((x2 + x5) + x3) (fun v_5 =>
  sto g 8787 (x2 + x5) v_5 (fun g_6 =>
  lt (x5 + 1) (fun x5_7 =>
  rec x5_7 g_6)))
noncomputable def L_X12_slot_14 (N : Nat)  (k51 : (Nat → Int32) → (Option (Int32 × (Nat → Int32)))) (x1 : Int32) (x2 : Int32) (x3 : Int32) (x4 : Int32)  (n : Nat) : Int32 → (Nat → Int32) → (Option (Int32 × (Nat → Int32))) :=
  Nat.rec (motive := fun _ => Int32 → (Nat → Int32) → (Option (Int32 × (Nat → Int32)))) (fun _ _ => none) (fun _ rec => K_X12_slot_14 N rec k51 x1 x2 x3 x4) n
set_option maxHeartbeats 4000000 in
set_option maxRecDepth 100000 in
theorem l_X12_slot_14 {E : mE} {l : Launch} {p : Program} {e : Env} {s : State} {m : MethodId} {args : Array Value} {below : List Frame} {meth : Method} {c : Code} {A : Nat → Prop} {Q : State → Prop} {N : Nat} {h : Nat} {a_g : Nat} {a_kept : Nat} {a_tape : Nat} {a_written : Nat} {a_asked : Nat} {a_there : Nat} {a_counts : Nat} {a_lasts : Nat} {a_cames : Nat}  {g0 : Nat → Int32} {kept : Nat → Int32} {isKept : Int32} {tape : Nat → Int32} {taped : Int32} {spot : Int32} {written : Nat → Int32} {writtenMany : Int32} {asked : Nat → Int32} {askedMany : Int32} {there : Nat → Int32} {counts : Nat → Int32} {lasts : Nat → Int32} {cames : Nat → Int32}  {o : Int32 × (Nat → Int32)} (B : mB E yX12_slot cX12_slot 6 (some .int) 0 0 (po_X12_slot E h a_g a_kept a_tape a_written a_asked a_there a_counts a_lasts a_cames g0 kept isKept tape taped spot written writtenMany asked askedMany there counts lasts cames o) p s m args below meth c A Q)   {x1 : Int32} {x2 : Int32} {x3 : Int32} {x4 : Int32} (k51 : (Nat → Int32) → (Option (Int32 × (Nat → Int32))))  (hk51 : ∀  (g : Nat → Int32)  (H : Heap) (locs : List Loc) (ls : Array Slot), k51 g = some o → mW E A s [(h, .inr (11, [.ref a_g, .ref a_kept, .int isKept, .ref a_tape, .int taped, .int spot, .ref a_written, .int writtenMany, .ref a_asked, .int askedMany, .ref a_there, .ref a_counts, .ref a_lasts, .ref a_cames])), (a_g, .inl (E.2.1, 8787, .inl g)), (a_kept, .inl (E.2.1, 8787, .inl kept)), (a_tape, .inl (E.2.2.1, 60, .inl tape)), (a_written, .inl (E.2.1, 40, .inl written)), (a_asked, .inl (E.2.1, 60, .inl asked)), (a_there, .inl (E.2.1, 12, .inl there)), (a_counts, .inl (E.2.1, 12, .inl counts)), (a_lasts, .inl (E.2.1, 12, .inl lasts)), (a_cames, .inl (E.2.1, 12, .inl cames))] H locs → lv_has ls 6 [(0, .ref h), (1, .int x1), (2, .int x2), (3, .int x3)] → W p l e ({ frames := 0, cells := 0, slots := 0, locals := 0 } : Room) s m args below meth c H locs 0 0 Q (F0 m 51 ls [])) : ∀ n : Nat, ∀ (x5 : Int32) (g : Nat → Int32)  (H : Heap) (locs : List Loc) (ls : Array Slot), L_X12_slot_14 N k51 x1 x2 x3 x4 n x5 g = some o → mW E A s [(h, .inr (11, [.ref a_g, .ref a_kept, .int isKept, .ref a_tape, .int taped, .int spot, .ref a_written, .int writtenMany, .ref a_asked, .int askedMany, .ref a_there, .ref a_counts, .ref a_lasts, .ref a_cames])), (a_g, .inl (E.2.1, 8787, .inl g)), (a_kept, .inl (E.2.1, 8787, .inl kept)), (a_tape, .inl (E.2.2.1, 60, .inl tape)), (a_written, .inl (E.2.1, 40, .inl written)), (a_asked, .inl (E.2.1, 60, .inl asked)), (a_there, .inl (E.2.1, 12, .inl there)), (a_counts, .inl (E.2.1, 12, .inl counts)), (a_lasts, .inl (E.2.1, 12, .inl lasts)), (a_cames, .inl (E.2.1, 12, .inl cames))] H locs → lv_has ls 6 [(0, .ref h), (1, .int x1), (2, .int x2), (3, .int x3), (4, .int x4), (5, .int x5)] → W p l e ({ frames := 0, cells := 0, slots := 0, locals := 0 } : Room) s m args below meth c H locs 0 0 Q (F0 m 14 ls []) := by
  obtain ⟨hx, hb, hml, hown, hts⟩ := id B.1
  intro n
  induction n with
  | zero =>
    intro x5 g H locs ls hf w hl
    exact nomatch hf
  | succ n hrec =>
    intro x5 g H locs ls hf w hl
    have hf : K_X12_slot_14 N (L_X12_slot_14 N k51 x1 x2 x3 x4 n) k51 x1 x2 x3 x4 x5 g = some o := hf
    unfold K_X12_slot_14 at hf
    refine lv_iload hx hb dX12_slot_14 (lv_at hl 5 rfl) ?_
    refine lv_iload hx hb dX12_slot_16 (lv_at hl 4 rfl) ?_
    refine lv_iconst (v := 1) hx hb dX12_slot_18 (by decide) ?_
    refine lv_isub hx hb dX12_slot_19 ?_
    refine lv_iload_n hx hb dX12_slot_20 rfl (lv_at hl 3 rfl) ?_
    refine lv_imul hx hb dX12_slot_21 ?_
    refine lv_icmp_ge (tgt := 51) hx hb dX12_slot_22 (by decide) (fun hc => ?_) (fun hc => ?_)
    · have hf := it_t hc hf
      exact hk51 _ _ _ _ hf  w (lv_sub hl [0, 1, 2, 3] rfl)
    · have hf := it_f hc hf
      refine lv_aload_n hx hb dX12_slot_25 rfl (lv_at hl 0 rfl) ?_
      refine mx_get B w 0 fl_X12_9 rfl rfl dX12_slot_26 ?_
      refine lv_iload_n hx hb dX12_slot_29 rfl (lv_at hl 2 rfl) ?_
      refine lv_iload hx hb dX12_slot_30 (lv_at hl 5 rfl) ?_
      refine lv_iadd hx hb dX12_slot_32 ?_
      refine lv_aload_n hx hb dX12_slot_33 rfl (lv_at hl 0 rfl) ?_
      refine mx_get B w 0 fl_X12_9 rfl rfl dX12_slot_34 ?_
      refine lv_iload_n hx hb dX12_slot_37 rfl (lv_at hl 2 rfl) ?_
      refine lv_iload hx hb dX12_slot_38 (lv_at hl 5 rfl) ?_
      refine lv_iadd hx hb dX12_slot_40 ?_
      refine lv_iload_n hx hb dX12_slot_41 rfl (lv_at hl 3 rfl) ?_
      refine lv_iadd hx hb dX12_slot_42 ?_
      obtain ⟨hin, hf⟩ := ld_e hf
      refine mx_iald B w 1 rfl hin dX12_slot_43 (fun v_5 ev => ?_)
      have hf := hf _ ev; clear ev
      obtain ⟨hin, hf⟩ := sto_e hf
      refine mx_iast B w 1 rfl hin dX12_slot_44 (fun g_6 H locs ev w => ?_)
      have hf := hf _ ev; clear ev
      have w : mW E A s [(h, .inr (11, [.ref a_g, .ref a_kept, .int isKept, .ref a_tape, .int taped, .int spot, .ref a_written, .int writtenMany, .ref a_asked, .int askedMany, .ref a_there, .ref a_counts, .ref a_lasts, .ref a_cames])), (a_g, .inl (E.2.1, 8787, .inl g_6)), (a_kept, .inl (E.2.1, 8787, .inl kept)), (a_tape, .inl (E.2.2.1, 60, .inl tape)), (a_written, .inl (E.2.1, 40, .inl written)), (a_asked, .inl (E.2.1, 60, .inl asked)), (a_there, .inl (E.2.1, 12, .inl there)), (a_counts, .inl (E.2.1, 12, .inl counts)), (a_lasts, .inl (E.2.1, 12, .inl lasts)), (a_cames, .inl (E.2.1, 12, .inl cames))] H locs := w
      obtain ⟨x5_7, ev⟩ : ∃ y : Int32, y = x5 + 1 := ⟨_, rfl⟩
      refine lv_iinc (v := x5_7) (lv' := [(5, .int x5_7), (0, .ref h), (1, .int x1), (2, .int x2), (3, .int x3), (4, .int x4)]) hx hb dX12_slot_45 hl (k := 5) rfl (by rw [ev]; rfl) (by decide) rfl (fun ls hl => ?_)
      have hf := lt_n ev hf; clear ev
      refine lv_goto (tgt := 14) hx hb dX12_slot_48 (by decide) ?_
      exact hrec _ _ _ _ _ hf  w (lv_sub hl [1, 2, 3, 4, 5, 0] rfl)
noncomputable def F_X12_slot (N : Nat)  (g : Nat → Int32) (x1 : Int32) (x2 : Int32) (x3 : Int32) (x4 : Int32) : Option (Int32 × (Nat → Int32)) :=
  ld g 8787 x1 (fun v_1 =>
  if (v_1 = x4 : Prop) then
  L_X12_slot_14 N (fun g => ld g 8787 x1 (fun v_8 =>
  sto g 8787 x1 (v_8 - 1) (fun g_9 =>
  J_X12_slot_61 N x1 x2 x3 g_9))) x1 x2 x3 x4 N 0 g
  else
  J_X12_slot_61 N x1 x2 x3 g)
set_option maxHeartbeats 4000000 in
set_option maxRecDepth 100000 in
theorem d_X12_slot (E : mE) (l : Launch) (N : Nat) (h : Nat) (a_g : Nat) (a_kept : Nat) (a_tape : Nat) (a_written : Nat) (a_asked : Nat) (a_there : Nat) (a_counts : Nat) (a_lasts : Nat) (a_cames : Nat)  (g : Nat → Int32) (kept : Nat → Int32) (isKept : Int32) (tape : Nat → Int32) (taped : Int32) (spot : Int32) (written : Nat → Int32) (writtenMany : Int32) (asked : Nat → Int32) (askedMany : Int32) (there : Nat → Int32) (counts : Nat → Int32) (lasts : Nat → Int32) (cames : Nat → Int32)  (x1 : Int32) (x2 : Int32) (x3 : Int32) (x4 : Int32)  (o : Int32 × (Nat → Int32)) (hf : F_X12_slot N g x1 x2 x3 x4 = some o) : MX E l yX12_slot cX12_slot 6 (some .int) ({ frames := 0, cells := 0, slots := 0, locals := 0 } : Room) [.ref h, .int x1, .int x2, .int x3, .int x4] [(h, .inr (11, [.ref a_g, .ref a_kept, .int isKept, .ref a_tape, .int taped, .int spot, .ref a_written, .int writtenMany, .ref a_asked, .int askedMany, .ref a_there, .ref a_counts, .ref a_lasts, .ref a_cames])), (a_g, .inl (E.2.1, 8787, .inl g)), (a_kept, .inl (E.2.1, 8787, .inl kept)), (a_tape, .inl (E.2.2.1, 60, .inl tape)), (a_written, .inl (E.2.1, 40, .inl written)), (a_asked, .inl (E.2.1, 60, .inl asked)), (a_there, .inl (E.2.1, 12, .inl there)), (a_counts, .inl (E.2.1, 12, .inl counts)), (a_lasts, .inl (E.2.1, 12, .inl lasts)), (a_cames, .inl (E.2.1, 12, .inl cames))] (po_X12_slot E h a_g a_kept a_tape a_written a_asked a_there a_counts a_lasts a_cames g kept isKept tape taped spot written writtenMany asked askedMany there counts lasts cames o) := by
  refine mx_intro (by decide +kernel) (Nat.le_of_ble_eq_true rfl) ?_
  intro p e s m args below meth c A Q ls B w hl
  obtain ⟨hx, hb, hml, hown, hts⟩ := id B.1
  unfold F_X12_slot at hf
  have hl : lv_has ls 6 [(0, .ref h), (1, .int x1), (2, .int x2), (3, .int x3), (4, .int x4)] := hl
  refine lv_aload_n hx hb dX12_slot_0 rfl (lv_at hl 0 rfl) ?_
  refine mx_get B w 0 fl_X12_9 rfl rfl dX12_slot_1 ?_
  refine lv_iload_n hx hb dX12_slot_4 rfl (lv_at hl 1 rfl) ?_
  obtain ⟨hin, hf⟩ := ld_e hf
  refine mx_iald B w 1 rfl hin dX12_slot_5 (fun v_1 ev => ?_)
  have hf := hf _ ev; clear ev
  refine lv_iload hx hb dX12_slot_6 (lv_at hl 4 rfl) ?_
  refine lv_icmp_ne (tgt := 61) hx hb dX12_slot_8 (by decide) (fun hc => ?_) (fun hc => ?_)
  · have hf := it_f hc hf
    exact j_X12_slot_61 B   hf  w (lv_sub hl [0, 1, 2, 3] rfl)
  · have hf := it_t hc hf
    refine lv_iconst (v := 0) hx hb dX12_slot_11 (by decide) ?_
    refine lv_istore (lv' := [(5, .int 0), (0, .ref h), (1, .int x1), (2, .int x2), (3, .int x3), (4, .int x4)]) hx hb dX12_slot_12 hl (by decide) rfl (fun ls hl => ?_)
    refine l_X12_slot_14 B _  ?_ N _ _ _ _ _ hf  w (lv_sub hl [1, 2, 3, 4, 5, 0] rfl)
    · intro g H locs ls hf w hl
      refine lv_aload_n hx hb dX12_slot_51 rfl (lv_at hl 0 rfl) ?_
      refine mx_get B w 0 fl_X12_9 rfl rfl dX12_slot_52 ?_
      refine lv_iload_n hx hb dX12_slot_55 rfl (lv_at hl 1 rfl) ?_
      refine lv_dup2_11 hx hb dX12_slot_56 rfl rfl ?_
      obtain ⟨hin, hf⟩ := ld_e hf
      refine mx_iald B w 1 rfl hin dX12_slot_57 (fun v_8 ev => ?_)
      have hf := hf _ ev; clear ev
      refine lv_iconst (v := 1) hx hb dX12_slot_58 (by decide) ?_
      refine lv_isub hx hb dX12_slot_59 ?_
      obtain ⟨hin, hf⟩ := sto_e hf
      refine mx_iast B w 1 rfl hin dX12_slot_60 (fun g_9 H locs ev w => ?_)
      have hf := hf _ ev; clear ev
      have w : mW E A s [(h, .inr (11, [.ref a_g, .ref a_kept, .int isKept, .ref a_tape, .int taped, .int spot, .ref a_written, .int writtenMany, .ref a_asked, .int askedMany, .ref a_there, .ref a_counts, .ref a_lasts, .ref a_cames])), (a_g, .inl (E.2.1, 8787, .inl g_9)), (a_kept, .inl (E.2.1, 8787, .inl kept)), (a_tape, .inl (E.2.2.1, 60, .inl tape)), (a_written, .inl (E.2.1, 40, .inl written)), (a_asked, .inl (E.2.1, 60, .inl asked)), (a_there, .inl (E.2.1, 12, .inl there)), (a_counts, .inl (E.2.1, 12, .inl counts)), (a_lasts, .inl (E.2.1, 12, .inl lasts)), (a_cames, .inl (E.2.1, 12, .inl cames))] H locs := w
      exact j_X12_slot_61 B   hf  w (lv_sub hl [0, 1, 2, 3] rfl)
-- X12_sizeOf
def po_X12_sizeOf (E : mE)     (o : Int32) : Option Value → va_W → Prop := (fun (v : Option Value) (w' : va_W) => v = some (.int o) ∧ w' = [])
noncomputable def K_X12_sizeOf_4 (N : Nat)  (rec : Int32 → Int32 → Option (Int32)) (k19 : Int32 → Option (Int32))   (x1 : Int32) (x2 : Int32)  : Option (Int32) :=
  if (x2 ≤ 0 : Prop) then
  k19 x1
  else
  lt (x1 + 1) (fun x1_1 =>
  lt (x2 / 27) (fun x2_2 =>
  rec x1_1 x2_2))
noncomputable def L_X12_sizeOf_4 (N : Nat)  (k19 : Int32 → Option (Int32))   (n : Nat) : Int32 → Int32 → Option (Int32) :=
  Nat.rec (motive := fun _ => Int32 → Int32 → Option (Int32)) (fun _ _ => none) (fun _ rec => K_X12_sizeOf_4 N rec k19) n
set_option maxHeartbeats 4000000 in
set_option maxRecDepth 100000 in
theorem l_X12_sizeOf_4 {E : mE} {l : Launch} {p : Program} {e : Env} {s : State} {m : MethodId} {args : Array Value} {below : List Frame} {meth : Method} {c : Code} {A : Nat → Prop} {Q : State → Prop} {N : Nat}     {o : Int32} (B : mB E yX12_sizeOf cX12_sizeOf 3 (some .int) 0 0 (po_X12_sizeOf E o) p s m args below meth c A Q)    (k19 : Int32 → Option (Int32))  (hk19 : ∀ (x1 : Int32)   (H : Heap) (locs : List Loc) (ls : Array Slot), k19 x1 = some o → mW E A s [] H locs → lv_has ls 3 [(1, .int x1)] → W p l e ({ frames := 0, cells := 0, slots := 0, locals := 0 } : Room) s m args below meth c H locs 0 0 Q (F0 m 19 ls [])) : ∀ n : Nat, ∀ (x1 : Int32) (x2 : Int32)   (H : Heap) (locs : List Loc) (ls : Array Slot), L_X12_sizeOf_4 N k19 n x1 x2 = some o → mW E A s [] H locs → lv_has ls 3 [(1, .int x1), (2, .int x2)] → W p l e ({ frames := 0, cells := 0, slots := 0, locals := 0 } : Room) s m args below meth c H locs 0 0 Q (F0 m 4 ls []) := by
  obtain ⟨hx, hb, hml, hown, hts⟩ := id B.1
  intro n
  induction n with
  | zero =>
    intro x1 x2 H locs ls hf w hl
    exact nomatch hf
  | succ n hrec =>
    intro x1 x2 H locs ls hf w hl
    have hf : K_X12_sizeOf_4 N (L_X12_sizeOf_4 N k19 n) k19 x1 x2 = some o := hf
    unfold K_X12_sizeOf_4 at hf
    refine lv_iload_n hx hb dX12_sizeOf_4 rfl (lv_at hl 1 rfl) ?_
    refine lv_if_le (tgt := 19) hx hb dX12_sizeOf_5 (by decide) (fun hc => ?_) (fun hc => ?_)
    · have hf := it_t hc hf
      exact hk19 _ _ _ _ hf  w (lv_sub hl [0] rfl)
    · have hf := it_f hc hf
      obtain ⟨x1_1, ev⟩ : ∃ y : Int32, y = x1 + 1 := ⟨_, rfl⟩
      refine lv_iinc (v := x1_1) (lv' := [(1, .int x1_1), (2, .int x2)]) hx hb dX12_sizeOf_8 hl (k := 0) rfl (by rw [ev]; rfl) (by decide) rfl (fun ls hl => ?_)
      have hf := lt_n ev hf; clear ev
      refine lv_iload_n hx hb dX12_sizeOf_11 rfl (lv_at hl 1 rfl) ?_
      refine lv_bipush (v := 27) hx hb dX12_sizeOf_12 (by decide) ?_
      refine lv_idiv hx hb dX12_sizeOf_14 (by decide) ?_
      refine lv_topi (fun x2_2 ev => ?_)
      have hf := lt_n ev hf; clear ev
      refine lv_istore_n (lv' := [(2, .int x2_2), (1, .int x1_1)]) hx hb dX12_sizeOf_15 rfl hl (by decide) rfl (fun ls hl => ?_)
      refine lv_goto (tgt := 4) hx hb dX12_sizeOf_16 (by decide) ?_
      exact hrec _ _ _ _ _ hf  w (lv_sub hl [1, 0] rfl)
noncomputable def F_X12_sizeOf (N : Nat)   (x0 : Int32) : Option (Int32) :=
  L_X12_sizeOf_4 N (fun x1 => some (x1)) N 0 x0
set_option maxHeartbeats 4000000 in
set_option maxRecDepth 100000 in
theorem d_X12_sizeOf (E : mE) (l : Launch) (N : Nat)     (x0 : Int32)  (o : Int32) (hf : F_X12_sizeOf N x0 = some o) : MX E l yX12_sizeOf cX12_sizeOf 3 (some .int) ({ frames := 0, cells := 0, slots := 0, locals := 0 } : Room) [.int x0] [] (po_X12_sizeOf E o) := by
  refine mx_intro (by decide +kernel) (Nat.le_of_ble_eq_true rfl) ?_
  intro p e s m args below meth c A Q ls B w hl
  obtain ⟨hx, hb, hml, hown, hts⟩ := id B.1
  unfold F_X12_sizeOf at hf
  have hl : lv_has ls 3 [(0, .int x0)] := hl
  refine lv_iconst (v := 0) hx hb dX12_sizeOf_0 (by decide) ?_
  refine lv_istore_n (lv' := [(1, .int 0), (0, .int x0)]) hx hb dX12_sizeOf_1 rfl hl (by decide) rfl (fun ls hl => ?_)
  refine lv_iload_n hx hb dX12_sizeOf_2 rfl (lv_at hl 1 rfl) ?_
  refine lv_istore_n (lv' := [(2, .int x0), (1, .int 0), (0, .int x0)]) hx hb dX12_sizeOf_3 rfl hl (by decide) rfl (fun ls hl => ?_)
  refine l_X12_sizeOf_4 B _  ?_ N _ _ _ _ _ hf  w (lv_sub hl [1, 0] rfl)
  · intro x1 H locs ls hf w hl
    refine lv_iload_n hx hb dX12_sizeOf_19 rfl (lv_at hl 0 rfl) ?_
    cases hf
    exact mx_iret B w ⟨rfl, rfl⟩ dX12_sizeOf_20
-- X12_byteOf
def po_X12_byteOf (E : mE)     (o : Int32) : Option Value → va_W → Prop := (fun (v : Option Value) (w' : va_W) => v = some (.int o) ∧ w' = [])
noncomputable def K_X12_byteOf_9 (N : Nat)  (rec : Int32 → Int32 → Option (Int32)) (k25 : Int32 → Option (Int32)) (x1 : Int32)  (x2 : Int32) (x3 : Int32)  : Option (Int32) :=
  if (x3 ≤ x1 : Prop) then
  k25 x2
  else
  lt (x2 / 27) (fun x2_3 =>
  lt (x3 + (-1)) (fun x3_4 =>
  rec x2_3 x3_4))
noncomputable def L_X12_byteOf_9 (N : Nat)  (k25 : Int32 → Option (Int32)) (x1 : Int32)  (n : Nat) : Int32 → Int32 → Option (Int32) :=
  Nat.rec (motive := fun _ => Int32 → Int32 → Option (Int32)) (fun _ _ => none) (fun _ rec => K_X12_byteOf_9 N rec k25 x1) n
set_option maxHeartbeats 4000000 in
set_option maxRecDepth 100000 in
theorem l_X12_byteOf_9 {E : mE} {l : Launch} {p : Program} {e : Env} {s : State} {m : MethodId} {args : Array Value} {below : List Frame} {meth : Method} {c : Code} {A : Nat → Prop} {Q : State → Prop} {N : Nat}     {o : Int32} (B : mB E yX12_byteOf cX12_byteOf 4 (some .int) 0 0 (po_X12_byteOf E o) p s m args below meth c A Q)   {x1 : Int32} (k25 : Int32 → Option (Int32))  (hk25 : ∀ (x2 : Int32)   (H : Heap) (locs : List Loc) (ls : Array Slot), k25 x2 = some o → mW E A s [] H locs → lv_has ls 4 [(2, .int x2)] → W p l e ({ frames := 1, cells := 0, slots := 0, locals := 22 } : Room) s m args below meth c H locs 0 0 Q (F0 m 25 ls [])) : ∀ n : Nat, ∀ (x2 : Int32) (x3 : Int32)   (H : Heap) (locs : List Loc) (ls : Array Slot), L_X12_byteOf_9 N k25 x1 n x2 x3 = some o → mW E A s [] H locs → lv_has ls 4 [(1, .int x1), (2, .int x2), (3, .int x3)] → W p l e ({ frames := 1, cells := 0, slots := 0, locals := 22 } : Room) s m args below meth c H locs 0 0 Q (F0 m 9 ls []) := by
  obtain ⟨hx, hb, hml, hown, hts⟩ := id B.1
  intro n
  induction n with
  | zero =>
    intro x2 x3 H locs ls hf w hl
    exact nomatch hf
  | succ n hrec =>
    intro x2 x3 H locs ls hf w hl
    have hf : K_X12_byteOf_9 N (L_X12_byteOf_9 N k25 x1 n) k25 x1 x2 x3 = some o := hf
    unfold K_X12_byteOf_9 at hf
    refine lv_iload_n hx hb dX12_byteOf_9 rfl (lv_at hl 2 rfl) ?_
    refine lv_iload_n hx hb dX12_byteOf_10 rfl (lv_at hl 0 rfl) ?_
    refine lv_icmp_le (tgt := 25) hx hb dX12_byteOf_11 (by decide) (fun hc => ?_) (fun hc => ?_)
    · have hf := it_t hc hf
      exact hk25 _ _ _ _ hf  w (lv_sub hl [1] rfl)
    · have hf := it_f hc hf
      refine lv_iload_n hx hb dX12_byteOf_14 rfl (lv_at hl 1 rfl) ?_
      refine lv_bipush (v := 27) hx hb dX12_byteOf_15 (by decide) ?_
      refine lv_idiv hx hb dX12_byteOf_17 (by decide) ?_
      refine lv_topi (fun x2_3 ev => ?_)
      have hf := lt_n ev hf; clear ev
      refine lv_istore_n (lv' := [(2, .int x2_3), (1, .int x1), (3, .int x3)]) hx hb dX12_byteOf_18 rfl hl (by decide) rfl (fun ls hl => ?_)
      obtain ⟨x3_4, ev⟩ : ∃ y : Int32, y = x3 + (-1) := ⟨_, rfl⟩
      refine lv_iinc (v := x3_4) (lv' := [(3, .int x3_4), (2, .int x2_3), (1, .int x1)]) hx hb dX12_byteOf_19 hl (k := 2) rfl (by rw [ev]; rfl) (by decide) rfl (fun ls hl => ?_)
      have hf := lt_n ev hf; clear ev
      refine lv_goto (tgt := 9) hx hb dX12_byteOf_22 (by decide) ?_
      exact hrec _ _ _ _ _ hf  w (lv_sub hl [2, 1, 0] rfl)
noncomputable def F_X12_byteOf (N : Nat)   (x0 : Int32) (x1 : Int32) : Option (Int32) :=
  bd (F_X12_sizeOf N x0) (fun o_1 =>
  lt (o_1 - 1) (fun x3_2 =>
  L_X12_byteOf_9 N (fun x2 => some (96 + (irm x2 27))) x1 N x0 x3_2))
set_option maxHeartbeats 4000000 in
set_option maxRecDepth 100000 in
theorem d_X12_byteOf (E : mE) (l : Launch) (N : Nat)     (x0 : Int32) (x1 : Int32)  (o : Int32) (hf : F_X12_byteOf N x0 x1 = some o) : MX E l yX12_byteOf cX12_byteOf 4 (some .int) ({ frames := 1, cells := 0, slots := 0, locals := 22 } : Room) [.int x0, .int x1] [] (po_X12_byteOf E o) := by
  refine mx_intro (by decide +kernel) (Nat.le_of_ble_eq_true rfl) ?_
  intro p e s m args below meth c A Q ls B w hl
  obtain ⟨hx, hb, hml, hown, hts⟩ := id B.1
  unfold F_X12_byteOf at hf
  have hl : lv_has ls 4 [(0, .int x0), (1, .int x1)] := hl
  refine lv_iload_n hx hb dX12_byteOf_0 rfl (lv_at hl 0 rfl) ?_
  refine lv_istore_n (lv' := [(2, .int x0), (0, .int x0), (1, .int x1)]) hx hb dX12_byteOf_1 rfl hl (by decide) rfl (fun ls hl => ?_)
  refine lv_iload_n hx hb dX12_byteOf_2 rfl (lv_at hl 1 rfl) ?_
  obtain ⟨o_1, hq, hf⟩ := bd_e hf
  refine mx_callS (As := [.int x0]) (rest := []) (wr := []) (d_X12_sizeOf E l N  x0  o_1 hq) B w [] [] rfl rfl (by decide) (by decide) (by decide) cs_X12_sizeOf kw_1299 1 (by decide +kernel) ⟨Nat.le_of_ble_eq_true rfl, Nat.le_of_ble_eq_true rfl⟩ rfl hl.1 rfl (Nat.le_of_ble_eq_true rfl) dX12_byteOf_3 rfl rfl ⟨Nat.zero_le _, Nat.zero_le _⟩ (fun v w' H locs hpo w => ?_)
  clear hq
  obtain ⟨rfl, rfl⟩ := hpo
  refine lv_iconst (v := 1) hx hb dX12_byteOf_6 (by decide) ?_
  refine lv_isub hx hb dX12_byteOf_7 ?_
  refine lv_topi (fun x3_2 ev => ?_)
  have hf := lt_n ev hf; clear ev
  refine lv_istore_n (lv' := [(3, .int x3_2), (2, .int x0), (0, .int x0), (1, .int x1)]) hx hb dX12_byteOf_8 rfl hl (by decide) rfl (fun ls hl => ?_)
  refine l_X12_byteOf_9 B _  ?_ N _ _ _ _ _ hf  w (lv_sub hl [3, 1, 0] rfl)
  · intro x2 H locs ls hf w hl
    refine lv_bipush (v := 96) hx hb dX12_byteOf_25 (by decide) ?_
    refine lv_iload_n hx hb dX12_byteOf_27 rfl (lv_at hl 0 rfl) ?_
    refine lv_bipush (v := 27) hx hb dX12_byteOf_28 (by decide) ?_
    refine lv_irem hx hb dX12_byteOf_30 (by decide) ?_
    refine lv_iadd hx hb dX12_byteOf_31 ?_
    cases hf
    exact mx_iret B w ⟨rfl, rfl⟩ dX12_byteOf_32
-- X12_hashOf
def po_X12_hashOf (E : mE)     (o : Int32) : Option Value → va_W → Prop := (fun (v : Option Value) (w' : va_W) => v = some (.int o) ∧ w' = [])
noncomputable def K_X12_hashOf_10 (N : Nat)  (rec : Int32 → Int32 → Option (Int32)) (k32 : Int32 → Option (Int32)) (x0 : Int32) (x2 : Int32)  (x1 : Int32) (x3 : Int32)  : Option (Int32) :=
  if (x2 ≤ x3 : Prop) then
  k32 x1
  else
  bd (F_X12_byteOf N x0 x3) (fun o_2 =>
  lt ((x1 * 31) + o_2) (fun x1_3 =>
  lt (x3 + 1) (fun x3_4 =>
  rec x1_3 x3_4)))
noncomputable def L_X12_hashOf_10 (N : Nat)  (k32 : Int32 → Option (Int32)) (x0 : Int32) (x2 : Int32)  (n : Nat) : Int32 → Int32 → Option (Int32) :=
  Nat.rec (motive := fun _ => Int32 → Int32 → Option (Int32)) (fun _ _ => none) (fun _ rec => K_X12_hashOf_10 N rec k32 x0 x2) n
set_option maxHeartbeats 4000000 in
set_option maxRecDepth 100000 in
theorem l_X12_hashOf_10 {E : mE} {l : Launch} {p : Program} {e : Env} {s : State} {m : MethodId} {args : Array Value} {below : List Frame} {meth : Method} {c : Code} {A : Nat → Prop} {Q : State → Prop} {N : Nat}     {o : Int32} (B : mB E yX12_hashOf cX12_hashOf 4 (some .int) 0 0 (po_X12_hashOf E o) p s m args below meth c A Q)   {x0 : Int32} {x2 : Int32} (k32 : Int32 → Option (Int32))  (hk32 : ∀ (x1 : Int32)   (H : Heap) (locs : List Loc) (ls : Array Slot), k32 x1 = some o → mW E A s [] H locs → lv_has ls 4 [(1, .int x1)] → W p l e ({ frames := 2, cells := 0, slots := 0, locals := 45 } : Room) s m args below meth c H locs 0 0 Q (F0 m 32 ls [])) : ∀ n : Nat, ∀ (x1 : Int32) (x3 : Int32)   (H : Heap) (locs : List Loc) (ls : Array Slot), L_X12_hashOf_10 N k32 x0 x2 n x1 x3 = some o → mW E A s [] H locs → lv_has ls 4 [(0, .int x0), (1, .int x1), (2, .int x2), (3, .int x3)] → W p l e ({ frames := 2, cells := 0, slots := 0, locals := 45 } : Room) s m args below meth c H locs 0 0 Q (F0 m 10 ls []) := by
  obtain ⟨hx, hb, hml, hown, hts⟩ := id B.1
  intro n
  induction n with
  | zero =>
    intro x1 x3 H locs ls hf w hl
    exact nomatch hf
  | succ n hrec =>
    intro x1 x3 H locs ls hf w hl
    have hf : K_X12_hashOf_10 N (L_X12_hashOf_10 N k32 x0 x2 n) k32 x0 x2 x1 x3 = some o := hf
    unfold K_X12_hashOf_10 at hf
    refine lv_iload_n hx hb dX12_hashOf_10 rfl (lv_at hl 3 rfl) ?_
    refine lv_iload_n hx hb dX12_hashOf_11 rfl (lv_at hl 2 rfl) ?_
    refine lv_icmp_ge (tgt := 32) hx hb dX12_hashOf_12 (by decide) (fun hc => ?_) (fun hc => ?_)
    · have hf := it_t hc hf
      exact hk32 _ _ _ _ hf  w (lv_sub hl [1] rfl)
    · have hf := it_f hc hf
      refine lv_iload_n hx hb dX12_hashOf_15 rfl (lv_at hl 1 rfl) ?_
      refine lv_bipush (v := 31) hx hb dX12_hashOf_16 (by decide) ?_
      refine lv_imul hx hb dX12_hashOf_18 ?_
      refine lv_iload_n hx hb dX12_hashOf_19 rfl (lv_at hl 0 rfl) ?_
      refine lv_iload_n hx hb dX12_hashOf_20 rfl (lv_at hl 3 rfl) ?_
      obtain ⟨o_2, hq, hf⟩ := bd_e hf
      refine mx_callS (As := [.int x0, .int x3]) (rest := [.int (x1 * 31)]) (wr := []) (d_X12_byteOf E l N  x0 x3  o_2 hq) B w [] [] rfl rfl (by decide) (by decide) (by decide) cs_X12_byteOf kw_1302 2 (by decide +kernel) ⟨Nat.le_of_ble_eq_true rfl, Nat.le_of_ble_eq_true rfl⟩ rfl hl.1 rfl (Nat.le_of_ble_eq_true rfl) dX12_hashOf_21 rfl rfl ⟨Nat.zero_le _, Nat.zero_le _⟩ (fun v w' H locs hpo w => ?_)
      clear hq
      obtain ⟨rfl, rfl⟩ := hpo
      refine lv_iadd hx hb dX12_hashOf_24 ?_
      refine lv_topi (fun x1_3 ev => ?_)
      have hf := lt_n ev hf; clear ev
      refine lv_istore_n (lv' := [(1, .int x1_3), (0, .int x0), (2, .int x2), (3, .int x3)]) hx hb dX12_hashOf_25 rfl hl (by decide) rfl (fun ls hl => ?_)
      obtain ⟨x3_4, ev⟩ : ∃ y : Int32, y = x3 + 1 := ⟨_, rfl⟩
      refine lv_iinc (v := x3_4) (lv' := [(3, .int x3_4), (1, .int x1_3), (0, .int x0), (2, .int x2)]) hx hb dX12_hashOf_26 hl (k := 3) rfl (by rw [ev]; rfl) (by decide) rfl (fun ls hl => ?_)
      have hf := lt_n ev hf; clear ev
      refine lv_goto (tgt := 10) hx hb dX12_hashOf_29 (by decide) ?_
      exact hrec _ _ _ _ _ hf  w (lv_sub hl [2, 1, 3, 0] rfl)
noncomputable def F_X12_hashOf (N : Nat)   (x0 : Int32) : Option (Int32) :=
  bd (F_X12_sizeOf N x0) (fun o_1 =>
  L_X12_hashOf_10 N (fun x1 => some (x1)) x0 o_1 N 7 0)
set_option maxHeartbeats 4000000 in
set_option maxRecDepth 100000 in
theorem d_X12_hashOf (E : mE) (l : Launch) (N : Nat)     (x0 : Int32)  (o : Int32) (hf : F_X12_hashOf N x0 = some o) : MX E l yX12_hashOf cX12_hashOf 4 (some .int) ({ frames := 2, cells := 0, slots := 0, locals := 45 } : Room) [.int x0] [] (po_X12_hashOf E o) := by
  refine mx_intro (by decide +kernel) (Nat.le_of_ble_eq_true rfl) ?_
  intro p e s m args below meth c A Q ls B w hl
  obtain ⟨hx, hb, hml, hown, hts⟩ := id B.1
  unfold F_X12_hashOf at hf
  have hl : lv_has ls 4 [(0, .int x0)] := hl
  refine lv_bipush (v := 7) hx hb dX12_hashOf_0 (by decide) ?_
  refine lv_istore_n (lv' := [(1, .int 7), (0, .int x0)]) hx hb dX12_hashOf_2 rfl hl (by decide) rfl (fun ls hl => ?_)
  refine lv_iload_n hx hb dX12_hashOf_3 rfl (lv_at hl 1 rfl) ?_
  obtain ⟨o_1, hq, hf⟩ := bd_e hf
  refine mx_callS (As := [.int x0]) (rest := []) (wr := []) (d_X12_sizeOf E l N  x0  o_1 hq) B w [] [] rfl rfl (by decide) (by decide) (by decide) cs_X12_sizeOf kw_1299 1 (by decide +kernel) ⟨Nat.le_of_ble_eq_true rfl, Nat.le_of_ble_eq_true rfl⟩ rfl hl.1 rfl (Nat.le_of_ble_eq_true rfl) dX12_hashOf_4 rfl rfl ⟨Nat.zero_le _, Nat.zero_le _⟩ (fun v w' H locs hpo w => ?_)
  clear hq
  obtain ⟨rfl, rfl⟩ := hpo
  refine lv_istore_n (lv' := [(2, .int o_1), (1, .int 7), (0, .int x0)]) hx hb dX12_hashOf_7 rfl hl (by decide) rfl (fun ls hl => ?_)
  refine lv_iconst (v := 0) hx hb dX12_hashOf_8 (by decide) ?_
  refine lv_istore_n (lv' := [(3, .int 0), (2, .int o_1), (1, .int 7), (0, .int x0)]) hx hb dX12_hashOf_9 rfl hl (by decide) rfl (fun ls hl => ?_)
  refine l_X12_hashOf_10 B _  ?_ N _ _ _ _ _ hf  w (lv_sub hl [3, 2, 1, 0] rfl)
  · intro x1 H locs ls hf w hl
    refine lv_iload_n hx hb dX12_hashOf_32 rfl (lv_at hl 0 rfl) ?_
    cases hf
    exact mx_iret B w ⟨rfl, rfl⟩ dX12_hashOf_33
-- X12_happens
def po_X12_happens (E : mE) (h : Nat) (a_g : Nat) (a_kept : Nat) (a_tape : Nat) (a_written : Nat) (a_asked : Nat) (a_there : Nat) (a_counts : Nat) (a_lasts : Nat) (a_cames : Nat)  (g : Nat → Int32) (kept : Nat → Int32) (isKept : Int32) (tape : Nat → Int32) (taped : Int32) (spot : Int32) (written : Nat → Int32) (writtenMany : Int32) (asked : Nat → Int32) (askedMany : Int32) (there : Nat → Int32) (counts : Nat → Int32) (lasts : Nat → Int32) (cames : Nat → Int32)  (o : (Nat → Int32)) : Option Value → va_W → Prop := (fun (v : Option Value) (w' : va_W) => v = none ∧ w' = [(h, .inr (11, [.ref a_g, .ref a_kept, .int isKept, .ref a_tape, .int taped, .int spot, .ref a_written, .int writtenMany, .ref a_asked, .int askedMany, .ref a_there, .ref a_counts, .ref a_lasts, .ref a_cames])), (a_g, .inl (E.2.1, 8787, .inl o)), (a_kept, .inl (E.2.1, 8787, .inl kept)), (a_tape, .inl (E.2.2.1, 60, .inl tape)), (a_written, .inl (E.2.1, 40, .inl written)), (a_asked, .inl (E.2.1, 60, .inl asked)), (a_there, .inl (E.2.1, 12, .inl there)), (a_counts, .inl (E.2.1, 12, .inl counts)), (a_lasts, .inl (E.2.1, 12, .inl lasts)), (a_cames, .inl (E.2.1, 12, .inl cames))])
noncomputable def J_X12_happens_54 (N : Nat)   (t1 : Int32) (t2 : Int32) (g : Nat → Int32) : Option ((Nat → Int32)) :=
  sto g 8787 t1 t2 (fun g_6 =>
  some (g_6))
set_option maxHeartbeats 4000000 in
set_option maxRecDepth 100000 in
theorem j_X12_happens_54 {E : mE} {l : Launch} {p : Program} {e : Env} {s : State} {m : MethodId} {args : Array Value} {below : List Frame} {meth : Method} {c : Code} {A : Nat → Prop} {Q : State → Prop} {N : Nat} {h : Nat} {a_g : Nat} {a_kept : Nat} {a_tape : Nat} {a_written : Nat} {a_asked : Nat} {a_there : Nat} {a_counts : Nat} {a_lasts : Nat} {a_cames : Nat}  {g0 : Nat → Int32} {kept : Nat → Int32} {isKept : Int32} {tape : Nat → Int32} {taped : Int32} {spot : Int32} {written : Nat → Int32} {writtenMany : Int32} {asked : Nat → Int32} {askedMany : Int32} {there : Nat → Int32} {counts : Nat → Int32} {lasts : Nat → Int32} {cames : Nat → Int32}  {o : (Nat → Int32)} (B : mB E yX12_happens cX12_happens 4 none 0 0 (po_X12_happens E h a_g a_kept a_tape a_written a_asked a_there a_counts a_lasts a_cames g0 kept isKept tape taped spot written writtenMany asked askedMany there counts lasts cames o) p s m args below meth c A Q) {t1 : Int32} {t2 : Int32} {g : Nat → Int32}    {H : Heap} {locs : List Loc} {ls : Array Slot} (hf : J_X12_happens_54 N t1 t2 g = some o)  (w : mW E A s [(h, .inr (11, [.ref a_g, .ref a_kept, .int isKept, .ref a_tape, .int taped, .int spot, .ref a_written, .int writtenMany, .ref a_asked, .int askedMany, .ref a_there, .ref a_counts, .ref a_lasts, .ref a_cames])), (a_g, .inl (E.2.1, 8787, .inl g)), (a_kept, .inl (E.2.1, 8787, .inl kept)), (a_tape, .inl (E.2.2.1, 60, .inl tape)), (a_written, .inl (E.2.1, 40, .inl written)), (a_asked, .inl (E.2.1, 60, .inl asked)), (a_there, .inl (E.2.1, 12, .inl there)), (a_counts, .inl (E.2.1, 12, .inl counts)), (a_lasts, .inl (E.2.1, 12, .inl lasts)), (a_cames, .inl (E.2.1, 12, .inl cames))] H locs) (hl : lv_has ls 4 []) : W p l e ({ frames := 3, cells := 0, slots := 0, locals := 68 } : Room) s m args below meth c H locs 0 0 Q (F0 m 54 ls [.int t2, .int t1, .ref a_g]) := by
  obtain ⟨hx, hb, hml, hown, hts⟩ := id B.1
  unfold J_X12_happens_54 at hf
  obtain ⟨hin, hf⟩ := sto_e hf
  refine mx_iast B w 1 rfl hin dX12_happens_54 (fun g_6 H locs ev w => ?_)
  have hf := hf _ ev; clear ev
  have w : mW E A s [(h, .inr (11, [.ref a_g, .ref a_kept, .int isKept, .ref a_tape, .int taped, .int spot, .ref a_written, .int writtenMany, .ref a_asked, .int askedMany, .ref a_there, .ref a_counts, .ref a_lasts, .ref a_cames])), (a_g, .inl (E.2.1, 8787, .inl g_6)), (a_kept, .inl (E.2.1, 8787, .inl kept)), (a_tape, .inl (E.2.2.1, 60, .inl tape)), (a_written, .inl (E.2.1, 40, .inl written)), (a_asked, .inl (E.2.1, 60, .inl asked)), (a_there, .inl (E.2.1, 12, .inl there)), (a_counts, .inl (E.2.1, 12, .inl counts)), (a_lasts, .inl (E.2.1, 12, .inl lasts)), (a_cames, .inl (E.2.1, 12, .inl cames))] H locs := w
  cases hf
  exact mx_vret B w ⟨rfl, rfl⟩ dX12_happens_55
noncomputable def F_X12_happens (N : Nat)  (g : Nat → Int32) (x1 : Int32) (x2 : Int32) : Option ((Nat → Int32)) :=
  bd (F_X12_slot N g 19 8667 3 40) (fun o_1 =>
  sto o_1.2 8787 o_1.1 x1 (fun g_2 =>
  ld g_2 8787 8 (fun v_3 =>
  sto g_2 8787 (o_1.1 + 1) v_3 (fun g_4 =>
  if (x2 = 0 : Prop) then
  J_X12_happens_54 N (o_1.1 + 2) 0 g_4
  else
  bd (F_X12_hashOf N x2) (fun o_5 =>
  J_X12_happens_54 N (o_1.1 + 2) o_5 g_4)))))
set_option maxHeartbeats 4000000 in
set_option maxRecDepth 100000 in
theorem d_X12_happens (E : mE) (l : Launch) (N : Nat) (h : Nat) (a_g : Nat) (a_kept : Nat) (a_tape : Nat) (a_written : Nat) (a_asked : Nat) (a_there : Nat) (a_counts : Nat) (a_lasts : Nat) (a_cames : Nat)  (g : Nat → Int32) (kept : Nat → Int32) (isKept : Int32) (tape : Nat → Int32) (taped : Int32) (spot : Int32) (written : Nat → Int32) (writtenMany : Int32) (asked : Nat → Int32) (askedMany : Int32) (there : Nat → Int32) (counts : Nat → Int32) (lasts : Nat → Int32) (cames : Nat → Int32)  (x1 : Int32) (x2 : Int32)  (o : (Nat → Int32)) (hf : F_X12_happens N g x1 x2 = some o) : MX E l yX12_happens cX12_happens 4 none ({ frames := 3, cells := 0, slots := 0, locals := 68 } : Room) [.ref h, .int x1, .int x2] [(h, .inr (11, [.ref a_g, .ref a_kept, .int isKept, .ref a_tape, .int taped, .int spot, .ref a_written, .int writtenMany, .ref a_asked, .int askedMany, .ref a_there, .ref a_counts, .ref a_lasts, .ref a_cames])), (a_g, .inl (E.2.1, 8787, .inl g)), (a_kept, .inl (E.2.1, 8787, .inl kept)), (a_tape, .inl (E.2.2.1, 60, .inl tape)), (a_written, .inl (E.2.1, 40, .inl written)), (a_asked, .inl (E.2.1, 60, .inl asked)), (a_there, .inl (E.2.1, 12, .inl there)), (a_counts, .inl (E.2.1, 12, .inl counts)), (a_lasts, .inl (E.2.1, 12, .inl lasts)), (a_cames, .inl (E.2.1, 12, .inl cames))] (po_X12_happens E h a_g a_kept a_tape a_written a_asked a_there a_counts a_lasts a_cames g kept isKept tape taped spot written writtenMany asked askedMany there counts lasts cames o) := by
  refine mx_intro (by decide +kernel) (Nat.le_of_ble_eq_true rfl) ?_
  intro p e s m args below meth c A Q ls B w hl
  obtain ⟨hx, hb, hml, hown, hts⟩ := id B.1
  unfold F_X12_happens at hf
  have hl : lv_has ls 4 [(0, .ref h), (1, .int x1), (2, .int x2)] := hl
  refine lv_aload_n hx hb dX12_happens_0 rfl (lv_at hl 0 rfl) ?_
  refine lv_bipush (v := 19) hx hb dX12_happens_1 (by decide) ?_
  refine lv_sipush (v := 8667) hx hb dX12_happens_3 (by decide) ?_
  refine lv_iconst (v := 3) hx hb dX12_happens_6 (by decide) ?_
  refine lv_bipush (v := 40) hx hb dX12_happens_7 (by decide) ?_
  obtain ⟨o_1, hq, hf⟩ := bd_e hf
  refine mx_callV (As := [.int 19, .int 8667, .int 3, .int 40]) (rest := []) (wr := []) (d_X12_slot E l N h a_g a_kept a_tape a_written a_asked a_there a_counts a_lasts a_cames g kept isKept tape taped spot written writtenMany asked askedMany there counts lasts cames 19 8667 3 40  o_1 hq) B w [0, 1, 2, 3, 4, 5, 6, 7, 8, 9] [] rfl rfl (by decide) (by decide) (by decide) 0 rfl rfl cv_X12_slot kw_1369 4 (by decide +kernel) ⟨Nat.le_of_ble_eq_true rfl, Nat.le_of_ble_eq_true rfl⟩ rfl hl.1 rfl (Nat.le_of_ble_eq_true rfl) dX12_happens_9 rfl rfl ⟨Nat.zero_le _, Nat.zero_le _⟩ (fun v w' H locs hpo w => ?_)
  clear hq
  obtain ⟨rfl, rfl⟩ := hpo
  have w : mW E A s [(h, .inr (11, [.ref a_g, .ref a_kept, .int isKept, .ref a_tape, .int taped, .int spot, .ref a_written, .int writtenMany, .ref a_asked, .int askedMany, .ref a_there, .ref a_counts, .ref a_lasts, .ref a_cames])), (a_g, .inl (E.2.1, 8787, .inl o_1.2)), (a_kept, .inl (E.2.1, 8787, .inl kept)), (a_tape, .inl (E.2.2.1, 60, .inl tape)), (a_written, .inl (E.2.1, 40, .inl written)), (a_asked, .inl (E.2.1, 60, .inl asked)), (a_there, .inl (E.2.1, 12, .inl there)), (a_counts, .inl (E.2.1, 12, .inl counts)), (a_lasts, .inl (E.2.1, 12, .inl lasts)), (a_cames, .inl (E.2.1, 12, .inl cames))] H locs := w
  refine lv_istore_n (lv' := [(3, .int o_1.1), (0, .ref h), (1, .int x1), (2, .int x2)]) hx hb dX12_happens_12 rfl hl (by decide) rfl (fun ls hl => ?_)
  refine lv_aload_n hx hb dX12_happens_13 rfl (lv_at hl 1 rfl) ?_
  refine mx_get B w 0 fl_X12_9 rfl rfl dX12_happens_14 ?_
  refine lv_iload_n hx hb dX12_happens_17 rfl (lv_at hl 0 rfl) ?_
  refine lv_iload_n hx hb dX12_happens_18 rfl (lv_at hl 2 rfl) ?_
  obtain ⟨hin, hf⟩ := sto_e hf
  refine mx_iast B w 1 rfl hin dX12_happens_19 (fun g_2 H locs ev w => ?_)
  have hf := hf _ ev; clear ev
  have w : mW E A s [(h, .inr (11, [.ref a_g, .ref a_kept, .int isKept, .ref a_tape, .int taped, .int spot, .ref a_written, .int writtenMany, .ref a_asked, .int askedMany, .ref a_there, .ref a_counts, .ref a_lasts, .ref a_cames])), (a_g, .inl (E.2.1, 8787, .inl g_2)), (a_kept, .inl (E.2.1, 8787, .inl kept)), (a_tape, .inl (E.2.2.1, 60, .inl tape)), (a_written, .inl (E.2.1, 40, .inl written)), (a_asked, .inl (E.2.1, 60, .inl asked)), (a_there, .inl (E.2.1, 12, .inl there)), (a_counts, .inl (E.2.1, 12, .inl counts)), (a_lasts, .inl (E.2.1, 12, .inl lasts)), (a_cames, .inl (E.2.1, 12, .inl cames))] H locs := w
  refine lv_aload_n hx hb dX12_happens_20 rfl (lv_at hl 1 rfl) ?_
  refine mx_get B w 0 fl_X12_9 rfl rfl dX12_happens_21 ?_
  refine lv_iload_n hx hb dX12_happens_24 rfl (lv_at hl 0 rfl) ?_
  refine lv_iconst (v := 1) hx hb dX12_happens_25 (by decide) ?_
  refine lv_iadd hx hb dX12_happens_26 ?_
  refine lv_aload_n hx hb dX12_happens_27 rfl (lv_at hl 1 rfl) ?_
  refine mx_get B w 0 fl_X12_9 rfl rfl dX12_happens_28 ?_
  refine lv_bipush (v := 8) hx hb dX12_happens_31 (by decide) ?_
  obtain ⟨hin, hf⟩ := ld_e hf
  refine mx_iald B w 1 rfl hin dX12_happens_33 (fun v_3 ev => ?_)
  have hf := hf _ ev; clear ev
  obtain ⟨hin, hf⟩ := sto_e hf
  refine mx_iast B w 1 rfl hin dX12_happens_34 (fun g_4 H locs ev w => ?_)
  have hf := hf _ ev; clear ev
  have w : mW E A s [(h, .inr (11, [.ref a_g, .ref a_kept, .int isKept, .ref a_tape, .int taped, .int spot, .ref a_written, .int writtenMany, .ref a_asked, .int askedMany, .ref a_there, .ref a_counts, .ref a_lasts, .ref a_cames])), (a_g, .inl (E.2.1, 8787, .inl g_4)), (a_kept, .inl (E.2.1, 8787, .inl kept)), (a_tape, .inl (E.2.2.1, 60, .inl tape)), (a_written, .inl (E.2.1, 40, .inl written)), (a_asked, .inl (E.2.1, 60, .inl asked)), (a_there, .inl (E.2.1, 12, .inl there)), (a_counts, .inl (E.2.1, 12, .inl counts)), (a_lasts, .inl (E.2.1, 12, .inl lasts)), (a_cames, .inl (E.2.1, 12, .inl cames))] H locs := w
  refine lv_aload_n hx hb dX12_happens_35 rfl (lv_at hl 1 rfl) ?_
  refine mx_get B w 0 fl_X12_9 rfl rfl dX12_happens_36 ?_
  refine lv_iload_n hx hb dX12_happens_39 rfl (lv_at hl 0 rfl) ?_
  refine lv_iconst (v := 2) hx hb dX12_happens_40 (by decide) ?_
  refine lv_iadd hx hb dX12_happens_41 ?_
  refine lv_iload_n hx hb dX12_happens_42 rfl (lv_at hl 3 rfl) ?_
  refine lv_if_ne (tgt := 50) hx hb dX12_happens_43 (by decide) (fun hc => ?_) (fun hc => ?_)
  · have hf := it_f hc hf
    refine lv_iload_n hx hb dX12_happens_50 rfl (lv_at hl 3 rfl) ?_
    obtain ⟨o_5, hq, hf⟩ := bd_e hf
    refine mx_callS (As := [.int x2]) (rest := [.int (o_1.1 + 2), .ref a_g]) (wr := [(h, .inr (11, [.ref a_g, .ref a_kept, .int isKept, .ref a_tape, .int taped, .int spot, .ref a_written, .int writtenMany, .ref a_asked, .int askedMany, .ref a_there, .ref a_counts, .ref a_lasts, .ref a_cames])), (a_g, .inl (E.2.1, 8787, .inl g_4)), (a_kept, .inl (E.2.1, 8787, .inl kept)), (a_tape, .inl (E.2.2.1, 60, .inl tape)), (a_written, .inl (E.2.1, 40, .inl written)), (a_asked, .inl (E.2.1, 60, .inl asked)), (a_there, .inl (E.2.1, 12, .inl there)), (a_counts, .inl (E.2.1, 12, .inl counts)), (a_lasts, .inl (E.2.1, 12, .inl lasts)), (a_cames, .inl (E.2.1, 12, .inl cames))]) (d_X12_hashOf E l N  x2  o_5 hq) B w [] [0, 1, 2, 3, 4, 5, 6, 7, 8, 9] rfl rfl (by decide) (by decide) (by decide) cs_X12_hashOf kw_1296 1 (by decide +kernel) ⟨Nat.le_of_ble_eq_true rfl, Nat.le_of_ble_eq_true rfl⟩ rfl hl.1 rfl (Nat.le_of_ble_eq_true rfl) dX12_happens_51 rfl rfl ⟨Nat.zero_le _, Nat.zero_le _⟩ (fun v w' H locs hpo w => ?_)
    clear hq
    obtain ⟨rfl, rfl⟩ := hpo
    have w : mW E A s [(h, .inr (11, [.ref a_g, .ref a_kept, .int isKept, .ref a_tape, .int taped, .int spot, .ref a_written, .int writtenMany, .ref a_asked, .int askedMany, .ref a_there, .ref a_counts, .ref a_lasts, .ref a_cames])), (a_g, .inl (E.2.1, 8787, .inl g_4)), (a_kept, .inl (E.2.1, 8787, .inl kept)), (a_tape, .inl (E.2.2.1, 60, .inl tape)), (a_written, .inl (E.2.1, 40, .inl written)), (a_asked, .inl (E.2.1, 60, .inl asked)), (a_there, .inl (E.2.1, 12, .inl there)), (a_counts, .inl (E.2.1, 12, .inl counts)), (a_lasts, .inl (E.2.1, 12, .inl lasts)), (a_cames, .inl (E.2.1, 12, .inl cames))] H locs := w
    exact j_X12_happens_54 B   hf  w (lv_sub hl [] rfl)
  · have hf := it_t hc hf
    refine lv_iconst (v := 0) hx hb dX12_happens_46 (by decide) ?_
    refine lv_goto (tgt := 54) hx hb dX12_happens_47 (by decide) ?_
    exact j_X12_happens_54 B   hf  w (lv_sub hl [] rfl)
-- X12_writes
def po_X12_writes (E : mE) (h : Nat) (a_g : Nat) (a_kept : Nat) (a_tape : Nat) (a_written : Nat) (a_asked : Nat) (a_there : Nat) (a_counts : Nat) (a_lasts : Nat) (a_cames : Nat)  (g : Nat → Int32) (kept : Nat → Int32) (isKept : Int32) (tape : Nat → Int32) (taped : Int32) (spot : Int32) (written : Nat → Int32) (writtenMany : Int32) (asked : Nat → Int32) (askedMany : Int32) (there : Nat → Int32) (counts : Nat → Int32) (lasts : Nat → Int32) (cames : Nat → Int32)  (o : (Nat → Int32)) : Option Value → va_W → Prop := (fun (v : Option Value) (w' : va_W) => v = none ∧ w' = [(h, .inr (11, [.ref a_g, .ref a_kept, .int isKept, .ref a_tape, .int taped, .int spot, .ref a_written, .int writtenMany, .ref a_asked, .int askedMany, .ref a_there, .ref a_counts, .ref a_lasts, .ref a_cames])), (a_g, .inl (E.2.1, 8787, .inl o)), (a_kept, .inl (E.2.1, 8787, .inl kept)), (a_tape, .inl (E.2.2.1, 60, .inl tape)), (a_written, .inl (E.2.1, 40, .inl written)), (a_asked, .inl (E.2.1, 60, .inl asked)), (a_there, .inl (E.2.1, 12, .inl there)), (a_counts, .inl (E.2.1, 12, .inl counts)), (a_lasts, .inl (E.2.1, 12, .inl lasts)), (a_cames, .inl (E.2.1, 12, .inl cames))])
noncomputable def F_X12_writes (N : Nat)  (g : Nat → Int32) (x1 : Int32) (x2 : Int32) : Option ((Nat → Int32)) :=
  bd (F_X12_slot N g 17 8527 2 40) (fun o_1 =>
  sto o_1.2 8787 o_1.1 x1 (fun g_2 =>
  sto g_2 8787 (o_1.1 + 1) x2 (fun g_3 =>
  ld g_3 8787 31 (fun v_4 =>
  sto g_3 8787 31 (v_4 + 1) (fun g_5 =>
  bd (F_X12_happens N g_5 11 x1) (fun o_6 =>
  some (o_6)))))))
set_option maxHeartbeats 4000000 in
set_option maxRecDepth 100000 in
theorem d_X12_writes (E : mE) (l : Launch) (N : Nat) (h : Nat) (a_g : Nat) (a_kept : Nat) (a_tape : Nat) (a_written : Nat) (a_asked : Nat) (a_there : Nat) (a_counts : Nat) (a_lasts : Nat) (a_cames : Nat)  (g : Nat → Int32) (kept : Nat → Int32) (isKept : Int32) (tape : Nat → Int32) (taped : Int32) (spot : Int32) (written : Nat → Int32) (writtenMany : Int32) (asked : Nat → Int32) (askedMany : Int32) (there : Nat → Int32) (counts : Nat → Int32) (lasts : Nat → Int32) (cames : Nat → Int32)  (x1 : Int32) (x2 : Int32)  (o : (Nat → Int32)) (hf : F_X12_writes N g x1 x2 = some o) : MX E l yX12_writes cX12_writes 4 none ({ frames := 4, cells := 0, slots := 0, locals := 91 } : Room) [.ref h, .int x1, .int x2] [(h, .inr (11, [.ref a_g, .ref a_kept, .int isKept, .ref a_tape, .int taped, .int spot, .ref a_written, .int writtenMany, .ref a_asked, .int askedMany, .ref a_there, .ref a_counts, .ref a_lasts, .ref a_cames])), (a_g, .inl (E.2.1, 8787, .inl g)), (a_kept, .inl (E.2.1, 8787, .inl kept)), (a_tape, .inl (E.2.2.1, 60, .inl tape)), (a_written, .inl (E.2.1, 40, .inl written)), (a_asked, .inl (E.2.1, 60, .inl asked)), (a_there, .inl (E.2.1, 12, .inl there)), (a_counts, .inl (E.2.1, 12, .inl counts)), (a_lasts, .inl (E.2.1, 12, .inl lasts)), (a_cames, .inl (E.2.1, 12, .inl cames))] (po_X12_writes E h a_g a_kept a_tape a_written a_asked a_there a_counts a_lasts a_cames g kept isKept tape taped spot written writtenMany asked askedMany there counts lasts cames o) := by
  refine mx_intro (by decide +kernel) (Nat.le_of_ble_eq_true rfl) ?_
  intro p e s m args below meth c A Q ls B w hl
  obtain ⟨hx, hb, hml, hown, hts⟩ := id B.1
  unfold F_X12_writes at hf
  have hl : lv_has ls 4 [(0, .ref h), (1, .int x1), (2, .int x2)] := hl
  refine lv_aload_n hx hb dX12_writes_0 rfl (lv_at hl 0 rfl) ?_
  refine lv_bipush (v := 17) hx hb dX12_writes_1 (by decide) ?_
  refine lv_sipush (v := 8527) hx hb dX12_writes_3 (by decide) ?_
  refine lv_iconst (v := 2) hx hb dX12_writes_6 (by decide) ?_
  refine lv_bipush (v := 40) hx hb dX12_writes_7 (by decide) ?_
  obtain ⟨o_1, hq, hf⟩ := bd_e hf
  refine mx_callV (As := [.int 17, .int 8527, .int 2, .int 40]) (rest := []) (wr := []) (d_X12_slot E l N h a_g a_kept a_tape a_written a_asked a_there a_counts a_lasts a_cames g kept isKept tape taped spot written writtenMany asked askedMany there counts lasts cames 17 8527 2 40  o_1 hq) B w [0, 1, 2, 3, 4, 5, 6, 7, 8, 9] [] rfl rfl (by decide) (by decide) (by decide) 0 rfl rfl cv_X12_slot kw_1369 4 (by decide +kernel) ⟨Nat.le_of_ble_eq_true rfl, Nat.le_of_ble_eq_true rfl⟩ rfl hl.1 rfl (Nat.le_of_ble_eq_true rfl) dX12_writes_9 rfl rfl ⟨Nat.zero_le _, Nat.zero_le _⟩ (fun v w' H locs hpo w => ?_)
  clear hq
  obtain ⟨rfl, rfl⟩ := hpo
  have w : mW E A s [(h, .inr (11, [.ref a_g, .ref a_kept, .int isKept, .ref a_tape, .int taped, .int spot, .ref a_written, .int writtenMany, .ref a_asked, .int askedMany, .ref a_there, .ref a_counts, .ref a_lasts, .ref a_cames])), (a_g, .inl (E.2.1, 8787, .inl o_1.2)), (a_kept, .inl (E.2.1, 8787, .inl kept)), (a_tape, .inl (E.2.2.1, 60, .inl tape)), (a_written, .inl (E.2.1, 40, .inl written)), (a_asked, .inl (E.2.1, 60, .inl asked)), (a_there, .inl (E.2.1, 12, .inl there)), (a_counts, .inl (E.2.1, 12, .inl counts)), (a_lasts, .inl (E.2.1, 12, .inl lasts)), (a_cames, .inl (E.2.1, 12, .inl cames))] H locs := w
  refine lv_istore_n (lv' := [(3, .int o_1.1), (0, .ref h), (1, .int x1), (2, .int x2)]) hx hb dX12_writes_12 rfl hl (by decide) rfl (fun ls hl => ?_)
  refine lv_aload_n hx hb dX12_writes_13 rfl (lv_at hl 1 rfl) ?_
  refine mx_get B w 0 fl_X12_9 rfl rfl dX12_writes_14 ?_
  refine lv_iload_n hx hb dX12_writes_17 rfl (lv_at hl 0 rfl) ?_
  refine lv_iload_n hx hb dX12_writes_18 rfl (lv_at hl 2 rfl) ?_
  obtain ⟨hin, hf⟩ := sto_e hf
  refine mx_iast B w 1 rfl hin dX12_writes_19 (fun g_2 H locs ev w => ?_)
  have hf := hf _ ev; clear ev
  have w : mW E A s [(h, .inr (11, [.ref a_g, .ref a_kept, .int isKept, .ref a_tape, .int taped, .int spot, .ref a_written, .int writtenMany, .ref a_asked, .int askedMany, .ref a_there, .ref a_counts, .ref a_lasts, .ref a_cames])), (a_g, .inl (E.2.1, 8787, .inl g_2)), (a_kept, .inl (E.2.1, 8787, .inl kept)), (a_tape, .inl (E.2.2.1, 60, .inl tape)), (a_written, .inl (E.2.1, 40, .inl written)), (a_asked, .inl (E.2.1, 60, .inl asked)), (a_there, .inl (E.2.1, 12, .inl there)), (a_counts, .inl (E.2.1, 12, .inl counts)), (a_lasts, .inl (E.2.1, 12, .inl lasts)), (a_cames, .inl (E.2.1, 12, .inl cames))] H locs := w
  refine lv_aload_n hx hb dX12_writes_20 rfl (lv_at hl 1 rfl) ?_
  refine mx_get B w 0 fl_X12_9 rfl rfl dX12_writes_21 ?_
  refine lv_iload_n hx hb dX12_writes_24 rfl (lv_at hl 0 rfl) ?_
  refine lv_iconst (v := 1) hx hb dX12_writes_25 (by decide) ?_
  refine lv_iadd hx hb dX12_writes_26 ?_
  refine lv_iload_n hx hb dX12_writes_27 rfl (lv_at hl 3 rfl) ?_
  obtain ⟨hin, hf⟩ := sto_e hf
  refine mx_iast B w 1 rfl hin dX12_writes_28 (fun g_3 H locs ev w => ?_)
  have hf := hf _ ev; clear ev
  have w : mW E A s [(h, .inr (11, [.ref a_g, .ref a_kept, .int isKept, .ref a_tape, .int taped, .int spot, .ref a_written, .int writtenMany, .ref a_asked, .int askedMany, .ref a_there, .ref a_counts, .ref a_lasts, .ref a_cames])), (a_g, .inl (E.2.1, 8787, .inl g_3)), (a_kept, .inl (E.2.1, 8787, .inl kept)), (a_tape, .inl (E.2.2.1, 60, .inl tape)), (a_written, .inl (E.2.1, 40, .inl written)), (a_asked, .inl (E.2.1, 60, .inl asked)), (a_there, .inl (E.2.1, 12, .inl there)), (a_counts, .inl (E.2.1, 12, .inl counts)), (a_lasts, .inl (E.2.1, 12, .inl lasts)), (a_cames, .inl (E.2.1, 12, .inl cames))] H locs := w
  refine lv_aload_n hx hb dX12_writes_29 rfl (lv_at hl 1 rfl) ?_
  refine mx_get B w 0 fl_X12_9 rfl rfl dX12_writes_30 ?_
  refine lv_bipush (v := 31) hx hb dX12_writes_33 (by decide) ?_
  refine lv_dup2_11 hx hb dX12_writes_35 rfl rfl ?_
  obtain ⟨hin, hf⟩ := ld_e hf
  refine mx_iald B w 1 rfl hin dX12_writes_36 (fun v_4 ev => ?_)
  have hf := hf _ ev; clear ev
  refine lv_iconst (v := 1) hx hb dX12_writes_37 (by decide) ?_
  refine lv_iadd hx hb dX12_writes_38 ?_
  obtain ⟨hin, hf⟩ := sto_e hf
  refine mx_iast B w 1 rfl hin dX12_writes_39 (fun g_5 H locs ev w => ?_)
  have hf := hf _ ev; clear ev
  have w : mW E A s [(h, .inr (11, [.ref a_g, .ref a_kept, .int isKept, .ref a_tape, .int taped, .int spot, .ref a_written, .int writtenMany, .ref a_asked, .int askedMany, .ref a_there, .ref a_counts, .ref a_lasts, .ref a_cames])), (a_g, .inl (E.2.1, 8787, .inl g_5)), (a_kept, .inl (E.2.1, 8787, .inl kept)), (a_tape, .inl (E.2.2.1, 60, .inl tape)), (a_written, .inl (E.2.1, 40, .inl written)), (a_asked, .inl (E.2.1, 60, .inl asked)), (a_there, .inl (E.2.1, 12, .inl there)), (a_counts, .inl (E.2.1, 12, .inl counts)), (a_lasts, .inl (E.2.1, 12, .inl lasts)), (a_cames, .inl (E.2.1, 12, .inl cames))] H locs := w
  refine lv_aload_n hx hb dX12_writes_40 rfl (lv_at hl 1 rfl) ?_
  refine lv_bipush (v := 11) hx hb dX12_writes_41 (by decide) ?_
  refine lv_iload_n hx hb dX12_writes_43 rfl (lv_at hl 2 rfl) ?_
  obtain ⟨o_6, hq, hf⟩ := bd_e hf
  refine mx_callV (As := [.int 11, .int x1]) (rest := []) (wr := []) (d_X12_happens E l N h a_g a_kept a_tape a_written a_asked a_there a_counts a_lasts a_cames g_5 kept isKept tape taped spot written writtenMany asked askedMany there counts lasts cames 11 x1  o_6 hq) B w [0, 1, 2, 3, 4, 5, 6, 7, 8, 9] [] rfl rfl (by decide) (by decide) (by decide) 0 rfl rfl cv_X12_happens kw_1373 2 (by decide +kernel) ⟨Nat.le_of_ble_eq_true rfl, Nat.le_of_ble_eq_true rfl⟩ rfl hl.1 rfl (Nat.le_of_ble_eq_true rfl) dX12_writes_44 rfl rfl ⟨Nat.zero_le _, Nat.zero_le _⟩ (fun v w' H locs hpo w => ?_)
  clear hq
  obtain ⟨rfl, rfl⟩ := hpo
  have w : mW E A s [(h, .inr (11, [.ref a_g, .ref a_kept, .int isKept, .ref a_tape, .int taped, .int spot, .ref a_written, .int writtenMany, .ref a_asked, .int askedMany, .ref a_there, .ref a_counts, .ref a_lasts, .ref a_cames])), (a_g, .inl (E.2.1, 8787, .inl o_6)), (a_kept, .inl (E.2.1, 8787, .inl kept)), (a_tape, .inl (E.2.2.1, 60, .inl tape)), (a_written, .inl (E.2.1, 40, .inl written)), (a_asked, .inl (E.2.1, 60, .inl asked)), (a_there, .inl (E.2.1, 12, .inl there)), (a_counts, .inl (E.2.1, 12, .inl counts)), (a_lasts, .inl (E.2.1, 12, .inl lasts)), (a_cames, .inl (E.2.1, 12, .inl cames))] H locs := w
  cases hf
  exact mx_vret B w ⟨rfl, rfl⟩ dX12_writes_47
-- X12_leaves
def po_X12_leaves (E : mE) (h : Nat) (a_g : Nat) (a_kept : Nat) (a_tape : Nat) (a_written : Nat) (a_asked : Nat) (a_there : Nat) (a_counts : Nat) (a_lasts : Nat) (a_cames : Nat)  (g : Nat → Int32) (kept : Nat → Int32) (isKept : Int32) (tape : Nat → Int32) (taped : Int32) (spot : Int32) (written : Nat → Int32) (writtenMany : Int32) (asked : Nat → Int32) (askedMany : Int32) (there : Nat → Int32) (counts : Nat → Int32) (lasts : Nat → Int32) (cames : Nat → Int32)  (o : (Nat → Int32)) : Option Value → va_W → Prop := (fun (v : Option Value) (w' : va_W) => v = none ∧ w' = [(h, .inr (11, [.ref a_g, .ref a_kept, .int isKept, .ref a_tape, .int taped, .int spot, .ref a_written, .int writtenMany, .ref a_asked, .int askedMany, .ref a_there, .ref a_counts, .ref a_lasts, .ref a_cames])), (a_g, .inl (E.2.1, 8787, .inl o)), (a_kept, .inl (E.2.1, 8787, .inl kept)), (a_tape, .inl (E.2.2.1, 60, .inl tape)), (a_written, .inl (E.2.1, 40, .inl written)), (a_asked, .inl (E.2.1, 60, .inl asked)), (a_there, .inl (E.2.1, 12, .inl there)), (a_counts, .inl (E.2.1, 12, .inl counts)), (a_lasts, .inl (E.2.1, 12, .inl lasts)), (a_cames, .inl (E.2.1, 12, .inl cames))])
noncomputable def J_X12_leaves_26 (N : Nat)   (x1 : Int32) (x2 : Int32) (g : Nat → Int32) : Option ((Nat → Int32)) :=
  bd (F_X12_at g x1 0) (fun o_2 =>
  bd (F_X12_happens N g x2 o_2) (fun o_3 =>
  bd (F_X12_takesOut N o_3 13 98 9 x1) (fun o_4 =>
  some (o_4))))
set_option maxHeartbeats 4000000 in
set_option maxRecDepth 100000 in
theorem j_X12_leaves_26 {E : mE} {l : Launch} {p : Program} {e : Env} {s : State} {m : MethodId} {args : Array Value} {below : List Frame} {meth : Method} {c : Code} {A : Nat → Prop} {Q : State → Prop} {N : Nat} {h : Nat} {a_g : Nat} {a_kept : Nat} {a_tape : Nat} {a_written : Nat} {a_asked : Nat} {a_there : Nat} {a_counts : Nat} {a_lasts : Nat} {a_cames : Nat}  {g0 : Nat → Int32} {kept : Nat → Int32} {isKept : Int32} {tape : Nat → Int32} {taped : Int32} {spot : Int32} {written : Nat → Int32} {writtenMany : Int32} {asked : Nat → Int32} {askedMany : Int32} {there : Nat → Int32} {counts : Nat → Int32} {lasts : Nat → Int32} {cames : Nat → Int32}  {o : (Nat → Int32)} (B : mB E yX12_leaves cX12_leaves 3 none 0 0 (po_X12_leaves E h a_g a_kept a_tape a_written a_asked a_there a_counts a_lasts a_cames g0 kept isKept tape taped spot written writtenMany asked askedMany there counts lasts cames o) p s m args below meth c A Q) {x1 : Int32} {x2 : Int32} {g : Nat → Int32}    {H : Heap} {locs : List Loc} {ls : Array Slot} (hf : J_X12_leaves_26 N x1 x2 g = some o)  (w : mW E A s [(h, .inr (11, [.ref a_g, .ref a_kept, .int isKept, .ref a_tape, .int taped, .int spot, .ref a_written, .int writtenMany, .ref a_asked, .int askedMany, .ref a_there, .ref a_counts, .ref a_lasts, .ref a_cames])), (a_g, .inl (E.2.1, 8787, .inl g)), (a_kept, .inl (E.2.1, 8787, .inl kept)), (a_tape, .inl (E.2.2.1, 60, .inl tape)), (a_written, .inl (E.2.1, 40, .inl written)), (a_asked, .inl (E.2.1, 60, .inl asked)), (a_there, .inl (E.2.1, 12, .inl there)), (a_counts, .inl (E.2.1, 12, .inl counts)), (a_lasts, .inl (E.2.1, 12, .inl lasts)), (a_cames, .inl (E.2.1, 12, .inl cames))] H locs) (hl : lv_has ls 3 [(0, .ref h), (1, .int x1), (2, .int x2)]) : W p l e ({ frames := 5, cells := 0, slots := 0, locals := 114 } : Room) s m args below meth c H locs 0 0 Q (F0 m 26 ls []) := by
  obtain ⟨hx, hb, hml, hown, hts⟩ := id B.1
  unfold J_X12_leaves_26 at hf
  refine lv_aload_n hx hb dX12_leaves_26 rfl (lv_at hl 0 rfl) ?_
  refine lv_iload_n hx hb dX12_leaves_27 rfl (lv_at hl 2 rfl) ?_
  refine lv_aload_n hx hb dX12_leaves_28 rfl (lv_at hl 0 rfl) ?_
  refine lv_iload_n hx hb dX12_leaves_29 rfl (lv_at hl 1 rfl) ?_
  refine lv_iconst (v := 0) hx hb dX12_leaves_30 (by decide) ?_
  obtain ⟨o_2, hq, hf⟩ := bd_e hf
  refine mx_callV (As := [.int x1, .int 0]) (rest := [.int x2, .ref h]) (wr := []) (d_X12_at E l  h a_g a_kept a_tape a_written a_asked a_there a_counts a_lasts a_cames g kept isKept tape taped spot written writtenMany asked askedMany there counts lasts cames x1 0  o_2 hq) B w [0, 1, 2, 3, 4, 5, 6, 7, 8, 9] [] rfl rfl (by decide) (by decide) (by decide) 0 rfl rfl cv_X12_at kw_1325 2 (by decide +kernel) ⟨Nat.le_of_ble_eq_true rfl, Nat.le_of_ble_eq_true rfl⟩ rfl hl.1 rfl (Nat.le_of_ble_eq_true rfl) dX12_leaves_31 rfl rfl ⟨Nat.zero_le _, Nat.zero_le _⟩ (fun v w' H locs hpo w => ?_)
  clear hq
  obtain ⟨rfl, rfl⟩ := hpo
  have w : mW E A s [(h, .inr (11, [.ref a_g, .ref a_kept, .int isKept, .ref a_tape, .int taped, .int spot, .ref a_written, .int writtenMany, .ref a_asked, .int askedMany, .ref a_there, .ref a_counts, .ref a_lasts, .ref a_cames])), (a_g, .inl (E.2.1, 8787, .inl g)), (a_kept, .inl (E.2.1, 8787, .inl kept)), (a_tape, .inl (E.2.2.1, 60, .inl tape)), (a_written, .inl (E.2.1, 40, .inl written)), (a_asked, .inl (E.2.1, 60, .inl asked)), (a_there, .inl (E.2.1, 12, .inl there)), (a_counts, .inl (E.2.1, 12, .inl counts)), (a_lasts, .inl (E.2.1, 12, .inl lasts)), (a_cames, .inl (E.2.1, 12, .inl cames))] H locs := w
  obtain ⟨o_3, hq, hf⟩ := bd_e hf
  refine mx_callV (As := [.int x2, .int o_2]) (rest := []) (wr := []) (d_X12_happens E l N h a_g a_kept a_tape a_written a_asked a_there a_counts a_lasts a_cames g kept isKept tape taped spot written writtenMany asked askedMany there counts lasts cames x2 o_2  o_3 hq) B w [0, 1, 2, 3, 4, 5, 6, 7, 8, 9] [] rfl rfl (by decide) (by decide) (by decide) 0 rfl rfl cv_X12_happens kw_1373 2 (by decide +kernel) ⟨Nat.le_of_ble_eq_true rfl, Nat.le_of_ble_eq_true rfl⟩ rfl hl.1 rfl (Nat.le_of_ble_eq_true rfl) dX12_leaves_34 rfl rfl ⟨Nat.zero_le _, Nat.zero_le _⟩ (fun v w' H locs hpo w => ?_)
  clear hq
  obtain ⟨rfl, rfl⟩ := hpo
  have w : mW E A s [(h, .inr (11, [.ref a_g, .ref a_kept, .int isKept, .ref a_tape, .int taped, .int spot, .ref a_written, .int writtenMany, .ref a_asked, .int askedMany, .ref a_there, .ref a_counts, .ref a_lasts, .ref a_cames])), (a_g, .inl (E.2.1, 8787, .inl o_3)), (a_kept, .inl (E.2.1, 8787, .inl kept)), (a_tape, .inl (E.2.2.1, 60, .inl tape)), (a_written, .inl (E.2.1, 40, .inl written)), (a_asked, .inl (E.2.1, 60, .inl asked)), (a_there, .inl (E.2.1, 12, .inl there)), (a_counts, .inl (E.2.1, 12, .inl counts)), (a_lasts, .inl (E.2.1, 12, .inl lasts)), (a_cames, .inl (E.2.1, 12, .inl cames))] H locs := w
  refine lv_aload_n hx hb dX12_leaves_37 rfl (lv_at hl 0 rfl) ?_
  refine lv_bipush (v := 13) hx hb dX12_leaves_38 (by decide) ?_
  refine lv_bipush (v := 98) hx hb dX12_leaves_40 (by decide) ?_
  refine lv_bipush (v := 9) hx hb dX12_leaves_42 (by decide) ?_
  refine lv_iload_n hx hb dX12_leaves_44 rfl (lv_at hl 1 rfl) ?_
  obtain ⟨o_4, hq, hf⟩ := bd_e hf
  refine mx_callV (As := [.int 13, .int 98, .int 9, .int x1]) (rest := []) (wr := []) (d_X12_takesOut E l N h a_g a_kept a_tape a_written a_asked a_there a_counts a_lasts a_cames o_3 kept isKept tape taped spot written writtenMany asked askedMany there counts lasts cames 13 98 9 x1  o_4 hq) B w [0, 1, 2, 3, 4, 5, 6, 7, 8, 9] [] rfl rfl (by decide) (by decide) (by decide) 0 rfl rfl cv_X12_takesOut kw_1357 4 (by decide +kernel) ⟨Nat.le_of_ble_eq_true rfl, Nat.le_of_ble_eq_true rfl⟩ rfl hl.1 rfl (Nat.le_of_ble_eq_true rfl) dX12_leaves_45 rfl rfl ⟨Nat.zero_le _, Nat.zero_le _⟩ (fun v w' H locs hpo w => ?_)
  clear hq
  obtain ⟨rfl, rfl⟩ := hpo
  have w : mW E A s [(h, .inr (11, [.ref a_g, .ref a_kept, .int isKept, .ref a_tape, .int taped, .int spot, .ref a_written, .int writtenMany, .ref a_asked, .int askedMany, .ref a_there, .ref a_counts, .ref a_lasts, .ref a_cames])), (a_g, .inl (E.2.1, 8787, .inl o_4)), (a_kept, .inl (E.2.1, 8787, .inl kept)), (a_tape, .inl (E.2.2.1, 60, .inl tape)), (a_written, .inl (E.2.1, 40, .inl written)), (a_asked, .inl (E.2.1, 60, .inl asked)), (a_there, .inl (E.2.1, 12, .inl there)), (a_counts, .inl (E.2.1, 12, .inl counts)), (a_lasts, .inl (E.2.1, 12, .inl lasts)), (a_cames, .inl (E.2.1, 12, .inl cames))] H locs := w
  cases hf
  exact mx_vret B w ⟨rfl, rfl⟩ dX12_leaves_48
noncomputable def F_X12_leaves (N : Nat)  (g : Nat → Int32) (x1 : Int32) (x2 : Int32) : Option ((Nat → Int32)) :=
  bd (F_X12_at g x1 8) (fun o_1 =>
  if (o_1 = 0 : Prop) then
  J_X12_leaves_26 N x1 x2 g
  else
  bd (F_X12_at g x1 0) (fun o_5 =>
  bd (F_X12_at g x1 1) (fun o_6 =>
  bd (F_X12_writes N g o_5 o_6) (fun o_7 =>
  J_X12_leaves_26 N x1 x2 o_7))))
set_option maxHeartbeats 4000000 in
set_option maxRecDepth 100000 in
theorem d_X12_leaves (E : mE) (l : Launch) (N : Nat) (h : Nat) (a_g : Nat) (a_kept : Nat) (a_tape : Nat) (a_written : Nat) (a_asked : Nat) (a_there : Nat) (a_counts : Nat) (a_lasts : Nat) (a_cames : Nat)  (g : Nat → Int32) (kept : Nat → Int32) (isKept : Int32) (tape : Nat → Int32) (taped : Int32) (spot : Int32) (written : Nat → Int32) (writtenMany : Int32) (asked : Nat → Int32) (askedMany : Int32) (there : Nat → Int32) (counts : Nat → Int32) (lasts : Nat → Int32) (cames : Nat → Int32)  (x1 : Int32) (x2 : Int32)  (o : (Nat → Int32)) (hf : F_X12_leaves N g x1 x2 = some o) : MX E l yX12_leaves cX12_leaves 3 none ({ frames := 5, cells := 0, slots := 0, locals := 114 } : Room) [.ref h, .int x1, .int x2] [(h, .inr (11, [.ref a_g, .ref a_kept, .int isKept, .ref a_tape, .int taped, .int spot, .ref a_written, .int writtenMany, .ref a_asked, .int askedMany, .ref a_there, .ref a_counts, .ref a_lasts, .ref a_cames])), (a_g, .inl (E.2.1, 8787, .inl g)), (a_kept, .inl (E.2.1, 8787, .inl kept)), (a_tape, .inl (E.2.2.1, 60, .inl tape)), (a_written, .inl (E.2.1, 40, .inl written)), (a_asked, .inl (E.2.1, 60, .inl asked)), (a_there, .inl (E.2.1, 12, .inl there)), (a_counts, .inl (E.2.1, 12, .inl counts)), (a_lasts, .inl (E.2.1, 12, .inl lasts)), (a_cames, .inl (E.2.1, 12, .inl cames))] (po_X12_leaves E h a_g a_kept a_tape a_written a_asked a_there a_counts a_lasts a_cames g kept isKept tape taped spot written writtenMany asked askedMany there counts lasts cames o) := by
  refine mx_intro (by decide +kernel) (Nat.le_of_ble_eq_true rfl) ?_
  intro p e s m args below meth c A Q ls B w hl
  obtain ⟨hx, hb, hml, hown, hts⟩ := id B.1
  unfold F_X12_leaves at hf
  have hl : lv_has ls 3 [(0, .ref h), (1, .int x1), (2, .int x2)] := hl
  refine lv_aload_n hx hb dX12_leaves_0 rfl (lv_at hl 0 rfl) ?_
  refine lv_iload_n hx hb dX12_leaves_1 rfl (lv_at hl 1 rfl) ?_
  refine lv_bipush (v := 8) hx hb dX12_leaves_2 (by decide) ?_
  obtain ⟨o_1, hq, hf⟩ := bd_e hf
  refine mx_callV (As := [.int x1, .int 8]) (rest := []) (wr := []) (d_X12_at E l  h a_g a_kept a_tape a_written a_asked a_there a_counts a_lasts a_cames g kept isKept tape taped spot written writtenMany asked askedMany there counts lasts cames x1 8  o_1 hq) B w [0, 1, 2, 3, 4, 5, 6, 7, 8, 9] [] rfl rfl (by decide) (by decide) (by decide) 0 rfl rfl cv_X12_at kw_1325 2 (by decide +kernel) ⟨Nat.le_of_ble_eq_true rfl, Nat.le_of_ble_eq_true rfl⟩ rfl hl.1 rfl (Nat.le_of_ble_eq_true rfl) dX12_leaves_4 rfl rfl ⟨Nat.zero_le _, Nat.zero_le _⟩ (fun v w' H locs hpo w => ?_)
  clear hq
  obtain ⟨rfl, rfl⟩ := hpo
  have w : mW E A s [(h, .inr (11, [.ref a_g, .ref a_kept, .int isKept, .ref a_tape, .int taped, .int spot, .ref a_written, .int writtenMany, .ref a_asked, .int askedMany, .ref a_there, .ref a_counts, .ref a_lasts, .ref a_cames])), (a_g, .inl (E.2.1, 8787, .inl g)), (a_kept, .inl (E.2.1, 8787, .inl kept)), (a_tape, .inl (E.2.2.1, 60, .inl tape)), (a_written, .inl (E.2.1, 40, .inl written)), (a_asked, .inl (E.2.1, 60, .inl asked)), (a_there, .inl (E.2.1, 12, .inl there)), (a_counts, .inl (E.2.1, 12, .inl counts)), (a_lasts, .inl (E.2.1, 12, .inl lasts)), (a_cames, .inl (E.2.1, 12, .inl cames))] H locs := w
  refine lv_if_eq (tgt := 26) hx hb dX12_leaves_7 (by decide) (fun hc => ?_) (fun hc => ?_)
  · have hf := it_t hc hf
    exact j_X12_leaves_26 B   hf  w (lv_sub hl [0, 1, 2] rfl)
  · have hf := it_f hc hf
    refine lv_aload_n hx hb dX12_leaves_10 rfl (lv_at hl 0 rfl) ?_
    refine lv_aload_n hx hb dX12_leaves_11 rfl (lv_at hl 0 rfl) ?_
    refine lv_iload_n hx hb dX12_leaves_12 rfl (lv_at hl 1 rfl) ?_
    refine lv_iconst (v := 0) hx hb dX12_leaves_13 (by decide) ?_
    obtain ⟨o_5, hq, hf⟩ := bd_e hf
    refine mx_callV (As := [.int x1, .int 0]) (rest := [.ref h]) (wr := []) (d_X12_at E l  h a_g a_kept a_tape a_written a_asked a_there a_counts a_lasts a_cames g kept isKept tape taped spot written writtenMany asked askedMany there counts lasts cames x1 0  o_5 hq) B w [0, 1, 2, 3, 4, 5, 6, 7, 8, 9] [] rfl rfl (by decide) (by decide) (by decide) 0 rfl rfl cv_X12_at kw_1325 2 (by decide +kernel) ⟨Nat.le_of_ble_eq_true rfl, Nat.le_of_ble_eq_true rfl⟩ rfl hl.1 rfl (Nat.le_of_ble_eq_true rfl) dX12_leaves_14 rfl rfl ⟨Nat.zero_le _, Nat.zero_le _⟩ (fun v w' H locs hpo w => ?_)
    clear hq
    obtain ⟨rfl, rfl⟩ := hpo
    have w : mW E A s [(h, .inr (11, [.ref a_g, .ref a_kept, .int isKept, .ref a_tape, .int taped, .int spot, .ref a_written, .int writtenMany, .ref a_asked, .int askedMany, .ref a_there, .ref a_counts, .ref a_lasts, .ref a_cames])), (a_g, .inl (E.2.1, 8787, .inl g)), (a_kept, .inl (E.2.1, 8787, .inl kept)), (a_tape, .inl (E.2.2.1, 60, .inl tape)), (a_written, .inl (E.2.1, 40, .inl written)), (a_asked, .inl (E.2.1, 60, .inl asked)), (a_there, .inl (E.2.1, 12, .inl there)), (a_counts, .inl (E.2.1, 12, .inl counts)), (a_lasts, .inl (E.2.1, 12, .inl lasts)), (a_cames, .inl (E.2.1, 12, .inl cames))] H locs := w
    refine lv_aload_n hx hb dX12_leaves_17 rfl (lv_at hl 0 rfl) ?_
    refine lv_iload_n hx hb dX12_leaves_18 rfl (lv_at hl 1 rfl) ?_
    refine lv_iconst (v := 1) hx hb dX12_leaves_19 (by decide) ?_
    obtain ⟨o_6, hq, hf⟩ := bd_e hf
    refine mx_callV (As := [.int x1, .int 1]) (rest := [.int o_5, .ref h]) (wr := []) (d_X12_at E l  h a_g a_kept a_tape a_written a_asked a_there a_counts a_lasts a_cames g kept isKept tape taped spot written writtenMany asked askedMany there counts lasts cames x1 1  o_6 hq) B w [0, 1, 2, 3, 4, 5, 6, 7, 8, 9] [] rfl rfl (by decide) (by decide) (by decide) 0 rfl rfl cv_X12_at kw_1325 2 (by decide +kernel) ⟨Nat.le_of_ble_eq_true rfl, Nat.le_of_ble_eq_true rfl⟩ rfl hl.1 rfl (Nat.le_of_ble_eq_true rfl) dX12_leaves_20 rfl rfl ⟨Nat.zero_le _, Nat.zero_le _⟩ (fun v w' H locs hpo w => ?_)
    clear hq
    obtain ⟨rfl, rfl⟩ := hpo
    have w : mW E A s [(h, .inr (11, [.ref a_g, .ref a_kept, .int isKept, .ref a_tape, .int taped, .int spot, .ref a_written, .int writtenMany, .ref a_asked, .int askedMany, .ref a_there, .ref a_counts, .ref a_lasts, .ref a_cames])), (a_g, .inl (E.2.1, 8787, .inl g)), (a_kept, .inl (E.2.1, 8787, .inl kept)), (a_tape, .inl (E.2.2.1, 60, .inl tape)), (a_written, .inl (E.2.1, 40, .inl written)), (a_asked, .inl (E.2.1, 60, .inl asked)), (a_there, .inl (E.2.1, 12, .inl there)), (a_counts, .inl (E.2.1, 12, .inl counts)), (a_lasts, .inl (E.2.1, 12, .inl lasts)), (a_cames, .inl (E.2.1, 12, .inl cames))] H locs := w
    obtain ⟨o_7, hq, hf⟩ := bd_e hf
    refine mx_callV (As := [.int o_5, .int o_6]) (rest := []) (wr := []) (d_X12_writes E l N h a_g a_kept a_tape a_written a_asked a_there a_counts a_lasts a_cames g kept isKept tape taped spot written writtenMany asked askedMany there counts lasts cames o_5 o_6  o_7 hq) B w [0, 1, 2, 3, 4, 5, 6, 7, 8, 9] [] rfl rfl (by decide) (by decide) (by decide) 0 rfl rfl cv_X12_writes kw_1365 2 (by decide +kernel) ⟨Nat.le_of_ble_eq_true rfl, Nat.le_of_ble_eq_true rfl⟩ rfl hl.1 rfl (Nat.le_of_ble_eq_true rfl) dX12_leaves_23 rfl rfl ⟨Nat.zero_le _, Nat.zero_le _⟩ (fun v w' H locs hpo w => ?_)
    clear hq
    obtain ⟨rfl, rfl⟩ := hpo
    have w : mW E A s [(h, .inr (11, [.ref a_g, .ref a_kept, .int isKept, .ref a_tape, .int taped, .int spot, .ref a_written, .int writtenMany, .ref a_asked, .int askedMany, .ref a_there, .ref a_counts, .ref a_lasts, .ref a_cames])), (a_g, .inl (E.2.1, 8787, .inl o_7)), (a_kept, .inl (E.2.1, 8787, .inl kept)), (a_tape, .inl (E.2.2.1, 60, .inl tape)), (a_written, .inl (E.2.1, 40, .inl written)), (a_asked, .inl (E.2.1, 60, .inl asked)), (a_there, .inl (E.2.1, 12, .inl there)), (a_counts, .inl (E.2.1, 12, .inl counts)), (a_lasts, .inl (E.2.1, 12, .inl lasts)), (a_cames, .inl (E.2.1, 12, .inl cames))] H locs := w
    exact j_X12_leaves_26 B   hf  w (lv_sub hl [0, 1, 2] rfl)
-- X12_yields
def po_X12_yields (E : mE) (h : Nat) (a_g : Nat) (a_kept : Nat) (a_tape : Nat) (a_written : Nat) (a_asked : Nat) (a_there : Nat) (a_counts : Nat) (a_lasts : Nat) (a_cames : Nat)  (g : Nat → Int32) (kept : Nat → Int32) (isKept : Int32) (tape : Nat → Int32) (taped : Int32) (spot : Int32) (written : Nat → Int32) (writtenMany : Int32) (asked : Nat → Int32) (askedMany : Int32) (there : Nat → Int32) (counts : Nat → Int32) (lasts : Nat → Int32) (cames : Nat → Int32)  (o : (Nat → Int32)) : Option Value → va_W → Prop := (fun (v : Option Value) (w' : va_W) => v = none ∧ w' = [(h, .inr (11, [.ref a_g, .ref a_kept, .int isKept, .ref a_tape, .int taped, .int spot, .ref a_written, .int writtenMany, .ref a_asked, .int askedMany, .ref a_there, .ref a_counts, .ref a_lasts, .ref a_cames])), (a_g, .inl (E.2.1, 8787, .inl o)), (a_kept, .inl (E.2.1, 8787, .inl kept)), (a_tape, .inl (E.2.2.1, 60, .inl tape)), (a_written, .inl (E.2.1, 40, .inl written)), (a_asked, .inl (E.2.1, 60, .inl asked)), (a_there, .inl (E.2.1, 12, .inl there)), (a_counts, .inl (E.2.1, 12, .inl counts)), (a_lasts, .inl (E.2.1, 12, .inl lasts)), (a_cames, .inl (E.2.1, 12, .inl cames))])
noncomputable def J_X12_yields_81 (N : Nat)   (x1 : Int32) (g : Nat → Int32) : Option ((Nat → Int32)) :=
  bd (F_X12_leaves N g x1 7) (fun o_5 =>
  some (o_5))
set_option maxHeartbeats 4000000 in
set_option maxRecDepth 100000 in
theorem j_X12_yields_81 {E : mE} {l : Launch} {p : Program} {e : Env} {s : State} {m : MethodId} {args : Array Value} {below : List Frame} {meth : Method} {c : Code} {A : Nat → Prop} {Q : State → Prop} {N : Nat} {h : Nat} {a_g : Nat} {a_kept : Nat} {a_tape : Nat} {a_written : Nat} {a_asked : Nat} {a_there : Nat} {a_counts : Nat} {a_lasts : Nat} {a_cames : Nat}  {g0 : Nat → Int32} {kept : Nat → Int32} {isKept : Int32} {tape : Nat → Int32} {taped : Int32} {spot : Int32} {written : Nat → Int32} {writtenMany : Int32} {asked : Nat → Int32} {askedMany : Int32} {there : Nat → Int32} {counts : Nat → Int32} {lasts : Nat → Int32} {cames : Nat → Int32}  {o : (Nat → Int32)} (B : mB E yX12_yields cX12_yields 4 none 0 0 (po_X12_yields E h a_g a_kept a_tape a_written a_asked a_there a_counts a_lasts a_cames g0 kept isKept tape taped spot written writtenMany asked askedMany there counts lasts cames o) p s m args below meth c A Q) {x1 : Int32} {g : Nat → Int32}    {H : Heap} {locs : List Loc} {ls : Array Slot} (hf : J_X12_yields_81 N x1 g = some o)  (w : mW E A s [(h, .inr (11, [.ref a_g, .ref a_kept, .int isKept, .ref a_tape, .int taped, .int spot, .ref a_written, .int writtenMany, .ref a_asked, .int askedMany, .ref a_there, .ref a_counts, .ref a_lasts, .ref a_cames])), (a_g, .inl (E.2.1, 8787, .inl g)), (a_kept, .inl (E.2.1, 8787, .inl kept)), (a_tape, .inl (E.2.2.1, 60, .inl tape)), (a_written, .inl (E.2.1, 40, .inl written)), (a_asked, .inl (E.2.1, 60, .inl asked)), (a_there, .inl (E.2.1, 12, .inl there)), (a_counts, .inl (E.2.1, 12, .inl counts)), (a_lasts, .inl (E.2.1, 12, .inl lasts)), (a_cames, .inl (E.2.1, 12, .inl cames))] H locs) (hl : lv_has ls 4 [(0, .ref h), (1, .int x1)]) : W p l e ({ frames := 6, cells := 0, slots := 0, locals := 136 } : Room) s m args below meth c H locs 0 0 Q (F0 m 81 ls []) := by
  obtain ⟨hx, hb, hml, hown, hts⟩ := id B.1
  unfold J_X12_yields_81 at hf
  refine lv_aload_n hx hb dX12_yields_81 rfl (lv_at hl 0 rfl) ?_
  refine lv_iload_n hx hb dX12_yields_82 rfl (lv_at hl 1 rfl) ?_
  refine lv_bipush (v := 7) hx hb dX12_yields_83 (by decide) ?_
  obtain ⟨o_5, hq, hf⟩ := bd_e hf
  refine mx_callV (As := [.int x1, .int 7]) (rest := []) (wr := []) (d_X12_leaves E l N h a_g a_kept a_tape a_written a_asked a_there a_counts a_lasts a_cames g kept isKept tape taped spot written writtenMany asked askedMany there counts lasts cames x1 7  o_5 hq) B w [0, 1, 2, 3, 4, 5, 6, 7, 8, 9] [] rfl rfl (by decide) (by decide) (by decide) 0 rfl rfl cv_X12_leaves kw_1361 2 (by decide +kernel) ⟨Nat.le_of_ble_eq_true rfl, Nat.le_of_ble_eq_true rfl⟩ rfl hl.1 rfl (Nat.le_of_ble_eq_true rfl) dX12_yields_85 rfl rfl ⟨Nat.zero_le _, Nat.zero_le _⟩ (fun v w' H locs hpo w => ?_)
  clear hq
  obtain ⟨rfl, rfl⟩ := hpo
  have w : mW E A s [(h, .inr (11, [.ref a_g, .ref a_kept, .int isKept, .ref a_tape, .int taped, .int spot, .ref a_written, .int writtenMany, .ref a_asked, .int askedMany, .ref a_there, .ref a_counts, .ref a_lasts, .ref a_cames])), (a_g, .inl (E.2.1, 8787, .inl o_5)), (a_kept, .inl (E.2.1, 8787, .inl kept)), (a_tape, .inl (E.2.2.1, 60, .inl tape)), (a_written, .inl (E.2.1, 40, .inl written)), (a_asked, .inl (E.2.1, 60, .inl asked)), (a_there, .inl (E.2.1, 12, .inl there)), (a_counts, .inl (E.2.1, 12, .inl counts)), (a_lasts, .inl (E.2.1, 12, .inl lasts)), (a_cames, .inl (E.2.1, 12, .inl cames))] H locs := w
  cases hf
  exact mx_vret B w ⟨rfl, rfl⟩ dX12_yields_88
noncomputable def J_X12_yields_13 (N : Nat)   (t0 : Int32) (x1 : Int32) (g : Nat → Int32) : Option ((Nat → Int32)) :=
  lt (98 + (x1 * 9)) (fun x3_2 =>
  ld g 8787 27 (fun v_3 =>
  sto g 8787 27 (v_3 + 1) (fun g_4 =>
  if (t0 = 0 : Prop) then
  J_X12_yields_81 N x1 g_4
  else
  ld g_4 8787 (x3_2 + 0) (fun v_6 =>
  ld g_4 8787 (x3_2 + 1) (fun v_7 =>
  ld g_4 8787 (x3_2 + 2) (fun v_8 =>
  ld g_4 8787 (x3_2 + 3) (fun v_9 =>
  ld g_4 8787 (x3_2 + 4) (fun v_10 =>
  bd (F_X12_cools N g_4 v_6 v_7 v_8 v_9 v_10) (fun o_11 =>
  J_X12_yields_81 N x1 o_11)))))))))
set_option maxHeartbeats 4000000 in
set_option maxRecDepth 100000 in
theorem j_X12_yields_13 {E : mE} {l : Launch} {p : Program} {e : Env} {s : State} {m : MethodId} {args : Array Value} {below : List Frame} {meth : Method} {c : Code} {A : Nat → Prop} {Q : State → Prop} {N : Nat} {h : Nat} {a_g : Nat} {a_kept : Nat} {a_tape : Nat} {a_written : Nat} {a_asked : Nat} {a_there : Nat} {a_counts : Nat} {a_lasts : Nat} {a_cames : Nat}  {g0 : Nat → Int32} {kept : Nat → Int32} {isKept : Int32} {tape : Nat → Int32} {taped : Int32} {spot : Int32} {written : Nat → Int32} {writtenMany : Int32} {asked : Nat → Int32} {askedMany : Int32} {there : Nat → Int32} {counts : Nat → Int32} {lasts : Nat → Int32} {cames : Nat → Int32}  {o : (Nat → Int32)} (B : mB E yX12_yields cX12_yields 4 none 0 0 (po_X12_yields E h a_g a_kept a_tape a_written a_asked a_there a_counts a_lasts a_cames g0 kept isKept tape taped spot written writtenMany asked askedMany there counts lasts cames o) p s m args below meth c A Q) {t0 : Int32} {x1 : Int32} {g : Nat → Int32}    {H : Heap} {locs : List Loc} {ls : Array Slot} (hf : J_X12_yields_13 N t0 x1 g = some o)  (w : mW E A s [(h, .inr (11, [.ref a_g, .ref a_kept, .int isKept, .ref a_tape, .int taped, .int spot, .ref a_written, .int writtenMany, .ref a_asked, .int askedMany, .ref a_there, .ref a_counts, .ref a_lasts, .ref a_cames])), (a_g, .inl (E.2.1, 8787, .inl g)), (a_kept, .inl (E.2.1, 8787, .inl kept)), (a_tape, .inl (E.2.2.1, 60, .inl tape)), (a_written, .inl (E.2.1, 40, .inl written)), (a_asked, .inl (E.2.1, 60, .inl asked)), (a_there, .inl (E.2.1, 12, .inl there)), (a_counts, .inl (E.2.1, 12, .inl counts)), (a_lasts, .inl (E.2.1, 12, .inl lasts)), (a_cames, .inl (E.2.1, 12, .inl cames))] H locs) (hl : lv_has ls 4 [(0, .ref h), (1, .int x1)]) : W p l e ({ frames := 6, cells := 0, slots := 0, locals := 136 } : Room) s m args below meth c H locs 0 0 Q (F0 m 13 ls [.int t0]) := by
  obtain ⟨hx, hb, hml, hown, hts⟩ := id B.1
  unfold J_X12_yields_13 at hf
  refine lv_istore_n (lv' := [(2, .int t0), (0, .ref h), (1, .int x1)]) hx hb dX12_yields_13 rfl hl (by decide) rfl (fun ls hl => ?_)
  refine lv_bipush (v := 98) hx hb dX12_yields_14 (by decide) ?_
  refine lv_iload_n hx hb dX12_yields_16 rfl (lv_at hl 2 rfl) ?_
  refine lv_bipush (v := 9) hx hb dX12_yields_17 (by decide) ?_
  refine lv_imul hx hb dX12_yields_19 ?_
  refine lv_iadd hx hb dX12_yields_20 ?_
  refine lv_topi (fun x3_2 ev => ?_)
  have hf := lt_n ev hf; clear ev
  refine lv_istore_n (lv' := [(3, .int x3_2), (2, .int t0), (0, .ref h), (1, .int x1)]) hx hb dX12_yields_21 rfl hl (by decide) rfl (fun ls hl => ?_)
  refine lv_aload_n hx hb dX12_yields_22 rfl (lv_at hl 2 rfl) ?_
  refine mx_get B w 0 fl_X12_9 rfl rfl dX12_yields_23 ?_
  refine lv_bipush (v := 27) hx hb dX12_yields_26 (by decide) ?_
  refine lv_dup2_11 hx hb dX12_yields_28 rfl rfl ?_
  obtain ⟨hin, hf⟩ := ld_e hf
  refine mx_iald B w 1 rfl hin dX12_yields_29 (fun v_3 ev => ?_)
  have hf := hf _ ev; clear ev
  refine lv_iconst (v := 1) hx hb dX12_yields_30 (by decide) ?_
  refine lv_iadd hx hb dX12_yields_31 ?_
  obtain ⟨hin, hf⟩ := sto_e hf
  refine mx_iast B w 1 rfl hin dX12_yields_32 (fun g_4 H locs ev w => ?_)
  have hf := hf _ ev; clear ev
  have w : mW E A s [(h, .inr (11, [.ref a_g, .ref a_kept, .int isKept, .ref a_tape, .int taped, .int spot, .ref a_written, .int writtenMany, .ref a_asked, .int askedMany, .ref a_there, .ref a_counts, .ref a_lasts, .ref a_cames])), (a_g, .inl (E.2.1, 8787, .inl g_4)), (a_kept, .inl (E.2.1, 8787, .inl kept)), (a_tape, .inl (E.2.2.1, 60, .inl tape)), (a_written, .inl (E.2.1, 40, .inl written)), (a_asked, .inl (E.2.1, 60, .inl asked)), (a_there, .inl (E.2.1, 12, .inl there)), (a_counts, .inl (E.2.1, 12, .inl counts)), (a_lasts, .inl (E.2.1, 12, .inl lasts)), (a_cames, .inl (E.2.1, 12, .inl cames))] H locs := w
  refine lv_iload_n hx hb dX12_yields_33 rfl (lv_at hl 1 rfl) ?_
  refine lv_if_eq (tgt := 81) hx hb dX12_yields_34 (by decide) (fun hc => ?_) (fun hc => ?_)
  · have hf := it_t hc hf
    exact j_X12_yields_81 B   hf  w (lv_sub hl [2, 3] rfl)
  · have hf := it_f hc hf
    refine lv_aload_n hx hb dX12_yields_37 rfl (lv_at hl 2 rfl) ?_
    refine lv_aload_n hx hb dX12_yields_38 rfl (lv_at hl 2 rfl) ?_
    refine mx_get B w 0 fl_X12_9 rfl rfl dX12_yields_39 ?_
    refine lv_iload_n hx hb dX12_yields_42 rfl (lv_at hl 0 rfl) ?_
    refine lv_iconst (v := 0) hx hb dX12_yields_43 (by decide) ?_
    refine lv_iadd hx hb dX12_yields_44 ?_
    obtain ⟨hin, hf⟩ := ld_e hf
    refine mx_iald B w 1 rfl hin dX12_yields_45 (fun v_6 ev => ?_)
    have hf := hf _ ev; clear ev
    refine lv_aload_n hx hb dX12_yields_46 rfl (lv_at hl 2 rfl) ?_
    refine mx_get B w 0 fl_X12_9 rfl rfl dX12_yields_47 ?_
    refine lv_iload_n hx hb dX12_yields_50 rfl (lv_at hl 0 rfl) ?_
    refine lv_iconst (v := 1) hx hb dX12_yields_51 (by decide) ?_
    refine lv_iadd hx hb dX12_yields_52 ?_
    obtain ⟨hin, hf⟩ := ld_e hf
    refine mx_iald B w 1 rfl hin dX12_yields_53 (fun v_7 ev => ?_)
    have hf := hf _ ev; clear ev
    refine lv_aload_n hx hb dX12_yields_54 rfl (lv_at hl 2 rfl) ?_
    refine mx_get B w 0 fl_X12_9 rfl rfl dX12_yields_55 ?_
    refine lv_iload_n hx hb dX12_yields_58 rfl (lv_at hl 0 rfl) ?_
    refine lv_iconst (v := 2) hx hb dX12_yields_59 (by decide) ?_
    refine lv_iadd hx hb dX12_yields_60 ?_
    obtain ⟨hin, hf⟩ := ld_e hf
    refine mx_iald B w 1 rfl hin dX12_yields_61 (fun v_8 ev => ?_)
    have hf := hf _ ev; clear ev
    refine lv_aload_n hx hb dX12_yields_62 rfl (lv_at hl 2 rfl) ?_
    refine mx_get B w 0 fl_X12_9 rfl rfl dX12_yields_63 ?_
    refine lv_iload_n hx hb dX12_yields_66 rfl (lv_at hl 0 rfl) ?_
    refine lv_iconst (v := 3) hx hb dX12_yields_67 (by decide) ?_
    refine lv_iadd hx hb dX12_yields_68 ?_
    obtain ⟨hin, hf⟩ := ld_e hf
    refine mx_iald B w 1 rfl hin dX12_yields_69 (fun v_9 ev => ?_)
    have hf := hf _ ev; clear ev
    refine lv_aload_n hx hb dX12_yields_70 rfl (lv_at hl 2 rfl) ?_
    refine mx_get B w 0 fl_X12_9 rfl rfl dX12_yields_71 ?_
    refine lv_iload_n hx hb dX12_yields_74 rfl (lv_at hl 0 rfl) ?_
    refine lv_iconst (v := 4) hx hb dX12_yields_75 (by decide) ?_
    refine lv_iadd hx hb dX12_yields_76 ?_
    obtain ⟨hin, hf⟩ := ld_e hf
    refine mx_iald B w 1 rfl hin dX12_yields_77 (fun v_10 ev => ?_)
    have hf := hf _ ev; clear ev
    obtain ⟨o_11, hq, hf⟩ := bd_e hf
    refine mx_callV (As := [.int v_6, .int v_7, .int v_8, .int v_9, .int v_10]) (rest := []) (wr := []) (d_X12_cools E l N h a_g a_kept a_tape a_written a_asked a_there a_counts a_lasts a_cames g_4 kept isKept tape taped spot written writtenMany asked askedMany there counts lasts cames v_6 v_7 v_8 v_9 v_10  o_11 hq) B w [0, 1, 2, 3, 4, 5, 6, 7, 8, 9] [] rfl rfl (by decide) (by decide) (by decide) 0 rfl rfl cv_X12_cools kw_1349 5 (by decide +kernel) ⟨Nat.le_of_ble_eq_true rfl, Nat.le_of_ble_eq_true rfl⟩ rfl hl.1 rfl (Nat.le_of_ble_eq_true rfl) dX12_yields_78 rfl rfl ⟨Nat.zero_le _, Nat.zero_le _⟩ (fun v w' H locs hpo w => ?_)
    clear hq
    obtain ⟨rfl, rfl⟩ := hpo
    have w : mW E A s [(h, .inr (11, [.ref a_g, .ref a_kept, .int isKept, .ref a_tape, .int taped, .int spot, .ref a_written, .int writtenMany, .ref a_asked, .int askedMany, .ref a_there, .ref a_counts, .ref a_lasts, .ref a_cames])), (a_g, .inl (E.2.1, 8787, .inl o_11)), (a_kept, .inl (E.2.1, 8787, .inl kept)), (a_tape, .inl (E.2.2.1, 60, .inl tape)), (a_written, .inl (E.2.1, 40, .inl written)), (a_asked, .inl (E.2.1, 60, .inl asked)), (a_there, .inl (E.2.1, 12, .inl there)), (a_counts, .inl (E.2.1, 12, .inl counts)), (a_lasts, .inl (E.2.1, 12, .inl lasts)), (a_cames, .inl (E.2.1, 12, .inl cames))] H locs := w
    exact j_X12_yields_81 B   hf  w (lv_sub hl [2, 3] rfl)
noncomputable def F_X12_yields (N : Nat)  (g : Nat → Int32) (x1 : Int32) : Option ((Nat → Int32)) :=
  bd (F_X12_isStale g x1) (fun o_1 =>
  if (o_1 = 0 : Prop) then
  J_X12_yields_13 N 1 x1 g
  else
  J_X12_yields_13 N 0 x1 g)
set_option maxHeartbeats 4000000 in
set_option maxRecDepth 100000 in
theorem d_X12_yields (E : mE) (l : Launch) (N : Nat) (h : Nat) (a_g : Nat) (a_kept : Nat) (a_tape : Nat) (a_written : Nat) (a_asked : Nat) (a_there : Nat) (a_counts : Nat) (a_lasts : Nat) (a_cames : Nat)  (g : Nat → Int32) (kept : Nat → Int32) (isKept : Int32) (tape : Nat → Int32) (taped : Int32) (spot : Int32) (written : Nat → Int32) (writtenMany : Int32) (asked : Nat → Int32) (askedMany : Int32) (there : Nat → Int32) (counts : Nat → Int32) (lasts : Nat → Int32) (cames : Nat → Int32)  (x1 : Int32)  (o : (Nat → Int32)) (hf : F_X12_yields N g x1 = some o) : MX E l yX12_yields cX12_yields 4 none ({ frames := 6, cells := 0, slots := 0, locals := 136 } : Room) [.ref h, .int x1] [(h, .inr (11, [.ref a_g, .ref a_kept, .int isKept, .ref a_tape, .int taped, .int spot, .ref a_written, .int writtenMany, .ref a_asked, .int askedMany, .ref a_there, .ref a_counts, .ref a_lasts, .ref a_cames])), (a_g, .inl (E.2.1, 8787, .inl g)), (a_kept, .inl (E.2.1, 8787, .inl kept)), (a_tape, .inl (E.2.2.1, 60, .inl tape)), (a_written, .inl (E.2.1, 40, .inl written)), (a_asked, .inl (E.2.1, 60, .inl asked)), (a_there, .inl (E.2.1, 12, .inl there)), (a_counts, .inl (E.2.1, 12, .inl counts)), (a_lasts, .inl (E.2.1, 12, .inl lasts)), (a_cames, .inl (E.2.1, 12, .inl cames))] (po_X12_yields E h a_g a_kept a_tape a_written a_asked a_there a_counts a_lasts a_cames g kept isKept tape taped spot written writtenMany asked askedMany there counts lasts cames o) := by
  refine mx_intro (by decide +kernel) (Nat.le_of_ble_eq_true rfl) ?_
  intro p e s m args below meth c A Q ls B w hl
  obtain ⟨hx, hb, hml, hown, hts⟩ := id B.1
  unfold F_X12_yields at hf
  have hl : lv_has ls 4 [(0, .ref h), (1, .int x1)] := hl
  refine lv_aload_n hx hb dX12_yields_0 rfl (lv_at hl 0 rfl) ?_
  refine lv_iload_n hx hb dX12_yields_1 rfl (lv_at hl 1 rfl) ?_
  obtain ⟨o_1, hq, hf⟩ := bd_e hf
  refine mx_callV (As := [.int x1]) (rest := []) (wr := []) (d_X12_isStale E l  h a_g a_kept a_tape a_written a_asked a_there a_counts a_lasts a_cames g kept isKept tape taped spot written writtenMany asked askedMany there counts lasts cames x1  o_1 hq) B w [0, 1, 2, 3, 4, 5, 6, 7, 8, 9] [] rfl rfl (by decide) (by decide) (by decide) 0 rfl rfl cv_X12_isStale kw_1337 1 (by decide +kernel) ⟨Nat.le_of_ble_eq_true rfl, Nat.le_of_ble_eq_true rfl⟩ rfl hl.1 rfl (Nat.le_of_ble_eq_true rfl) dX12_yields_2 rfl rfl ⟨Nat.zero_le _, Nat.zero_le _⟩ (fun v w' H locs hpo w => ?_)
  clear hq
  obtain ⟨rfl, rfl⟩ := hpo
  have w : mW E A s [(h, .inr (11, [.ref a_g, .ref a_kept, .int isKept, .ref a_tape, .int taped, .int spot, .ref a_written, .int writtenMany, .ref a_asked, .int askedMany, .ref a_there, .ref a_counts, .ref a_lasts, .ref a_cames])), (a_g, .inl (E.2.1, 8787, .inl g)), (a_kept, .inl (E.2.1, 8787, .inl kept)), (a_tape, .inl (E.2.2.1, 60, .inl tape)), (a_written, .inl (E.2.1, 40, .inl written)), (a_asked, .inl (E.2.1, 60, .inl asked)), (a_there, .inl (E.2.1, 12, .inl there)), (a_counts, .inl (E.2.1, 12, .inl counts)), (a_lasts, .inl (E.2.1, 12, .inl lasts)), (a_cames, .inl (E.2.1, 12, .inl cames))] H locs := w
  refine lv_if_ne (tgt := 12) hx hb dX12_yields_5 (by decide) (fun hc => ?_) (fun hc => ?_)
  · have hf := it_f hc hf
    refine lv_iconst (v := 0) hx hb dX12_yields_12 (by decide) ?_
    exact j_X12_yields_13 B   hf  w (lv_sub hl [0, 1] rfl)
  · have hf := it_t hc hf
    refine lv_iconst (v := 1) hx hb dX12_yields_8 (by decide) ?_
    refine lv_goto (tgt := 13) hx hb dX12_yields_9 (by decide) ?_
    exact j_X12_yields_13 B   hf  w (lv_sub hl [0, 1] rfl)
-- X12_makesRoom
def po_X12_makesRoom (E : mE) (h : Nat) (a_g : Nat) (a_kept : Nat) (a_tape : Nat) (a_written : Nat) (a_asked : Nat) (a_there : Nat) (a_counts : Nat) (a_lasts : Nat) (a_cames : Nat)  (g : Nat → Int32) (kept : Nat → Int32) (isKept : Int32) (tape : Nat → Int32) (taped : Int32) (spot : Int32) (written : Nat → Int32) (writtenMany : Int32) (asked : Nat → Int32) (askedMany : Int32) (there : Nat → Int32) (counts : Nat → Int32) (lasts : Nat → Int32) (cames : Nat → Int32)  (o : (Nat → Int32)) : Option Value → va_W → Prop := (fun (v : Option Value) (w' : va_W) => v = none ∧ w' = [(h, .inr (11, [.ref a_g, .ref a_kept, .int isKept, .ref a_tape, .int taped, .int spot, .ref a_written, .int writtenMany, .ref a_asked, .int askedMany, .ref a_there, .ref a_counts, .ref a_lasts, .ref a_cames])), (a_g, .inl (E.2.1, 8787, .inl o)), (a_kept, .inl (E.2.1, 8787, .inl kept)), (a_tape, .inl (E.2.2.1, 60, .inl tape)), (a_written, .inl (E.2.1, 40, .inl written)), (a_asked, .inl (E.2.1, 60, .inl asked)), (a_there, .inl (E.2.1, 12, .inl there)), (a_counts, .inl (E.2.1, 12, .inl counts)), (a_lasts, .inl (E.2.1, 12, .inl lasts)), (a_cames, .inl (E.2.1, 12, .inl cames))])
noncomputable def K_X12_makesRoom_0 (N : Nat)  (rec : (Nat → Int32) → (Option ((Nat → Int32)))) (k27 : (Nat → Int32) → (Option ((Nat → Int32)))) (x1 : Int32) (x2 : Int32)   (g : Nat → Int32) : Option ((Nat → Int32)) :=
  bd (F_X12_weight N g) (fun o_5 =>
  ld g 8787 0 (fun v_6 =>
  if ((o_5 + x1) ≤ v_6 : Prop) then
  k27 g
  else
  bd (F_X12_firstToGo N g x2) (fun o_7 =>
  bd (F_X12_yields N g o_7) (fun o_8 =>
  rec o_8))))
noncomputable def L_X12_makesRoom_0 (N : Nat)  (k27 : (Nat → Int32) → (Option ((Nat → Int32)))) (x1 : Int32) (x2 : Int32)  (n : Nat) : (Nat → Int32) → (Option ((Nat → Int32))) :=
  Nat.rec (motive := fun _ => (Nat → Int32) → (Option ((Nat → Int32)))) (fun _ => none) (fun _ rec => K_X12_makesRoom_0 N rec k27 x1 x2) n
set_option maxHeartbeats 4000000 in
set_option maxRecDepth 100000 in
theorem l_X12_makesRoom_0 {E : mE} {l : Launch} {p : Program} {e : Env} {s : State} {m : MethodId} {args : Array Value} {below : List Frame} {meth : Method} {c : Code} {A : Nat → Prop} {Q : State → Prop} {N : Nat} {h : Nat} {a_g : Nat} {a_kept : Nat} {a_tape : Nat} {a_written : Nat} {a_asked : Nat} {a_there : Nat} {a_counts : Nat} {a_lasts : Nat} {a_cames : Nat}  {g0 : Nat → Int32} {kept : Nat → Int32} {isKept : Int32} {tape : Nat → Int32} {taped : Int32} {spot : Int32} {written : Nat → Int32} {writtenMany : Int32} {asked : Nat → Int32} {askedMany : Int32} {there : Nat → Int32} {counts : Nat → Int32} {lasts : Nat → Int32} {cames : Nat → Int32}  {o : (Nat → Int32)} (B : mB E yX12_makesRoom cX12_makesRoom 3 none 0 0 (po_X12_makesRoom E h a_g a_kept a_tape a_written a_asked a_there a_counts a_lasts a_cames g0 kept isKept tape taped spot written writtenMany asked askedMany there counts lasts cames o) p s m args below meth c A Q)   {x1 : Int32} {x2 : Int32} (k27 : (Nat → Int32) → (Option ((Nat → Int32))))  (hk27 : ∀  (g : Nat → Int32)  (H : Heap) (locs : List Loc) (ls : Array Slot), k27 g = some o → mW E A s [(h, .inr (11, [.ref a_g, .ref a_kept, .int isKept, .ref a_tape, .int taped, .int spot, .ref a_written, .int writtenMany, .ref a_asked, .int askedMany, .ref a_there, .ref a_counts, .ref a_lasts, .ref a_cames])), (a_g, .inl (E.2.1, 8787, .inl g)), (a_kept, .inl (E.2.1, 8787, .inl kept)), (a_tape, .inl (E.2.2.1, 60, .inl tape)), (a_written, .inl (E.2.1, 40, .inl written)), (a_asked, .inl (E.2.1, 60, .inl asked)), (a_there, .inl (E.2.1, 12, .inl there)), (a_counts, .inl (E.2.1, 12, .inl counts)), (a_lasts, .inl (E.2.1, 12, .inl lasts)), (a_cames, .inl (E.2.1, 12, .inl cames))] H locs → lv_has ls 3 [] → W p l e ({ frames := 7, cells := 0, slots := 0, locals := 159 } : Room) s m args below meth c H locs 0 0 Q (F0 m 27 ls [])) : ∀ n : Nat, ∀  (g : Nat → Int32)  (H : Heap) (locs : List Loc) (ls : Array Slot), L_X12_makesRoom_0 N k27 x1 x2 n g = some o → mW E A s [(h, .inr (11, [.ref a_g, .ref a_kept, .int isKept, .ref a_tape, .int taped, .int spot, .ref a_written, .int writtenMany, .ref a_asked, .int askedMany, .ref a_there, .ref a_counts, .ref a_lasts, .ref a_cames])), (a_g, .inl (E.2.1, 8787, .inl g)), (a_kept, .inl (E.2.1, 8787, .inl kept)), (a_tape, .inl (E.2.2.1, 60, .inl tape)), (a_written, .inl (E.2.1, 40, .inl written)), (a_asked, .inl (E.2.1, 60, .inl asked)), (a_there, .inl (E.2.1, 12, .inl there)), (a_counts, .inl (E.2.1, 12, .inl counts)), (a_lasts, .inl (E.2.1, 12, .inl lasts)), (a_cames, .inl (E.2.1, 12, .inl cames))] H locs → lv_has ls 3 [(0, .ref h), (1, .int x1), (2, .int x2)] → W p l e ({ frames := 7, cells := 0, slots := 0, locals := 159 } : Room) s m args below meth c H locs 0 0 Q (F0 m 0 ls []) := by
  obtain ⟨hx, hb, hml, hown, hts⟩ := id B.1
  intro n
  induction n with
  | zero =>
    intro g H locs ls hf w hl
    exact nomatch hf
  | succ n hrec =>
    intro g H locs ls hf w hl
    have hf : K_X12_makesRoom_0 N (L_X12_makesRoom_0 N k27 x1 x2 n) k27 x1 x2 g = some o := hf
    unfold K_X12_makesRoom_0 at hf
    refine lv_aload_n hx hb dX12_makesRoom_0 rfl (lv_at hl 0 rfl) ?_
    obtain ⟨o_5, hq, hf⟩ := bd_e hf
    refine mx_callV (As := []) (rest := []) (wr := []) (d_X12_weight E l N h a_g a_kept a_tape a_written a_asked a_there a_counts a_lasts a_cames g kept isKept tape taped spot written writtenMany asked askedMany there counts lasts cames   o_5 hq) B w [0, 1, 2, 3, 4, 5, 6, 7, 8, 9] [] rfl rfl (by decide) (by decide) (by decide) 0 rfl rfl cv_X12_weight kw_1321 0 (by decide +kernel) ⟨Nat.le_of_ble_eq_true rfl, Nat.le_of_ble_eq_true rfl⟩ rfl hl.1 rfl (Nat.le_of_ble_eq_true rfl) dX12_makesRoom_1 rfl rfl ⟨Nat.zero_le _, Nat.zero_le _⟩ (fun v w' H locs hpo w => ?_)
    clear hq
    obtain ⟨rfl, rfl⟩ := hpo
    have w : mW E A s [(h, .inr (11, [.ref a_g, .ref a_kept, .int isKept, .ref a_tape, .int taped, .int spot, .ref a_written, .int writtenMany, .ref a_asked, .int askedMany, .ref a_there, .ref a_counts, .ref a_lasts, .ref a_cames])), (a_g, .inl (E.2.1, 8787, .inl g)), (a_kept, .inl (E.2.1, 8787, .inl kept)), (a_tape, .inl (E.2.2.1, 60, .inl tape)), (a_written, .inl (E.2.1, 40, .inl written)), (a_asked, .inl (E.2.1, 60, .inl asked)), (a_there, .inl (E.2.1, 12, .inl there)), (a_counts, .inl (E.2.1, 12, .inl counts)), (a_lasts, .inl (E.2.1, 12, .inl lasts)), (a_cames, .inl (E.2.1, 12, .inl cames))] H locs := w
    refine lv_iload_n hx hb dX12_makesRoom_4 rfl (lv_at hl 1 rfl) ?_
    refine lv_iadd hx hb dX12_makesRoom_5 ?_
    refine lv_aload_n hx hb dX12_makesRoom_6 rfl (lv_at hl 0 rfl) ?_
    refine mx_get B w 0 fl_X12_9 rfl rfl dX12_makesRoom_7 ?_
    refine lv_iconst (v := 0) hx hb dX12_makesRoom_10 (by decide) ?_
    obtain ⟨hin, hf⟩ := ld_e hf
    refine mx_iald B w 1 rfl hin dX12_makesRoom_11 (fun v_6 ev => ?_)
    have hf := hf _ ev; clear ev
    refine lv_icmp_le (tgt := 27) hx hb dX12_makesRoom_12 (by decide) (fun hc => ?_) (fun hc => ?_)
    · have hf := it_t hc hf
      exact hk27 _ _ _ _ hf  w (lv_sub hl [] rfl)
    · have hf := it_f hc hf
      refine lv_aload_n hx hb dX12_makesRoom_15 rfl (lv_at hl 0 rfl) ?_
      refine lv_aload_n hx hb dX12_makesRoom_16 rfl (lv_at hl 0 rfl) ?_
      refine lv_iload_n hx hb dX12_makesRoom_17 rfl (lv_at hl 2 rfl) ?_
      obtain ⟨o_7, hq, hf⟩ := bd_e hf
      refine mx_callV (As := [.int x2]) (rest := [.ref h]) (wr := []) (d_X12_firstToGo E l N h a_g a_kept a_tape a_written a_asked a_there a_counts a_lasts a_cames g kept isKept tape taped spot written writtenMany asked askedMany there counts lasts cames x2  o_7 hq) B w [0, 1, 2, 3, 4, 5, 6, 7, 8, 9] [] rfl rfl (by decide) (by decide) (by decide) 0 rfl rfl cv_X12_firstToGo kw_1329 1 (by decide +kernel) ⟨Nat.le_of_ble_eq_true rfl, Nat.le_of_ble_eq_true rfl⟩ rfl hl.1 rfl (Nat.le_of_ble_eq_true rfl) dX12_makesRoom_18 rfl rfl ⟨Nat.zero_le _, Nat.zero_le _⟩ (fun v w' H locs hpo w => ?_)
      clear hq
      obtain ⟨rfl, rfl⟩ := hpo
      have w : mW E A s [(h, .inr (11, [.ref a_g, .ref a_kept, .int isKept, .ref a_tape, .int taped, .int spot, .ref a_written, .int writtenMany, .ref a_asked, .int askedMany, .ref a_there, .ref a_counts, .ref a_lasts, .ref a_cames])), (a_g, .inl (E.2.1, 8787, .inl g)), (a_kept, .inl (E.2.1, 8787, .inl kept)), (a_tape, .inl (E.2.2.1, 60, .inl tape)), (a_written, .inl (E.2.1, 40, .inl written)), (a_asked, .inl (E.2.1, 60, .inl asked)), (a_there, .inl (E.2.1, 12, .inl there)), (a_counts, .inl (E.2.1, 12, .inl counts)), (a_lasts, .inl (E.2.1, 12, .inl lasts)), (a_cames, .inl (E.2.1, 12, .inl cames))] H locs := w
      obtain ⟨o_8, hq, hf⟩ := bd_e hf
      refine mx_callV (As := [.int o_7]) (rest := []) (wr := []) (d_X12_yields E l N h a_g a_kept a_tape a_written a_asked a_there a_counts a_lasts a_cames g kept isKept tape taped spot written writtenMany asked askedMany there counts lasts cames o_7  o_8 hq) B w [0, 1, 2, 3, 4, 5, 6, 7, 8, 9] [] rfl rfl (by decide) (by decide) (by decide) 0 rfl rfl cv_X12_yields kw_1345 1 (by decide +kernel) ⟨Nat.le_of_ble_eq_true rfl, Nat.le_of_ble_eq_true rfl⟩ rfl hl.1 rfl (Nat.le_of_ble_eq_true rfl) dX12_makesRoom_21 rfl rfl ⟨Nat.zero_le _, Nat.zero_le _⟩ (fun v w' H locs hpo w => ?_)
      clear hq
      obtain ⟨rfl, rfl⟩ := hpo
      have w : mW E A s [(h, .inr (11, [.ref a_g, .ref a_kept, .int isKept, .ref a_tape, .int taped, .int spot, .ref a_written, .int writtenMany, .ref a_asked, .int askedMany, .ref a_there, .ref a_counts, .ref a_lasts, .ref a_cames])), (a_g, .inl (E.2.1, 8787, .inl o_8)), (a_kept, .inl (E.2.1, 8787, .inl kept)), (a_tape, .inl (E.2.2.1, 60, .inl tape)), (a_written, .inl (E.2.1, 40, .inl written)), (a_asked, .inl (E.2.1, 60, .inl asked)), (a_there, .inl (E.2.1, 12, .inl there)), (a_counts, .inl (E.2.1, 12, .inl counts)), (a_lasts, .inl (E.2.1, 12, .inl lasts)), (a_cames, .inl (E.2.1, 12, .inl cames))] H locs := w
      refine lv_goto (tgt := 0) hx hb dX12_makesRoom_24 (by decide) ?_
      exact hrec _ _ _ _ hf  w (lv_sub hl [0, 1, 2] rfl)
noncomputable def F_X12_makesRoom (N : Nat)  (g : Nat → Int32) (x1 : Int32) (x2 : Int32) : Option ((Nat → Int32)) :=
  bd (F_X12_weight N g) (fun o_1 =>
  ld g 8787 0 (fun v_2 =>
  if ((o_1 + x1) ≤ v_2 : Prop) then
  some (g)
  else
  bd (F_X12_firstToGo N g x2) (fun o_3 =>
  bd (F_X12_yields N g o_3) (fun o_4 =>
  L_X12_makesRoom_0 N (fun g => some (g)) x1 x2 N o_4))))
set_option maxHeartbeats 4000000 in
set_option maxRecDepth 100000 in
theorem d_X12_makesRoom (E : mE) (l : Launch) (N : Nat) (h : Nat) (a_g : Nat) (a_kept : Nat) (a_tape : Nat) (a_written : Nat) (a_asked : Nat) (a_there : Nat) (a_counts : Nat) (a_lasts : Nat) (a_cames : Nat)  (g : Nat → Int32) (kept : Nat → Int32) (isKept : Int32) (tape : Nat → Int32) (taped : Int32) (spot : Int32) (written : Nat → Int32) (writtenMany : Int32) (asked : Nat → Int32) (askedMany : Int32) (there : Nat → Int32) (counts : Nat → Int32) (lasts : Nat → Int32) (cames : Nat → Int32)  (x1 : Int32) (x2 : Int32)  (o : (Nat → Int32)) (hf : F_X12_makesRoom N g x1 x2 = some o) : MX E l yX12_makesRoom cX12_makesRoom 3 none ({ frames := 7, cells := 0, slots := 0, locals := 159 } : Room) [.ref h, .int x1, .int x2] [(h, .inr (11, [.ref a_g, .ref a_kept, .int isKept, .ref a_tape, .int taped, .int spot, .ref a_written, .int writtenMany, .ref a_asked, .int askedMany, .ref a_there, .ref a_counts, .ref a_lasts, .ref a_cames])), (a_g, .inl (E.2.1, 8787, .inl g)), (a_kept, .inl (E.2.1, 8787, .inl kept)), (a_tape, .inl (E.2.2.1, 60, .inl tape)), (a_written, .inl (E.2.1, 40, .inl written)), (a_asked, .inl (E.2.1, 60, .inl asked)), (a_there, .inl (E.2.1, 12, .inl there)), (a_counts, .inl (E.2.1, 12, .inl counts)), (a_lasts, .inl (E.2.1, 12, .inl lasts)), (a_cames, .inl (E.2.1, 12, .inl cames))] (po_X12_makesRoom E h a_g a_kept a_tape a_written a_asked a_there a_counts a_lasts a_cames g kept isKept tape taped spot written writtenMany asked askedMany there counts lasts cames o) := by
  refine mx_intro (by decide +kernel) (Nat.le_of_ble_eq_true rfl) ?_
  intro p e s m args below meth c A Q ls B w hl
  obtain ⟨hx, hb, hml, hown, hts⟩ := id B.1
  unfold F_X12_makesRoom at hf
  have hl : lv_has ls 3 [(0, .ref h), (1, .int x1), (2, .int x2)] := hl
  refine lv_aload_n hx hb dX12_makesRoom_0 rfl (lv_at hl 0 rfl) ?_
  obtain ⟨o_1, hq, hf⟩ := bd_e hf
  refine mx_callV (As := []) (rest := []) (wr := []) (d_X12_weight E l N h a_g a_kept a_tape a_written a_asked a_there a_counts a_lasts a_cames g kept isKept tape taped spot written writtenMany asked askedMany there counts lasts cames   o_1 hq) B w [0, 1, 2, 3, 4, 5, 6, 7, 8, 9] [] rfl rfl (by decide) (by decide) (by decide) 0 rfl rfl cv_X12_weight kw_1321 0 (by decide +kernel) ⟨Nat.le_of_ble_eq_true rfl, Nat.le_of_ble_eq_true rfl⟩ rfl hl.1 rfl (Nat.le_of_ble_eq_true rfl) dX12_makesRoom_1 rfl rfl ⟨Nat.zero_le _, Nat.zero_le _⟩ (fun v w' H locs hpo w => ?_)
  clear hq
  obtain ⟨rfl, rfl⟩ := hpo
  have w : mW E A s [(h, .inr (11, [.ref a_g, .ref a_kept, .int isKept, .ref a_tape, .int taped, .int spot, .ref a_written, .int writtenMany, .ref a_asked, .int askedMany, .ref a_there, .ref a_counts, .ref a_lasts, .ref a_cames])), (a_g, .inl (E.2.1, 8787, .inl g)), (a_kept, .inl (E.2.1, 8787, .inl kept)), (a_tape, .inl (E.2.2.1, 60, .inl tape)), (a_written, .inl (E.2.1, 40, .inl written)), (a_asked, .inl (E.2.1, 60, .inl asked)), (a_there, .inl (E.2.1, 12, .inl there)), (a_counts, .inl (E.2.1, 12, .inl counts)), (a_lasts, .inl (E.2.1, 12, .inl lasts)), (a_cames, .inl (E.2.1, 12, .inl cames))] H locs := w
  refine lv_iload_n hx hb dX12_makesRoom_4 rfl (lv_at hl 1 rfl) ?_
  refine lv_iadd hx hb dX12_makesRoom_5 ?_
  refine lv_aload_n hx hb dX12_makesRoom_6 rfl (lv_at hl 0 rfl) ?_
  refine mx_get B w 0 fl_X12_9 rfl rfl dX12_makesRoom_7 ?_
  refine lv_iconst (v := 0) hx hb dX12_makesRoom_10 (by decide) ?_
  obtain ⟨hin, hf⟩ := ld_e hf
  refine mx_iald B w 1 rfl hin dX12_makesRoom_11 (fun v_2 ev => ?_)
  have hf := hf _ ev; clear ev
  refine lv_icmp_le (tgt := 27) hx hb dX12_makesRoom_12 (by decide) (fun hc => ?_) (fun hc => ?_)
  · have hf := it_t hc hf
    cases hf
    exact mx_vret B w ⟨rfl, rfl⟩ dX12_makesRoom_27
  · have hf := it_f hc hf
    refine lv_aload_n hx hb dX12_makesRoom_15 rfl (lv_at hl 0 rfl) ?_
    refine lv_aload_n hx hb dX12_makesRoom_16 rfl (lv_at hl 0 rfl) ?_
    refine lv_iload_n hx hb dX12_makesRoom_17 rfl (lv_at hl 2 rfl) ?_
    obtain ⟨o_3, hq, hf⟩ := bd_e hf
    refine mx_callV (As := [.int x2]) (rest := [.ref h]) (wr := []) (d_X12_firstToGo E l N h a_g a_kept a_tape a_written a_asked a_there a_counts a_lasts a_cames g kept isKept tape taped spot written writtenMany asked askedMany there counts lasts cames x2  o_3 hq) B w [0, 1, 2, 3, 4, 5, 6, 7, 8, 9] [] rfl rfl (by decide) (by decide) (by decide) 0 rfl rfl cv_X12_firstToGo kw_1329 1 (by decide +kernel) ⟨Nat.le_of_ble_eq_true rfl, Nat.le_of_ble_eq_true rfl⟩ rfl hl.1 rfl (Nat.le_of_ble_eq_true rfl) dX12_makesRoom_18 rfl rfl ⟨Nat.zero_le _, Nat.zero_le _⟩ (fun v w' H locs hpo w => ?_)
    clear hq
    obtain ⟨rfl, rfl⟩ := hpo
    have w : mW E A s [(h, .inr (11, [.ref a_g, .ref a_kept, .int isKept, .ref a_tape, .int taped, .int spot, .ref a_written, .int writtenMany, .ref a_asked, .int askedMany, .ref a_there, .ref a_counts, .ref a_lasts, .ref a_cames])), (a_g, .inl (E.2.1, 8787, .inl g)), (a_kept, .inl (E.2.1, 8787, .inl kept)), (a_tape, .inl (E.2.2.1, 60, .inl tape)), (a_written, .inl (E.2.1, 40, .inl written)), (a_asked, .inl (E.2.1, 60, .inl asked)), (a_there, .inl (E.2.1, 12, .inl there)), (a_counts, .inl (E.2.1, 12, .inl counts)), (a_lasts, .inl (E.2.1, 12, .inl lasts)), (a_cames, .inl (E.2.1, 12, .inl cames))] H locs := w
    obtain ⟨o_4, hq, hf⟩ := bd_e hf
    refine mx_callV (As := [.int o_3]) (rest := []) (wr := []) (d_X12_yields E l N h a_g a_kept a_tape a_written a_asked a_there a_counts a_lasts a_cames g kept isKept tape taped spot written writtenMany asked askedMany there counts lasts cames o_3  o_4 hq) B w [0, 1, 2, 3, 4, 5, 6, 7, 8, 9] [] rfl rfl (by decide) (by decide) (by decide) 0 rfl rfl cv_X12_yields kw_1345 1 (by decide +kernel) ⟨Nat.le_of_ble_eq_true rfl, Nat.le_of_ble_eq_true rfl⟩ rfl hl.1 rfl (Nat.le_of_ble_eq_true rfl) dX12_makesRoom_21 rfl rfl ⟨Nat.zero_le _, Nat.zero_le _⟩ (fun v w' H locs hpo w => ?_)
    clear hq
    obtain ⟨rfl, rfl⟩ := hpo
    have w : mW E A s [(h, .inr (11, [.ref a_g, .ref a_kept, .int isKept, .ref a_tape, .int taped, .int spot, .ref a_written, .int writtenMany, .ref a_asked, .int askedMany, .ref a_there, .ref a_counts, .ref a_lasts, .ref a_cames])), (a_g, .inl (E.2.1, 8787, .inl o_4)), (a_kept, .inl (E.2.1, 8787, .inl kept)), (a_tape, .inl (E.2.2.1, 60, .inl tape)), (a_written, .inl (E.2.1, 40, .inl written)), (a_asked, .inl (E.2.1, 60, .inl asked)), (a_there, .inl (E.2.1, 12, .inl there)), (a_counts, .inl (E.2.1, 12, .inl counts)), (a_lasts, .inl (E.2.1, 12, .inl lasts)), (a_cames, .inl (E.2.1, 12, .inl cames))] H locs := w
    refine lv_goto (tgt := 0) hx hb dX12_makesRoom_24 (by decide) ?_
    refine l_X12_makesRoom_0 B _  ?_ N _ _ _ _ hf  w (lv_sub hl [0, 1, 2] rfl)
    · intro g H locs ls hf w hl
      cases hf
      exact mx_vret B w ⟨rfl, rfl⟩ dX12_makesRoom_27
-- X12_loadAt
def po_X12_loadAt (E : mE) (h : Nat) (a_g : Nat) (a_kept : Nat) (a_tape : Nat) (a_written : Nat) (a_asked : Nat) (a_there : Nat) (a_counts : Nat) (a_lasts : Nat) (a_cames : Nat)  (g : Nat → Int32) (kept : Nat → Int32) (isKept : Int32) (tape : Nat → Int32) (taped : Int32) (spot : Int32) (written : Nat → Int32) (writtenMany : Int32) (asked : Nat → Int32) (askedMany : Int32) (there : Nat → Int32) (counts : Nat → Int32) (lasts : Nat → Int32) (cames : Nat → Int32)  (o : Int32) : Option Value → va_W → Prop := (fun (v : Option Value) (w' : va_W) => v = some (.int o) ∧ w' = [(h, .inr (11, [.ref a_g, .ref a_kept, .int isKept, .ref a_tape, .int taped, .int spot, .ref a_written, .int writtenMany, .ref a_asked, .int askedMany, .ref a_there, .ref a_counts, .ref a_lasts, .ref a_cames])), (a_g, .inl (E.2.1, 8787, .inl g)), (a_kept, .inl (E.2.1, 8787, .inl kept)), (a_tape, .inl (E.2.2.1, 60, .inl tape)), (a_written, .inl (E.2.1, 40, .inl written)), (a_asked, .inl (E.2.1, 60, .inl asked)), (a_there, .inl (E.2.1, 12, .inl there)), (a_counts, .inl (E.2.1, 12, .inl counts)), (a_lasts, .inl (E.2.1, 12, .inl lasts)), (a_cames, .inl (E.2.1, 12, .inl cames))])
noncomputable def F_X12_loadAt  (g : Nat → Int32) (x1 : Int32) (x2 : Int32) : Option (Int32) :=
  ld g 8787 ((2003 + (x1 * 20)) + x2) (fun v_1 =>
  some (v_1))
set_option maxHeartbeats 4000000 in
set_option maxRecDepth 100000 in
theorem d_X12_loadAt (E : mE) (l : Launch) (h : Nat) (a_g : Nat) (a_kept : Nat) (a_tape : Nat) (a_written : Nat) (a_asked : Nat) (a_there : Nat) (a_counts : Nat) (a_lasts : Nat) (a_cames : Nat)  (g : Nat → Int32) (kept : Nat → Int32) (isKept : Int32) (tape : Nat → Int32) (taped : Int32) (spot : Int32) (written : Nat → Int32) (writtenMany : Int32) (asked : Nat → Int32) (askedMany : Int32) (there : Nat → Int32) (counts : Nat → Int32) (lasts : Nat → Int32) (cames : Nat → Int32)  (x1 : Int32) (x2 : Int32)  (o : Int32) (hf : F_X12_loadAt g x1 x2 = some o) : MX E l yX12_loadAt cX12_loadAt 3 (some .int) ({ frames := 0, cells := 0, slots := 0, locals := 0 } : Room) [.ref h, .int x1, .int x2] [(h, .inr (11, [.ref a_g, .ref a_kept, .int isKept, .ref a_tape, .int taped, .int spot, .ref a_written, .int writtenMany, .ref a_asked, .int askedMany, .ref a_there, .ref a_counts, .ref a_lasts, .ref a_cames])), (a_g, .inl (E.2.1, 8787, .inl g)), (a_kept, .inl (E.2.1, 8787, .inl kept)), (a_tape, .inl (E.2.2.1, 60, .inl tape)), (a_written, .inl (E.2.1, 40, .inl written)), (a_asked, .inl (E.2.1, 60, .inl asked)), (a_there, .inl (E.2.1, 12, .inl there)), (a_counts, .inl (E.2.1, 12, .inl counts)), (a_lasts, .inl (E.2.1, 12, .inl lasts)), (a_cames, .inl (E.2.1, 12, .inl cames))] (po_X12_loadAt E h a_g a_kept a_tape a_written a_asked a_there a_counts a_lasts a_cames g kept isKept tape taped spot written writtenMany asked askedMany there counts lasts cames o) := by
  refine mx_intro (by decide +kernel) (Nat.le_of_ble_eq_true rfl) ?_
  intro p e s m args below meth c A Q ls B w hl
  obtain ⟨hx, hb, hml, hown, hts⟩ := id B.1
  unfold F_X12_loadAt at hf
  have hl : lv_has ls 3 [(0, .ref h), (1, .int x1), (2, .int x2)] := hl
  refine lv_aload_n hx hb dX12_loadAt_0 rfl (lv_at hl 0 rfl) ?_
  refine mx_get B w 0 fl_X12_9 rfl rfl dX12_loadAt_1 ?_
  refine lv_sipush (v := 2003) hx hb dX12_loadAt_4 (by decide) ?_
  refine lv_iload_n hx hb dX12_loadAt_7 rfl (lv_at hl 1 rfl) ?_
  refine lv_bipush (v := 20) hx hb dX12_loadAt_8 (by decide) ?_
  refine lv_imul hx hb dX12_loadAt_10 ?_
  refine lv_iadd hx hb dX12_loadAt_11 ?_
  refine lv_iload_n hx hb dX12_loadAt_12 rfl (lv_at hl 2 rfl) ?_
  refine lv_iadd hx hb dX12_loadAt_13 ?_
  obtain ⟨hin, hf⟩ := ld_e hf
  refine mx_iald B w 1 rfl hin dX12_loadAt_14 (fun v_1 ev => ?_)
  have hf := hf _ ev; clear ev
  cases hf
  exact mx_iret B w ⟨rfl, rfl⟩ dX12_loadAt_15
-- X12_loads
def po_X12_loads (E : mE) (h : Nat) (a_g : Nat) (a_kept : Nat) (a_tape : Nat) (a_written : Nat) (a_asked : Nat) (a_there : Nat) (a_counts : Nat) (a_lasts : Nat) (a_cames : Nat)  (g : Nat → Int32) (kept : Nat → Int32) (isKept : Int32) (tape : Nat → Int32) (taped : Int32) (spot : Int32) (written : Nat → Int32) (writtenMany : Int32) (asked : Nat → Int32) (askedMany : Int32) (there : Nat → Int32) (counts : Nat → Int32) (lasts : Nat → Int32) (cames : Nat → Int32)  (o : Int32) : Option Value → va_W → Prop := (fun (v : Option Value) (w' : va_W) => v = some (.int o) ∧ w' = [(h, .inr (11, [.ref a_g, .ref a_kept, .int isKept, .ref a_tape, .int taped, .int spot, .ref a_written, .int writtenMany, .ref a_asked, .int askedMany, .ref a_there, .ref a_counts, .ref a_lasts, .ref a_cames])), (a_g, .inl (E.2.1, 8787, .inl g)), (a_kept, .inl (E.2.1, 8787, .inl kept)), (a_tape, .inl (E.2.2.1, 60, .inl tape)), (a_written, .inl (E.2.1, 40, .inl written)), (a_asked, .inl (E.2.1, 60, .inl asked)), (a_there, .inl (E.2.1, 12, .inl there)), (a_counts, .inl (E.2.1, 12, .inl counts)), (a_lasts, .inl (E.2.1, 12, .inl lasts)), (a_cames, .inl (E.2.1, 12, .inl cames))])
noncomputable def J_X12_loads_31 (N : Nat)  (rec : Int32 → Int32 → Option (Int32)) (k39 : Int32 → Option (Int32)) (t0 : Int32) (t1 : Int32) (x1 : Int32) (x3 : Int32) (g : Nat → Int32) : Option (Int32) :=
  lt (t0 + t1) (fun x2_3 =>
  lt (x3 + 1) (fun x3_4 =>
  rec x2_3 x3_4))
set_option maxHeartbeats 4000000 in
set_option maxRecDepth 100000 in
theorem j_X12_loads_31 {E : mE} {l : Launch} {p : Program} {e : Env} {s : State} {m : MethodId} {args : Array Value} {below : List Frame} {meth : Method} {c : Code} {A : Nat → Prop} {Q : State → Prop} {N : Nat} {h : Nat} {a_g : Nat} {a_kept : Nat} {a_tape : Nat} {a_written : Nat} {a_asked : Nat} {a_there : Nat} {a_counts : Nat} {a_lasts : Nat} {a_cames : Nat}  {g : Nat → Int32} {kept : Nat → Int32} {isKept : Int32} {tape : Nat → Int32} {taped : Int32} {spot : Int32} {written : Nat → Int32} {writtenMany : Int32} {asked : Nat → Int32} {askedMany : Int32} {there : Nat → Int32} {counts : Nat → Int32} {lasts : Nat → Int32} {cames : Nat → Int32}  {o : Int32} (B : mB E yX12_loads cX12_loads 4 (some .int) 0 0 (po_X12_loads E h a_g a_kept a_tape a_written a_asked a_there a_counts a_lasts a_cames g kept isKept tape taped spot written writtenMany asked askedMany there counts lasts cames o) p s m args below meth c A Q) {t0 : Int32} {t1 : Int32} {x1 : Int32} {x3 : Int32}   (rec : Int32 → Int32 → Option (Int32)) (k39 : Int32 → Option (Int32)) (hrec : ∀ (x2 : Int32) (x3 : Int32)   (H : Heap) (locs : List Loc) (ls : Array Slot), rec x2 x3 = some o → mW E A s [(h, .inr (11, [.ref a_g, .ref a_kept, .int isKept, .ref a_tape, .int taped, .int spot, .ref a_written, .int writtenMany, .ref a_asked, .int askedMany, .ref a_there, .ref a_counts, .ref a_lasts, .ref a_cames])), (a_g, .inl (E.2.1, 8787, .inl g)), (a_kept, .inl (E.2.1, 8787, .inl kept)), (a_tape, .inl (E.2.2.1, 60, .inl tape)), (a_written, .inl (E.2.1, 40, .inl written)), (a_asked, .inl (E.2.1, 60, .inl asked)), (a_there, .inl (E.2.1, 12, .inl there)), (a_counts, .inl (E.2.1, 12, .inl counts)), (a_lasts, .inl (E.2.1, 12, .inl lasts)), (a_cames, .inl (E.2.1, 12, .inl cames))] H locs → lv_has ls 4 [(0, .ref h), (1, .int x1), (2, .int x2), (3, .int x3)] → W p l e ({ frames := 1, cells := 0, slots := 0, locals := 22 } : Room) s m args below meth c H locs 0 0 Q (F0 m 4 ls [])) (hk39 : ∀ (x2 : Int32)   (H : Heap) (locs : List Loc) (ls : Array Slot), k39 x2 = some o → mW E A s [(h, .inr (11, [.ref a_g, .ref a_kept, .int isKept, .ref a_tape, .int taped, .int spot, .ref a_written, .int writtenMany, .ref a_asked, .int askedMany, .ref a_there, .ref a_counts, .ref a_lasts, .ref a_cames])), (a_g, .inl (E.2.1, 8787, .inl g)), (a_kept, .inl (E.2.1, 8787, .inl kept)), (a_tape, .inl (E.2.2.1, 60, .inl tape)), (a_written, .inl (E.2.1, 40, .inl written)), (a_asked, .inl (E.2.1, 60, .inl asked)), (a_there, .inl (E.2.1, 12, .inl there)), (a_counts, .inl (E.2.1, 12, .inl counts)), (a_lasts, .inl (E.2.1, 12, .inl lasts)), (a_cames, .inl (E.2.1, 12, .inl cames))] H locs → lv_has ls 4 [(2, .int x2)] → W p l e ({ frames := 1, cells := 0, slots := 0, locals := 22 } : Room) s m args below meth c H locs 0 0 Q (F0 m 39 ls [])) {H : Heap} {locs : List Loc} {ls : Array Slot} (hf : J_X12_loads_31 N rec k39 t0 t1 x1 x3 g = some o)  (w : mW E A s [(h, .inr (11, [.ref a_g, .ref a_kept, .int isKept, .ref a_tape, .int taped, .int spot, .ref a_written, .int writtenMany, .ref a_asked, .int askedMany, .ref a_there, .ref a_counts, .ref a_lasts, .ref a_cames])), (a_g, .inl (E.2.1, 8787, .inl g)), (a_kept, .inl (E.2.1, 8787, .inl kept)), (a_tape, .inl (E.2.2.1, 60, .inl tape)), (a_written, .inl (E.2.1, 40, .inl written)), (a_asked, .inl (E.2.1, 60, .inl asked)), (a_there, .inl (E.2.1, 12, .inl there)), (a_counts, .inl (E.2.1, 12, .inl counts)), (a_lasts, .inl (E.2.1, 12, .inl lasts)), (a_cames, .inl (E.2.1, 12, .inl cames))] H locs) (hl : lv_has ls 4 [(0, .ref h), (1, .int x1), (3, .int x3)]) : W p l e ({ frames := 1, cells := 0, slots := 0, locals := 22 } : Room) s m args below meth c H locs 0 0 Q (F0 m 31 ls [.int t1, .int t0]) := by
  obtain ⟨hx, hb, hml, hown, hts⟩ := id B.1
  unfold J_X12_loads_31 at hf
  refine lv_iadd hx hb dX12_loads_31 ?_
  refine lv_topi (fun x2_3 ev => ?_)
  have hf := lt_n ev hf; clear ev
  refine lv_istore_n (lv' := [(2, .int x2_3), (0, .ref h), (1, .int x1), (3, .int x3)]) hx hb dX12_loads_32 rfl hl (by decide) rfl (fun ls hl => ?_)
  obtain ⟨x3_4, ev⟩ : ∃ y : Int32, y = x3 + 1 := ⟨_, rfl⟩
  refine lv_iinc (v := x3_4) (lv' := [(3, .int x3_4), (2, .int x2_3), (0, .ref h), (1, .int x1)]) hx hb dX12_loads_33 hl (k := 3) rfl (by rw [ev]; rfl) (by decide) rfl (fun ls hl => ?_)
  have hf := lt_n ev hf; clear ev
  refine lv_goto (tgt := 4) hx hb dX12_loads_36 (by decide) ?_
  exact hrec _ _ _ _ _ hf  w (lv_sub hl [2, 3, 1, 0] rfl)
noncomputable def K_X12_loads_4 (N : Nat)  (rec : Int32 → Int32 → Option (Int32)) (k39 : Int32 → Option (Int32)) (x1 : Int32) (g : Nat → Int32) (x2 : Int32) (x3 : Int32)  : Option (Int32) :=
  ld g 8787 15 (fun v_1 =>
  if (v_1 ≤ x3 : Prop) then
  k39 x2
  else
  bd (F_X12_loadAt g x3 1) (fun o_2 =>
  if (o_2 = x1 : Prop) then
  J_X12_loads_31 N rec k39 x2 1 x1 x3 g
  else
  J_X12_loads_31 N rec k39 x2 0 x1 x3 g))
noncomputable def L_X12_loads_4 (N : Nat)  (k39 : Int32 → Option (Int32)) (x1 : Int32) (g : Nat → Int32) (n : Nat) : Int32 → Int32 → Option (Int32) :=
  Nat.rec (motive := fun _ => Int32 → Int32 → Option (Int32)) (fun _ _ => none) (fun _ rec => K_X12_loads_4 N rec k39 x1 g) n
set_option maxHeartbeats 4000000 in
set_option maxRecDepth 100000 in
theorem l_X12_loads_4 {E : mE} {l : Launch} {p : Program} {e : Env} {s : State} {m : MethodId} {args : Array Value} {below : List Frame} {meth : Method} {c : Code} {A : Nat → Prop} {Q : State → Prop} {N : Nat} {h : Nat} {a_g : Nat} {a_kept : Nat} {a_tape : Nat} {a_written : Nat} {a_asked : Nat} {a_there : Nat} {a_counts : Nat} {a_lasts : Nat} {a_cames : Nat}  {g : Nat → Int32} {kept : Nat → Int32} {isKept : Int32} {tape : Nat → Int32} {taped : Int32} {spot : Int32} {written : Nat → Int32} {writtenMany : Int32} {asked : Nat → Int32} {askedMany : Int32} {there : Nat → Int32} {counts : Nat → Int32} {lasts : Nat → Int32} {cames : Nat → Int32}  {o : Int32} (B : mB E yX12_loads cX12_loads 4 (some .int) 0 0 (po_X12_loads E h a_g a_kept a_tape a_written a_asked a_there a_counts a_lasts a_cames g kept isKept tape taped spot written writtenMany asked askedMany there counts lasts cames o) p s m args below meth c A Q)   {x1 : Int32} (k39 : Int32 → Option (Int32))  (hk39 : ∀ (x2 : Int32)   (H : Heap) (locs : List Loc) (ls : Array Slot), k39 x2 = some o → mW E A s [(h, .inr (11, [.ref a_g, .ref a_kept, .int isKept, .ref a_tape, .int taped, .int spot, .ref a_written, .int writtenMany, .ref a_asked, .int askedMany, .ref a_there, .ref a_counts, .ref a_lasts, .ref a_cames])), (a_g, .inl (E.2.1, 8787, .inl g)), (a_kept, .inl (E.2.1, 8787, .inl kept)), (a_tape, .inl (E.2.2.1, 60, .inl tape)), (a_written, .inl (E.2.1, 40, .inl written)), (a_asked, .inl (E.2.1, 60, .inl asked)), (a_there, .inl (E.2.1, 12, .inl there)), (a_counts, .inl (E.2.1, 12, .inl counts)), (a_lasts, .inl (E.2.1, 12, .inl lasts)), (a_cames, .inl (E.2.1, 12, .inl cames))] H locs → lv_has ls 4 [(2, .int x2)] → W p l e ({ frames := 1, cells := 0, slots := 0, locals := 22 } : Room) s m args below meth c H locs 0 0 Q (F0 m 39 ls [])) : ∀ n : Nat, ∀ (x2 : Int32) (x3 : Int32)   (H : Heap) (locs : List Loc) (ls : Array Slot), L_X12_loads_4 N k39 x1 g n x2 x3 = some o → mW E A s [(h, .inr (11, [.ref a_g, .ref a_kept, .int isKept, .ref a_tape, .int taped, .int spot, .ref a_written, .int writtenMany, .ref a_asked, .int askedMany, .ref a_there, .ref a_counts, .ref a_lasts, .ref a_cames])), (a_g, .inl (E.2.1, 8787, .inl g)), (a_kept, .inl (E.2.1, 8787, .inl kept)), (a_tape, .inl (E.2.2.1, 60, .inl tape)), (a_written, .inl (E.2.1, 40, .inl written)), (a_asked, .inl (E.2.1, 60, .inl asked)), (a_there, .inl (E.2.1, 12, .inl there)), (a_counts, .inl (E.2.1, 12, .inl counts)), (a_lasts, .inl (E.2.1, 12, .inl lasts)), (a_cames, .inl (E.2.1, 12, .inl cames))] H locs → lv_has ls 4 [(0, .ref h), (1, .int x1), (2, .int x2), (3, .int x3)] → W p l e ({ frames := 1, cells := 0, slots := 0, locals := 22 } : Room) s m args below meth c H locs 0 0 Q (F0 m 4 ls []) := by
  obtain ⟨hx, hb, hml, hown, hts⟩ := id B.1
  intro n
  induction n with
  | zero =>
    intro x2 x3 H locs ls hf w hl
    exact nomatch hf
  | succ n hrec =>
    intro x2 x3 H locs ls hf w hl
    have hf : K_X12_loads_4 N (L_X12_loads_4 N k39 x1 g n) k39 x1 g x2 x3 = some o := hf
    unfold K_X12_loads_4 at hf
    refine lv_iload_n hx hb dX12_loads_4 rfl (lv_at hl 3 rfl) ?_
    refine lv_aload_n hx hb dX12_loads_5 rfl (lv_at hl 0 rfl) ?_
    refine mx_get B w 0 fl_X12_9 rfl rfl dX12_loads_6 ?_
    refine lv_bipush (v := 15) hx hb dX12_loads_9 (by decide) ?_
    obtain ⟨hin, hf⟩ := ld_e hf
    refine mx_iald B w 1 rfl hin dX12_loads_11 (fun v_1 ev => ?_)
    have hf := hf _ ev; clear ev
    refine lv_icmp_ge (tgt := 39) hx hb dX12_loads_12 (by decide) (fun hc => ?_) (fun hc => ?_)
    · have hf := it_t hc hf
      exact hk39 _ _ _ _ hf  w (lv_sub hl [2] rfl)
    · have hf := it_f hc hf
      refine lv_iload_n hx hb dX12_loads_15 rfl (lv_at hl 2 rfl) ?_
      refine lv_aload_n hx hb dX12_loads_16 rfl (lv_at hl 0 rfl) ?_
      refine lv_iload_n hx hb dX12_loads_17 rfl (lv_at hl 3 rfl) ?_
      refine lv_iconst (v := 1) hx hb dX12_loads_18 (by decide) ?_
      obtain ⟨o_2, hq, hf⟩ := bd_e hf
      refine mx_callV (As := [.int x3, .int 1]) (rest := [.int x2]) (wr := []) (d_X12_loadAt E l  h a_g a_kept a_tape a_written a_asked a_there a_counts a_lasts a_cames g kept isKept tape taped spot written writtenMany asked askedMany there counts lasts cames x3 1  o_2 hq) B w [0, 1, 2, 3, 4, 5, 6, 7, 8, 9] [] rfl rfl (by decide) (by decide) (by decide) 0 rfl rfl cv_X12_loadAt kw_1385 2 (by decide +kernel) ⟨Nat.le_of_ble_eq_true rfl, Nat.le_of_ble_eq_true rfl⟩ rfl hl.1 rfl (Nat.le_of_ble_eq_true rfl) dX12_loads_19 rfl rfl ⟨Nat.zero_le _, Nat.zero_le _⟩ (fun v w' H locs hpo w => ?_)
      clear hq
      obtain ⟨rfl, rfl⟩ := hpo
      have w : mW E A s [(h, .inr (11, [.ref a_g, .ref a_kept, .int isKept, .ref a_tape, .int taped, .int spot, .ref a_written, .int writtenMany, .ref a_asked, .int askedMany, .ref a_there, .ref a_counts, .ref a_lasts, .ref a_cames])), (a_g, .inl (E.2.1, 8787, .inl g)), (a_kept, .inl (E.2.1, 8787, .inl kept)), (a_tape, .inl (E.2.2.1, 60, .inl tape)), (a_written, .inl (E.2.1, 40, .inl written)), (a_asked, .inl (E.2.1, 60, .inl asked)), (a_there, .inl (E.2.1, 12, .inl there)), (a_counts, .inl (E.2.1, 12, .inl counts)), (a_lasts, .inl (E.2.1, 12, .inl lasts)), (a_cames, .inl (E.2.1, 12, .inl cames))] H locs := w
      refine lv_iload_n hx hb dX12_loads_22 rfl (lv_at hl 1 rfl) ?_
      refine lv_icmp_ne (tgt := 30) hx hb dX12_loads_23 (by decide) (fun hc => ?_) (fun hc => ?_)
      · have hf := it_f hc hf
        refine lv_iconst (v := 0) hx hb dX12_loads_30 (by decide) ?_
        exact j_X12_loads_31 B _ _ hrec hk39 hf  w (lv_sub hl [0, 1, 3] rfl)
      · have hf := it_t hc hf
        refine lv_iconst (v := 1) hx hb dX12_loads_26 (by decide) ?_
        refine lv_goto (tgt := 31) hx hb dX12_loads_27 (by decide) ?_
        exact j_X12_loads_31 B _ _ hrec hk39 hf  w (lv_sub hl [0, 1, 3] rfl)
noncomputable def F_X12_loads (N : Nat)  (g : Nat → Int32) (x1 : Int32) : Option (Int32) :=
  L_X12_loads_4 N (fun x2 => some (x2)) x1 g N 0 0
set_option maxHeartbeats 4000000 in
set_option maxRecDepth 100000 in
theorem d_X12_loads (E : mE) (l : Launch) (N : Nat) (h : Nat) (a_g : Nat) (a_kept : Nat) (a_tape : Nat) (a_written : Nat) (a_asked : Nat) (a_there : Nat) (a_counts : Nat) (a_lasts : Nat) (a_cames : Nat)  (g : Nat → Int32) (kept : Nat → Int32) (isKept : Int32) (tape : Nat → Int32) (taped : Int32) (spot : Int32) (written : Nat → Int32) (writtenMany : Int32) (asked : Nat → Int32) (askedMany : Int32) (there : Nat → Int32) (counts : Nat → Int32) (lasts : Nat → Int32) (cames : Nat → Int32)  (x1 : Int32)  (o : Int32) (hf : F_X12_loads N g x1 = some o) : MX E l yX12_loads cX12_loads 4 (some .int) ({ frames := 1, cells := 0, slots := 0, locals := 22 } : Room) [.ref h, .int x1] [(h, .inr (11, [.ref a_g, .ref a_kept, .int isKept, .ref a_tape, .int taped, .int spot, .ref a_written, .int writtenMany, .ref a_asked, .int askedMany, .ref a_there, .ref a_counts, .ref a_lasts, .ref a_cames])), (a_g, .inl (E.2.1, 8787, .inl g)), (a_kept, .inl (E.2.1, 8787, .inl kept)), (a_tape, .inl (E.2.2.1, 60, .inl tape)), (a_written, .inl (E.2.1, 40, .inl written)), (a_asked, .inl (E.2.1, 60, .inl asked)), (a_there, .inl (E.2.1, 12, .inl there)), (a_counts, .inl (E.2.1, 12, .inl counts)), (a_lasts, .inl (E.2.1, 12, .inl lasts)), (a_cames, .inl (E.2.1, 12, .inl cames))] (po_X12_loads E h a_g a_kept a_tape a_written a_asked a_there a_counts a_lasts a_cames g kept isKept tape taped spot written writtenMany asked askedMany there counts lasts cames o) := by
  refine mx_intro (by decide +kernel) (Nat.le_of_ble_eq_true rfl) ?_
  intro p e s m args below meth c A Q ls B w hl
  obtain ⟨hx, hb, hml, hown, hts⟩ := id B.1
  unfold F_X12_loads at hf
  have hl : lv_has ls 4 [(0, .ref h), (1, .int x1)] := hl
  refine lv_iconst (v := 0) hx hb dX12_loads_0 (by decide) ?_
  refine lv_istore_n (lv' := [(2, .int 0), (0, .ref h), (1, .int x1)]) hx hb dX12_loads_1 rfl hl (by decide) rfl (fun ls hl => ?_)
  refine lv_iconst (v := 0) hx hb dX12_loads_2 (by decide) ?_
  refine lv_istore_n (lv' := [(3, .int 0), (2, .int 0), (0, .ref h), (1, .int x1)]) hx hb dX12_loads_3 rfl hl (by decide) rfl (fun ls hl => ?_)
  refine l_X12_loads_4 B _  ?_ N _ _ _ _ _ hf  w (lv_sub hl [2, 3, 1, 0] rfl)
  · intro x2 H locs ls hf w hl
    refine lv_iload_n hx hb dX12_loads_39 rfl (lv_at hl 0 rfl) ?_
    cases hf
    exact mx_iret B w ⟨rfl, rfl⟩ dX12_loads_40
-- X12_runs
def po_X12_runs (E : mE) (h : Nat) (a_g : Nat) (a_kept : Nat) (a_tape : Nat) (a_written : Nat) (a_asked : Nat) (a_there : Nat) (a_counts : Nat) (a_lasts : Nat) (a_cames : Nat)  (g : Nat → Int32) (kept : Nat → Int32) (isKept : Int32) (tape : Nat → Int32) (taped : Int32) (spot : Int32) (written : Nat → Int32) (writtenMany : Int32) (asked : Nat → Int32) (askedMany : Int32) (there : Nat → Int32) (counts : Nat → Int32) (lasts : Nat → Int32) (cames : Nat → Int32)  (o : (Nat → Int32)) : Option Value → va_W → Prop := (fun (v : Option Value) (w' : va_W) => v = none ∧ w' = [(h, .inr (11, [.ref a_g, .ref a_kept, .int isKept, .ref a_tape, .int taped, .int spot, .ref a_written, .int writtenMany, .ref a_asked, .int askedMany, .ref a_there, .ref a_counts, .ref a_lasts, .ref a_cames])), (a_g, .inl (E.2.1, 8787, .inl o)), (a_kept, .inl (E.2.1, 8787, .inl kept)), (a_tape, .inl (E.2.2.1, 60, .inl tape)), (a_written, .inl (E.2.1, 40, .inl written)), (a_asked, .inl (E.2.1, 60, .inl asked)), (a_there, .inl (E.2.1, 12, .inl there)), (a_counts, .inl (E.2.1, 12, .inl counts)), (a_lasts, .inl (E.2.1, 12, .inl lasts)), (a_cames, .inl (E.2.1, 12, .inl cames))])
noncomputable def J_X12_runs_126 (N : Nat)  (rec : Int32 → Int32 → (Nat → Int32) → (Option ((Nat → Int32)))) (k132 : (Nat → Int32) → (Option ((Nat → Int32)))) (x1 : Int32) (x2 : Int32) (g : Nat → Int32) : Option ((Nat → Int32)) :=
  lt (x2 + 1) (fun x2_6 =>
  rec x1 x2_6 g)
set_option maxHeartbeats 4000000 in
set_option maxRecDepth 100000 in
theorem j_X12_runs_126 {E : mE} {l : Launch} {p : Program} {e : Env} {s : State} {m : MethodId} {args : Array Value} {below : List Frame} {meth : Method} {c : Code} {A : Nat → Prop} {Q : State → Prop} {N : Nat} {h : Nat} {a_g : Nat} {a_kept : Nat} {a_tape : Nat} {a_written : Nat} {a_asked : Nat} {a_there : Nat} {a_counts : Nat} {a_lasts : Nat} {a_cames : Nat}  {g0 : Nat → Int32} {kept : Nat → Int32} {isKept : Int32} {tape : Nat → Int32} {taped : Int32} {spot : Int32} {written : Nat → Int32} {writtenMany : Int32} {asked : Nat → Int32} {askedMany : Int32} {there : Nat → Int32} {counts : Nat → Int32} {lasts : Nat → Int32} {cames : Nat → Int32}  {o : (Nat → Int32)} (B : mB E yX12_runs cX12_runs 3 none 0 0 (po_X12_runs E h a_g a_kept a_tape a_written a_asked a_there a_counts a_lasts a_cames g0 kept isKept tape taped spot written writtenMany asked askedMany there counts lasts cames o) p s m args below meth c A Q) {x1 : Int32} {x2 : Int32} {g : Nat → Int32}  (rec : Int32 → Int32 → (Nat → Int32) → (Option ((Nat → Int32)))) (k132 : (Nat → Int32) → (Option ((Nat → Int32)))) (hrec : ∀ (x1 : Int32) (x2 : Int32) (g : Nat → Int32)  (H : Heap) (locs : List Loc) (ls : Array Slot), rec x1 x2 g = some o → mW E A s [(h, .inr (11, [.ref a_g, .ref a_kept, .int isKept, .ref a_tape, .int taped, .int spot, .ref a_written, .int writtenMany, .ref a_asked, .int askedMany, .ref a_there, .ref a_counts, .ref a_lasts, .ref a_cames])), (a_g, .inl (E.2.1, 8787, .inl g)), (a_kept, .inl (E.2.1, 8787, .inl kept)), (a_tape, .inl (E.2.2.1, 60, .inl tape)), (a_written, .inl (E.2.1, 40, .inl written)), (a_asked, .inl (E.2.1, 60, .inl asked)), (a_there, .inl (E.2.1, 12, .inl there)), (a_counts, .inl (E.2.1, 12, .inl counts)), (a_lasts, .inl (E.2.1, 12, .inl lasts)), (a_cames, .inl (E.2.1, 12, .inl cames))] H locs → lv_has ls 3 [(0, .ref h), (1, .int x1), (2, .int x2)] → W p l e ({ frames := 4, cells := 0, slots := 0, locals := 91 } : Room) s m args below meth c H locs 0 0 Q (F0 m 15 ls [])) (hk132 : ∀  (g : Nat → Int32)  (H : Heap) (locs : List Loc) (ls : Array Slot), k132 g = some o → mW E A s [(h, .inr (11, [.ref a_g, .ref a_kept, .int isKept, .ref a_tape, .int taped, .int spot, .ref a_written, .int writtenMany, .ref a_asked, .int askedMany, .ref a_there, .ref a_counts, .ref a_lasts, .ref a_cames])), (a_g, .inl (E.2.1, 8787, .inl g)), (a_kept, .inl (E.2.1, 8787, .inl kept)), (a_tape, .inl (E.2.2.1, 60, .inl tape)), (a_written, .inl (E.2.1, 40, .inl written)), (a_asked, .inl (E.2.1, 60, .inl asked)), (a_there, .inl (E.2.1, 12, .inl there)), (a_counts, .inl (E.2.1, 12, .inl counts)), (a_lasts, .inl (E.2.1, 12, .inl lasts)), (a_cames, .inl (E.2.1, 12, .inl cames))] H locs → lv_has ls 3 [] → W p l e ({ frames := 4, cells := 0, slots := 0, locals := 91 } : Room) s m args below meth c H locs 0 0 Q (F0 m 132 ls [])) {H : Heap} {locs : List Loc} {ls : Array Slot} (hf : J_X12_runs_126 N rec k132 x1 x2 g = some o)  (w : mW E A s [(h, .inr (11, [.ref a_g, .ref a_kept, .int isKept, .ref a_tape, .int taped, .int spot, .ref a_written, .int writtenMany, .ref a_asked, .int askedMany, .ref a_there, .ref a_counts, .ref a_lasts, .ref a_cames])), (a_g, .inl (E.2.1, 8787, .inl g)), (a_kept, .inl (E.2.1, 8787, .inl kept)), (a_tape, .inl (E.2.2.1, 60, .inl tape)), (a_written, .inl (E.2.1, 40, .inl written)), (a_asked, .inl (E.2.1, 60, .inl asked)), (a_there, .inl (E.2.1, 12, .inl there)), (a_counts, .inl (E.2.1, 12, .inl counts)), (a_lasts, .inl (E.2.1, 12, .inl lasts)), (a_cames, .inl (E.2.1, 12, .inl cames))] H locs) (hl : lv_has ls 3 [(0, .ref h), (1, .int x1), (2, .int x2)]) : W p l e ({ frames := 4, cells := 0, slots := 0, locals := 91 } : Room) s m args below meth c H locs 0 0 Q (F0 m 126 ls []) := by
  obtain ⟨hx, hb, hml, hown, hts⟩ := id B.1
  unfold J_X12_runs_126 at hf
  obtain ⟨x2_6, ev⟩ : ∃ y : Int32, y = x2 + 1 := ⟨_, rfl⟩
  refine lv_iinc (v := x2_6) (lv' := [(2, .int x2_6), (0, .ref h), (1, .int x1)]) hx hb dX12_runs_126 hl (k := 2) rfl (by rw [ev]; rfl) (by decide) rfl (fun ls hl => ?_)
  have hf := lt_n ev hf; clear ev
  refine lv_goto (tgt := 15) hx hb dX12_runs_129 (by decide) ?_
  exact hrec _ _ _ _ _ _ hf  w (lv_sub hl [1, 2, 0] rfl)
noncomputable def K_X12_runs_15 (N : Nat)  (rec : Int32 → Int32 → (Nat → Int32) → (Option ((Nat → Int32)))) (k132 : (Nat → Int32) → (Option ((Nat → Int32))))   (x1 : Int32) (x2 : Int32) (g : Nat → Int32) : Option ((Nat → Int32)) :=
  ld g 8787 15 (fun v_4 =>
  if (v_4 ≤ x2 : Prop) then
  k132 g
  else
  if (x1 ≤ 0 : Prop) then
  k132 g
  else
  bd (F_X12_loadAt g x2 1) (fun o_5 =>
  if (o_5 = 1 : Prop) then
  sto g 8787 ((2003 + (x2 * 20)) + 1) 2 (fun g_7 =>
  ld g_7 8787 8 (fun v_8 =>
  sto g_7 8787 ((2003 + (x2 * 20)) + 2) v_8 (fun g_9 =>
  bd (F_X12_slot N g_9 16 8467 1 60) (fun o_10 =>
  bd (F_X12_loadAt o_10.2 x2 0) (fun o_11 =>
  sto o_10.2 8787 o_10.1 o_11 (fun g_12 =>
  ld g_12 8787 22 (fun v_13 =>
  sto g_12 8787 22 (v_13 + 1) (fun g_14 =>
  bd (F_X12_loadAt g_14 x2 0) (fun o_15 =>
  bd (F_X12_happens N g_14 3 o_15) (fun o_16 =>
  lt (x1 + (-1)) (fun x1_17 =>
  J_X12_runs_126 N rec k132 x1_17 x2 o_16)))))))))))
  else
  J_X12_runs_126 N rec k132 x1 x2 g))
noncomputable def L_X12_runs_15 (N : Nat)  (k132 : (Nat → Int32) → (Option ((Nat → Int32))))   (n : Nat) : Int32 → Int32 → (Nat → Int32) → (Option ((Nat → Int32))) :=
  Nat.rec (motive := fun _ => Int32 → Int32 → (Nat → Int32) → (Option ((Nat → Int32)))) (fun _ _ _ => none) (fun _ rec => K_X12_runs_15 N rec k132) n
set_option maxHeartbeats 4000000 in
set_option maxRecDepth 100000 in
theorem l_X12_runs_15 {E : mE} {l : Launch} {p : Program} {e : Env} {s : State} {m : MethodId} {args : Array Value} {below : List Frame} {meth : Method} {c : Code} {A : Nat → Prop} {Q : State → Prop} {N : Nat} {h : Nat} {a_g : Nat} {a_kept : Nat} {a_tape : Nat} {a_written : Nat} {a_asked : Nat} {a_there : Nat} {a_counts : Nat} {a_lasts : Nat} {a_cames : Nat}  {g0 : Nat → Int32} {kept : Nat → Int32} {isKept : Int32} {tape : Nat → Int32} {taped : Int32} {spot : Int32} {written : Nat → Int32} {writtenMany : Int32} {asked : Nat → Int32} {askedMany : Int32} {there : Nat → Int32} {counts : Nat → Int32} {lasts : Nat → Int32} {cames : Nat → Int32}  {o : (Nat → Int32)} (B : mB E yX12_runs cX12_runs 3 none 0 0 (po_X12_runs E h a_g a_kept a_tape a_written a_asked a_there a_counts a_lasts a_cames g0 kept isKept tape taped spot written writtenMany asked askedMany there counts lasts cames o) p s m args below meth c A Q)    (k132 : (Nat → Int32) → (Option ((Nat → Int32))))  (hk132 : ∀  (g : Nat → Int32)  (H : Heap) (locs : List Loc) (ls : Array Slot), k132 g = some o → mW E A s [(h, .inr (11, [.ref a_g, .ref a_kept, .int isKept, .ref a_tape, .int taped, .int spot, .ref a_written, .int writtenMany, .ref a_asked, .int askedMany, .ref a_there, .ref a_counts, .ref a_lasts, .ref a_cames])), (a_g, .inl (E.2.1, 8787, .inl g)), (a_kept, .inl (E.2.1, 8787, .inl kept)), (a_tape, .inl (E.2.2.1, 60, .inl tape)), (a_written, .inl (E.2.1, 40, .inl written)), (a_asked, .inl (E.2.1, 60, .inl asked)), (a_there, .inl (E.2.1, 12, .inl there)), (a_counts, .inl (E.2.1, 12, .inl counts)), (a_lasts, .inl (E.2.1, 12, .inl lasts)), (a_cames, .inl (E.2.1, 12, .inl cames))] H locs → lv_has ls 3 [] → W p l e ({ frames := 4, cells := 0, slots := 0, locals := 91 } : Room) s m args below meth c H locs 0 0 Q (F0 m 132 ls [])) : ∀ n : Nat, ∀ (x1 : Int32) (x2 : Int32) (g : Nat → Int32)  (H : Heap) (locs : List Loc) (ls : Array Slot), L_X12_runs_15 N k132 n x1 x2 g = some o → mW E A s [(h, .inr (11, [.ref a_g, .ref a_kept, .int isKept, .ref a_tape, .int taped, .int spot, .ref a_written, .int writtenMany, .ref a_asked, .int askedMany, .ref a_there, .ref a_counts, .ref a_lasts, .ref a_cames])), (a_g, .inl (E.2.1, 8787, .inl g)), (a_kept, .inl (E.2.1, 8787, .inl kept)), (a_tape, .inl (E.2.2.1, 60, .inl tape)), (a_written, .inl (E.2.1, 40, .inl written)), (a_asked, .inl (E.2.1, 60, .inl asked)), (a_there, .inl (E.2.1, 12, .inl there)), (a_counts, .inl (E.2.1, 12, .inl counts)), (a_lasts, .inl (E.2.1, 12, .inl lasts)), (a_cames, .inl (E.2.1, 12, .inl cames))] H locs → lv_has ls 3 [(0, .ref h), (1, .int x1), (2, .int x2)] → W p l e ({ frames := 4, cells := 0, slots := 0, locals := 91 } : Room) s m args below meth c H locs 0 0 Q (F0 m 15 ls []) := by
  obtain ⟨hx, hb, hml, hown, hts⟩ := id B.1
  intro n
  induction n with
  | zero =>
    intro x1 x2 g H locs ls hf w hl
    exact nomatch hf
  | succ n hrec =>
    intro x1 x2 g H locs ls hf w hl
    have hf : K_X12_runs_15 N (L_X12_runs_15 N k132 n) k132 x1 x2 g = some o := hf
    unfold K_X12_runs_15 at hf
    refine lv_iload_n hx hb dX12_runs_15 rfl (lv_at hl 2 rfl) ?_
    refine lv_aload_n hx hb dX12_runs_16 rfl (lv_at hl 0 rfl) ?_
    refine mx_get B w 0 fl_X12_9 rfl rfl dX12_runs_17 ?_
    refine lv_bipush (v := 15) hx hb dX12_runs_20 (by decide) ?_
    obtain ⟨hin, hf⟩ := ld_e hf
    refine mx_iald B w 1 rfl hin dX12_runs_22 (fun v_4 ev => ?_)
    have hf := hf _ ev; clear ev
    refine lv_icmp_ge (tgt := 132) hx hb dX12_runs_23 (by decide) (fun hc => ?_) (fun hc => ?_)
    · have hf := it_t hc hf
      exact hk132 _ _ _ _ hf  w (lv_sub hl [] rfl)
    · have hf := it_f hc hf
      refine lv_iload_n hx hb dX12_runs_26 rfl (lv_at hl 1 rfl) ?_
      refine lv_if_le (tgt := 132) hx hb dX12_runs_27 (by decide) (fun hc => ?_) (fun hc => ?_)
      · have hf := it_t hc hf
        exact hk132 _ _ _ _ hf  w (lv_sub hl [] rfl)
      · have hf := it_f hc hf
        refine lv_aload_n hx hb dX12_runs_30 rfl (lv_at hl 0 rfl) ?_
        refine lv_iload_n hx hb dX12_runs_31 rfl (lv_at hl 2 rfl) ?_
        refine lv_iconst (v := 1) hx hb dX12_runs_32 (by decide) ?_
        obtain ⟨o_5, hq, hf⟩ := bd_e hf
        refine mx_callV (As := [.int x2, .int 1]) (rest := []) (wr := []) (d_X12_loadAt E l  h a_g a_kept a_tape a_written a_asked a_there a_counts a_lasts a_cames g kept isKept tape taped spot written writtenMany asked askedMany there counts lasts cames x2 1  o_5 hq) B w [0, 1, 2, 3, 4, 5, 6, 7, 8, 9] [] rfl rfl (by decide) (by decide) (by decide) 0 rfl rfl cv_X12_loadAt kw_1385 2 (by decide +kernel) ⟨Nat.le_of_ble_eq_true rfl, Nat.le_of_ble_eq_true rfl⟩ rfl hl.1 rfl (Nat.le_of_ble_eq_true rfl) dX12_runs_33 rfl rfl ⟨Nat.zero_le _, Nat.zero_le _⟩ (fun v w' H locs hpo w => ?_)
        clear hq
        obtain ⟨rfl, rfl⟩ := hpo
        have w : mW E A s [(h, .inr (11, [.ref a_g, .ref a_kept, .int isKept, .ref a_tape, .int taped, .int spot, .ref a_written, .int writtenMany, .ref a_asked, .int askedMany, .ref a_there, .ref a_counts, .ref a_lasts, .ref a_cames])), (a_g, .inl (E.2.1, 8787, .inl g)), (a_kept, .inl (E.2.1, 8787, .inl kept)), (a_tape, .inl (E.2.2.1, 60, .inl tape)), (a_written, .inl (E.2.1, 40, .inl written)), (a_asked, .inl (E.2.1, 60, .inl asked)), (a_there, .inl (E.2.1, 12, .inl there)), (a_counts, .inl (E.2.1, 12, .inl counts)), (a_lasts, .inl (E.2.1, 12, .inl lasts)), (a_cames, .inl (E.2.1, 12, .inl cames))] H locs := w
        refine lv_iconst (v := 1) hx hb dX12_runs_36 (by decide) ?_
        refine lv_icmp_ne (tgt := 126) hx hb dX12_runs_37 (by decide) (fun hc => ?_) (fun hc => ?_)
        · have hf := it_f hc hf
          exact j_X12_runs_126 B _ _ hrec hk132 hf  w (lv_sub hl [0, 1, 2] rfl)
        · have hf := it_t hc hf
          refine lv_aload_n hx hb dX12_runs_40 rfl (lv_at hl 0 rfl) ?_
          refine mx_get B w 0 fl_X12_9 rfl rfl dX12_runs_41 ?_
          refine lv_sipush (v := 2003) hx hb dX12_runs_44 (by decide) ?_
          refine lv_iload_n hx hb dX12_runs_47 rfl (lv_at hl 2 rfl) ?_
          refine lv_bipush (v := 20) hx hb dX12_runs_48 (by decide) ?_
          refine lv_imul hx hb dX12_runs_50 ?_
          refine lv_iadd hx hb dX12_runs_51 ?_
          refine lv_iconst (v := 1) hx hb dX12_runs_52 (by decide) ?_
          refine lv_iadd hx hb dX12_runs_53 ?_
          refine lv_iconst (v := 2) hx hb dX12_runs_54 (by decide) ?_
          obtain ⟨hin, hf⟩ := sto_e hf
          refine mx_iast B w 1 rfl hin dX12_runs_55 (fun g_7 H locs ev w => ?_)
          have hf := hf _ ev; clear ev
          have w : mW E A s [(h, .inr (11, [.ref a_g, .ref a_kept, .int isKept, .ref a_tape, .int taped, .int spot, .ref a_written, .int writtenMany, .ref a_asked, .int askedMany, .ref a_there, .ref a_counts, .ref a_lasts, .ref a_cames])), (a_g, .inl (E.2.1, 8787, .inl g_7)), (a_kept, .inl (E.2.1, 8787, .inl kept)), (a_tape, .inl (E.2.2.1, 60, .inl tape)), (a_written, .inl (E.2.1, 40, .inl written)), (a_asked, .inl (E.2.1, 60, .inl asked)), (a_there, .inl (E.2.1, 12, .inl there)), (a_counts, .inl (E.2.1, 12, .inl counts)), (a_lasts, .inl (E.2.1, 12, .inl lasts)), (a_cames, .inl (E.2.1, 12, .inl cames))] H locs := w
          refine lv_aload_n hx hb dX12_runs_56 rfl (lv_at hl 0 rfl) ?_
          refine mx_get B w 0 fl_X12_9 rfl rfl dX12_runs_57 ?_
          refine lv_sipush (v := 2003) hx hb dX12_runs_60 (by decide) ?_
          refine lv_iload_n hx hb dX12_runs_63 rfl (lv_at hl 2 rfl) ?_
          refine lv_bipush (v := 20) hx hb dX12_runs_64 (by decide) ?_
          refine lv_imul hx hb dX12_runs_66 ?_
          refine lv_iadd hx hb dX12_runs_67 ?_
          refine lv_iconst (v := 2) hx hb dX12_runs_68 (by decide) ?_
          refine lv_iadd hx hb dX12_runs_69 ?_
          refine lv_aload_n hx hb dX12_runs_70 rfl (lv_at hl 0 rfl) ?_
          refine mx_get B w 0 fl_X12_9 rfl rfl dX12_runs_71 ?_
          refine lv_bipush (v := 8) hx hb dX12_runs_74 (by decide) ?_
          obtain ⟨hin, hf⟩ := ld_e hf
          refine mx_iald B w 1 rfl hin dX12_runs_76 (fun v_8 ev => ?_)
          have hf := hf _ ev; clear ev
          obtain ⟨hin, hf⟩ := sto_e hf
          refine mx_iast B w 1 rfl hin dX12_runs_77 (fun g_9 H locs ev w => ?_)
          have hf := hf _ ev; clear ev
          have w : mW E A s [(h, .inr (11, [.ref a_g, .ref a_kept, .int isKept, .ref a_tape, .int taped, .int spot, .ref a_written, .int writtenMany, .ref a_asked, .int askedMany, .ref a_there, .ref a_counts, .ref a_lasts, .ref a_cames])), (a_g, .inl (E.2.1, 8787, .inl g_9)), (a_kept, .inl (E.2.1, 8787, .inl kept)), (a_tape, .inl (E.2.2.1, 60, .inl tape)), (a_written, .inl (E.2.1, 40, .inl written)), (a_asked, .inl (E.2.1, 60, .inl asked)), (a_there, .inl (E.2.1, 12, .inl there)), (a_counts, .inl (E.2.1, 12, .inl counts)), (a_lasts, .inl (E.2.1, 12, .inl lasts)), (a_cames, .inl (E.2.1, 12, .inl cames))] H locs := w
          refine lv_aload_n hx hb dX12_runs_78 rfl (lv_at hl 0 rfl) ?_
          refine mx_get B w 0 fl_X12_9 rfl rfl dX12_runs_79 ?_
          refine lv_aload_n hx hb dX12_runs_82 rfl (lv_at hl 0 rfl) ?_
          refine lv_bipush (v := 16) hx hb dX12_runs_83 (by decide) ?_
          refine lv_sipush (v := 8467) hx hb dX12_runs_85 (by decide) ?_
          refine lv_iconst (v := 1) hx hb dX12_runs_88 (by decide) ?_
          refine lv_bipush (v := 60) hx hb dX12_runs_89 (by decide) ?_
          obtain ⟨o_10, hq, hf⟩ := bd_e hf
          refine mx_callV (As := [.int 16, .int 8467, .int 1, .int 60]) (rest := [.ref a_g]) (wr := []) (d_X12_slot E l N h a_g a_kept a_tape a_written a_asked a_there a_counts a_lasts a_cames g_9 kept isKept tape taped spot written writtenMany asked askedMany there counts lasts cames 16 8467 1 60  o_10 hq) B w [0, 1, 2, 3, 4, 5, 6, 7, 8, 9] [] rfl rfl (by decide) (by decide) (by decide) 0 rfl rfl cv_X12_slot kw_1369 4 (by decide +kernel) ⟨Nat.le_of_ble_eq_true rfl, Nat.le_of_ble_eq_true rfl⟩ rfl hl.1 rfl (Nat.le_of_ble_eq_true rfl) dX12_runs_91 rfl rfl ⟨Nat.zero_le _, Nat.zero_le _⟩ (fun v w' H locs hpo w => ?_)
          clear hq
          obtain ⟨rfl, rfl⟩ := hpo
          have w : mW E A s [(h, .inr (11, [.ref a_g, .ref a_kept, .int isKept, .ref a_tape, .int taped, .int spot, .ref a_written, .int writtenMany, .ref a_asked, .int askedMany, .ref a_there, .ref a_counts, .ref a_lasts, .ref a_cames])), (a_g, .inl (E.2.1, 8787, .inl o_10.2)), (a_kept, .inl (E.2.1, 8787, .inl kept)), (a_tape, .inl (E.2.2.1, 60, .inl tape)), (a_written, .inl (E.2.1, 40, .inl written)), (a_asked, .inl (E.2.1, 60, .inl asked)), (a_there, .inl (E.2.1, 12, .inl there)), (a_counts, .inl (E.2.1, 12, .inl counts)), (a_lasts, .inl (E.2.1, 12, .inl lasts)), (a_cames, .inl (E.2.1, 12, .inl cames))] H locs := w
          refine lv_aload_n hx hb dX12_runs_94 rfl (lv_at hl 0 rfl) ?_
          refine lv_iload_n hx hb dX12_runs_95 rfl (lv_at hl 2 rfl) ?_
          refine lv_iconst (v := 0) hx hb dX12_runs_96 (by decide) ?_
          obtain ⟨o_11, hq, hf⟩ := bd_e hf
          refine mx_callV (As := [.int x2, .int 0]) (rest := [.int o_10.1, .ref a_g]) (wr := []) (d_X12_loadAt E l  h a_g a_kept a_tape a_written a_asked a_there a_counts a_lasts a_cames o_10.2 kept isKept tape taped spot written writtenMany asked askedMany there counts lasts cames x2 0  o_11 hq) B w [0, 1, 2, 3, 4, 5, 6, 7, 8, 9] [] rfl rfl (by decide) (by decide) (by decide) 0 rfl rfl cv_X12_loadAt kw_1385 2 (by decide +kernel) ⟨Nat.le_of_ble_eq_true rfl, Nat.le_of_ble_eq_true rfl⟩ rfl hl.1 rfl (Nat.le_of_ble_eq_true rfl) dX12_runs_97 rfl rfl ⟨Nat.zero_le _, Nat.zero_le _⟩ (fun v w' H locs hpo w => ?_)
          clear hq
          obtain ⟨rfl, rfl⟩ := hpo
          have w : mW E A s [(h, .inr (11, [.ref a_g, .ref a_kept, .int isKept, .ref a_tape, .int taped, .int spot, .ref a_written, .int writtenMany, .ref a_asked, .int askedMany, .ref a_there, .ref a_counts, .ref a_lasts, .ref a_cames])), (a_g, .inl (E.2.1, 8787, .inl o_10.2)), (a_kept, .inl (E.2.1, 8787, .inl kept)), (a_tape, .inl (E.2.2.1, 60, .inl tape)), (a_written, .inl (E.2.1, 40, .inl written)), (a_asked, .inl (E.2.1, 60, .inl asked)), (a_there, .inl (E.2.1, 12, .inl there)), (a_counts, .inl (E.2.1, 12, .inl counts)), (a_lasts, .inl (E.2.1, 12, .inl lasts)), (a_cames, .inl (E.2.1, 12, .inl cames))] H locs := w
          obtain ⟨hin, hf⟩ := sto_e hf
          refine mx_iast B w 1 rfl hin dX12_runs_100 (fun g_12 H locs ev w => ?_)
          have hf := hf _ ev; clear ev
          have w : mW E A s [(h, .inr (11, [.ref a_g, .ref a_kept, .int isKept, .ref a_tape, .int taped, .int spot, .ref a_written, .int writtenMany, .ref a_asked, .int askedMany, .ref a_there, .ref a_counts, .ref a_lasts, .ref a_cames])), (a_g, .inl (E.2.1, 8787, .inl g_12)), (a_kept, .inl (E.2.1, 8787, .inl kept)), (a_tape, .inl (E.2.2.1, 60, .inl tape)), (a_written, .inl (E.2.1, 40, .inl written)), (a_asked, .inl (E.2.1, 60, .inl asked)), (a_there, .inl (E.2.1, 12, .inl there)), (a_counts, .inl (E.2.1, 12, .inl counts)), (a_lasts, .inl (E.2.1, 12, .inl lasts)), (a_cames, .inl (E.2.1, 12, .inl cames))] H locs := w
          refine lv_aload_n hx hb dX12_runs_101 rfl (lv_at hl 0 rfl) ?_
          refine mx_get B w 0 fl_X12_9 rfl rfl dX12_runs_102 ?_
          refine lv_bipush (v := 22) hx hb dX12_runs_105 (by decide) ?_
          refine lv_dup2_11 hx hb dX12_runs_107 rfl rfl ?_
          obtain ⟨hin, hf⟩ := ld_e hf
          refine mx_iald B w 1 rfl hin dX12_runs_108 (fun v_13 ev => ?_)
          have hf := hf _ ev; clear ev
          refine lv_iconst (v := 1) hx hb dX12_runs_109 (by decide) ?_
          refine lv_iadd hx hb dX12_runs_110 ?_
          obtain ⟨hin, hf⟩ := sto_e hf
          refine mx_iast B w 1 rfl hin dX12_runs_111 (fun g_14 H locs ev w => ?_)
          have hf := hf _ ev; clear ev
          have w : mW E A s [(h, .inr (11, [.ref a_g, .ref a_kept, .int isKept, .ref a_tape, .int taped, .int spot, .ref a_written, .int writtenMany, .ref a_asked, .int askedMany, .ref a_there, .ref a_counts, .ref a_lasts, .ref a_cames])), (a_g, .inl (E.2.1, 8787, .inl g_14)), (a_kept, .inl (E.2.1, 8787, .inl kept)), (a_tape, .inl (E.2.2.1, 60, .inl tape)), (a_written, .inl (E.2.1, 40, .inl written)), (a_asked, .inl (E.2.1, 60, .inl asked)), (a_there, .inl (E.2.1, 12, .inl there)), (a_counts, .inl (E.2.1, 12, .inl counts)), (a_lasts, .inl (E.2.1, 12, .inl lasts)), (a_cames, .inl (E.2.1, 12, .inl cames))] H locs := w
          refine lv_aload_n hx hb dX12_runs_112 rfl (lv_at hl 0 rfl) ?_
          refine lv_iconst (v := 3) hx hb dX12_runs_113 (by decide) ?_
          refine lv_aload_n hx hb dX12_runs_114 rfl (lv_at hl 0 rfl) ?_
          refine lv_iload_n hx hb dX12_runs_115 rfl (lv_at hl 2 rfl) ?_
          refine lv_iconst (v := 0) hx hb dX12_runs_116 (by decide) ?_
          obtain ⟨o_15, hq, hf⟩ := bd_e hf
          refine mx_callV (As := [.int x2, .int 0]) (rest := [.int 3, .ref h]) (wr := []) (d_X12_loadAt E l  h a_g a_kept a_tape a_written a_asked a_there a_counts a_lasts a_cames g_14 kept isKept tape taped spot written writtenMany asked askedMany there counts lasts cames x2 0  o_15 hq) B w [0, 1, 2, 3, 4, 5, 6, 7, 8, 9] [] rfl rfl (by decide) (by decide) (by decide) 0 rfl rfl cv_X12_loadAt kw_1385 2 (by decide +kernel) ⟨Nat.le_of_ble_eq_true rfl, Nat.le_of_ble_eq_true rfl⟩ rfl hl.1 rfl (Nat.le_of_ble_eq_true rfl) dX12_runs_117 rfl rfl ⟨Nat.zero_le _, Nat.zero_le _⟩ (fun v w' H locs hpo w => ?_)
          clear hq
          obtain ⟨rfl, rfl⟩ := hpo
          have w : mW E A s [(h, .inr (11, [.ref a_g, .ref a_kept, .int isKept, .ref a_tape, .int taped, .int spot, .ref a_written, .int writtenMany, .ref a_asked, .int askedMany, .ref a_there, .ref a_counts, .ref a_lasts, .ref a_cames])), (a_g, .inl (E.2.1, 8787, .inl g_14)), (a_kept, .inl (E.2.1, 8787, .inl kept)), (a_tape, .inl (E.2.2.1, 60, .inl tape)), (a_written, .inl (E.2.1, 40, .inl written)), (a_asked, .inl (E.2.1, 60, .inl asked)), (a_there, .inl (E.2.1, 12, .inl there)), (a_counts, .inl (E.2.1, 12, .inl counts)), (a_lasts, .inl (E.2.1, 12, .inl lasts)), (a_cames, .inl (E.2.1, 12, .inl cames))] H locs := w
          obtain ⟨o_16, hq, hf⟩ := bd_e hf
          refine mx_callV (As := [.int 3, .int o_15]) (rest := []) (wr := []) (d_X12_happens E l N h a_g a_kept a_tape a_written a_asked a_there a_counts a_lasts a_cames g_14 kept isKept tape taped spot written writtenMany asked askedMany there counts lasts cames 3 o_15  o_16 hq) B w [0, 1, 2, 3, 4, 5, 6, 7, 8, 9] [] rfl rfl (by decide) (by decide) (by decide) 0 rfl rfl cv_X12_happens kw_1373 2 (by decide +kernel) ⟨Nat.le_of_ble_eq_true rfl, Nat.le_of_ble_eq_true rfl⟩ rfl hl.1 rfl (Nat.le_of_ble_eq_true rfl) dX12_runs_120 rfl rfl ⟨Nat.zero_le _, Nat.zero_le _⟩ (fun v w' H locs hpo w => ?_)
          clear hq
          obtain ⟨rfl, rfl⟩ := hpo
          have w : mW E A s [(h, .inr (11, [.ref a_g, .ref a_kept, .int isKept, .ref a_tape, .int taped, .int spot, .ref a_written, .int writtenMany, .ref a_asked, .int askedMany, .ref a_there, .ref a_counts, .ref a_lasts, .ref a_cames])), (a_g, .inl (E.2.1, 8787, .inl o_16)), (a_kept, .inl (E.2.1, 8787, .inl kept)), (a_tape, .inl (E.2.2.1, 60, .inl tape)), (a_written, .inl (E.2.1, 40, .inl written)), (a_asked, .inl (E.2.1, 60, .inl asked)), (a_there, .inl (E.2.1, 12, .inl there)), (a_counts, .inl (E.2.1, 12, .inl counts)), (a_lasts, .inl (E.2.1, 12, .inl lasts)), (a_cames, .inl (E.2.1, 12, .inl cames))] H locs := w
          obtain ⟨x1_17, ev⟩ : ∃ y : Int32, y = x1 + (-1) := ⟨_, rfl⟩
          refine lv_iinc (v := x1_17) (lv' := [(1, .int x1_17), (0, .ref h), (2, .int x2)]) hx hb dX12_runs_123 hl (k := 1) rfl (by rw [ev]; rfl) (by decide) rfl (fun ls hl => ?_)
          have hf := lt_n ev hf; clear ev
          exact j_X12_runs_126 B _ _ hrec hk132 hf  w (lv_sub hl [1, 0, 2] rfl)
noncomputable def F_X12_runs (N : Nat)  (g : Nat → Int32)  : Option ((Nat → Int32)) :=
  ld g 8787 4 (fun v_1 =>
  bd (F_X12_loads N g 2) (fun o_2 =>
  lt (v_1 - o_2) (fun x1_3 =>
  L_X12_runs_15 N (fun g => some (g)) N x1_3 0 g)))
set_option maxHeartbeats 4000000 in
set_option maxRecDepth 100000 in
theorem d_X12_runs (E : mE) (l : Launch) (N : Nat) (h : Nat) (a_g : Nat) (a_kept : Nat) (a_tape : Nat) (a_written : Nat) (a_asked : Nat) (a_there : Nat) (a_counts : Nat) (a_lasts : Nat) (a_cames : Nat)  (g : Nat → Int32) (kept : Nat → Int32) (isKept : Int32) (tape : Nat → Int32) (taped : Int32) (spot : Int32) (written : Nat → Int32) (writtenMany : Int32) (asked : Nat → Int32) (askedMany : Int32) (there : Nat → Int32) (counts : Nat → Int32) (lasts : Nat → Int32) (cames : Nat → Int32)    (o : (Nat → Int32)) (hf : F_X12_runs N g = some o) : MX E l yX12_runs cX12_runs 3 none ({ frames := 4, cells := 0, slots := 0, locals := 91 } : Room) [.ref h] [(h, .inr (11, [.ref a_g, .ref a_kept, .int isKept, .ref a_tape, .int taped, .int spot, .ref a_written, .int writtenMany, .ref a_asked, .int askedMany, .ref a_there, .ref a_counts, .ref a_lasts, .ref a_cames])), (a_g, .inl (E.2.1, 8787, .inl g)), (a_kept, .inl (E.2.1, 8787, .inl kept)), (a_tape, .inl (E.2.2.1, 60, .inl tape)), (a_written, .inl (E.2.1, 40, .inl written)), (a_asked, .inl (E.2.1, 60, .inl asked)), (a_there, .inl (E.2.1, 12, .inl there)), (a_counts, .inl (E.2.1, 12, .inl counts)), (a_lasts, .inl (E.2.1, 12, .inl lasts)), (a_cames, .inl (E.2.1, 12, .inl cames))] (po_X12_runs E h a_g a_kept a_tape a_written a_asked a_there a_counts a_lasts a_cames g kept isKept tape taped spot written writtenMany asked askedMany there counts lasts cames o) := by
  refine mx_intro (by decide +kernel) (Nat.le_of_ble_eq_true rfl) ?_
  intro p e s m args below meth c A Q ls B w hl
  obtain ⟨hx, hb, hml, hown, hts⟩ := id B.1
  unfold F_X12_runs at hf
  have hl : lv_has ls 3 [(0, .ref h)] := hl
  refine lv_aload_n hx hb dX12_runs_0 rfl (lv_at hl 0 rfl) ?_
  refine mx_get B w 0 fl_X12_9 rfl rfl dX12_runs_1 ?_
  refine lv_iconst (v := 4) hx hb dX12_runs_4 (by decide) ?_
  obtain ⟨hin, hf⟩ := ld_e hf
  refine mx_iald B w 1 rfl hin dX12_runs_5 (fun v_1 ev => ?_)
  have hf := hf _ ev; clear ev
  refine lv_aload_n hx hb dX12_runs_6 rfl (lv_at hl 0 rfl) ?_
  refine lv_iconst (v := 2) hx hb dX12_runs_7 (by decide) ?_
  obtain ⟨o_2, hq, hf⟩ := bd_e hf
  refine mx_callV (As := [.int 2]) (rest := [.int v_1]) (wr := []) (d_X12_loads E l N h a_g a_kept a_tape a_written a_asked a_there a_counts a_lasts a_cames g kept isKept tape taped spot written writtenMany asked askedMany there counts lasts cames 2  o_2 hq) B w [0, 1, 2, 3, 4, 5, 6, 7, 8, 9] [] rfl rfl (by decide) (by decide) (by decide) 0 rfl rfl cv_X12_loads kw_1381 1 (by decide +kernel) ⟨Nat.le_of_ble_eq_true rfl, Nat.le_of_ble_eq_true rfl⟩ rfl hl.1 rfl (Nat.le_of_ble_eq_true rfl) dX12_runs_8 rfl rfl ⟨Nat.zero_le _, Nat.zero_le _⟩ (fun v w' H locs hpo w => ?_)
  clear hq
  obtain ⟨rfl, rfl⟩ := hpo
  have w : mW E A s [(h, .inr (11, [.ref a_g, .ref a_kept, .int isKept, .ref a_tape, .int taped, .int spot, .ref a_written, .int writtenMany, .ref a_asked, .int askedMany, .ref a_there, .ref a_counts, .ref a_lasts, .ref a_cames])), (a_g, .inl (E.2.1, 8787, .inl g)), (a_kept, .inl (E.2.1, 8787, .inl kept)), (a_tape, .inl (E.2.2.1, 60, .inl tape)), (a_written, .inl (E.2.1, 40, .inl written)), (a_asked, .inl (E.2.1, 60, .inl asked)), (a_there, .inl (E.2.1, 12, .inl there)), (a_counts, .inl (E.2.1, 12, .inl counts)), (a_lasts, .inl (E.2.1, 12, .inl lasts)), (a_cames, .inl (E.2.1, 12, .inl cames))] H locs := w
  refine lv_isub hx hb dX12_runs_11 ?_
  refine lv_topi (fun x1_3 ev => ?_)
  have hf := lt_n ev hf; clear ev
  refine lv_istore_n (lv' := [(1, .int x1_3), (0, .ref h)]) hx hb dX12_runs_12 rfl hl (by decide) rfl (fun ls hl => ?_)
  refine lv_iconst (v := 0) hx hb dX12_runs_13 (by decide) ?_
  refine lv_istore_n (lv' := [(2, .int 0), (1, .int x1_3), (0, .ref h)]) hx hb dX12_runs_14 rfl hl (by decide) rfl (fun ls hl => ?_)
  refine l_X12_runs_15 B _  ?_ N _ _ _ _ _ _ hf  w (lv_sub hl [2, 1, 0] rfl)
  · intro g H locs ls hf w hl
    cases hf
    exact mx_vret B w ⟨rfl, rfl⟩ dX12_runs_132
-- X12_rule
def po_X12_rule (E : mE) (h : Nat) (a_g : Nat) (a_kept : Nat) (a_tape : Nat) (a_written : Nat) (a_asked : Nat) (a_there : Nat) (a_counts : Nat) (a_lasts : Nat) (a_cames : Nat)  (g : Nat → Int32) (kept : Nat → Int32) (isKept : Int32) (tape : Nat → Int32) (taped : Int32) (spot : Int32) (written : Nat → Int32) (writtenMany : Int32) (asked : Nat → Int32) (askedMany : Int32) (there : Nat → Int32) (counts : Nat → Int32) (lasts : Nat → Int32) (cames : Nat → Int32)  (o : Int32 × (Nat → Int32)) : Option Value → va_W → Prop := (fun (v : Option Value) (w' : va_W) => v = some (.int o.1) ∧ w' = [(h, .inr (11, [.ref a_g, .ref a_kept, .int isKept, .ref a_tape, .int taped, .int spot, .ref a_written, .int writtenMany, .ref a_asked, .int askedMany, .ref a_there, .ref a_counts, .ref a_lasts, .ref a_cames])), (a_g, .inl (E.2.1, 8787, .inl o.2)), (a_kept, .inl (E.2.1, 8787, .inl kept)), (a_tape, .inl (E.2.2.1, 60, .inl tape)), (a_written, .inl (E.2.1, 40, .inl written)), (a_asked, .inl (E.2.1, 60, .inl asked)), (a_there, .inl (E.2.1, 12, .inl there)), (a_counts, .inl (E.2.1, 12, .inl counts)), (a_lasts, .inl (E.2.1, 12, .inl lasts)), (a_cames, .inl (E.2.1, 12, .inl cames))])
noncomputable def F_X12_rule (N : Nat)  (g : Nat → Int32) (x1 : Int32) (x2 : Int32) : Option (Int32 × (Nat → Int32)) :=
  bd (F_X12_isRule x1 x2) (fun o_1 =>
  if (o_1 = 0 : Prop) then
  some ((-1001), g)
  else
  ld g 8787 x1 (fun v_2 =>
  sto g 8787 x1 x2 (fun g_3 =>
  if (x1 = 0 : Prop) then
  bd (F_X12_makesRoom N g_3 0 0) (fun o_7 =>
  some (v_2, o_7))
  else
  if (x1 = 1 : Prop) then
  sto g_3 8787 11 0 (fun g_6 =>
  some (v_2, g_6))
  else
  if (x1 = 4 : Prop) then
  bd (F_X12_runs N g_3) (fun o_5 =>
  some (v_2, o_5))
  else
  if (x1 = 6 : Prop) then
  bd (F_X12_coldRoom N g_3) (fun o_4 =>
  some (v_2, o_4))
  else
  some (v_2, g_3))))
set_option maxHeartbeats 4000000 in
set_option maxRecDepth 100000 in
theorem d_X12_rule (E : mE) (l : Launch) (N : Nat) (h : Nat) (a_g : Nat) (a_kept : Nat) (a_tape : Nat) (a_written : Nat) (a_asked : Nat) (a_there : Nat) (a_counts : Nat) (a_lasts : Nat) (a_cames : Nat)  (g : Nat → Int32) (kept : Nat → Int32) (isKept : Int32) (tape : Nat → Int32) (taped : Int32) (spot : Int32) (written : Nat → Int32) (writtenMany : Int32) (asked : Nat → Int32) (askedMany : Int32) (there : Nat → Int32) (counts : Nat → Int32) (lasts : Nat → Int32) (cames : Nat → Int32)  (x1 : Int32) (x2 : Int32)  (o : Int32 × (Nat → Int32)) (hf : F_X12_rule N g x1 x2 = some o) : MX E l yX12_rule cX12_rule 4 (some .int) ({ frames := 8, cells := 0, slots := 0, locals := 181 } : Room) [.ref h, .int x1, .int x2] [(h, .inr (11, [.ref a_g, .ref a_kept, .int isKept, .ref a_tape, .int taped, .int spot, .ref a_written, .int writtenMany, .ref a_asked, .int askedMany, .ref a_there, .ref a_counts, .ref a_lasts, .ref a_cames])), (a_g, .inl (E.2.1, 8787, .inl g)), (a_kept, .inl (E.2.1, 8787, .inl kept)), (a_tape, .inl (E.2.2.1, 60, .inl tape)), (a_written, .inl (E.2.1, 40, .inl written)), (a_asked, .inl (E.2.1, 60, .inl asked)), (a_there, .inl (E.2.1, 12, .inl there)), (a_counts, .inl (E.2.1, 12, .inl counts)), (a_lasts, .inl (E.2.1, 12, .inl lasts)), (a_cames, .inl (E.2.1, 12, .inl cames))] (po_X12_rule E h a_g a_kept a_tape a_written a_asked a_there a_counts a_lasts a_cames g kept isKept tape taped spot written writtenMany asked askedMany there counts lasts cames o) := by
  refine mx_intro (by decide +kernel) (Nat.le_of_ble_eq_true rfl) ?_
  intro p e s m args below meth c A Q ls B w hl
  obtain ⟨hx, hb, hml, hown, hts⟩ := id B.1
  unfold F_X12_rule at hf
  have hl : lv_has ls 4 [(0, .ref h), (1, .int x1), (2, .int x2)] := hl
  refine lv_iload_n hx hb dX12_rule_0 rfl (lv_at hl 1 rfl) ?_
  refine lv_iload_n hx hb dX12_rule_1 rfl (lv_at hl 2 rfl) ?_
  obtain ⟨o_1, hq, hf⟩ := bd_e hf
  refine mx_callS (As := [.int x1, .int x2]) (rest := []) (wr := [(h, .inr (11, [.ref a_g, .ref a_kept, .int isKept, .ref a_tape, .int taped, .int spot, .ref a_written, .int writtenMany, .ref a_asked, .int askedMany, .ref a_there, .ref a_counts, .ref a_lasts, .ref a_cames])), (a_g, .inl (E.2.1, 8787, .inl g)), (a_kept, .inl (E.2.1, 8787, .inl kept)), (a_tape, .inl (E.2.2.1, 60, .inl tape)), (a_written, .inl (E.2.1, 40, .inl written)), (a_asked, .inl (E.2.1, 60, .inl asked)), (a_there, .inl (E.2.1, 12, .inl there)), (a_counts, .inl (E.2.1, 12, .inl counts)), (a_lasts, .inl (E.2.1, 12, .inl lasts)), (a_cames, .inl (E.2.1, 12, .inl cames))]) (d_X12_isRule E l   x1 x2  o_1 hq) B w [] [0, 1, 2, 3, 4, 5, 6, 7, 8, 9] rfl rfl (by decide) (by decide) (by decide) cs_X12_isRule kw_1314 2 (by decide +kernel) ⟨Nat.le_of_ble_eq_true rfl, Nat.le_of_ble_eq_true rfl⟩ rfl hl.1 rfl (Nat.le_of_ble_eq_true rfl) dX12_rule_2 rfl rfl ⟨Nat.zero_le _, Nat.zero_le _⟩ (fun v w' H locs hpo w => ?_)
  clear hq
  obtain ⟨rfl, rfl⟩ := hpo
  have w : mW E A s [(h, .inr (11, [.ref a_g, .ref a_kept, .int isKept, .ref a_tape, .int taped, .int spot, .ref a_written, .int writtenMany, .ref a_asked, .int askedMany, .ref a_there, .ref a_counts, .ref a_lasts, .ref a_cames])), (a_g, .inl (E.2.1, 8787, .inl g)), (a_kept, .inl (E.2.1, 8787, .inl kept)), (a_tape, .inl (E.2.2.1, 60, .inl tape)), (a_written, .inl (E.2.1, 40, .inl written)), (a_asked, .inl (E.2.1, 60, .inl asked)), (a_there, .inl (E.2.1, 12, .inl there)), (a_counts, .inl (E.2.1, 12, .inl counts)), (a_lasts, .inl (E.2.1, 12, .inl lasts)), (a_cames, .inl (E.2.1, 12, .inl cames))] H locs := w
  refine lv_if_ne (tgt := 12) hx hb dX12_rule_5 (by decide) (fun hc => ?_) (fun hc => ?_)
  · have hf := it_f hc hf
    refine lv_aload_n hx hb dX12_rule_12 rfl (lv_at hl 0 rfl) ?_
    refine mx_get B w 0 fl_X12_9 rfl rfl dX12_rule_13 ?_
    refine lv_iload_n hx hb dX12_rule_16 rfl (lv_at hl 1 rfl) ?_
    obtain ⟨hin, hf⟩ := ld_e hf
    refine mx_iald B w 1 rfl hin dX12_rule_17 (fun v_2 ev => ?_)
    have hf := hf _ ev; clear ev
    refine lv_istore_n (lv' := [(3, .int v_2), (0, .ref h), (1, .int x1), (2, .int x2)]) hx hb dX12_rule_18 rfl hl (by decide) rfl (fun ls hl => ?_)
    refine lv_aload_n hx hb dX12_rule_19 rfl (lv_at hl 1 rfl) ?_
    refine mx_get B w 0 fl_X12_9 rfl rfl dX12_rule_20 ?_
    refine lv_iload_n hx hb dX12_rule_23 rfl (lv_at hl 2 rfl) ?_
    refine lv_iload_n hx hb dX12_rule_24 rfl (lv_at hl 3 rfl) ?_
    obtain ⟨hin, hf⟩ := sto_e hf
    refine mx_iast B w 1 rfl hin dX12_rule_25 (fun g_3 H locs ev w => ?_)
    have hf := hf _ ev; clear ev
    have w : mW E A s [(h, .inr (11, [.ref a_g, .ref a_kept, .int isKept, .ref a_tape, .int taped, .int spot, .ref a_written, .int writtenMany, .ref a_asked, .int askedMany, .ref a_there, .ref a_counts, .ref a_lasts, .ref a_cames])), (a_g, .inl (E.2.1, 8787, .inl g_3)), (a_kept, .inl (E.2.1, 8787, .inl kept)), (a_tape, .inl (E.2.2.1, 60, .inl tape)), (a_written, .inl (E.2.1, 40, .inl written)), (a_asked, .inl (E.2.1, 60, .inl asked)), (a_there, .inl (E.2.1, 12, .inl there)), (a_counts, .inl (E.2.1, 12, .inl counts)), (a_lasts, .inl (E.2.1, 12, .inl lasts)), (a_cames, .inl (E.2.1, 12, .inl cames))] H locs := w
    refine lv_iload_n hx hb dX12_rule_26 rfl (lv_at hl 2 rfl) ?_
    refine lv_if_ne (tgt := 39) hx hb dX12_rule_27 (by decide) (fun hc => ?_) (fun hc => ?_)
    · have hf := it_f hc hf
      refine lv_iload_n hx hb dX12_rule_39 rfl (lv_at hl 2 rfl) ?_
      refine lv_iconst (v := 1) hx hb dX12_rule_40 (by decide) ?_
      refine lv_icmp_ne (tgt := 55) hx hb dX12_rule_41 (by decide) (fun hc => ?_) (fun hc => ?_)
      · have hf := it_f hc hf
        refine lv_iload_n hx hb dX12_rule_55 rfl (lv_at hl 2 rfl) ?_
        refine lv_iconst (v := 4) hx hb dX12_rule_56 (by decide) ?_
        refine lv_icmp_ne (tgt := 67) hx hb dX12_rule_57 (by decide) (fun hc => ?_) (fun hc => ?_)
        · have hf := it_f hc hf
          refine lv_iload_n hx hb dX12_rule_67 rfl (lv_at hl 2 rfl) ?_
          refine lv_bipush (v := 6) hx hb dX12_rule_68 (by decide) ?_
          refine lv_icmp_ne (tgt := 77) hx hb dX12_rule_70 (by decide) (fun hc => ?_) (fun hc => ?_)
          · have hf := it_f hc hf
            refine lv_iload_n hx hb dX12_rule_77 rfl (lv_at hl 0 rfl) ?_
            cases hf
            exact mx_iret B w ⟨rfl, rfl⟩ dX12_rule_78
          · have hf := it_t hc hf
            refine lv_aload_n hx hb dX12_rule_73 rfl (lv_at hl 1 rfl) ?_
            obtain ⟨o_4, hq, hf⟩ := bd_e hf
            refine mx_callV (As := []) (rest := []) (wr := []) (d_X12_coldRoom E l N h a_g a_kept a_tape a_written a_asked a_there a_counts a_lasts a_cames g_3 kept isKept tape taped spot written writtenMany asked askedMany there counts lasts cames   o_4 hq) B w [0, 1, 2, 3, 4, 5, 6, 7, 8, 9] [] rfl rfl (by decide) (by decide) (by decide) 0 rfl rfl cv_X12_coldRoom kw_1353 0 (by decide +kernel) ⟨Nat.le_of_ble_eq_true rfl, Nat.le_of_ble_eq_true rfl⟩ rfl hl.1 rfl (Nat.le_of_ble_eq_true rfl) dX12_rule_74 rfl rfl ⟨Nat.zero_le _, Nat.zero_le _⟩ (fun v w' H locs hpo w => ?_)
            clear hq
            obtain ⟨rfl, rfl⟩ := hpo
            have w : mW E A s [(h, .inr (11, [.ref a_g, .ref a_kept, .int isKept, .ref a_tape, .int taped, .int spot, .ref a_written, .int writtenMany, .ref a_asked, .int askedMany, .ref a_there, .ref a_counts, .ref a_lasts, .ref a_cames])), (a_g, .inl (E.2.1, 8787, .inl o_4)), (a_kept, .inl (E.2.1, 8787, .inl kept)), (a_tape, .inl (E.2.2.1, 60, .inl tape)), (a_written, .inl (E.2.1, 40, .inl written)), (a_asked, .inl (E.2.1, 60, .inl asked)), (a_there, .inl (E.2.1, 12, .inl there)), (a_counts, .inl (E.2.1, 12, .inl counts)), (a_lasts, .inl (E.2.1, 12, .inl lasts)), (a_cames, .inl (E.2.1, 12, .inl cames))] H locs := w
            refine lv_iload_n hx hb dX12_rule_77 rfl (lv_at hl 0 rfl) ?_
            cases hf
            exact mx_iret B w ⟨rfl, rfl⟩ dX12_rule_78
        · have hf := it_t hc hf
          refine lv_aload_n hx hb dX12_rule_60 rfl (lv_at hl 1 rfl) ?_
          obtain ⟨o_5, hq, hf⟩ := bd_e hf
          refine mx_callV (As := []) (rest := []) (wr := []) (d_X12_runs E l N h a_g a_kept a_tape a_written a_asked a_there a_counts a_lasts a_cames g_3 kept isKept tape taped spot written writtenMany asked askedMany there counts lasts cames   o_5 hq) B w [0, 1, 2, 3, 4, 5, 6, 7, 8, 9] [] rfl rfl (by decide) (by decide) (by decide) 0 rfl rfl cv_X12_runs kw_1377 0 (by decide +kernel) ⟨Nat.le_of_ble_eq_true rfl, Nat.le_of_ble_eq_true rfl⟩ rfl hl.1 rfl (Nat.le_of_ble_eq_true rfl) dX12_rule_61 rfl rfl ⟨Nat.zero_le _, Nat.zero_le _⟩ (fun v w' H locs hpo w => ?_)
          clear hq
          obtain ⟨rfl, rfl⟩ := hpo
          have w : mW E A s [(h, .inr (11, [.ref a_g, .ref a_kept, .int isKept, .ref a_tape, .int taped, .int spot, .ref a_written, .int writtenMany, .ref a_asked, .int askedMany, .ref a_there, .ref a_counts, .ref a_lasts, .ref a_cames])), (a_g, .inl (E.2.1, 8787, .inl o_5)), (a_kept, .inl (E.2.1, 8787, .inl kept)), (a_tape, .inl (E.2.2.1, 60, .inl tape)), (a_written, .inl (E.2.1, 40, .inl written)), (a_asked, .inl (E.2.1, 60, .inl asked)), (a_there, .inl (E.2.1, 12, .inl there)), (a_counts, .inl (E.2.1, 12, .inl counts)), (a_lasts, .inl (E.2.1, 12, .inl lasts)), (a_cames, .inl (E.2.1, 12, .inl cames))] H locs := w
          refine lv_goto (tgt := 77) hx hb dX12_rule_64 (by decide) ?_
          refine lv_iload_n hx hb dX12_rule_77 rfl (lv_at hl 0 rfl) ?_
          cases hf
          exact mx_iret B w ⟨rfl, rfl⟩ dX12_rule_78
      · have hf := it_t hc hf
        refine lv_aload_n hx hb dX12_rule_44 rfl (lv_at hl 1 rfl) ?_
        refine mx_get B w 0 fl_X12_9 rfl rfl dX12_rule_45 ?_
        refine lv_bipush (v := 11) hx hb dX12_rule_48 (by decide) ?_
        refine lv_iconst (v := 0) hx hb dX12_rule_50 (by decide) ?_
        obtain ⟨hin, hf⟩ := sto_e hf
        refine mx_iast B w 1 rfl hin dX12_rule_51 (fun g_6 H locs ev w => ?_)
        have hf := hf _ ev; clear ev
        have w : mW E A s [(h, .inr (11, [.ref a_g, .ref a_kept, .int isKept, .ref a_tape, .int taped, .int spot, .ref a_written, .int writtenMany, .ref a_asked, .int askedMany, .ref a_there, .ref a_counts, .ref a_lasts, .ref a_cames])), (a_g, .inl (E.2.1, 8787, .inl g_6)), (a_kept, .inl (E.2.1, 8787, .inl kept)), (a_tape, .inl (E.2.2.1, 60, .inl tape)), (a_written, .inl (E.2.1, 40, .inl written)), (a_asked, .inl (E.2.1, 60, .inl asked)), (a_there, .inl (E.2.1, 12, .inl there)), (a_counts, .inl (E.2.1, 12, .inl counts)), (a_lasts, .inl (E.2.1, 12, .inl lasts)), (a_cames, .inl (E.2.1, 12, .inl cames))] H locs := w
        refine lv_goto (tgt := 77) hx hb dX12_rule_52 (by decide) ?_
        refine lv_iload_n hx hb dX12_rule_77 rfl (lv_at hl 0 rfl) ?_
        cases hf
        exact mx_iret B w ⟨rfl, rfl⟩ dX12_rule_78
    · have hf := it_t hc hf
      refine lv_aload_n hx hb dX12_rule_30 rfl (lv_at hl 1 rfl) ?_
      refine lv_iconst (v := 0) hx hb dX12_rule_31 (by decide) ?_
      refine lv_iconst (v := 0) hx hb dX12_rule_32 (by decide) ?_
      obtain ⟨o_7, hq, hf⟩ := bd_e hf
      refine mx_callV (As := [.int 0, .int 0]) (rest := []) (wr := []) (d_X12_makesRoom E l N h a_g a_kept a_tape a_written a_asked a_there a_counts a_lasts a_cames g_3 kept isKept tape taped spot written writtenMany asked askedMany there counts lasts cames 0 0  o_7 hq) B w [0, 1, 2, 3, 4, 5, 6, 7, 8, 9] [] rfl rfl (by decide) (by decide) (by decide) 0 rfl rfl cv_X12_makesRoom kw_1317 2 (by decide +kernel) ⟨Nat.le_of_ble_eq_true rfl, Nat.le_of_ble_eq_true rfl⟩ rfl hl.1 rfl (Nat.le_of_ble_eq_true rfl) dX12_rule_33 rfl rfl ⟨Nat.zero_le _, Nat.zero_le _⟩ (fun v w' H locs hpo w => ?_)
      clear hq
      obtain ⟨rfl, rfl⟩ := hpo
      have w : mW E A s [(h, .inr (11, [.ref a_g, .ref a_kept, .int isKept, .ref a_tape, .int taped, .int spot, .ref a_written, .int writtenMany, .ref a_asked, .int askedMany, .ref a_there, .ref a_counts, .ref a_lasts, .ref a_cames])), (a_g, .inl (E.2.1, 8787, .inl o_7)), (a_kept, .inl (E.2.1, 8787, .inl kept)), (a_tape, .inl (E.2.2.1, 60, .inl tape)), (a_written, .inl (E.2.1, 40, .inl written)), (a_asked, .inl (E.2.1, 60, .inl asked)), (a_there, .inl (E.2.1, 12, .inl there)), (a_counts, .inl (E.2.1, 12, .inl counts)), (a_lasts, .inl (E.2.1, 12, .inl lasts)), (a_cames, .inl (E.2.1, 12, .inl cames))] H locs := w
      refine lv_goto (tgt := 77) hx hb dX12_rule_36 (by decide) ?_
      refine lv_iload_n hx hb dX12_rule_77 rfl (lv_at hl 0 rfl) ?_
      cases hf
      exact mx_iret B w ⟨rfl, rfl⟩ dX12_rule_78
  · have hf := it_t hc hf
    refine lv_sipush (v := (-1001)) hx hb dX12_rule_8 (by decide) ?_
    cases hf
    exact mx_iret B w ⟨rfl, rfl⟩ dX12_rule_11
-- X12_delivers
def po_X12_delivers (E : mE) (h : Nat) (a_g : Nat) (a_kept : Nat) (a_tape : Nat) (a_written : Nat) (a_asked : Nat) (a_there : Nat) (a_counts : Nat) (a_lasts : Nat) (a_cames : Nat)  (g : Nat → Int32) (kept : Nat → Int32) (isKept : Int32) (tape : Nat → Int32) (taped : Int32) (spot : Int32) (written : Nat → Int32) (writtenMany : Int32) (asked : Nat → Int32) (askedMany : Int32) (there : Nat → Int32) (counts : Nat → Int32) (lasts : Nat → Int32) (cames : Nat → Int32)  (o : Int32 × (Nat → Int32)) : Option Value → va_W → Prop := (fun (v : Option Value) (w' : va_W) => v = some (.int o.1) ∧ w' = [(h, .inr (11, [.ref a_g, .ref a_kept, .int isKept, .ref a_tape, .int taped, .int spot, .ref a_written, .int writtenMany, .ref a_asked, .int askedMany, .ref a_there, .ref a_counts, .ref a_lasts, .ref a_cames])), (a_g, .inl (E.2.1, 8787, .inl o.2)), (a_kept, .inl (E.2.1, 8787, .inl kept)), (a_tape, .inl (E.2.2.1, 60, .inl tape)), (a_written, .inl (E.2.1, 40, .inl written)), (a_asked, .inl (E.2.1, 60, .inl asked)), (a_there, .inl (E.2.1, 12, .inl there)), (a_counts, .inl (E.2.1, 12, .inl counts)), (a_lasts, .inl (E.2.1, 12, .inl lasts)), (a_cames, .inl (E.2.1, 12, .inl cames))])
noncomputable def J_X12_delivers_56 (N : Nat)  (rec : Int32 → (Nat → Int32) → (Option (Int32 × (Nat → Int32)))) (k141 : (Nat → Int32) → (Option (Int32 × (Nat → Int32)))) (t1 : Int32) (t2 : Int32) (t3 : Int32) (x1 : Int32) (x2 : Int32) (x3 : Int32) (x4 : Int32) (x5 : Int32) (g : Nat → Int32) : Option (Int32 × (Nat → Int32)) :=
  sto g 8787 t1 (t2 + t3) (fun g_5 =>
  bd (F_X12_slot N g_5 (8003 + x5) (8019 + (24 * x5)) 2 12) (fun o_6 =>
  bd (F_X12_loadAt o_6.2 x1 0) (fun o_7 =>
  sto o_6.2 8787 o_6.1 o_7 (fun g_8 =>
  sto g_8 8787 (o_6.1 + 1) x2 (fun g_9 =>
  ld g_9 8787 28 (fun v_10 =>
  sto g_9 8787 28 (v_10 + 1) (fun g_11 =>
  ld g_11 8787 ((8403 + (4 * x5)) + 2) (fun v_12 =>
  sto g_11 8787 ((8403 + (4 * x5)) + 2) (v_12 + 1) (fun g_13 =>
  lt (x4 + 1) (fun x4_14 =>
  rec x4_14 g_13))))))))))
set_option maxHeartbeats 4000000 in
set_option maxRecDepth 100000 in
theorem j_X12_delivers_56 {E : mE} {l : Launch} {p : Program} {e : Env} {s : State} {m : MethodId} {args : Array Value} {below : List Frame} {meth : Method} {c : Code} {A : Nat → Prop} {Q : State → Prop} {N : Nat} {h : Nat} {a_g : Nat} {a_kept : Nat} {a_tape : Nat} {a_written : Nat} {a_asked : Nat} {a_there : Nat} {a_counts : Nat} {a_lasts : Nat} {a_cames : Nat}  {g0 : Nat → Int32} {kept : Nat → Int32} {isKept : Int32} {tape : Nat → Int32} {taped : Int32} {spot : Int32} {written : Nat → Int32} {writtenMany : Int32} {asked : Nat → Int32} {askedMany : Int32} {there : Nat → Int32} {counts : Nat → Int32} {lasts : Nat → Int32} {cames : Nat → Int32}  {o : Int32 × (Nat → Int32)} (B : mB E yX12_delivers cX12_delivers 7 (some .int) 0 0 (po_X12_delivers E h a_g a_kept a_tape a_written a_asked a_there a_counts a_lasts a_cames g0 kept isKept tape taped spot written writtenMany asked askedMany there counts lasts cames o) p s m args below meth c A Q) {t1 : Int32} {t2 : Int32} {t3 : Int32} {x1 : Int32} {x2 : Int32} {x3 : Int32} {x4 : Int32} {x5 : Int32} {g : Nat → Int32}  (rec : Int32 → (Nat → Int32) → (Option (Int32 × (Nat → Int32)))) (k141 : (Nat → Int32) → (Option (Int32 × (Nat → Int32)))) (hrec : ∀ (x4 : Int32) (g : Nat → Int32)  (H : Heap) (locs : List Loc) (ls : Array Slot), rec x4 g = some o → mW E A s [(h, .inr (11, [.ref a_g, .ref a_kept, .int isKept, .ref a_tape, .int taped, .int spot, .ref a_written, .int writtenMany, .ref a_asked, .int askedMany, .ref a_there, .ref a_counts, .ref a_lasts, .ref a_cames])), (a_g, .inl (E.2.1, 8787, .inl g)), (a_kept, .inl (E.2.1, 8787, .inl kept)), (a_tape, .inl (E.2.2.1, 60, .inl tape)), (a_written, .inl (E.2.1, 40, .inl written)), (a_asked, .inl (E.2.1, 60, .inl asked)), (a_there, .inl (E.2.1, 12, .inl there)), (a_counts, .inl (E.2.1, 12, .inl counts)), (a_lasts, .inl (E.2.1, 12, .inl lasts)), (a_cames, .inl (E.2.1, 12, .inl cames))] H locs → lv_has ls 7 [(0, .ref h), (1, .int x1), (2, .int x2), (3, .int x3), (4, .int x4)] → W p l e ({ frames := 1, cells := 0, slots := 0, locals := 25 } : Room) s m args below meth c H locs 0 0 Q (F0 m 10 ls [])) (hk141 : ∀  (g : Nat → Int32)  (H : Heap) (locs : List Loc) (ls : Array Slot), k141 g = some o → mW E A s [(h, .inr (11, [.ref a_g, .ref a_kept, .int isKept, .ref a_tape, .int taped, .int spot, .ref a_written, .int writtenMany, .ref a_asked, .int askedMany, .ref a_there, .ref a_counts, .ref a_lasts, .ref a_cames])), (a_g, .inl (E.2.1, 8787, .inl g)), (a_kept, .inl (E.2.1, 8787, .inl kept)), (a_tape, .inl (E.2.2.1, 60, .inl tape)), (a_written, .inl (E.2.1, 40, .inl written)), (a_asked, .inl (E.2.1, 60, .inl asked)), (a_there, .inl (E.2.1, 12, .inl there)), (a_counts, .inl (E.2.1, 12, .inl counts)), (a_lasts, .inl (E.2.1, 12, .inl lasts)), (a_cames, .inl (E.2.1, 12, .inl cames))] H locs → lv_has ls 7 [(0, .ref h), (1, .int x1), (3, .int x3)] → W p l e ({ frames := 1, cells := 0, slots := 0, locals := 25 } : Room) s m args below meth c H locs 0 0 Q (F0 m 141 ls [])) {H : Heap} {locs : List Loc} {ls : Array Slot} (hf : J_X12_delivers_56 N rec k141 t1 t2 t3 x1 x2 x3 x4 x5 g = some o)  (w : mW E A s [(h, .inr (11, [.ref a_g, .ref a_kept, .int isKept, .ref a_tape, .int taped, .int spot, .ref a_written, .int writtenMany, .ref a_asked, .int askedMany, .ref a_there, .ref a_counts, .ref a_lasts, .ref a_cames])), (a_g, .inl (E.2.1, 8787, .inl g)), (a_kept, .inl (E.2.1, 8787, .inl kept)), (a_tape, .inl (E.2.2.1, 60, .inl tape)), (a_written, .inl (E.2.1, 40, .inl written)), (a_asked, .inl (E.2.1, 60, .inl asked)), (a_there, .inl (E.2.1, 12, .inl there)), (a_counts, .inl (E.2.1, 12, .inl counts)), (a_lasts, .inl (E.2.1, 12, .inl lasts)), (a_cames, .inl (E.2.1, 12, .inl cames))] H locs) (hl : lv_has ls 7 [(0, .ref h), (1, .int x1), (2, .int x2), (3, .int x3), (4, .int x4), (5, .int x5)]) : W p l e ({ frames := 1, cells := 0, slots := 0, locals := 25 } : Room) s m args below meth c H locs 0 0 Q (F0 m 56 ls [.int t3, .int t2, .int t1, .ref a_g]) := by
  obtain ⟨hx, hb, hml, hown, hts⟩ := id B.1
  unfold J_X12_delivers_56 at hf
  refine lv_iadd hx hb dX12_delivers_56 ?_
  obtain ⟨hin, hf⟩ := sto_e hf
  refine mx_iast B w 1 rfl hin dX12_delivers_57 (fun g_5 H locs ev w => ?_)
  have hf := hf _ ev; clear ev
  have w : mW E A s [(h, .inr (11, [.ref a_g, .ref a_kept, .int isKept, .ref a_tape, .int taped, .int spot, .ref a_written, .int writtenMany, .ref a_asked, .int askedMany, .ref a_there, .ref a_counts, .ref a_lasts, .ref a_cames])), (a_g, .inl (E.2.1, 8787, .inl g_5)), (a_kept, .inl (E.2.1, 8787, .inl kept)), (a_tape, .inl (E.2.2.1, 60, .inl tape)), (a_written, .inl (E.2.1, 40, .inl written)), (a_asked, .inl (E.2.1, 60, .inl asked)), (a_there, .inl (E.2.1, 12, .inl there)), (a_counts, .inl (E.2.1, 12, .inl counts)), (a_lasts, .inl (E.2.1, 12, .inl lasts)), (a_cames, .inl (E.2.1, 12, .inl cames))] H locs := w
  refine lv_aload_n hx hb dX12_delivers_58 rfl (lv_at hl 0 rfl) ?_
  refine lv_sipush (v := 8003) hx hb dX12_delivers_59 (by decide) ?_
  refine lv_iload hx hb dX12_delivers_62 (lv_at hl 5 rfl) ?_
  refine lv_iadd hx hb dX12_delivers_64 ?_
  refine lv_sipush (v := 8019) hx hb dX12_delivers_65 (by decide) ?_
  refine lv_bipush (v := 24) hx hb dX12_delivers_68 (by decide) ?_
  refine lv_iload hx hb dX12_delivers_70 (lv_at hl 5 rfl) ?_
  refine lv_imul hx hb dX12_delivers_72 ?_
  refine lv_iadd hx hb dX12_delivers_73 ?_
  refine lv_iconst (v := 2) hx hb dX12_delivers_74 (by decide) ?_
  refine lv_bipush (v := 12) hx hb dX12_delivers_75 (by decide) ?_
  obtain ⟨o_6, hq, hf⟩ := bd_e hf
  refine mx_callV (As := [.int (8003 + x5), .int (8019 + (24 * x5)), .int 2, .int 12]) (rest := []) (wr := []) (d_X12_slot E l N h a_g a_kept a_tape a_written a_asked a_there a_counts a_lasts a_cames g_5 kept isKept tape taped spot written writtenMany asked askedMany there counts lasts cames (8003 + x5) (8019 + (24 * x5)) 2 12  o_6 hq) B w [0, 1, 2, 3, 4, 5, 6, 7, 8, 9] [] rfl rfl (by decide) (by decide) (by decide) 0 rfl rfl cv_X12_slot kw_1369 4 (by decide +kernel) ⟨Nat.le_of_ble_eq_true rfl, Nat.le_of_ble_eq_true rfl⟩ rfl hl.1 rfl (Nat.le_of_ble_eq_true rfl) dX12_delivers_77 rfl rfl ⟨Nat.zero_le _, Nat.zero_le _⟩ (fun v w' H locs hpo w => ?_)
  clear hq
  obtain ⟨rfl, rfl⟩ := hpo
  have w : mW E A s [(h, .inr (11, [.ref a_g, .ref a_kept, .int isKept, .ref a_tape, .int taped, .int spot, .ref a_written, .int writtenMany, .ref a_asked, .int askedMany, .ref a_there, .ref a_counts, .ref a_lasts, .ref a_cames])), (a_g, .inl (E.2.1, 8787, .inl o_6.2)), (a_kept, .inl (E.2.1, 8787, .inl kept)), (a_tape, .inl (E.2.2.1, 60, .inl tape)), (a_written, .inl (E.2.1, 40, .inl written)), (a_asked, .inl (E.2.1, 60, .inl asked)), (a_there, .inl (E.2.1, 12, .inl there)), (a_counts, .inl (E.2.1, 12, .inl counts)), (a_lasts, .inl (E.2.1, 12, .inl lasts)), (a_cames, .inl (E.2.1, 12, .inl cames))] H locs := w
  refine lv_istore (lv' := [(6, .int o_6.1), (0, .ref h), (1, .int x1), (2, .int x2), (3, .int x3), (4, .int x4), (5, .int x5)]) hx hb dX12_delivers_80 hl (by decide) rfl (fun ls hl => ?_)
  refine lv_aload_n hx hb dX12_delivers_82 rfl (lv_at hl 1 rfl) ?_
  refine mx_get B w 0 fl_X12_9 rfl rfl dX12_delivers_83 ?_
  refine lv_iload hx hb dX12_delivers_86 (lv_at hl 0 rfl) ?_
  refine lv_aload_n hx hb dX12_delivers_88 rfl (lv_at hl 1 rfl) ?_
  refine lv_iload_n hx hb dX12_delivers_89 rfl (lv_at hl 2 rfl) ?_
  refine lv_iconst (v := 0) hx hb dX12_delivers_90 (by decide) ?_
  obtain ⟨o_7, hq, hf⟩ := bd_e hf
  refine mx_callV (As := [.int x1, .int 0]) (rest := [.int o_6.1, .ref a_g]) (wr := []) (d_X12_loadAt E l  h a_g a_kept a_tape a_written a_asked a_there a_counts a_lasts a_cames o_6.2 kept isKept tape taped spot written writtenMany asked askedMany there counts lasts cames x1 0  o_7 hq) B w [0, 1, 2, 3, 4, 5, 6, 7, 8, 9] [] rfl rfl (by decide) (by decide) (by decide) 0 rfl rfl cv_X12_loadAt kw_1385 2 (by decide +kernel) ⟨Nat.le_of_ble_eq_true rfl, Nat.le_of_ble_eq_true rfl⟩ rfl hl.1 rfl (Nat.le_of_ble_eq_true rfl) dX12_delivers_91 rfl rfl ⟨Nat.zero_le _, Nat.zero_le _⟩ (fun v w' H locs hpo w => ?_)
  clear hq
  obtain ⟨rfl, rfl⟩ := hpo
  have w : mW E A s [(h, .inr (11, [.ref a_g, .ref a_kept, .int isKept, .ref a_tape, .int taped, .int spot, .ref a_written, .int writtenMany, .ref a_asked, .int askedMany, .ref a_there, .ref a_counts, .ref a_lasts, .ref a_cames])), (a_g, .inl (E.2.1, 8787, .inl o_6.2)), (a_kept, .inl (E.2.1, 8787, .inl kept)), (a_tape, .inl (E.2.2.1, 60, .inl tape)), (a_written, .inl (E.2.1, 40, .inl written)), (a_asked, .inl (E.2.1, 60, .inl asked)), (a_there, .inl (E.2.1, 12, .inl there)), (a_counts, .inl (E.2.1, 12, .inl counts)), (a_lasts, .inl (E.2.1, 12, .inl lasts)), (a_cames, .inl (E.2.1, 12, .inl cames))] H locs := w
  obtain ⟨hin, hf⟩ := sto_e hf
  refine mx_iast B w 1 rfl hin dX12_delivers_94 (fun g_8 H locs ev w => ?_)
  have hf := hf _ ev; clear ev
  have w : mW E A s [(h, .inr (11, [.ref a_g, .ref a_kept, .int isKept, .ref a_tape, .int taped, .int spot, .ref a_written, .int writtenMany, .ref a_asked, .int askedMany, .ref a_there, .ref a_counts, .ref a_lasts, .ref a_cames])), (a_g, .inl (E.2.1, 8787, .inl g_8)), (a_kept, .inl (E.2.1, 8787, .inl kept)), (a_tape, .inl (E.2.2.1, 60, .inl tape)), (a_written, .inl (E.2.1, 40, .inl written)), (a_asked, .inl (E.2.1, 60, .inl asked)), (a_there, .inl (E.2.1, 12, .inl there)), (a_counts, .inl (E.2.1, 12, .inl counts)), (a_lasts, .inl (E.2.1, 12, .inl lasts)), (a_cames, .inl (E.2.1, 12, .inl cames))] H locs := w
  refine lv_aload_n hx hb dX12_delivers_95 rfl (lv_at hl 1 rfl) ?_
  refine mx_get B w 0 fl_X12_9 rfl rfl dX12_delivers_96 ?_
  refine lv_iload hx hb dX12_delivers_99 (lv_at hl 0 rfl) ?_
  refine lv_iconst (v := 1) hx hb dX12_delivers_101 (by decide) ?_
  refine lv_iadd hx hb dX12_delivers_102 ?_
  refine lv_iload_n hx hb dX12_delivers_103 rfl (lv_at hl 3 rfl) ?_
  obtain ⟨hin, hf⟩ := sto_e hf
  refine mx_iast B w 1 rfl hin dX12_delivers_104 (fun g_9 H locs ev w => ?_)
  have hf := hf _ ev; clear ev
  have w : mW E A s [(h, .inr (11, [.ref a_g, .ref a_kept, .int isKept, .ref a_tape, .int taped, .int spot, .ref a_written, .int writtenMany, .ref a_asked, .int askedMany, .ref a_there, .ref a_counts, .ref a_lasts, .ref a_cames])), (a_g, .inl (E.2.1, 8787, .inl g_9)), (a_kept, .inl (E.2.1, 8787, .inl kept)), (a_tape, .inl (E.2.2.1, 60, .inl tape)), (a_written, .inl (E.2.1, 40, .inl written)), (a_asked, .inl (E.2.1, 60, .inl asked)), (a_there, .inl (E.2.1, 12, .inl there)), (a_counts, .inl (E.2.1, 12, .inl counts)), (a_lasts, .inl (E.2.1, 12, .inl lasts)), (a_cames, .inl (E.2.1, 12, .inl cames))] H locs := w
  refine lv_aload_n hx hb dX12_delivers_105 rfl (lv_at hl 1 rfl) ?_
  refine mx_get B w 0 fl_X12_9 rfl rfl dX12_delivers_106 ?_
  refine lv_bipush (v := 28) hx hb dX12_delivers_109 (by decide) ?_
  refine lv_dup2_11 hx hb dX12_delivers_111 rfl rfl ?_
  obtain ⟨hin, hf⟩ := ld_e hf
  refine mx_iald B w 1 rfl hin dX12_delivers_112 (fun v_10 ev => ?_)
  have hf := hf _ ev; clear ev
  refine lv_iconst (v := 1) hx hb dX12_delivers_113 (by decide) ?_
  refine lv_iadd hx hb dX12_delivers_114 ?_
  obtain ⟨hin, hf⟩ := sto_e hf
  refine mx_iast B w 1 rfl hin dX12_delivers_115 (fun g_11 H locs ev w => ?_)
  have hf := hf _ ev; clear ev
  have w : mW E A s [(h, .inr (11, [.ref a_g, .ref a_kept, .int isKept, .ref a_tape, .int taped, .int spot, .ref a_written, .int writtenMany, .ref a_asked, .int askedMany, .ref a_there, .ref a_counts, .ref a_lasts, .ref a_cames])), (a_g, .inl (E.2.1, 8787, .inl g_11)), (a_kept, .inl (E.2.1, 8787, .inl kept)), (a_tape, .inl (E.2.2.1, 60, .inl tape)), (a_written, .inl (E.2.1, 40, .inl written)), (a_asked, .inl (E.2.1, 60, .inl asked)), (a_there, .inl (E.2.1, 12, .inl there)), (a_counts, .inl (E.2.1, 12, .inl counts)), (a_lasts, .inl (E.2.1, 12, .inl lasts)), (a_cames, .inl (E.2.1, 12, .inl cames))] H locs := w
  refine lv_aload_n hx hb dX12_delivers_116 rfl (lv_at hl 1 rfl) ?_
  refine mx_get B w 0 fl_X12_9 rfl rfl dX12_delivers_117 ?_
  refine lv_sipush (v := 8403) hx hb dX12_delivers_120 (by decide) ?_
  refine lv_iconst (v := 4) hx hb dX12_delivers_123 (by decide) ?_
  refine lv_iload hx hb dX12_delivers_124 (lv_at hl 6 rfl) ?_
  refine lv_imul hx hb dX12_delivers_126 ?_
  refine lv_iadd hx hb dX12_delivers_127 ?_
  refine lv_iconst (v := 2) hx hb dX12_delivers_128 (by decide) ?_
  refine lv_iadd hx hb dX12_delivers_129 ?_
  refine lv_dup2_11 hx hb dX12_delivers_130 rfl rfl ?_
  obtain ⟨hin, hf⟩ := ld_e hf
  refine mx_iald B w 1 rfl hin dX12_delivers_131 (fun v_12 ev => ?_)
  have hf := hf _ ev; clear ev
  refine lv_iconst (v := 1) hx hb dX12_delivers_132 (by decide) ?_
  refine lv_iadd hx hb dX12_delivers_133 ?_
  obtain ⟨hin, hf⟩ := sto_e hf
  refine mx_iast B w 1 rfl hin dX12_delivers_134 (fun g_13 H locs ev w => ?_)
  have hf := hf _ ev; clear ev
  have w : mW E A s [(h, .inr (11, [.ref a_g, .ref a_kept, .int isKept, .ref a_tape, .int taped, .int spot, .ref a_written, .int writtenMany, .ref a_asked, .int askedMany, .ref a_there, .ref a_counts, .ref a_lasts, .ref a_cames])), (a_g, .inl (E.2.1, 8787, .inl g_13)), (a_kept, .inl (E.2.1, 8787, .inl kept)), (a_tape, .inl (E.2.2.1, 60, .inl tape)), (a_written, .inl (E.2.1, 40, .inl written)), (a_asked, .inl (E.2.1, 60, .inl asked)), (a_there, .inl (E.2.1, 12, .inl there)), (a_counts, .inl (E.2.1, 12, .inl counts)), (a_lasts, .inl (E.2.1, 12, .inl lasts)), (a_cames, .inl (E.2.1, 12, .inl cames))] H locs := w
  obtain ⟨x4_14, ev⟩ : ∃ y : Int32, y = x4 + 1 := ⟨_, rfl⟩
  refine lv_iinc (v := x4_14) (lv' := [(4, .int x4_14), (6, .int o_6.1), (0, .ref h), (1, .int x1), (2, .int x2), (3, .int x3), (5, .int x5)]) hx hb dX12_delivers_135 hl (k := 5) rfl (by rw [ev]; rfl) (by decide) rfl (fun ls hl => ?_)
  have hf := lt_n ev hf; clear ev
  refine lv_goto (tgt := 10) hx hb dX12_delivers_138 (by decide) ?_
  exact hrec _ _ _ _ _ hf  w (lv_sub hl [2, 3, 4, 5, 0] rfl)
noncomputable def K_X12_delivers_10 (N : Nat)  (rec : Int32 → (Nat → Int32) → (Option (Int32 × (Nat → Int32)))) (k141 : (Nat → Int32) → (Option (Int32 × (Nat → Int32)))) (x1 : Int32) (x2 : Int32) (x3 : Int32)  (x4 : Int32) (g : Nat → Int32) : Option (Int32 × (Nat → Int32)) :=
  if (x3 ≤ x4 : Prop) then
  k141 g
  else
  bd (F_X12_loadAt g x1 (4 + x4)) (fun o_2 =>
  ld g 8787 29 (fun v_3 =>
  ld g 8787 (8003 + o_2) (fun v_4 =>
  if (v_4 = 12 : Prop) then
  J_X12_delivers_56 N rec k141 29 v_3 1 x1 x2 x3 x4 o_2 g
  else
  J_X12_delivers_56 N rec k141 29 v_3 0 x1 x2 x3 x4 o_2 g)))
noncomputable def L_X12_delivers_10 (N : Nat)  (k141 : (Nat → Int32) → (Option (Int32 × (Nat → Int32)))) (x1 : Int32) (x2 : Int32) (x3 : Int32)  (n : Nat) : Int32 → (Nat → Int32) → (Option (Int32 × (Nat → Int32))) :=
  Nat.rec (motive := fun _ => Int32 → (Nat → Int32) → (Option (Int32 × (Nat → Int32)))) (fun _ _ => none) (fun _ rec => K_X12_delivers_10 N rec k141 x1 x2 x3) n
set_option maxHeartbeats 4000000 in
set_option maxRecDepth 100000 in
theorem l_X12_delivers_10 {E : mE} {l : Launch} {p : Program} {e : Env} {s : State} {m : MethodId} {args : Array Value} {below : List Frame} {meth : Method} {c : Code} {A : Nat → Prop} {Q : State → Prop} {N : Nat} {h : Nat} {a_g : Nat} {a_kept : Nat} {a_tape : Nat} {a_written : Nat} {a_asked : Nat} {a_there : Nat} {a_counts : Nat} {a_lasts : Nat} {a_cames : Nat}  {g0 : Nat → Int32} {kept : Nat → Int32} {isKept : Int32} {tape : Nat → Int32} {taped : Int32} {spot : Int32} {written : Nat → Int32} {writtenMany : Int32} {asked : Nat → Int32} {askedMany : Int32} {there : Nat → Int32} {counts : Nat → Int32} {lasts : Nat → Int32} {cames : Nat → Int32}  {o : Int32 × (Nat → Int32)} (B : mB E yX12_delivers cX12_delivers 7 (some .int) 0 0 (po_X12_delivers E h a_g a_kept a_tape a_written a_asked a_there a_counts a_lasts a_cames g0 kept isKept tape taped spot written writtenMany asked askedMany there counts lasts cames o) p s m args below meth c A Q)   {x1 : Int32} {x2 : Int32} {x3 : Int32} (k141 : (Nat → Int32) → (Option (Int32 × (Nat → Int32))))  (hk141 : ∀  (g : Nat → Int32)  (H : Heap) (locs : List Loc) (ls : Array Slot), k141 g = some o → mW E A s [(h, .inr (11, [.ref a_g, .ref a_kept, .int isKept, .ref a_tape, .int taped, .int spot, .ref a_written, .int writtenMany, .ref a_asked, .int askedMany, .ref a_there, .ref a_counts, .ref a_lasts, .ref a_cames])), (a_g, .inl (E.2.1, 8787, .inl g)), (a_kept, .inl (E.2.1, 8787, .inl kept)), (a_tape, .inl (E.2.2.1, 60, .inl tape)), (a_written, .inl (E.2.1, 40, .inl written)), (a_asked, .inl (E.2.1, 60, .inl asked)), (a_there, .inl (E.2.1, 12, .inl there)), (a_counts, .inl (E.2.1, 12, .inl counts)), (a_lasts, .inl (E.2.1, 12, .inl lasts)), (a_cames, .inl (E.2.1, 12, .inl cames))] H locs → lv_has ls 7 [(0, .ref h), (1, .int x1), (3, .int x3)] → W p l e ({ frames := 1, cells := 0, slots := 0, locals := 25 } : Room) s m args below meth c H locs 0 0 Q (F0 m 141 ls [])) : ∀ n : Nat, ∀ (x4 : Int32) (g : Nat → Int32)  (H : Heap) (locs : List Loc) (ls : Array Slot), L_X12_delivers_10 N k141 x1 x2 x3 n x4 g = some o → mW E A s [(h, .inr (11, [.ref a_g, .ref a_kept, .int isKept, .ref a_tape, .int taped, .int spot, .ref a_written, .int writtenMany, .ref a_asked, .int askedMany, .ref a_there, .ref a_counts, .ref a_lasts, .ref a_cames])), (a_g, .inl (E.2.1, 8787, .inl g)), (a_kept, .inl (E.2.1, 8787, .inl kept)), (a_tape, .inl (E.2.2.1, 60, .inl tape)), (a_written, .inl (E.2.1, 40, .inl written)), (a_asked, .inl (E.2.1, 60, .inl asked)), (a_there, .inl (E.2.1, 12, .inl there)), (a_counts, .inl (E.2.1, 12, .inl counts)), (a_lasts, .inl (E.2.1, 12, .inl lasts)), (a_cames, .inl (E.2.1, 12, .inl cames))] H locs → lv_has ls 7 [(0, .ref h), (1, .int x1), (2, .int x2), (3, .int x3), (4, .int x4)] → W p l e ({ frames := 1, cells := 0, slots := 0, locals := 25 } : Room) s m args below meth c H locs 0 0 Q (F0 m 10 ls []) := by
  obtain ⟨hx, hb, hml, hown, hts⟩ := id B.1
  intro n
  induction n with
  | zero =>
    intro x4 g H locs ls hf w hl
    exact nomatch hf
  | succ n hrec =>
    intro x4 g H locs ls hf w hl
    have hf : K_X12_delivers_10 N (L_X12_delivers_10 N k141 x1 x2 x3 n) k141 x1 x2 x3 x4 g = some o := hf
    unfold K_X12_delivers_10 at hf
    refine lv_iload hx hb dX12_delivers_10 (lv_at hl 4 rfl) ?_
    refine lv_iload_n hx hb dX12_delivers_12 rfl (lv_at hl 3 rfl) ?_
    refine lv_icmp_ge (tgt := 141) hx hb dX12_delivers_13 (by decide) (fun hc => ?_) (fun hc => ?_)
    · have hf := it_t hc hf
      exact hk141 _ _ _ _ hf  w (lv_sub hl [0, 1, 3] rfl)
    · have hf := it_f hc hf
      refine lv_aload_n hx hb dX12_delivers_16 rfl (lv_at hl 0 rfl) ?_
      refine lv_iload_n hx hb dX12_delivers_17 rfl (lv_at hl 1 rfl) ?_
      refine lv_iconst (v := 4) hx hb dX12_delivers_18 (by decide) ?_
      refine lv_iload hx hb dX12_delivers_19 (lv_at hl 4 rfl) ?_
      refine lv_iadd hx hb dX12_delivers_21 ?_
      obtain ⟨o_2, hq, hf⟩ := bd_e hf
      refine mx_callV (As := [.int x1, .int (4 + x4)]) (rest := []) (wr := []) (d_X12_loadAt E l  h a_g a_kept a_tape a_written a_asked a_there a_counts a_lasts a_cames g kept isKept tape taped spot written writtenMany asked askedMany there counts lasts cames x1 (4 + x4)  o_2 hq) B w [0, 1, 2, 3, 4, 5, 6, 7, 8, 9] [] rfl rfl (by decide) (by decide) (by decide) 0 rfl rfl cv_X12_loadAt kw_1385 2 (by decide +kernel) ⟨Nat.le_of_ble_eq_true rfl, Nat.le_of_ble_eq_true rfl⟩ rfl hl.1 rfl (Nat.le_of_ble_eq_true rfl) dX12_delivers_22 rfl rfl ⟨Nat.zero_le _, Nat.zero_le _⟩ (fun v w' H locs hpo w => ?_)
      clear hq
      obtain ⟨rfl, rfl⟩ := hpo
      have w : mW E A s [(h, .inr (11, [.ref a_g, .ref a_kept, .int isKept, .ref a_tape, .int taped, .int spot, .ref a_written, .int writtenMany, .ref a_asked, .int askedMany, .ref a_there, .ref a_counts, .ref a_lasts, .ref a_cames])), (a_g, .inl (E.2.1, 8787, .inl g)), (a_kept, .inl (E.2.1, 8787, .inl kept)), (a_tape, .inl (E.2.2.1, 60, .inl tape)), (a_written, .inl (E.2.1, 40, .inl written)), (a_asked, .inl (E.2.1, 60, .inl asked)), (a_there, .inl (E.2.1, 12, .inl there)), (a_counts, .inl (E.2.1, 12, .inl counts)), (a_lasts, .inl (E.2.1, 12, .inl lasts)), (a_cames, .inl (E.2.1, 12, .inl cames))] H locs := w
      refine lv_istore (lv' := [(5, .int o_2), (0, .ref h), (1, .int x1), (2, .int x2), (3, .int x3), (4, .int x4)]) hx hb dX12_delivers_25 hl (by decide) rfl (fun ls hl => ?_)
      refine lv_aload_n hx hb dX12_delivers_27 rfl (lv_at hl 1 rfl) ?_
      refine mx_get B w 0 fl_X12_9 rfl rfl dX12_delivers_28 ?_
      refine lv_bipush (v := 29) hx hb dX12_delivers_31 (by decide) ?_
      refine lv_dup2_11 hx hb dX12_delivers_33 rfl rfl ?_
      obtain ⟨hin, hf⟩ := ld_e hf
      refine mx_iald B w 1 rfl hin dX12_delivers_34 (fun v_3 ev => ?_)
      have hf := hf _ ev; clear ev
      refine lv_aload_n hx hb dX12_delivers_35 rfl (lv_at hl 1 rfl) ?_
      refine mx_get B w 0 fl_X12_9 rfl rfl dX12_delivers_36 ?_
      refine lv_sipush (v := 8003) hx hb dX12_delivers_39 (by decide) ?_
      refine lv_iload hx hb dX12_delivers_42 (lv_at hl 0 rfl) ?_
      refine lv_iadd hx hb dX12_delivers_44 ?_
      obtain ⟨hin, hf⟩ := ld_e hf
      refine mx_iald B w 1 rfl hin dX12_delivers_45 (fun v_4 ev => ?_)
      have hf := hf _ ev; clear ev
      refine lv_bipush (v := 12) hx hb dX12_delivers_46 (by decide) ?_
      refine lv_icmp_ne (tgt := 55) hx hb dX12_delivers_48 (by decide) (fun hc => ?_) (fun hc => ?_)
      · have hf := it_f hc hf
        refine lv_iconst (v := 0) hx hb dX12_delivers_55 (by decide) ?_
        exact j_X12_delivers_56 B _ _ hrec hk141 hf  w (lv_sub hl [1, 2, 3, 4, 5, 0] rfl)
      · have hf := it_t hc hf
        refine lv_iconst (v := 1) hx hb dX12_delivers_51 (by decide) ?_
        refine lv_goto (tgt := 56) hx hb dX12_delivers_52 (by decide) ?_
        exact j_X12_delivers_56 B _ _ hrec hk141 hf  w (lv_sub hl [1, 2, 3, 4, 5, 0] rfl)
noncomputable def F_X12_delivers (N : Nat)  (g : Nat → Int32) (x1 : Int32) (x2 : Int32) : Option (Int32 × (Nat → Int32)) :=
  bd (F_X12_loadAt g x1 3) (fun o_1 =>
  L_X12_delivers_10 N (fun g => bd (F_X12_takesOut N g 15 2003 20 x1) (fun o_15 =>
  some (o_1, o_15))) x1 x2 o_1 N 0 g)
set_option maxHeartbeats 4000000 in
set_option maxRecDepth 100000 in
theorem d_X12_delivers (E : mE) (l : Launch) (N : Nat) (h : Nat) (a_g : Nat) (a_kept : Nat) (a_tape : Nat) (a_written : Nat) (a_asked : Nat) (a_there : Nat) (a_counts : Nat) (a_lasts : Nat) (a_cames : Nat)  (g : Nat → Int32) (kept : Nat → Int32) (isKept : Int32) (tape : Nat → Int32) (taped : Int32) (spot : Int32) (written : Nat → Int32) (writtenMany : Int32) (asked : Nat → Int32) (askedMany : Int32) (there : Nat → Int32) (counts : Nat → Int32) (lasts : Nat → Int32) (cames : Nat → Int32)  (x1 : Int32) (x2 : Int32)  (o : Int32 × (Nat → Int32)) (hf : F_X12_delivers N g x1 x2 = some o) : MX E l yX12_delivers cX12_delivers 7 (some .int) ({ frames := 1, cells := 0, slots := 0, locals := 25 } : Room) [.ref h, .int x1, .int x2] [(h, .inr (11, [.ref a_g, .ref a_kept, .int isKept, .ref a_tape, .int taped, .int spot, .ref a_written, .int writtenMany, .ref a_asked, .int askedMany, .ref a_there, .ref a_counts, .ref a_lasts, .ref a_cames])), (a_g, .inl (E.2.1, 8787, .inl g)), (a_kept, .inl (E.2.1, 8787, .inl kept)), (a_tape, .inl (E.2.2.1, 60, .inl tape)), (a_written, .inl (E.2.1, 40, .inl written)), (a_asked, .inl (E.2.1, 60, .inl asked)), (a_there, .inl (E.2.1, 12, .inl there)), (a_counts, .inl (E.2.1, 12, .inl counts)), (a_lasts, .inl (E.2.1, 12, .inl lasts)), (a_cames, .inl (E.2.1, 12, .inl cames))] (po_X12_delivers E h a_g a_kept a_tape a_written a_asked a_there a_counts a_lasts a_cames g kept isKept tape taped spot written writtenMany asked askedMany there counts lasts cames o) := by
  refine mx_intro (by decide +kernel) (Nat.le_of_ble_eq_true rfl) ?_
  intro p e s m args below meth c A Q ls B w hl
  obtain ⟨hx, hb, hml, hown, hts⟩ := id B.1
  unfold F_X12_delivers at hf
  have hl : lv_has ls 7 [(0, .ref h), (1, .int x1), (2, .int x2)] := hl
  refine lv_aload_n hx hb dX12_delivers_0 rfl (lv_at hl 0 rfl) ?_
  refine lv_iload_n hx hb dX12_delivers_1 rfl (lv_at hl 1 rfl) ?_
  refine lv_iconst (v := 3) hx hb dX12_delivers_2 (by decide) ?_
  obtain ⟨o_1, hq, hf⟩ := bd_e hf
  refine mx_callV (As := [.int x1, .int 3]) (rest := []) (wr := []) (d_X12_loadAt E l  h a_g a_kept a_tape a_written a_asked a_there a_counts a_lasts a_cames g kept isKept tape taped spot written writtenMany asked askedMany there counts lasts cames x1 3  o_1 hq) B w [0, 1, 2, 3, 4, 5, 6, 7, 8, 9] [] rfl rfl (by decide) (by decide) (by decide) 0 rfl rfl cv_X12_loadAt kw_1385 2 (by decide +kernel) ⟨Nat.le_of_ble_eq_true rfl, Nat.le_of_ble_eq_true rfl⟩ rfl hl.1 rfl (Nat.le_of_ble_eq_true rfl) dX12_delivers_3 rfl rfl ⟨Nat.zero_le _, Nat.zero_le _⟩ (fun v w' H locs hpo w => ?_)
  clear hq
  obtain ⟨rfl, rfl⟩ := hpo
  have w : mW E A s [(h, .inr (11, [.ref a_g, .ref a_kept, .int isKept, .ref a_tape, .int taped, .int spot, .ref a_written, .int writtenMany, .ref a_asked, .int askedMany, .ref a_there, .ref a_counts, .ref a_lasts, .ref a_cames])), (a_g, .inl (E.2.1, 8787, .inl g)), (a_kept, .inl (E.2.1, 8787, .inl kept)), (a_tape, .inl (E.2.2.1, 60, .inl tape)), (a_written, .inl (E.2.1, 40, .inl written)), (a_asked, .inl (E.2.1, 60, .inl asked)), (a_there, .inl (E.2.1, 12, .inl there)), (a_counts, .inl (E.2.1, 12, .inl counts)), (a_lasts, .inl (E.2.1, 12, .inl lasts)), (a_cames, .inl (E.2.1, 12, .inl cames))] H locs := w
  refine lv_istore_n (lv' := [(3, .int o_1), (0, .ref h), (1, .int x1), (2, .int x2)]) hx hb dX12_delivers_6 rfl hl (by decide) rfl (fun ls hl => ?_)
  refine lv_iconst (v := 0) hx hb dX12_delivers_7 (by decide) ?_
  refine lv_istore (lv' := [(4, .int 0), (3, .int o_1), (0, .ref h), (1, .int x1), (2, .int x2)]) hx hb dX12_delivers_8 hl (by decide) rfl (fun ls hl => ?_)
  refine l_X12_delivers_10 B _  ?_ N _ _ _ _ _ hf  w (lv_sub hl [2, 3, 4, 1, 0] rfl)
  · intro g H locs ls hf w hl
    refine lv_aload_n hx hb dX12_delivers_141 rfl (lv_at hl 0 rfl) ?_
    refine lv_bipush (v := 15) hx hb dX12_delivers_142 (by decide) ?_
    refine lv_sipush (v := 2003) hx hb dX12_delivers_144 (by decide) ?_
    refine lv_bipush (v := 20) hx hb dX12_delivers_147 (by decide) ?_
    refine lv_iload_n hx hb dX12_delivers_149 rfl (lv_at hl 1 rfl) ?_
    obtain ⟨o_15, hq, hf⟩ := bd_e hf
    refine mx_callV (As := [.int 15, .int 2003, .int 20, .int x1]) (rest := []) (wr := []) (d_X12_takesOut E l N h a_g a_kept a_tape a_written a_asked a_there a_counts a_lasts a_cames g kept isKept tape taped spot written writtenMany asked askedMany there counts lasts cames 15 2003 20 x1  o_15 hq) B w [0, 1, 2, 3, 4, 5, 6, 7, 8, 9] [] rfl rfl (by decide) (by decide) (by decide) 0 rfl rfl cv_X12_takesOut kw_1357 4 (by decide +kernel) ⟨Nat.le_of_ble_eq_true rfl, Nat.le_of_ble_eq_true rfl⟩ rfl hl.1 rfl (Nat.le_of_ble_eq_true rfl) dX12_delivers_150 rfl rfl ⟨Nat.zero_le _, Nat.zero_le _⟩ (fun v w' H locs hpo w => ?_)
    clear hq
    obtain ⟨rfl, rfl⟩ := hpo
    have w : mW E A s [(h, .inr (11, [.ref a_g, .ref a_kept, .int isKept, .ref a_tape, .int taped, .int spot, .ref a_written, .int writtenMany, .ref a_asked, .int askedMany, .ref a_there, .ref a_counts, .ref a_lasts, .ref a_cames])), (a_g, .inl (E.2.1, 8787, .inl o_15)), (a_kept, .inl (E.2.1, 8787, .inl kept)), (a_tape, .inl (E.2.2.1, 60, .inl tape)), (a_written, .inl (E.2.1, 40, .inl written)), (a_asked, .inl (E.2.1, 60, .inl asked)), (a_there, .inl (E.2.1, 12, .inl there)), (a_counts, .inl (E.2.1, 12, .inl counts)), (a_lasts, .inl (E.2.1, 12, .inl lasts)), (a_cames, .inl (E.2.1, 12, .inl cames))] H locs := w
    refine lv_iload_n hx hb dX12_delivers_153 rfl (lv_at hl 2 rfl) ?_
    cases hf
    exact mx_iret B w ⟨rfl, rfl⟩ dX12_delivers_154
-- X12_fails
def po_X12_fails (E : mE) (h : Nat) (a_g : Nat) (a_kept : Nat) (a_tape : Nat) (a_written : Nat) (a_asked : Nat) (a_there : Nat) (a_counts : Nat) (a_lasts : Nat) (a_cames : Nat)  (g : Nat → Int32) (kept : Nat → Int32) (isKept : Int32) (tape : Nat → Int32) (taped : Int32) (spot : Int32) (written : Nat → Int32) (writtenMany : Int32) (asked : Nat → Int32) (askedMany : Int32) (there : Nat → Int32) (counts : Nat → Int32) (lasts : Nat → Int32) (cames : Nat → Int32)  (o : Int32 × (Nat → Int32)) : Option Value → va_W → Prop := (fun (v : Option Value) (w' : va_W) => v = some (.int o.1) ∧ w' = [(h, .inr (11, [.ref a_g, .ref a_kept, .int isKept, .ref a_tape, .int taped, .int spot, .ref a_written, .int writtenMany, .ref a_asked, .int askedMany, .ref a_there, .ref a_counts, .ref a_lasts, .ref a_cames])), (a_g, .inl (E.2.1, 8787, .inl o.2)), (a_kept, .inl (E.2.1, 8787, .inl kept)), (a_tape, .inl (E.2.2.1, 60, .inl tape)), (a_written, .inl (E.2.1, 40, .inl written)), (a_asked, .inl (E.2.1, 60, .inl asked)), (a_there, .inl (E.2.1, 12, .inl there)), (a_counts, .inl (E.2.1, 12, .inl counts)), (a_lasts, .inl (E.2.1, 12, .inl lasts)), (a_cames, .inl (E.2.1, 12, .inl cames))])
noncomputable def F_X12_fails (N : Nat)  (g : Nat → Int32) (x1 : Int32) (x2 : Int32) : Option (Int32 × (Nat → Int32)) :=
  bd (F_X12_loadAt g x1 0) (fun o_1 =>
  bd (F_X12_delivers N g x1 (-x2)) (fun o_2 =>
  ld o_2.2 8787 25 (fun v_3 =>
  sto o_2.2 8787 25 (v_3 + 1) (fun g_4 =>
  bd (F_X12_happens N g_4 6 o_1) (fun o_5 =>
  bd (F_X12_runs N o_5) (fun o_6 =>
  some (o_2.1, o_6)))))))
set_option maxHeartbeats 4000000 in
set_option maxRecDepth 100000 in
theorem d_X12_fails (E : mE) (l : Launch) (N : Nat) (h : Nat) (a_g : Nat) (a_kept : Nat) (a_tape : Nat) (a_written : Nat) (a_asked : Nat) (a_there : Nat) (a_counts : Nat) (a_lasts : Nat) (a_cames : Nat)  (g : Nat → Int32) (kept : Nat → Int32) (isKept : Int32) (tape : Nat → Int32) (taped : Int32) (spot : Int32) (written : Nat → Int32) (writtenMany : Int32) (asked : Nat → Int32) (askedMany : Int32) (there : Nat → Int32) (counts : Nat → Int32) (lasts : Nat → Int32) (cames : Nat → Int32)  (x1 : Int32) (x2 : Int32)  (o : Int32 × (Nat → Int32)) (hf : F_X12_fails N g x1 x2 = some o) : MX E l yX12_fails cX12_fails 5 (some .int) ({ frames := 5, cells := 0, slots := 0, locals := 113 } : Room) [.ref h, .int x1, .int x2] [(h, .inr (11, [.ref a_g, .ref a_kept, .int isKept, .ref a_tape, .int taped, .int spot, .ref a_written, .int writtenMany, .ref a_asked, .int askedMany, .ref a_there, .ref a_counts, .ref a_lasts, .ref a_cames])), (a_g, .inl (E.2.1, 8787, .inl g)), (a_kept, .inl (E.2.1, 8787, .inl kept)), (a_tape, .inl (E.2.2.1, 60, .inl tape)), (a_written, .inl (E.2.1, 40, .inl written)), (a_asked, .inl (E.2.1, 60, .inl asked)), (a_there, .inl (E.2.1, 12, .inl there)), (a_counts, .inl (E.2.1, 12, .inl counts)), (a_lasts, .inl (E.2.1, 12, .inl lasts)), (a_cames, .inl (E.2.1, 12, .inl cames))] (po_X12_fails E h a_g a_kept a_tape a_written a_asked a_there a_counts a_lasts a_cames g kept isKept tape taped spot written writtenMany asked askedMany there counts lasts cames o) := by
  refine mx_intro (by decide +kernel) (Nat.le_of_ble_eq_true rfl) ?_
  intro p e s m args below meth c A Q ls B w hl
  obtain ⟨hx, hb, hml, hown, hts⟩ := id B.1
  unfold F_X12_fails at hf
  have hl : lv_has ls 5 [(0, .ref h), (1, .int x1), (2, .int x2)] := hl
  refine lv_aload_n hx hb dX12_fails_0 rfl (lv_at hl 0 rfl) ?_
  refine lv_iload_n hx hb dX12_fails_1 rfl (lv_at hl 1 rfl) ?_
  refine lv_iconst (v := 0) hx hb dX12_fails_2 (by decide) ?_
  obtain ⟨o_1, hq, hf⟩ := bd_e hf
  refine mx_callV (As := [.int x1, .int 0]) (rest := []) (wr := []) (d_X12_loadAt E l  h a_g a_kept a_tape a_written a_asked a_there a_counts a_lasts a_cames g kept isKept tape taped spot written writtenMany asked askedMany there counts lasts cames x1 0  o_1 hq) B w [0, 1, 2, 3, 4, 5, 6, 7, 8, 9] [] rfl rfl (by decide) (by decide) (by decide) 0 rfl rfl cv_X12_loadAt kw_1385 2 (by decide +kernel) ⟨Nat.le_of_ble_eq_true rfl, Nat.le_of_ble_eq_true rfl⟩ rfl hl.1 rfl (Nat.le_of_ble_eq_true rfl) dX12_fails_3 rfl rfl ⟨Nat.zero_le _, Nat.zero_le _⟩ (fun v w' H locs hpo w => ?_)
  clear hq
  obtain ⟨rfl, rfl⟩ := hpo
  have w : mW E A s [(h, .inr (11, [.ref a_g, .ref a_kept, .int isKept, .ref a_tape, .int taped, .int spot, .ref a_written, .int writtenMany, .ref a_asked, .int askedMany, .ref a_there, .ref a_counts, .ref a_lasts, .ref a_cames])), (a_g, .inl (E.2.1, 8787, .inl g)), (a_kept, .inl (E.2.1, 8787, .inl kept)), (a_tape, .inl (E.2.2.1, 60, .inl tape)), (a_written, .inl (E.2.1, 40, .inl written)), (a_asked, .inl (E.2.1, 60, .inl asked)), (a_there, .inl (E.2.1, 12, .inl there)), (a_counts, .inl (E.2.1, 12, .inl counts)), (a_lasts, .inl (E.2.1, 12, .inl lasts)), (a_cames, .inl (E.2.1, 12, .inl cames))] H locs := w
  refine lv_istore_n (lv' := [(3, .int o_1), (0, .ref h), (1, .int x1), (2, .int x2)]) hx hb dX12_fails_6 rfl hl (by decide) rfl (fun ls hl => ?_)
  refine lv_aload_n hx hb dX12_fails_7 rfl (lv_at hl 1 rfl) ?_
  refine lv_iload_n hx hb dX12_fails_8 rfl (lv_at hl 2 rfl) ?_
  refine lv_iload_n hx hb dX12_fails_9 rfl (lv_at hl 3 rfl) ?_
  refine lv_ineg hx hb dX12_fails_10 ?_
  obtain ⟨o_2, hq, hf⟩ := bd_e hf
  refine mx_callV (As := [.int x1, .int (-x2)]) (rest := []) (wr := []) (d_X12_delivers E l N h a_g a_kept a_tape a_written a_asked a_there a_counts a_lasts a_cames g kept isKept tape taped spot written writtenMany asked askedMany there counts lasts cames x1 (-x2)  o_2 hq) B w [0, 1, 2, 3, 4, 5, 6, 7, 8, 9] [] rfl rfl (by decide) (by decide) (by decide) 0 rfl rfl cv_X12_delivers kw_1398 2 (by decide +kernel) ⟨Nat.le_of_ble_eq_true rfl, Nat.le_of_ble_eq_true rfl⟩ rfl hl.1 rfl (Nat.le_of_ble_eq_true rfl) dX12_fails_11 rfl rfl ⟨Nat.zero_le _, Nat.zero_le _⟩ (fun v w' H locs hpo w => ?_)
  clear hq
  obtain ⟨rfl, rfl⟩ := hpo
  have w : mW E A s [(h, .inr (11, [.ref a_g, .ref a_kept, .int isKept, .ref a_tape, .int taped, .int spot, .ref a_written, .int writtenMany, .ref a_asked, .int askedMany, .ref a_there, .ref a_counts, .ref a_lasts, .ref a_cames])), (a_g, .inl (E.2.1, 8787, .inl o_2.2)), (a_kept, .inl (E.2.1, 8787, .inl kept)), (a_tape, .inl (E.2.2.1, 60, .inl tape)), (a_written, .inl (E.2.1, 40, .inl written)), (a_asked, .inl (E.2.1, 60, .inl asked)), (a_there, .inl (E.2.1, 12, .inl there)), (a_counts, .inl (E.2.1, 12, .inl counts)), (a_lasts, .inl (E.2.1, 12, .inl lasts)), (a_cames, .inl (E.2.1, 12, .inl cames))] H locs := w
  refine lv_istore (lv' := [(4, .int o_2.1), (3, .int o_1), (0, .ref h), (1, .int x1), (2, .int x2)]) hx hb dX12_fails_14 hl (by decide) rfl (fun ls hl => ?_)
  refine lv_aload_n hx hb dX12_fails_16 rfl (lv_at hl 2 rfl) ?_
  refine mx_get B w 0 fl_X12_9 rfl rfl dX12_fails_17 ?_
  refine lv_bipush (v := 25) hx hb dX12_fails_20 (by decide) ?_
  refine lv_dup2_11 hx hb dX12_fails_22 rfl rfl ?_
  obtain ⟨hin, hf⟩ := ld_e hf
  refine mx_iald B w 1 rfl hin dX12_fails_23 (fun v_3 ev => ?_)
  have hf := hf _ ev; clear ev
  refine lv_iconst (v := 1) hx hb dX12_fails_24 (by decide) ?_
  refine lv_iadd hx hb dX12_fails_25 ?_
  obtain ⟨hin, hf⟩ := sto_e hf
  refine mx_iast B w 1 rfl hin dX12_fails_26 (fun g_4 H locs ev w => ?_)
  have hf := hf _ ev; clear ev
  have w : mW E A s [(h, .inr (11, [.ref a_g, .ref a_kept, .int isKept, .ref a_tape, .int taped, .int spot, .ref a_written, .int writtenMany, .ref a_asked, .int askedMany, .ref a_there, .ref a_counts, .ref a_lasts, .ref a_cames])), (a_g, .inl (E.2.1, 8787, .inl g_4)), (a_kept, .inl (E.2.1, 8787, .inl kept)), (a_tape, .inl (E.2.2.1, 60, .inl tape)), (a_written, .inl (E.2.1, 40, .inl written)), (a_asked, .inl (E.2.1, 60, .inl asked)), (a_there, .inl (E.2.1, 12, .inl there)), (a_counts, .inl (E.2.1, 12, .inl counts)), (a_lasts, .inl (E.2.1, 12, .inl lasts)), (a_cames, .inl (E.2.1, 12, .inl cames))] H locs := w
  refine lv_aload_n hx hb dX12_fails_27 rfl (lv_at hl 2 rfl) ?_
  refine lv_bipush (v := 6) hx hb dX12_fails_28 (by decide) ?_
  refine lv_iload_n hx hb dX12_fails_30 rfl (lv_at hl 1 rfl) ?_
  obtain ⟨o_5, hq, hf⟩ := bd_e hf
  refine mx_callV (As := [.int 6, .int o_1]) (rest := []) (wr := []) (d_X12_happens E l N h a_g a_kept a_tape a_written a_asked a_there a_counts a_lasts a_cames g_4 kept isKept tape taped spot written writtenMany asked askedMany there counts lasts cames 6 o_1  o_5 hq) B w [0, 1, 2, 3, 4, 5, 6, 7, 8, 9] [] rfl rfl (by decide) (by decide) (by decide) 0 rfl rfl cv_X12_happens kw_1373 2 (by decide +kernel) ⟨Nat.le_of_ble_eq_true rfl, Nat.le_of_ble_eq_true rfl⟩ rfl hl.1 rfl (Nat.le_of_ble_eq_true rfl) dX12_fails_31 rfl rfl ⟨Nat.zero_le _, Nat.zero_le _⟩ (fun v w' H locs hpo w => ?_)
  clear hq
  obtain ⟨rfl, rfl⟩ := hpo
  have w : mW E A s [(h, .inr (11, [.ref a_g, .ref a_kept, .int isKept, .ref a_tape, .int taped, .int spot, .ref a_written, .int writtenMany, .ref a_asked, .int askedMany, .ref a_there, .ref a_counts, .ref a_lasts, .ref a_cames])), (a_g, .inl (E.2.1, 8787, .inl o_5)), (a_kept, .inl (E.2.1, 8787, .inl kept)), (a_tape, .inl (E.2.2.1, 60, .inl tape)), (a_written, .inl (E.2.1, 40, .inl written)), (a_asked, .inl (E.2.1, 60, .inl asked)), (a_there, .inl (E.2.1, 12, .inl there)), (a_counts, .inl (E.2.1, 12, .inl counts)), (a_lasts, .inl (E.2.1, 12, .inl lasts)), (a_cames, .inl (E.2.1, 12, .inl cames))] H locs := w
  refine lv_aload_n hx hb dX12_fails_34 rfl (lv_at hl 2 rfl) ?_
  obtain ⟨o_6, hq, hf⟩ := bd_e hf
  refine mx_callV (As := []) (rest := []) (wr := []) (d_X12_runs E l N h a_g a_kept a_tape a_written a_asked a_there a_counts a_lasts a_cames o_5 kept isKept tape taped spot written writtenMany asked askedMany there counts lasts cames   o_6 hq) B w [0, 1, 2, 3, 4, 5, 6, 7, 8, 9] [] rfl rfl (by decide) (by decide) (by decide) 0 rfl rfl cv_X12_runs kw_1377 0 (by decide +kernel) ⟨Nat.le_of_ble_eq_true rfl, Nat.le_of_ble_eq_true rfl⟩ rfl hl.1 rfl (Nat.le_of_ble_eq_true rfl) dX12_fails_35 rfl rfl ⟨Nat.zero_le _, Nat.zero_le _⟩ (fun v w' H locs hpo w => ?_)
  clear hq
  obtain ⟨rfl, rfl⟩ := hpo
  have w : mW E A s [(h, .inr (11, [.ref a_g, .ref a_kept, .int isKept, .ref a_tape, .int taped, .int spot, .ref a_written, .int writtenMany, .ref a_asked, .int askedMany, .ref a_there, .ref a_counts, .ref a_lasts, .ref a_cames])), (a_g, .inl (E.2.1, 8787, .inl o_6)), (a_kept, .inl (E.2.1, 8787, .inl kept)), (a_tape, .inl (E.2.2.1, 60, .inl tape)), (a_written, .inl (E.2.1, 40, .inl written)), (a_asked, .inl (E.2.1, 60, .inl asked)), (a_there, .inl (E.2.1, 12, .inl there)), (a_counts, .inl (E.2.1, 12, .inl counts)), (a_lasts, .inl (E.2.1, 12, .inl lasts)), (a_cames, .inl (E.2.1, 12, .inl cames))] H locs := w
  refine lv_iload hx hb dX12_fails_38 (lv_at hl 0 rfl) ?_
  cases hf
  exact mx_iret B w ⟨rfl, rfl⟩ dX12_fails_40
-- X12_step
def po_X12_step (E : mE) (h : Nat) (a_g : Nat) (a_kept : Nat) (a_tape : Nat) (a_written : Nat) (a_asked : Nat) (a_there : Nat) (a_counts : Nat) (a_lasts : Nat) (a_cames : Nat)  (g : Nat → Int32) (kept : Nat → Int32) (isKept : Int32) (tape : Nat → Int32) (taped : Int32) (spot : Int32) (written : Nat → Int32) (writtenMany : Int32) (asked : Nat → Int32) (askedMany : Int32) (there : Nat → Int32) (counts : Nat → Int32) (lasts : Nat → Int32) (cames : Nat → Int32)  (o : Int32 × (Nat → Int32)) : Option Value → va_W → Prop := (fun (v : Option Value) (w' : va_W) => v = some (.int o.1) ∧ w' = [(h, .inr (11, [.ref a_g, .ref a_kept, .int isKept, .ref a_tape, .int taped, .int spot, .ref a_written, .int writtenMany, .ref a_asked, .int askedMany, .ref a_there, .ref a_counts, .ref a_lasts, .ref a_cames])), (a_g, .inl (E.2.1, 8787, .inl o.2)), (a_kept, .inl (E.2.1, 8787, .inl kept)), (a_tape, .inl (E.2.2.1, 60, .inl tape)), (a_written, .inl (E.2.1, 40, .inl written)), (a_asked, .inl (E.2.1, 60, .inl asked)), (a_there, .inl (E.2.1, 12, .inl there)), (a_counts, .inl (E.2.1, 12, .inl counts)), (a_lasts, .inl (E.2.1, 12, .inl lasts)), (a_cames, .inl (E.2.1, 12, .inl cames))])
noncomputable def J_X12_step_137 (N : Nat)  (rec : Int32 → (Nat → Int32) → (Option (Int32 × (Nat → Int32)))) (k143 : (Nat → Int32) → (Option (Int32 × (Nat → Int32)))) (x2 : Int32) (g : Nat → Int32) : Option (Int32 × (Nat → Int32)) :=
  lt (x2 + 1) (fun x2_8 =>
  rec x2_8 g)
set_option maxHeartbeats 4000000 in
set_option maxRecDepth 100000 in
theorem j_X12_step_137 {E : mE} {l : Launch} {p : Program} {e : Env} {s : State} {m : MethodId} {args : Array Value} {below : List Frame} {meth : Method} {c : Code} {A : Nat → Prop} {Q : State → Prop} {N : Nat} {h : Nat} {a_g : Nat} {a_kept : Nat} {a_tape : Nat} {a_written : Nat} {a_asked : Nat} {a_there : Nat} {a_counts : Nat} {a_lasts : Nat} {a_cames : Nat}  {g0 : Nat → Int32} {kept : Nat → Int32} {isKept : Int32} {tape : Nat → Int32} {taped : Int32} {spot : Int32} {written : Nat → Int32} {writtenMany : Int32} {asked : Nat → Int32} {askedMany : Int32} {there : Nat → Int32} {counts : Nat → Int32} {lasts : Nat → Int32} {cames : Nat → Int32}  {o : Int32 × (Nat → Int32)} (B : mB E yX12_step cX12_step 4 (some .int) 0 0 (po_X12_step E h a_g a_kept a_tape a_written a_asked a_there a_counts a_lasts a_cames g0 kept isKept tape taped spot written writtenMany asked askedMany there counts lasts cames o) p s m args below meth c A Q) {x2 : Int32} {g : Nat → Int32}  (rec : Int32 → (Nat → Int32) → (Option (Int32 × (Nat → Int32)))) (k143 : (Nat → Int32) → (Option (Int32 × (Nat → Int32)))) (hrec : ∀ (x2 : Int32) (g : Nat → Int32)  (H : Heap) (locs : List Loc) (ls : Array Slot), rec x2 g = some o → mW E A s [(h, .inr (11, [.ref a_g, .ref a_kept, .int isKept, .ref a_tape, .int taped, .int spot, .ref a_written, .int writtenMany, .ref a_asked, .int askedMany, .ref a_there, .ref a_counts, .ref a_lasts, .ref a_cames])), (a_g, .inl (E.2.1, 8787, .inl g)), (a_kept, .inl (E.2.1, 8787, .inl kept)), (a_tape, .inl (E.2.2.1, 60, .inl tape)), (a_written, .inl (E.2.1, 40, .inl written)), (a_asked, .inl (E.2.1, 60, .inl asked)), (a_there, .inl (E.2.1, 12, .inl there)), (a_counts, .inl (E.2.1, 12, .inl counts)), (a_lasts, .inl (E.2.1, 12, .inl lasts)), (a_cames, .inl (E.2.1, 12, .inl cames))] H locs → lv_has ls 4 [(0, .ref h), (2, .int x2)] → W p l e ({ frames := 6, cells := 0, slots := 0, locals := 137 } : Room) s m args below meth c H locs 0 0 Q (F0 m 46 ls [])) (hk143 : ∀  (g : Nat → Int32)  (H : Heap) (locs : List Loc) (ls : Array Slot), k143 g = some o → mW E A s [(h, .inr (11, [.ref a_g, .ref a_kept, .int isKept, .ref a_tape, .int taped, .int spot, .ref a_written, .int writtenMany, .ref a_asked, .int askedMany, .ref a_there, .ref a_counts, .ref a_lasts, .ref a_cames])), (a_g, .inl (E.2.1, 8787, .inl g)), (a_kept, .inl (E.2.1, 8787, .inl kept)), (a_tape, .inl (E.2.2.1, 60, .inl tape)), (a_written, .inl (E.2.1, 40, .inl written)), (a_asked, .inl (E.2.1, 60, .inl asked)), (a_there, .inl (E.2.1, 12, .inl there)), (a_counts, .inl (E.2.1, 12, .inl counts)), (a_lasts, .inl (E.2.1, 12, .inl lasts)), (a_cames, .inl (E.2.1, 12, .inl cames))] H locs → lv_has ls 4 [(0, .ref h)] → W p l e ({ frames := 6, cells := 0, slots := 0, locals := 137 } : Room) s m args below meth c H locs 0 0 Q (F0 m 143 ls [])) {H : Heap} {locs : List Loc} {ls : Array Slot} (hf : J_X12_step_137 N rec k143 x2 g = some o)  (w : mW E A s [(h, .inr (11, [.ref a_g, .ref a_kept, .int isKept, .ref a_tape, .int taped, .int spot, .ref a_written, .int writtenMany, .ref a_asked, .int askedMany, .ref a_there, .ref a_counts, .ref a_lasts, .ref a_cames])), (a_g, .inl (E.2.1, 8787, .inl g)), (a_kept, .inl (E.2.1, 8787, .inl kept)), (a_tape, .inl (E.2.2.1, 60, .inl tape)), (a_written, .inl (E.2.1, 40, .inl written)), (a_asked, .inl (E.2.1, 60, .inl asked)), (a_there, .inl (E.2.1, 12, .inl there)), (a_counts, .inl (E.2.1, 12, .inl counts)), (a_lasts, .inl (E.2.1, 12, .inl lasts)), (a_cames, .inl (E.2.1, 12, .inl cames))] H locs) (hl : lv_has ls 4 [(0, .ref h), (2, .int x2)]) : W p l e ({ frames := 6, cells := 0, slots := 0, locals := 137 } : Room) s m args below meth c H locs 0 0 Q (F0 m 137 ls []) := by
  obtain ⟨hx, hb, hml, hown, hts⟩ := id B.1
  unfold J_X12_step_137 at hf
  obtain ⟨x2_8, ev⟩ : ∃ y : Int32, y = x2 + 1 := ⟨_, rfl⟩
  refine lv_iinc (v := x2_8) (lv' := [(2, .int x2_8), (0, .ref h)]) hx hb dX12_step_137 hl (k := 1) rfl (by rw [ev]; rfl) (by decide) rfl (fun ls hl => ?_)
  have hf := lt_n ev hf; clear ev
  refine lv_goto (tgt := 46) hx hb dX12_step_140 (by decide) ?_
  exact hrec _ _ _ _ _ hf  w (lv_sub hl [1, 0] rfl)
noncomputable def K_X12_step_46 (N : Nat)  (rec : Int32 → (Nat → Int32) → (Option (Int32 × (Nat → Int32)))) (k143 : (Nat → Int32) → (Option (Int32 × (Nat → Int32))))   (x2 : Int32) (g : Nat → Int32) : Option (Int32 × (Nat → Int32)) :=
  ld g 8787 7 (fun v_5 =>
  if (v_5 ≤ 0 : Prop) then
  k143 g
  else
  ld g 8787 15 (fun v_6 =>
  if (v_6 ≤ x2 : Prop) then
  k143 g
  else
  bd (F_X12_loadAt g x2 1) (fun o_7 =>
  if (o_7 = 2 : Prop) then
  ld g 8787 8 (fun v_9 =>
  bd (F_X12_loadAt g x2 2) (fun o_10 =>
  ld g 8787 7 (fun v_11 =>
  if (v_9 < (o_10 + v_11) : Prop) then
  J_X12_step_137 N rec k143 x2 g
  else
  bd (F_X12_loadAt g x2 0) (fun o_12 =>
  bd (F_X12_happens N g 13 o_12) (fun o_13 =>
  ld o_13 8787 33 (fun v_14 =>
  sto o_13 8787 33 (v_14 + 1) (fun g_15 =>
  bd (F_X12_fails N g_15 x2 99) (fun o_16 =>
  rec x2 o_16.2))))))))
  else
  J_X12_step_137 N rec k143 x2 g)))
noncomputable def L_X12_step_46 (N : Nat)  (k143 : (Nat → Int32) → (Option (Int32 × (Nat → Int32))))   (n : Nat) : Int32 → (Nat → Int32) → (Option (Int32 × (Nat → Int32))) :=
  Nat.rec (motive := fun _ => Int32 → (Nat → Int32) → (Option (Int32 × (Nat → Int32)))) (fun _ _ => none) (fun _ rec => K_X12_step_46 N rec k143) n
set_option maxHeartbeats 4000000 in
set_option maxRecDepth 100000 in
theorem l_X12_step_46 {E : mE} {l : Launch} {p : Program} {e : Env} {s : State} {m : MethodId} {args : Array Value} {below : List Frame} {meth : Method} {c : Code} {A : Nat → Prop} {Q : State → Prop} {N : Nat} {h : Nat} {a_g : Nat} {a_kept : Nat} {a_tape : Nat} {a_written : Nat} {a_asked : Nat} {a_there : Nat} {a_counts : Nat} {a_lasts : Nat} {a_cames : Nat}  {g0 : Nat → Int32} {kept : Nat → Int32} {isKept : Int32} {tape : Nat → Int32} {taped : Int32} {spot : Int32} {written : Nat → Int32} {writtenMany : Int32} {asked : Nat → Int32} {askedMany : Int32} {there : Nat → Int32} {counts : Nat → Int32} {lasts : Nat → Int32} {cames : Nat → Int32}  {o : Int32 × (Nat → Int32)} (B : mB E yX12_step cX12_step 4 (some .int) 0 0 (po_X12_step E h a_g a_kept a_tape a_written a_asked a_there a_counts a_lasts a_cames g0 kept isKept tape taped spot written writtenMany asked askedMany there counts lasts cames o) p s m args below meth c A Q)    (k143 : (Nat → Int32) → (Option (Int32 × (Nat → Int32))))  (hk143 : ∀  (g : Nat → Int32)  (H : Heap) (locs : List Loc) (ls : Array Slot), k143 g = some o → mW E A s [(h, .inr (11, [.ref a_g, .ref a_kept, .int isKept, .ref a_tape, .int taped, .int spot, .ref a_written, .int writtenMany, .ref a_asked, .int askedMany, .ref a_there, .ref a_counts, .ref a_lasts, .ref a_cames])), (a_g, .inl (E.2.1, 8787, .inl g)), (a_kept, .inl (E.2.1, 8787, .inl kept)), (a_tape, .inl (E.2.2.1, 60, .inl tape)), (a_written, .inl (E.2.1, 40, .inl written)), (a_asked, .inl (E.2.1, 60, .inl asked)), (a_there, .inl (E.2.1, 12, .inl there)), (a_counts, .inl (E.2.1, 12, .inl counts)), (a_lasts, .inl (E.2.1, 12, .inl lasts)), (a_cames, .inl (E.2.1, 12, .inl cames))] H locs → lv_has ls 4 [(0, .ref h)] → W p l e ({ frames := 6, cells := 0, slots := 0, locals := 137 } : Room) s m args below meth c H locs 0 0 Q (F0 m 143 ls [])) : ∀ n : Nat, ∀ (x2 : Int32) (g : Nat → Int32)  (H : Heap) (locs : List Loc) (ls : Array Slot), L_X12_step_46 N k143 n x2 g = some o → mW E A s [(h, .inr (11, [.ref a_g, .ref a_kept, .int isKept, .ref a_tape, .int taped, .int spot, .ref a_written, .int writtenMany, .ref a_asked, .int askedMany, .ref a_there, .ref a_counts, .ref a_lasts, .ref a_cames])), (a_g, .inl (E.2.1, 8787, .inl g)), (a_kept, .inl (E.2.1, 8787, .inl kept)), (a_tape, .inl (E.2.2.1, 60, .inl tape)), (a_written, .inl (E.2.1, 40, .inl written)), (a_asked, .inl (E.2.1, 60, .inl asked)), (a_there, .inl (E.2.1, 12, .inl there)), (a_counts, .inl (E.2.1, 12, .inl counts)), (a_lasts, .inl (E.2.1, 12, .inl lasts)), (a_cames, .inl (E.2.1, 12, .inl cames))] H locs → lv_has ls 4 [(0, .ref h), (2, .int x2)] → W p l e ({ frames := 6, cells := 0, slots := 0, locals := 137 } : Room) s m args below meth c H locs 0 0 Q (F0 m 46 ls []) := by
  obtain ⟨hx, hb, hml, hown, hts⟩ := id B.1
  intro n
  induction n with
  | zero =>
    intro x2 g H locs ls hf w hl
    exact nomatch hf
  | succ n hrec =>
    intro x2 g H locs ls hf w hl
    have hf : K_X12_step_46 N (L_X12_step_46 N k143 n) k143 x2 g = some o := hf
    unfold K_X12_step_46 at hf
    refine lv_aload_n hx hb dX12_step_46 rfl (lv_at hl 0 rfl) ?_
    refine mx_get B w 0 fl_X12_9 rfl rfl dX12_step_47 ?_
    refine lv_bipush (v := 7) hx hb dX12_step_50 (by decide) ?_
    obtain ⟨hin, hf⟩ := ld_e hf
    refine mx_iald B w 1 rfl hin dX12_step_52 (fun v_5 ev => ?_)
    have hf := hf _ ev; clear ev
    refine lv_if_le (tgt := 143) hx hb dX12_step_53 (by decide) (fun hc => ?_) (fun hc => ?_)
    · have hf := it_t hc hf
      exact hk143 _ _ _ _ hf  w (lv_sub hl [0] rfl)
    · have hf := it_f hc hf
      refine lv_iload_n hx hb dX12_step_56 rfl (lv_at hl 1 rfl) ?_
      refine lv_aload_n hx hb dX12_step_57 rfl (lv_at hl 0 rfl) ?_
      refine mx_get B w 0 fl_X12_9 rfl rfl dX12_step_58 ?_
      refine lv_bipush (v := 15) hx hb dX12_step_61 (by decide) ?_
      obtain ⟨hin, hf⟩ := ld_e hf
      refine mx_iald B w 1 rfl hin dX12_step_63 (fun v_6 ev => ?_)
      have hf := hf _ ev; clear ev
      refine lv_icmp_ge (tgt := 143) hx hb dX12_step_64 (by decide) (fun hc => ?_) (fun hc => ?_)
      · have hf := it_t hc hf
        exact hk143 _ _ _ _ hf  w (lv_sub hl [0] rfl)
      · have hf := it_f hc hf
        refine lv_aload_n hx hb dX12_step_67 rfl (lv_at hl 0 rfl) ?_
        refine lv_iload_n hx hb dX12_step_68 rfl (lv_at hl 1 rfl) ?_
        refine lv_iconst (v := 1) hx hb dX12_step_69 (by decide) ?_
        obtain ⟨o_7, hq, hf⟩ := bd_e hf
        refine mx_callV (As := [.int x2, .int 1]) (rest := []) (wr := []) (d_X12_loadAt E l  h a_g a_kept a_tape a_written a_asked a_there a_counts a_lasts a_cames g kept isKept tape taped spot written writtenMany asked askedMany there counts lasts cames x2 1  o_7 hq) B w [0, 1, 2, 3, 4, 5, 6, 7, 8, 9] [] rfl rfl (by decide) (by decide) (by decide) 0 rfl rfl cv_X12_loadAt kw_1385 2 (by decide +kernel) ⟨Nat.le_of_ble_eq_true rfl, Nat.le_of_ble_eq_true rfl⟩ rfl hl.1 rfl (Nat.le_of_ble_eq_true rfl) dX12_step_70 rfl rfl ⟨Nat.zero_le _, Nat.zero_le _⟩ (fun v w' H locs hpo w => ?_)
        clear hq
        obtain ⟨rfl, rfl⟩ := hpo
        have w : mW E A s [(h, .inr (11, [.ref a_g, .ref a_kept, .int isKept, .ref a_tape, .int taped, .int spot, .ref a_written, .int writtenMany, .ref a_asked, .int askedMany, .ref a_there, .ref a_counts, .ref a_lasts, .ref a_cames])), (a_g, .inl (E.2.1, 8787, .inl g)), (a_kept, .inl (E.2.1, 8787, .inl kept)), (a_tape, .inl (E.2.2.1, 60, .inl tape)), (a_written, .inl (E.2.1, 40, .inl written)), (a_asked, .inl (E.2.1, 60, .inl asked)), (a_there, .inl (E.2.1, 12, .inl there)), (a_counts, .inl (E.2.1, 12, .inl counts)), (a_lasts, .inl (E.2.1, 12, .inl lasts)), (a_cames, .inl (E.2.1, 12, .inl cames))] H locs := w
        refine lv_iconst (v := 2) hx hb dX12_step_73 (by decide) ?_
        refine lv_icmp_ne (tgt := 137) hx hb dX12_step_74 (by decide) (fun hc => ?_) (fun hc => ?_)
        · have hf := it_f hc hf
          exact j_X12_step_137 B _ _ hrec hk143 hf  w (lv_sub hl [0, 1] rfl)
        · have hf := it_t hc hf
          refine lv_aload_n hx hb dX12_step_77 rfl (lv_at hl 0 rfl) ?_
          refine mx_get B w 0 fl_X12_9 rfl rfl dX12_step_78 ?_
          refine lv_bipush (v := 8) hx hb dX12_step_81 (by decide) ?_
          obtain ⟨hin, hf⟩ := ld_e hf
          refine mx_iald B w 1 rfl hin dX12_step_83 (fun v_9 ev => ?_)
          have hf := hf _ ev; clear ev
          refine lv_aload_n hx hb dX12_step_84 rfl (lv_at hl 0 rfl) ?_
          refine lv_iload_n hx hb dX12_step_85 rfl (lv_at hl 1 rfl) ?_
          refine lv_iconst (v := 2) hx hb dX12_step_86 (by decide) ?_
          obtain ⟨o_10, hq, hf⟩ := bd_e hf
          refine mx_callV (As := [.int x2, .int 2]) (rest := [.int v_9]) (wr := []) (d_X12_loadAt E l  h a_g a_kept a_tape a_written a_asked a_there a_counts a_lasts a_cames g kept isKept tape taped spot written writtenMany asked askedMany there counts lasts cames x2 2  o_10 hq) B w [0, 1, 2, 3, 4, 5, 6, 7, 8, 9] [] rfl rfl (by decide) (by decide) (by decide) 0 rfl rfl cv_X12_loadAt kw_1385 2 (by decide +kernel) ⟨Nat.le_of_ble_eq_true rfl, Nat.le_of_ble_eq_true rfl⟩ rfl hl.1 rfl (Nat.le_of_ble_eq_true rfl) dX12_step_87 rfl rfl ⟨Nat.zero_le _, Nat.zero_le _⟩ (fun v w' H locs hpo w => ?_)
          clear hq
          obtain ⟨rfl, rfl⟩ := hpo
          have w : mW E A s [(h, .inr (11, [.ref a_g, .ref a_kept, .int isKept, .ref a_tape, .int taped, .int spot, .ref a_written, .int writtenMany, .ref a_asked, .int askedMany, .ref a_there, .ref a_counts, .ref a_lasts, .ref a_cames])), (a_g, .inl (E.2.1, 8787, .inl g)), (a_kept, .inl (E.2.1, 8787, .inl kept)), (a_tape, .inl (E.2.2.1, 60, .inl tape)), (a_written, .inl (E.2.1, 40, .inl written)), (a_asked, .inl (E.2.1, 60, .inl asked)), (a_there, .inl (E.2.1, 12, .inl there)), (a_counts, .inl (E.2.1, 12, .inl counts)), (a_lasts, .inl (E.2.1, 12, .inl lasts)), (a_cames, .inl (E.2.1, 12, .inl cames))] H locs := w
          refine lv_aload_n hx hb dX12_step_90 rfl (lv_at hl 0 rfl) ?_
          refine mx_get B w 0 fl_X12_9 rfl rfl dX12_step_91 ?_
          refine lv_bipush (v := 7) hx hb dX12_step_94 (by decide) ?_
          obtain ⟨hin, hf⟩ := ld_e hf
          refine mx_iald B w 1 rfl hin dX12_step_96 (fun v_11 ev => ?_)
          have hf := hf _ ev; clear ev
          refine lv_iadd hx hb dX12_step_97 ?_
          refine lv_icmp_lt (tgt := 137) hx hb dX12_step_98 (by decide) (fun hc => ?_) (fun hc => ?_)
          · have hf := it_t hc hf
            exact j_X12_step_137 B _ _ hrec hk143 hf  w (lv_sub hl [0, 1] rfl)
          · have hf := it_f hc hf
            refine lv_aload_n hx hb dX12_step_101 rfl (lv_at hl 0 rfl) ?_
            refine lv_iload_n hx hb dX12_step_102 rfl (lv_at hl 1 rfl) ?_
            refine lv_iconst (v := 0) hx hb dX12_step_103 (by decide) ?_
            obtain ⟨o_12, hq, hf⟩ := bd_e hf
            refine mx_callV (As := [.int x2, .int 0]) (rest := []) (wr := []) (d_X12_loadAt E l  h a_g a_kept a_tape a_written a_asked a_there a_counts a_lasts a_cames g kept isKept tape taped spot written writtenMany asked askedMany there counts lasts cames x2 0  o_12 hq) B w [0, 1, 2, 3, 4, 5, 6, 7, 8, 9] [] rfl rfl (by decide) (by decide) (by decide) 0 rfl rfl cv_X12_loadAt kw_1385 2 (by decide +kernel) ⟨Nat.le_of_ble_eq_true rfl, Nat.le_of_ble_eq_true rfl⟩ rfl hl.1 rfl (Nat.le_of_ble_eq_true rfl) dX12_step_104 rfl rfl ⟨Nat.zero_le _, Nat.zero_le _⟩ (fun v w' H locs hpo w => ?_)
            clear hq
            obtain ⟨rfl, rfl⟩ := hpo
            have w : mW E A s [(h, .inr (11, [.ref a_g, .ref a_kept, .int isKept, .ref a_tape, .int taped, .int spot, .ref a_written, .int writtenMany, .ref a_asked, .int askedMany, .ref a_there, .ref a_counts, .ref a_lasts, .ref a_cames])), (a_g, .inl (E.2.1, 8787, .inl g)), (a_kept, .inl (E.2.1, 8787, .inl kept)), (a_tape, .inl (E.2.2.1, 60, .inl tape)), (a_written, .inl (E.2.1, 40, .inl written)), (a_asked, .inl (E.2.1, 60, .inl asked)), (a_there, .inl (E.2.1, 12, .inl there)), (a_counts, .inl (E.2.1, 12, .inl counts)), (a_lasts, .inl (E.2.1, 12, .inl lasts)), (a_cames, .inl (E.2.1, 12, .inl cames))] H locs := w
            refine lv_istore_n (lv' := [(3, .int o_12), (0, .ref h), (2, .int x2)]) hx hb dX12_step_107 rfl hl (by decide) rfl (fun ls hl => ?_)
            refine lv_aload_n hx hb dX12_step_108 rfl (lv_at hl 1 rfl) ?_
            refine lv_bipush (v := 13) hx hb dX12_step_109 (by decide) ?_
            refine lv_iload_n hx hb dX12_step_111 rfl (lv_at hl 0 rfl) ?_
            obtain ⟨o_13, hq, hf⟩ := bd_e hf
            refine mx_callV (As := [.int 13, .int o_12]) (rest := []) (wr := []) (d_X12_happens E l N h a_g a_kept a_tape a_written a_asked a_there a_counts a_lasts a_cames g kept isKept tape taped spot written writtenMany asked askedMany there counts lasts cames 13 o_12  o_13 hq) B w [0, 1, 2, 3, 4, 5, 6, 7, 8, 9] [] rfl rfl (by decide) (by decide) (by decide) 0 rfl rfl cv_X12_happens kw_1373 2 (by decide +kernel) ⟨Nat.le_of_ble_eq_true rfl, Nat.le_of_ble_eq_true rfl⟩ rfl hl.1 rfl (Nat.le_of_ble_eq_true rfl) dX12_step_112 rfl rfl ⟨Nat.zero_le _, Nat.zero_le _⟩ (fun v w' H locs hpo w => ?_)
            clear hq
            obtain ⟨rfl, rfl⟩ := hpo
            have w : mW E A s [(h, .inr (11, [.ref a_g, .ref a_kept, .int isKept, .ref a_tape, .int taped, .int spot, .ref a_written, .int writtenMany, .ref a_asked, .int askedMany, .ref a_there, .ref a_counts, .ref a_lasts, .ref a_cames])), (a_g, .inl (E.2.1, 8787, .inl o_13)), (a_kept, .inl (E.2.1, 8787, .inl kept)), (a_tape, .inl (E.2.2.1, 60, .inl tape)), (a_written, .inl (E.2.1, 40, .inl written)), (a_asked, .inl (E.2.1, 60, .inl asked)), (a_there, .inl (E.2.1, 12, .inl there)), (a_counts, .inl (E.2.1, 12, .inl counts)), (a_lasts, .inl (E.2.1, 12, .inl lasts)), (a_cames, .inl (E.2.1, 12, .inl cames))] H locs := w
            refine lv_aload_n hx hb dX12_step_115 rfl (lv_at hl 1 rfl) ?_
            refine mx_get B w 0 fl_X12_9 rfl rfl dX12_step_116 ?_
            refine lv_bipush (v := 33) hx hb dX12_step_119 (by decide) ?_
            refine lv_dup2_11 hx hb dX12_step_121 rfl rfl ?_
            obtain ⟨hin, hf⟩ := ld_e hf
            refine mx_iald B w 1 rfl hin dX12_step_122 (fun v_14 ev => ?_)
            have hf := hf _ ev; clear ev
            refine lv_iconst (v := 1) hx hb dX12_step_123 (by decide) ?_
            refine lv_iadd hx hb dX12_step_124 ?_
            obtain ⟨hin, hf⟩ := sto_e hf
            refine mx_iast B w 1 rfl hin dX12_step_125 (fun g_15 H locs ev w => ?_)
            have hf := hf _ ev; clear ev
            have w : mW E A s [(h, .inr (11, [.ref a_g, .ref a_kept, .int isKept, .ref a_tape, .int taped, .int spot, .ref a_written, .int writtenMany, .ref a_asked, .int askedMany, .ref a_there, .ref a_counts, .ref a_lasts, .ref a_cames])), (a_g, .inl (E.2.1, 8787, .inl g_15)), (a_kept, .inl (E.2.1, 8787, .inl kept)), (a_tape, .inl (E.2.2.1, 60, .inl tape)), (a_written, .inl (E.2.1, 40, .inl written)), (a_asked, .inl (E.2.1, 60, .inl asked)), (a_there, .inl (E.2.1, 12, .inl there)), (a_counts, .inl (E.2.1, 12, .inl counts)), (a_lasts, .inl (E.2.1, 12, .inl lasts)), (a_cames, .inl (E.2.1, 12, .inl cames))] H locs := w
            refine lv_aload_n hx hb dX12_step_126 rfl (lv_at hl 1 rfl) ?_
            refine lv_iload_n hx hb dX12_step_127 rfl (lv_at hl 2 rfl) ?_
            refine lv_bipush (v := 99) hx hb dX12_step_128 (by decide) ?_
            obtain ⟨o_16, hq, hf⟩ := bd_e hf
            refine mx_callV (As := [.int x2, .int 99]) (rest := []) (wr := []) (d_X12_fails E l N h a_g a_kept a_tape a_written a_asked a_there a_counts a_lasts a_cames g_15 kept isKept tape taped spot written writtenMany asked askedMany there counts lasts cames x2 99  o_16 hq) B w [0, 1, 2, 3, 4, 5, 6, 7, 8, 9] [] rfl rfl (by decide) (by decide) (by decide) 0 rfl rfl cv_X12_fails kw_1394 2 (by decide +kernel) ⟨Nat.le_of_ble_eq_true rfl, Nat.le_of_ble_eq_true rfl⟩ rfl hl.1 rfl (Nat.le_of_ble_eq_true rfl) dX12_step_130 rfl rfl ⟨Nat.zero_le _, Nat.zero_le _⟩ (fun v w' H locs hpo w => ?_)
            clear hq
            obtain ⟨rfl, rfl⟩ := hpo
            have w : mW E A s [(h, .inr (11, [.ref a_g, .ref a_kept, .int isKept, .ref a_tape, .int taped, .int spot, .ref a_written, .int writtenMany, .ref a_asked, .int askedMany, .ref a_there, .ref a_counts, .ref a_lasts, .ref a_cames])), (a_g, .inl (E.2.1, 8787, .inl o_16.2)), (a_kept, .inl (E.2.1, 8787, .inl kept)), (a_tape, .inl (E.2.2.1, 60, .inl tape)), (a_written, .inl (E.2.1, 40, .inl written)), (a_asked, .inl (E.2.1, 60, .inl asked)), (a_there, .inl (E.2.1, 12, .inl there)), (a_counts, .inl (E.2.1, 12, .inl counts)), (a_lasts, .inl (E.2.1, 12, .inl lasts)), (a_cames, .inl (E.2.1, 12, .inl cames))] H locs := w
            refine lv_pop hx hb dX12_step_133 rfl ?_
            refine lv_goto (tgt := 46) hx hb dX12_step_134 (by decide) ?_
            exact hrec _ _ _ _ _ hf  w (lv_sub hl [1, 2] rfl)
noncomputable def F_X12_step (N : Nat)  (g : Nat → Int32) (x1 : Int32) : Option (Int32 × (Nat → Int32)) :=
  bd (F_X12_in x1 1 1000) (fun o_1 =>
  if (o_1 = 0 : Prop) then
  some ((-1001), g)
  else
  ld g 8787 8 (fun v_2 =>
  if ((v_2 + x1) ≤ 99999 : Prop) then
  ld g 8787 8 (fun v_3 =>
  sto g 8787 8 (v_3 + x1) (fun g_4 =>
  L_X12_step_46 N (fun g => ld g 8787 8 (fun v_17 =>
  some (v_17, g))) N 0 g_4))
  else
  some ((-1004), g)))
set_option maxHeartbeats 4000000 in
set_option maxRecDepth 100000 in
theorem d_X12_step (E : mE) (l : Launch) (N : Nat) (h : Nat) (a_g : Nat) (a_kept : Nat) (a_tape : Nat) (a_written : Nat) (a_asked : Nat) (a_there : Nat) (a_counts : Nat) (a_lasts : Nat) (a_cames : Nat)  (g : Nat → Int32) (kept : Nat → Int32) (isKept : Int32) (tape : Nat → Int32) (taped : Int32) (spot : Int32) (written : Nat → Int32) (writtenMany : Int32) (asked : Nat → Int32) (askedMany : Int32) (there : Nat → Int32) (counts : Nat → Int32) (lasts : Nat → Int32) (cames : Nat → Int32)  (x1 : Int32)  (o : Int32 × (Nat → Int32)) (hf : F_X12_step N g x1 = some o) : MX E l yX12_step cX12_step 4 (some .int) ({ frames := 6, cells := 0, slots := 0, locals := 137 } : Room) [.ref h, .int x1] [(h, .inr (11, [.ref a_g, .ref a_kept, .int isKept, .ref a_tape, .int taped, .int spot, .ref a_written, .int writtenMany, .ref a_asked, .int askedMany, .ref a_there, .ref a_counts, .ref a_lasts, .ref a_cames])), (a_g, .inl (E.2.1, 8787, .inl g)), (a_kept, .inl (E.2.1, 8787, .inl kept)), (a_tape, .inl (E.2.2.1, 60, .inl tape)), (a_written, .inl (E.2.1, 40, .inl written)), (a_asked, .inl (E.2.1, 60, .inl asked)), (a_there, .inl (E.2.1, 12, .inl there)), (a_counts, .inl (E.2.1, 12, .inl counts)), (a_lasts, .inl (E.2.1, 12, .inl lasts)), (a_cames, .inl (E.2.1, 12, .inl cames))] (po_X12_step E h a_g a_kept a_tape a_written a_asked a_there a_counts a_lasts a_cames g kept isKept tape taped spot written writtenMany asked askedMany there counts lasts cames o) := by
  refine mx_intro (by decide +kernel) (Nat.le_of_ble_eq_true rfl) ?_
  intro p e s m args below meth c A Q ls B w hl
  obtain ⟨hx, hb, hml, hown, hts⟩ := id B.1
  unfold F_X12_step at hf
  have hl : lv_has ls 4 [(0, .ref h), (1, .int x1)] := hl
  refine lv_iload_n hx hb dX12_step_0 rfl (lv_at hl 1 rfl) ?_
  refine lv_iconst (v := 1) hx hb dX12_step_1 (by decide) ?_
  refine lv_sipush (v := 1000) hx hb dX12_step_2 (by decide) ?_
  obtain ⟨o_1, hq, hf⟩ := bd_e hf
  refine mx_callS (As := [.int x1, .int 1, .int 1000]) (rest := []) (wr := [(h, .inr (11, [.ref a_g, .ref a_kept, .int isKept, .ref a_tape, .int taped, .int spot, .ref a_written, .int writtenMany, .ref a_asked, .int askedMany, .ref a_there, .ref a_counts, .ref a_lasts, .ref a_cames])), (a_g, .inl (E.2.1, 8787, .inl g)), (a_kept, .inl (E.2.1, 8787, .inl kept)), (a_tape, .inl (E.2.2.1, 60, .inl tape)), (a_written, .inl (E.2.1, 40, .inl written)), (a_asked, .inl (E.2.1, 60, .inl asked)), (a_there, .inl (E.2.1, 12, .inl there)), (a_counts, .inl (E.2.1, 12, .inl counts)), (a_lasts, .inl (E.2.1, 12, .inl lasts)), (a_cames, .inl (E.2.1, 12, .inl cames))]) (d_X12_in E l   x1 1 1000  o_1 hq) B w [] [0, 1, 2, 3, 4, 5, 6, 7, 8, 9] rfl rfl (by decide) (by decide) (by decide) cs_X12_in kw_1274 3 (by decide +kernel) ⟨Nat.le_of_ble_eq_true rfl, Nat.le_of_ble_eq_true rfl⟩ rfl hl.1 rfl (Nat.le_of_ble_eq_true rfl) dX12_step_5 rfl rfl ⟨Nat.zero_le _, Nat.zero_le _⟩ (fun v w' H locs hpo w => ?_)
  clear hq
  obtain ⟨rfl, rfl⟩ := hpo
  have w : mW E A s [(h, .inr (11, [.ref a_g, .ref a_kept, .int isKept, .ref a_tape, .int taped, .int spot, .ref a_written, .int writtenMany, .ref a_asked, .int askedMany, .ref a_there, .ref a_counts, .ref a_lasts, .ref a_cames])), (a_g, .inl (E.2.1, 8787, .inl g)), (a_kept, .inl (E.2.1, 8787, .inl kept)), (a_tape, .inl (E.2.2.1, 60, .inl tape)), (a_written, .inl (E.2.1, 40, .inl written)), (a_asked, .inl (E.2.1, 60, .inl asked)), (a_there, .inl (E.2.1, 12, .inl there)), (a_counts, .inl (E.2.1, 12, .inl counts)), (a_lasts, .inl (E.2.1, 12, .inl lasts)), (a_cames, .inl (E.2.1, 12, .inl cames))] H locs := w
  refine lv_if_ne (tgt := 15) hx hb dX12_step_8 (by decide) (fun hc => ?_) (fun hc => ?_)
  · have hf := it_f hc hf
    refine lv_aload_n hx hb dX12_step_15 rfl (lv_at hl 0 rfl) ?_
    refine mx_get B w 0 fl_X12_9 rfl rfl dX12_step_16 ?_
    refine lv_bipush (v := 8) hx hb dX12_step_19 (by decide) ?_
    obtain ⟨hin, hf⟩ := ld_e hf
    refine mx_iald B w 1 rfl hin dX12_step_21 (fun v_2 ev => ?_)
    have hf := hf _ ev; clear ev
    refine lv_iload_n hx hb dX12_step_22 rfl (lv_at hl 1 rfl) ?_
    refine lv_iadd hx hb dX12_step_23 ?_
    refine lv_ldc hx hb hown (hts _ kw_1393) dX12_step_24 ?_
    refine lv_icmp_le (tgt := 33) hx hb dX12_step_26 (by decide) (fun hc => ?_) (fun hc => ?_)
    · have hf := it_t hc hf
      refine lv_aload_n hx hb dX12_step_33 rfl (lv_at hl 0 rfl) ?_
      refine mx_get B w 0 fl_X12_9 rfl rfl dX12_step_34 ?_
      refine lv_bipush (v := 8) hx hb dX12_step_37 (by decide) ?_
      refine lv_dup2_11 hx hb dX12_step_39 rfl rfl ?_
      obtain ⟨hin, hf⟩ := ld_e hf
      refine mx_iald B w 1 rfl hin dX12_step_40 (fun v_3 ev => ?_)
      have hf := hf _ ev; clear ev
      refine lv_iload_n hx hb dX12_step_41 rfl (lv_at hl 1 rfl) ?_
      refine lv_iadd hx hb dX12_step_42 ?_
      obtain ⟨hin, hf⟩ := sto_e hf
      refine mx_iast B w 1 rfl hin dX12_step_43 (fun g_4 H locs ev w => ?_)
      have hf := hf _ ev; clear ev
      have w : mW E A s [(h, .inr (11, [.ref a_g, .ref a_kept, .int isKept, .ref a_tape, .int taped, .int spot, .ref a_written, .int writtenMany, .ref a_asked, .int askedMany, .ref a_there, .ref a_counts, .ref a_lasts, .ref a_cames])), (a_g, .inl (E.2.1, 8787, .inl g_4)), (a_kept, .inl (E.2.1, 8787, .inl kept)), (a_tape, .inl (E.2.2.1, 60, .inl tape)), (a_written, .inl (E.2.1, 40, .inl written)), (a_asked, .inl (E.2.1, 60, .inl asked)), (a_there, .inl (E.2.1, 12, .inl there)), (a_counts, .inl (E.2.1, 12, .inl counts)), (a_lasts, .inl (E.2.1, 12, .inl lasts)), (a_cames, .inl (E.2.1, 12, .inl cames))] H locs := w
      refine lv_iconst (v := 0) hx hb dX12_step_44 (by decide) ?_
      refine lv_istore_n (lv' := [(2, .int 0), (0, .ref h), (1, .int x1)]) hx hb dX12_step_45 rfl hl (by decide) rfl (fun ls hl => ?_)
      refine l_X12_step_46 B _  ?_ N _ _ _ _ _ hf  w (lv_sub hl [1, 0] rfl)
      · intro g H locs ls hf w hl
        refine lv_aload_n hx hb dX12_step_143 rfl (lv_at hl 0 rfl) ?_
        refine mx_get B w 0 fl_X12_9 rfl rfl dX12_step_144 ?_
        refine lv_bipush (v := 8) hx hb dX12_step_147 (by decide) ?_
        obtain ⟨hin, hf⟩ := ld_e hf
        refine mx_iald B w 1 rfl hin dX12_step_149 (fun v_17 ev => ?_)
        have hf := hf _ ev; clear ev
        cases hf
        exact mx_iret B w ⟨rfl, rfl⟩ dX12_step_150
    · have hf := it_f hc hf
      refine lv_sipush (v := (-1004)) hx hb dX12_step_29 (by decide) ?_
      cases hf
      exact mx_iret B w ⟨rfl, rfl⟩ dX12_step_32
  · have hf := it_t hc hf
    refine lv_sipush (v := (-1001)) hx hb dX12_step_11 (by decide) ?_
    cases hf
    exact mx_iret B w ⟨rfl, rfl⟩ dX12_step_14
-- X12_feed
def po_X12_feed (E : mE) (h : Nat) (a_g : Nat) (a_kept : Nat) (a_tape : Nat) (a_written : Nat) (a_asked : Nat) (a_there : Nat) (a_counts : Nat) (a_lasts : Nat) (a_cames : Nat)  (g : Nat → Int32) (kept : Nat → Int32) (isKept : Int32) (tape : Nat → Int32) (taped : Int32) (spot : Int32) (written : Nat → Int32) (writtenMany : Int32) (asked : Nat → Int32) (askedMany : Int32) (there : Nat → Int32) (counts : Nat → Int32) (lasts : Nat → Int32) (cames : Nat → Int32)  (o : Int32 × (Nat → Int32) × Int32) : Option Value → va_W → Prop := (fun (v : Option Value) (w' : va_W) => v = some (.int o.1) ∧ w' = [(h, .inr (11, [.ref a_g, .ref a_kept, .int isKept, .ref a_tape, .int o.2.2, .int spot, .ref a_written, .int writtenMany, .ref a_asked, .int askedMany, .ref a_there, .ref a_counts, .ref a_lasts, .ref a_cames])), (a_g, .inl (E.2.1, 8787, .inl g)), (a_kept, .inl (E.2.1, 8787, .inl kept)), (a_tape, .inl (E.2.2.1, 60, .inl o.2.1)), (a_written, .inl (E.2.1, 40, .inl written)), (a_asked, .inl (E.2.1, 60, .inl asked)), (a_there, .inl (E.2.1, 12, .inl there)), (a_counts, .inl (E.2.1, 12, .inl counts)), (a_lasts, .inl (E.2.1, 12, .inl lasts)), (a_cames, .inl (E.2.1, 12, .inl cames))])
noncomputable def J_X12_feed_21   (x1 : Int32) (tape : Nat → Int32) (taped : Int32) : Option (Int32 × (Nat → Int32) × Int32) :=
  if (taped = 60 : Prop) then
  some ((-1004), tape, taped)
  else
  sto tape 60 taped (vp_nar .byte x1.toInt8.toInt32) (fun tape_2 =>
  lt ((taped + 1)) (fun taped_3 =>
  some (taped_3, tape_2, taped_3)))
set_option maxHeartbeats 4000000 in
set_option maxRecDepth 100000 in
theorem j_X12_feed_21 {E : mE} {l : Launch} {p : Program} {e : Env} {s : State} {m : MethodId} {args : Array Value} {below : List Frame} {meth : Method} {c : Code} {A : Nat → Prop} {Q : State → Prop} {h : Nat} {a_g : Nat} {a_kept : Nat} {a_tape : Nat} {a_written : Nat} {a_asked : Nat} {a_there : Nat} {a_counts : Nat} {a_lasts : Nat} {a_cames : Nat}  {g : Nat → Int32} {kept : Nat → Int32} {isKept : Int32} {tape0 : Nat → Int32} {taped0 : Int32} {spot : Int32} {written : Nat → Int32} {writtenMany : Int32} {asked : Nat → Int32} {askedMany : Int32} {there : Nat → Int32} {counts : Nat → Int32} {lasts : Nat → Int32} {cames : Nat → Int32}  {o : Int32 × (Nat → Int32) × Int32} (B : mB E yX12_feed cX12_feed 2 (some .int) 0 0 (po_X12_feed E h a_g a_kept a_tape a_written a_asked a_there a_counts a_lasts a_cames g kept isKept tape0 taped0 spot written writtenMany asked askedMany there counts lasts cames o) p s m args below meth c A Q) {x1 : Int32} {tape : Nat → Int32} {taped : Int32}    {H : Heap} {locs : List Loc} {ls : Array Slot} (hf : J_X12_feed_21 x1 tape taped = some o)  (w : mW E A s [(h, .inr (11, [.ref a_g, .ref a_kept, .int isKept, .ref a_tape, .int taped, .int spot, .ref a_written, .int writtenMany, .ref a_asked, .int askedMany, .ref a_there, .ref a_counts, .ref a_lasts, .ref a_cames])), (a_g, .inl (E.2.1, 8787, .inl g)), (a_kept, .inl (E.2.1, 8787, .inl kept)), (a_tape, .inl (E.2.2.1, 60, .inl tape)), (a_written, .inl (E.2.1, 40, .inl written)), (a_asked, .inl (E.2.1, 60, .inl asked)), (a_there, .inl (E.2.1, 12, .inl there)), (a_counts, .inl (E.2.1, 12, .inl counts)), (a_lasts, .inl (E.2.1, 12, .inl lasts)), (a_cames, .inl (E.2.1, 12, .inl cames))] H locs) (hl : lv_has ls 2 [(0, .ref h), (1, .int x1)]) : W p l e ({ frames := 1, cells := 0, slots := 0, locals := 22 } : Room) s m args below meth c H locs 0 0 Q (F0 m 21 ls []) := by
  obtain ⟨hx, hb, hml, hown, hts⟩ := id B.1
  unfold J_X12_feed_21 at hf
  refine lv_aload_n hx hb dX12_feed_21 rfl (lv_at hl 0 rfl) ?_
  refine mx_get B w 0 fl_X12_54 rfl rfl dX12_feed_22 ?_
  refine lv_bipush (v := 60) hx hb dX12_feed_25 (by decide) ?_
  refine lv_icmp_ne (tgt := 34) hx hb dX12_feed_27 (by decide) (fun hc => ?_) (fun hc => ?_)
  · have hf := it_f hc hf
    refine lv_aload_n hx hb dX12_feed_34 rfl (lv_at hl 0 rfl) ?_
    refine mx_get B w 0 fl_X12_16 rfl rfl dX12_feed_35 ?_
    refine lv_aload_n hx hb dX12_feed_38 rfl (lv_at hl 0 rfl) ?_
    refine mx_get B w 0 fl_X12_54 rfl rfl dX12_feed_39 ?_
    refine lv_iload_n hx hb dX12_feed_42 rfl (lv_at hl 1 rfl) ?_
    refine lv_i2b (v := x1.toInt8.toInt32) hx hb dX12_feed_43 rfl ?_
    obtain ⟨hin, hf⟩ := sto_e hf
    refine mx_bast B w 3 rfl hin dX12_feed_44 (fun tape_2 H locs ev w => ?_)
    have hf := hf _ ev; clear ev
    have w : mW E A s [(h, .inr (11, [.ref a_g, .ref a_kept, .int isKept, .ref a_tape, .int taped, .int spot, .ref a_written, .int writtenMany, .ref a_asked, .int askedMany, .ref a_there, .ref a_counts, .ref a_lasts, .ref a_cames])), (a_g, .inl (E.2.1, 8787, .inl g)), (a_kept, .inl (E.2.1, 8787, .inl kept)), (a_tape, .inl (E.2.2.1, 60, .inl tape_2)), (a_written, .inl (E.2.1, 40, .inl written)), (a_asked, .inl (E.2.1, 60, .inl asked)), (a_there, .inl (E.2.1, 12, .inl there)), (a_counts, .inl (E.2.1, 12, .inl counts)), (a_lasts, .inl (E.2.1, 12, .inl lasts)), (a_cames, .inl (E.2.1, 12, .inl cames))] H locs := w
    refine lv_aload_n hx hb dX12_feed_45 rfl (lv_at hl 0 rfl) ?_
    refine lv_dup hx hb dX12_feed_46 rfl ?_
    refine mx_get B w 0 fl_X12_54 rfl rfl dX12_feed_47 ?_
    refine lv_iconst (v := 1) hx hb dX12_feed_50 (by decide) ?_
    refine lv_iadd hx hb dX12_feed_51 ?_
    refine mx_puti B w 0 fl_X12_54 fi_X12_4 rfl (Nat.le_of_ble_eq_true rfl) dX12_feed_52 (fun taped_3 H locs ev w => ?_)
    have hf := lt_n ev hf; clear ev
    have w : mW E A s [(h, .inr (11, [.ref a_g, .ref a_kept, .int isKept, .ref a_tape, .int taped_3, .int spot, .ref a_written, .int writtenMany, .ref a_asked, .int askedMany, .ref a_there, .ref a_counts, .ref a_lasts, .ref a_cames])), (a_g, .inl (E.2.1, 8787, .inl g)), (a_kept, .inl (E.2.1, 8787, .inl kept)), (a_tape, .inl (E.2.2.1, 60, .inl tape_2)), (a_written, .inl (E.2.1, 40, .inl written)), (a_asked, .inl (E.2.1, 60, .inl asked)), (a_there, .inl (E.2.1, 12, .inl there)), (a_counts, .inl (E.2.1, 12, .inl counts)), (a_lasts, .inl (E.2.1, 12, .inl lasts)), (a_cames, .inl (E.2.1, 12, .inl cames))] H locs := w
    refine lv_aload_n hx hb dX12_feed_55 rfl (lv_at hl 0 rfl) ?_
    refine mx_get B w 0 fl_X12_54 rfl rfl dX12_feed_56 ?_
    cases hf
    exact mx_iret B w ⟨rfl, rfl⟩ dX12_feed_59
  · have hf := it_t hc hf
    refine lv_sipush (v := (-1004)) hx hb dX12_feed_30 (by decide) ?_
    cases hf
    exact mx_iret B w ⟨rfl, rfl⟩ dX12_feed_33
noncomputable def F_X12_feed  (tape : Nat → Int32) (taped : Int32) (x1 : Int32) : Option (Int32 × (Nat → Int32) × Int32) :=
  bd (F_X12_in x1 97 122) (fun o_1 =>
  if (o_1 = 0 : Prop) then
  if (x1 = 32 : Prop) then
  J_X12_feed_21 x1 tape taped
  else
  some ((-1001), tape, taped)
  else
  J_X12_feed_21 x1 tape taped)
set_option maxHeartbeats 4000000 in
set_option maxRecDepth 100000 in
theorem d_X12_feed (E : mE) (l : Launch) (h : Nat) (a_g : Nat) (a_kept : Nat) (a_tape : Nat) (a_written : Nat) (a_asked : Nat) (a_there : Nat) (a_counts : Nat) (a_lasts : Nat) (a_cames : Nat)  (g : Nat → Int32) (kept : Nat → Int32) (isKept : Int32) (tape : Nat → Int32) (taped : Int32) (spot : Int32) (written : Nat → Int32) (writtenMany : Int32) (asked : Nat → Int32) (askedMany : Int32) (there : Nat → Int32) (counts : Nat → Int32) (lasts : Nat → Int32) (cames : Nat → Int32)  (x1 : Int32)  (o : Int32 × (Nat → Int32) × Int32) (hf : F_X12_feed tape taped x1 = some o) : MX E l yX12_feed cX12_feed 2 (some .int) ({ frames := 1, cells := 0, slots := 0, locals := 22 } : Room) [.ref h, .int x1] [(h, .inr (11, [.ref a_g, .ref a_kept, .int isKept, .ref a_tape, .int taped, .int spot, .ref a_written, .int writtenMany, .ref a_asked, .int askedMany, .ref a_there, .ref a_counts, .ref a_lasts, .ref a_cames])), (a_g, .inl (E.2.1, 8787, .inl g)), (a_kept, .inl (E.2.1, 8787, .inl kept)), (a_tape, .inl (E.2.2.1, 60, .inl tape)), (a_written, .inl (E.2.1, 40, .inl written)), (a_asked, .inl (E.2.1, 60, .inl asked)), (a_there, .inl (E.2.1, 12, .inl there)), (a_counts, .inl (E.2.1, 12, .inl counts)), (a_lasts, .inl (E.2.1, 12, .inl lasts)), (a_cames, .inl (E.2.1, 12, .inl cames))] (po_X12_feed E h a_g a_kept a_tape a_written a_asked a_there a_counts a_lasts a_cames g kept isKept tape taped spot written writtenMany asked askedMany there counts lasts cames o) := by
  refine mx_intro (by decide +kernel) (Nat.le_of_ble_eq_true rfl) ?_
  intro p e s m args below meth c A Q ls B w hl
  obtain ⟨hx, hb, hml, hown, hts⟩ := id B.1
  unfold F_X12_feed at hf
  have hl : lv_has ls 2 [(0, .ref h), (1, .int x1)] := hl
  refine lv_iload_n hx hb dX12_feed_0 rfl (lv_at hl 1 rfl) ?_
  refine lv_bipush (v := 97) hx hb dX12_feed_1 (by decide) ?_
  refine lv_bipush (v := 122) hx hb dX12_feed_3 (by decide) ?_
  obtain ⟨o_1, hq, hf⟩ := bd_e hf
  refine mx_callS (As := [.int x1, .int 97, .int 122]) (rest := []) (wr := [(h, .inr (11, [.ref a_g, .ref a_kept, .int isKept, .ref a_tape, .int taped, .int spot, .ref a_written, .int writtenMany, .ref a_asked, .int askedMany, .ref a_there, .ref a_counts, .ref a_lasts, .ref a_cames])), (a_g, .inl (E.2.1, 8787, .inl g)), (a_kept, .inl (E.2.1, 8787, .inl kept)), (a_tape, .inl (E.2.2.1, 60, .inl tape)), (a_written, .inl (E.2.1, 40, .inl written)), (a_asked, .inl (E.2.1, 60, .inl asked)), (a_there, .inl (E.2.1, 12, .inl there)), (a_counts, .inl (E.2.1, 12, .inl counts)), (a_lasts, .inl (E.2.1, 12, .inl lasts)), (a_cames, .inl (E.2.1, 12, .inl cames))]) (d_X12_in E l   x1 97 122  o_1 hq) B w [] [0, 1, 2, 3, 4, 5, 6, 7, 8, 9] rfl rfl (by decide) (by decide) (by decide) cs_X12_in kw_1274 3 (by decide +kernel) ⟨Nat.le_of_ble_eq_true rfl, Nat.le_of_ble_eq_true rfl⟩ rfl hl.1 rfl (Nat.le_of_ble_eq_true rfl) dX12_feed_5 rfl rfl ⟨Nat.zero_le _, Nat.zero_le _⟩ (fun v w' H locs hpo w => ?_)
  clear hq
  obtain ⟨rfl, rfl⟩ := hpo
  have w : mW E A s [(h, .inr (11, [.ref a_g, .ref a_kept, .int isKept, .ref a_tape, .int taped, .int spot, .ref a_written, .int writtenMany, .ref a_asked, .int askedMany, .ref a_there, .ref a_counts, .ref a_lasts, .ref a_cames])), (a_g, .inl (E.2.1, 8787, .inl g)), (a_kept, .inl (E.2.1, 8787, .inl kept)), (a_tape, .inl (E.2.2.1, 60, .inl tape)), (a_written, .inl (E.2.1, 40, .inl written)), (a_asked, .inl (E.2.1, 60, .inl asked)), (a_there, .inl (E.2.1, 12, .inl there)), (a_counts, .inl (E.2.1, 12, .inl counts)), (a_lasts, .inl (E.2.1, 12, .inl lasts)), (a_cames, .inl (E.2.1, 12, .inl cames))] H locs := w
  refine lv_if_ne (tgt := 21) hx hb dX12_feed_8 (by decide) (fun hc => ?_) (fun hc => ?_)
  · have hf := it_f hc hf
    exact j_X12_feed_21 B   hf  w (lv_sub hl [0, 1] rfl)
  · have hf := it_t hc hf
    refine lv_iload_n hx hb dX12_feed_11 rfl (lv_at hl 1 rfl) ?_
    refine lv_bipush (v := 32) hx hb dX12_feed_12 (by decide) ?_
    refine lv_icmp_eq (tgt := 21) hx hb dX12_feed_14 (by decide) (fun hc => ?_) (fun hc => ?_)
    · have hf := it_t hc hf
      exact j_X12_feed_21 B   hf  w (lv_sub hl [0, 1] rfl)
    · have hf := it_f hc hf
      refine lv_sipush (v := (-1001)) hx hb dX12_feed_17 (by decide) ?_
      cases hf
      exact mx_iret B w ⟨rfl, rfl⟩ dX12_feed_20
-- X12_isAsker
def po_X12_isAsker (E : mE)     (o : Int32) : Option Value → va_W → Prop := (fun (v : Option Value) (w' : va_W) => v = some (.int o) ∧ w' = [])
noncomputable def F_X12_isAsker   (x0 : Int32) : Option (Int32) :=
  bd (F_X12_in x0 0 15) (fun o_1 =>
  ck (o_1 = 0 ∨ o_1 = 1) (some (o_1)))
set_option maxHeartbeats 4000000 in
set_option maxRecDepth 100000 in
theorem d_X12_isAsker (E : mE) (l : Launch)     (x0 : Int32)  (o : Int32) (hf : F_X12_isAsker x0 = some o) : MX E l yX12_isAsker cX12_isAsker 1 (some .boolean) ({ frames := 1, cells := 0, slots := 0, locals := 22 } : Room) [.int x0] [] (po_X12_isAsker E o) := by
  refine mx_intro (by decide +kernel) (Nat.le_of_ble_eq_true rfl) ?_
  intro p e s m args below meth c A Q ls B w hl
  obtain ⟨hx, hb, hml, hown, hts⟩ := id B.1
  unfold F_X12_isAsker at hf
  have hl : lv_has ls 1 [(0, .int x0)] := hl
  refine lv_iload_n hx hb dX12_isAsker_0 rfl (lv_at hl 0 rfl) ?_
  refine lv_iconst (v := 0) hx hb dX12_isAsker_1 (by decide) ?_
  refine lv_bipush (v := 15) hx hb dX12_isAsker_2 (by decide) ?_
  obtain ⟨o_1, hq, hf⟩ := bd_e hf
  refine mx_callS (As := [.int x0, .int 0, .int 15]) (rest := []) (wr := []) (d_X12_in E l   x0 0 15  o_1 hq) B w [] [] rfl rfl (by decide) (by decide) (by decide) cs_X12_in kw_1274 3 (by decide +kernel) ⟨Nat.le_of_ble_eq_true rfl, Nat.le_of_ble_eq_true rfl⟩ rfl hl.1 rfl (Nat.le_of_ble_eq_true rfl) dX12_isAsker_4 rfl rfl ⟨Nat.zero_le _, Nat.zero_le _⟩ (fun v w' H locs hpo w => ?_)
  clear hq
  obtain ⟨rfl, rfl⟩ := hpo
  obtain ⟨hz, hf⟩ := ck_e hf
  cases hf
  exact mx_zret B w (nar_z hz) ⟨rfl, rfl⟩ dX12_isAsker_7
-- X12_keyAt
def po_X12_keyAt (E : mE) (h : Nat) (a_g : Nat) (a_kept : Nat) (a_tape : Nat) (a_written : Nat) (a_asked : Nat) (a_there : Nat) (a_counts : Nat) (a_lasts : Nat) (a_cames : Nat)  (g : Nat → Int32) (kept : Nat → Int32) (isKept : Int32) (tape : Nat → Int32) (taped : Int32) (spot : Int32) (written : Nat → Int32) (writtenMany : Int32) (asked : Nat → Int32) (askedMany : Int32) (there : Nat → Int32) (counts : Nat → Int32) (lasts : Nat → Int32) (cames : Nat → Int32)  (o : Int32 × Int32) : Option Value → va_W → Prop := (fun (v : Option Value) (w' : va_W) => v = some (.int o.1) ∧ w' = [(h, .inr (11, [.ref a_g, .ref a_kept, .int isKept, .ref a_tape, .int taped, .int o.2, .ref a_written, .int writtenMany, .ref a_asked, .int askedMany, .ref a_there, .ref a_counts, .ref a_lasts, .ref a_cames])), (a_g, .inl (E.2.1, 8787, .inl g)), (a_kept, .inl (E.2.1, 8787, .inl kept)), (a_tape, .inl (E.2.2.1, 60, .inl tape)), (a_written, .inl (E.2.1, 40, .inl written)), (a_asked, .inl (E.2.1, 60, .inl asked)), (a_there, .inl (E.2.1, 12, .inl there)), (a_counts, .inl (E.2.1, 12, .inl counts)), (a_lasts, .inl (E.2.1, 12, .inl lasts)), (a_cames, .inl (E.2.1, 12, .inl cames))])
noncomputable def K_X12_keyAt_7 (N : Nat)  (rec : Int32 → Int32 → Option (Int32 × Int32)) (k81 : Int32 → Int32 → Option (Int32 × Int32)) (x1 : Int32) (tape : Nat → Int32) (taped : Int32) (x2 : Int32) (spot : Int32) : Option (Int32 × Int32) :=
  if (taped ≤ spot : Prop) then
  k81 x2 spot
  else
  ld tape 60 spot (fun v_2 =>
  bd (F_X12_in v_2 97 122) (fun o_3 =>
  if (o_3 = 0 : Prop) then
  k81 x2 spot
  else
  if (6 ≤ (spot - x1) : Prop) then
  k81 x2 spot
  else
  ld tape 60 spot (fun v_4 =>
  lt ((((x2 * 27) + v_4) - 97) + 1) (fun x2_5 =>
  lt ((spot + 1)) (fun spot_6 =>
  rec x2_5 spot_6)))))
noncomputable def L_X12_keyAt_7 (N : Nat)  (k81 : Int32 → Int32 → Option (Int32 × Int32)) (x1 : Int32) (tape : Nat → Int32) (taped : Int32) (n : Nat) : Int32 → Int32 → Option (Int32 × Int32) :=
  Nat.rec (motive := fun _ => Int32 → Int32 → Option (Int32 × Int32)) (fun _ _ => none) (fun _ rec => K_X12_keyAt_7 N rec k81 x1 tape taped) n
set_option maxHeartbeats 4000000 in
set_option maxRecDepth 100000 in
theorem l_X12_keyAt_7 {E : mE} {l : Launch} {p : Program} {e : Env} {s : State} {m : MethodId} {args : Array Value} {below : List Frame} {meth : Method} {c : Code} {A : Nat → Prop} {Q : State → Prop} {N : Nat} {h : Nat} {a_g : Nat} {a_kept : Nat} {a_tape : Nat} {a_written : Nat} {a_asked : Nat} {a_there : Nat} {a_counts : Nat} {a_lasts : Nat} {a_cames : Nat}  {g : Nat → Int32} {kept : Nat → Int32} {isKept : Int32} {tape : Nat → Int32} {taped : Int32} {spot0 : Int32} {written : Nat → Int32} {writtenMany : Int32} {asked : Nat → Int32} {askedMany : Int32} {there : Nat → Int32} {counts : Nat → Int32} {lasts : Nat → Int32} {cames : Nat → Int32}  {o : Int32 × Int32} (B : mB E yX12_keyAt cX12_keyAt 3 (some .int) 0 0 (po_X12_keyAt E h a_g a_kept a_tape a_written a_asked a_there a_counts a_lasts a_cames g kept isKept tape taped spot0 written writtenMany asked askedMany there counts lasts cames o) p s m args below meth c A Q)   {x1 : Int32} (k81 : Int32 → Int32 → Option (Int32 × Int32))  (hk81 : ∀ (x2 : Int32) (spot : Int32)  (H : Heap) (locs : List Loc) (ls : Array Slot), k81 x2 spot = some o → mW E A s [(h, .inr (11, [.ref a_g, .ref a_kept, .int isKept, .ref a_tape, .int taped, .int spot, .ref a_written, .int writtenMany, .ref a_asked, .int askedMany, .ref a_there, .ref a_counts, .ref a_lasts, .ref a_cames])), (a_g, .inl (E.2.1, 8787, .inl g)), (a_kept, .inl (E.2.1, 8787, .inl kept)), (a_tape, .inl (E.2.2.1, 60, .inl tape)), (a_written, .inl (E.2.1, 40, .inl written)), (a_asked, .inl (E.2.1, 60, .inl asked)), (a_there, .inl (E.2.1, 12, .inl there)), (a_counts, .inl (E.2.1, 12, .inl counts)), (a_lasts, .inl (E.2.1, 12, .inl lasts)), (a_cames, .inl (E.2.1, 12, .inl cames))] H locs → lv_has ls 3 [(2, .int x2)] → W p l e ({ frames := 1, cells := 0, slots := 0, locals := 22 } : Room) s m args below meth c H locs 0 0 Q (F0 m 81 ls [])) : ∀ n : Nat, ∀ (x2 : Int32) (spot : Int32)  (H : Heap) (locs : List Loc) (ls : Array Slot), L_X12_keyAt_7 N k81 x1 tape taped n x2 spot = some o → mW E A s [(h, .inr (11, [.ref a_g, .ref a_kept, .int isKept, .ref a_tape, .int taped, .int spot, .ref a_written, .int writtenMany, .ref a_asked, .int askedMany, .ref a_there, .ref a_counts, .ref a_lasts, .ref a_cames])), (a_g, .inl (E.2.1, 8787, .inl g)), (a_kept, .inl (E.2.1, 8787, .inl kept)), (a_tape, .inl (E.2.2.1, 60, .inl tape)), (a_written, .inl (E.2.1, 40, .inl written)), (a_asked, .inl (E.2.1, 60, .inl asked)), (a_there, .inl (E.2.1, 12, .inl there)), (a_counts, .inl (E.2.1, 12, .inl counts)), (a_lasts, .inl (E.2.1, 12, .inl lasts)), (a_cames, .inl (E.2.1, 12, .inl cames))] H locs → lv_has ls 3 [(0, .ref h), (1, .int x1), (2, .int x2)] → W p l e ({ frames := 1, cells := 0, slots := 0, locals := 22 } : Room) s m args below meth c H locs 0 0 Q (F0 m 7 ls []) := by
  obtain ⟨hx, hb, hml, hown, hts⟩ := id B.1
  intro n
  induction n with
  | zero =>
    intro x2 spot H locs ls hf w hl
    exact nomatch hf
  | succ n hrec =>
    intro x2 spot H locs ls hf w hl
    have hf : K_X12_keyAt_7 N (L_X12_keyAt_7 N k81 x1 tape taped n) k81 x1 tape taped x2 spot = some o := hf
    unfold K_X12_keyAt_7 at hf
    refine lv_aload_n hx hb dX12_keyAt_7 rfl (lv_at hl 0 rfl) ?_
    refine mx_get B w 0 fl_X12_50 rfl rfl dX12_keyAt_8 ?_
    refine lv_aload_n hx hb dX12_keyAt_11 rfl (lv_at hl 0 rfl) ?_
    refine mx_get B w 0 fl_X12_54 rfl rfl dX12_keyAt_12 ?_
    refine lv_icmp_ge (tgt := 81) hx hb dX12_keyAt_15 (by decide) (fun hc => ?_) (fun hc => ?_)
    · have hf := it_t hc hf
      exact hk81 _ _ _ _ _ hf  w (lv_sub hl [2] rfl)
    · have hf := it_f hc hf
      refine lv_aload_n hx hb dX12_keyAt_18 rfl (lv_at hl 0 rfl) ?_
      refine mx_get B w 0 fl_X12_16 rfl rfl dX12_keyAt_19 ?_
      refine lv_aload_n hx hb dX12_keyAt_22 rfl (lv_at hl 0 rfl) ?_
      refine mx_get B w 0 fl_X12_50 rfl rfl dX12_keyAt_23 ?_
      obtain ⟨hin, hf⟩ := ld_e hf
      refine mx_bald B w 3 rfl hin dX12_keyAt_26 (fun v_2 ev => ?_)
      have hf := hf _ ev; clear ev
      refine lv_bipush (v := 97) hx hb dX12_keyAt_27 (by decide) ?_
      refine lv_bipush (v := 122) hx hb dX12_keyAt_29 (by decide) ?_
      obtain ⟨o_3, hq, hf⟩ := bd_e hf
      refine mx_callS (As := [.int v_2, .int 97, .int 122]) (rest := []) (wr := [(h, .inr (11, [.ref a_g, .ref a_kept, .int isKept, .ref a_tape, .int taped, .int spot, .ref a_written, .int writtenMany, .ref a_asked, .int askedMany, .ref a_there, .ref a_counts, .ref a_lasts, .ref a_cames])), (a_g, .inl (E.2.1, 8787, .inl g)), (a_kept, .inl (E.2.1, 8787, .inl kept)), (a_tape, .inl (E.2.2.1, 60, .inl tape)), (a_written, .inl (E.2.1, 40, .inl written)), (a_asked, .inl (E.2.1, 60, .inl asked)), (a_there, .inl (E.2.1, 12, .inl there)), (a_counts, .inl (E.2.1, 12, .inl counts)), (a_lasts, .inl (E.2.1, 12, .inl lasts)), (a_cames, .inl (E.2.1, 12, .inl cames))]) (d_X12_in E l   v_2 97 122  o_3 hq) B w [] [0, 1, 2, 3, 4, 5, 6, 7, 8, 9] rfl rfl (by decide) (by decide) (by decide) cs_X12_in kw_1274 3 (by decide +kernel) ⟨Nat.le_of_ble_eq_true rfl, Nat.le_of_ble_eq_true rfl⟩ rfl hl.1 rfl (Nat.le_of_ble_eq_true rfl) dX12_keyAt_31 rfl rfl ⟨Nat.zero_le _, Nat.zero_le _⟩ (fun v w' H locs hpo w => ?_)
      clear hq
      obtain ⟨rfl, rfl⟩ := hpo
      have w : mW E A s [(h, .inr (11, [.ref a_g, .ref a_kept, .int isKept, .ref a_tape, .int taped, .int spot, .ref a_written, .int writtenMany, .ref a_asked, .int askedMany, .ref a_there, .ref a_counts, .ref a_lasts, .ref a_cames])), (a_g, .inl (E.2.1, 8787, .inl g)), (a_kept, .inl (E.2.1, 8787, .inl kept)), (a_tape, .inl (E.2.2.1, 60, .inl tape)), (a_written, .inl (E.2.1, 40, .inl written)), (a_asked, .inl (E.2.1, 60, .inl asked)), (a_there, .inl (E.2.1, 12, .inl there)), (a_counts, .inl (E.2.1, 12, .inl counts)), (a_lasts, .inl (E.2.1, 12, .inl lasts)), (a_cames, .inl (E.2.1, 12, .inl cames))] H locs := w
      refine lv_if_eq (tgt := 81) hx hb dX12_keyAt_34 (by decide) (fun hc => ?_) (fun hc => ?_)
      · have hf := it_t hc hf
        exact hk81 _ _ _ _ _ hf  w (lv_sub hl [2] rfl)
      · have hf := it_f hc hf
        refine lv_aload_n hx hb dX12_keyAt_37 rfl (lv_at hl 0 rfl) ?_
        refine mx_get B w 0 fl_X12_50 rfl rfl dX12_keyAt_38 ?_
        refine lv_iload_n hx hb dX12_keyAt_41 rfl (lv_at hl 1 rfl) ?_
        refine lv_isub hx hb dX12_keyAt_42 ?_
        refine lv_bipush (v := 6) hx hb dX12_keyAt_43 (by decide) ?_
        refine lv_icmp_ge (tgt := 81) hx hb dX12_keyAt_45 (by decide) (fun hc => ?_) (fun hc => ?_)
        · have hf := it_t hc hf
          exact hk81 _ _ _ _ _ hf  w (lv_sub hl [2] rfl)
        · have hf := it_f hc hf
          refine lv_iload_n hx hb dX12_keyAt_48 rfl (lv_at hl 2 rfl) ?_
          refine lv_bipush (v := 27) hx hb dX12_keyAt_49 (by decide) ?_
          refine lv_imul hx hb dX12_keyAt_51 ?_
          refine lv_aload_n hx hb dX12_keyAt_52 rfl (lv_at hl 0 rfl) ?_
          refine mx_get B w 0 fl_X12_16 rfl rfl dX12_keyAt_53 ?_
          refine lv_aload_n hx hb dX12_keyAt_56 rfl (lv_at hl 0 rfl) ?_
          refine mx_get B w 0 fl_X12_50 rfl rfl dX12_keyAt_57 ?_
          obtain ⟨hin, hf⟩ := ld_e hf
          refine mx_bald B w 3 rfl hin dX12_keyAt_60 (fun v_4 ev => ?_)
          have hf := hf _ ev; clear ev
          refine lv_iadd hx hb dX12_keyAt_61 ?_
          refine lv_bipush (v := 97) hx hb dX12_keyAt_62 (by decide) ?_
          refine lv_isub hx hb dX12_keyAt_64 ?_
          refine lv_iconst (v := 1) hx hb dX12_keyAt_65 (by decide) ?_
          refine lv_iadd hx hb dX12_keyAt_66 ?_
          refine lv_topi (fun x2_5 ev => ?_)
          have hf := lt_n ev hf; clear ev
          refine lv_istore_n (lv' := [(2, .int x2_5), (0, .ref h), (1, .int x1)]) hx hb dX12_keyAt_67 rfl hl (by decide) rfl (fun ls hl => ?_)
          refine lv_aload_n hx hb dX12_keyAt_68 rfl (lv_at hl 1 rfl) ?_
          refine lv_dup hx hb dX12_keyAt_69 rfl ?_
          refine mx_get B w 0 fl_X12_50 rfl rfl dX12_keyAt_70 ?_
          refine lv_iconst (v := 1) hx hb dX12_keyAt_73 (by decide) ?_
          refine lv_iadd hx hb dX12_keyAt_74 ?_
          refine mx_puti B w 0 fl_X12_50 fi_X12_5 rfl (Nat.le_of_ble_eq_true rfl) dX12_keyAt_75 (fun spot_6 H locs ev w => ?_)
          have hf := lt_n ev hf; clear ev
          have w : mW E A s [(h, .inr (11, [.ref a_g, .ref a_kept, .int isKept, .ref a_tape, .int taped, .int spot_6, .ref a_written, .int writtenMany, .ref a_asked, .int askedMany, .ref a_there, .ref a_counts, .ref a_lasts, .ref a_cames])), (a_g, .inl (E.2.1, 8787, .inl g)), (a_kept, .inl (E.2.1, 8787, .inl kept)), (a_tape, .inl (E.2.2.1, 60, .inl tape)), (a_written, .inl (E.2.1, 40, .inl written)), (a_asked, .inl (E.2.1, 60, .inl asked)), (a_there, .inl (E.2.1, 12, .inl there)), (a_counts, .inl (E.2.1, 12, .inl counts)), (a_lasts, .inl (E.2.1, 12, .inl lasts)), (a_cames, .inl (E.2.1, 12, .inl cames))] H locs := w
          refine lv_goto (tgt := 7) hx hb dX12_keyAt_78 (by decide) ?_
          exact hrec _ _ _ _ _ hf  w (lv_sub hl [1, 2, 0] rfl)
noncomputable def F_X12_keyAt (N : Nat)  (tape : Nat → Int32) (taped : Int32) (spot : Int32) (x1 : Int32) : Option (Int32 × Int32) :=
  lt (x1) (fun spot_1 =>
  L_X12_keyAt_7 N (fun x2 spot => some (x2, spot)) x1 tape taped N 0 spot_1)
set_option maxHeartbeats 4000000 in
set_option maxRecDepth 100000 in
theorem d_X12_keyAt (E : mE) (l : Launch) (N : Nat) (h : Nat) (a_g : Nat) (a_kept : Nat) (a_tape : Nat) (a_written : Nat) (a_asked : Nat) (a_there : Nat) (a_counts : Nat) (a_lasts : Nat) (a_cames : Nat)  (g : Nat → Int32) (kept : Nat → Int32) (isKept : Int32) (tape : Nat → Int32) (taped : Int32) (spot : Int32) (written : Nat → Int32) (writtenMany : Int32) (asked : Nat → Int32) (askedMany : Int32) (there : Nat → Int32) (counts : Nat → Int32) (lasts : Nat → Int32) (cames : Nat → Int32)  (x1 : Int32)  (o : Int32 × Int32) (hf : F_X12_keyAt N tape taped spot x1 = some o) : MX E l yX12_keyAt cX12_keyAt 3 (some .int) ({ frames := 1, cells := 0, slots := 0, locals := 22 } : Room) [.ref h, .int x1] [(h, .inr (11, [.ref a_g, .ref a_kept, .int isKept, .ref a_tape, .int taped, .int spot, .ref a_written, .int writtenMany, .ref a_asked, .int askedMany, .ref a_there, .ref a_counts, .ref a_lasts, .ref a_cames])), (a_g, .inl (E.2.1, 8787, .inl g)), (a_kept, .inl (E.2.1, 8787, .inl kept)), (a_tape, .inl (E.2.2.1, 60, .inl tape)), (a_written, .inl (E.2.1, 40, .inl written)), (a_asked, .inl (E.2.1, 60, .inl asked)), (a_there, .inl (E.2.1, 12, .inl there)), (a_counts, .inl (E.2.1, 12, .inl counts)), (a_lasts, .inl (E.2.1, 12, .inl lasts)), (a_cames, .inl (E.2.1, 12, .inl cames))] (po_X12_keyAt E h a_g a_kept a_tape a_written a_asked a_there a_counts a_lasts a_cames g kept isKept tape taped spot written writtenMany asked askedMany there counts lasts cames o) := by
  refine mx_intro (by decide +kernel) (Nat.le_of_ble_eq_true rfl) ?_
  intro p e s m args below meth c A Q ls B w hl
  obtain ⟨hx, hb, hml, hown, hts⟩ := id B.1
  unfold F_X12_keyAt at hf
  have hl : lv_has ls 3 [(0, .ref h), (1, .int x1)] := hl
  refine lv_aload_n hx hb dX12_keyAt_0 rfl (lv_at hl 0 rfl) ?_
  refine lv_iload_n hx hb dX12_keyAt_1 rfl (lv_at hl 1 rfl) ?_
  refine mx_puti B w 0 fl_X12_50 fi_X12_5 rfl (Nat.le_of_ble_eq_true rfl) dX12_keyAt_2 (fun spot_1 H locs ev w => ?_)
  have hf := lt_n ev hf; clear ev
  have w : mW E A s [(h, .inr (11, [.ref a_g, .ref a_kept, .int isKept, .ref a_tape, .int taped, .int spot_1, .ref a_written, .int writtenMany, .ref a_asked, .int askedMany, .ref a_there, .ref a_counts, .ref a_lasts, .ref a_cames])), (a_g, .inl (E.2.1, 8787, .inl g)), (a_kept, .inl (E.2.1, 8787, .inl kept)), (a_tape, .inl (E.2.2.1, 60, .inl tape)), (a_written, .inl (E.2.1, 40, .inl written)), (a_asked, .inl (E.2.1, 60, .inl asked)), (a_there, .inl (E.2.1, 12, .inl there)), (a_counts, .inl (E.2.1, 12, .inl counts)), (a_lasts, .inl (E.2.1, 12, .inl lasts)), (a_cames, .inl (E.2.1, 12, .inl cames))] H locs := w
  refine lv_iconst (v := 0) hx hb dX12_keyAt_5 (by decide) ?_
  refine lv_istore_n (lv' := [(2, .int 0), (0, .ref h), (1, .int x1)]) hx hb dX12_keyAt_6 rfl hl (by decide) rfl (fun ls hl => ?_)
  refine l_X12_keyAt_7 B _  ?_ N _ _ _ _ _ hf  w (lv_sub hl [1, 2, 0] rfl)
  · intro x2 spot H locs ls hf w hl
    refine lv_iload_n hx hb dX12_keyAt_81 rfl (lv_at hl 0 rfl) ?_
    cases hf
    exact mx_iret B w ⟨rfl, rfl⟩ dX12_keyAt_82
-- X12_takesKey
def po_X12_takesKey (E : mE) (h : Nat) (a_g : Nat) (a_kept : Nat) (a_tape : Nat) (a_written : Nat) (a_asked : Nat) (a_there : Nat) (a_counts : Nat) (a_lasts : Nat) (a_cames : Nat)  (g : Nat → Int32) (kept : Nat → Int32) (isKept : Int32) (tape : Nat → Int32) (taped : Int32) (spot : Int32) (written : Nat → Int32) (writtenMany : Int32) (asked : Nat → Int32) (askedMany : Int32) (there : Nat → Int32) (counts : Nat → Int32) (lasts : Nat → Int32) (cames : Nat → Int32)  (o : Int32 × Int32 × Int32) : Option Value → va_W → Prop := (fun (v : Option Value) (w' : va_W) => v = some (.int o.1) ∧ w' = [(h, .inr (11, [.ref a_g, .ref a_kept, .int isKept, .ref a_tape, .int o.2.1, .int o.2.2, .ref a_written, .int writtenMany, .ref a_asked, .int askedMany, .ref a_there, .ref a_counts, .ref a_lasts, .ref a_cames])), (a_g, .inl (E.2.1, 8787, .inl g)), (a_kept, .inl (E.2.1, 8787, .inl kept)), (a_tape, .inl (E.2.2.1, 60, .inl tape)), (a_written, .inl (E.2.1, 40, .inl written)), (a_asked, .inl (E.2.1, 60, .inl asked)), (a_there, .inl (E.2.1, 12, .inl there)), (a_counts, .inl (E.2.1, 12, .inl counts)), (a_lasts, .inl (E.2.1, 12, .inl lasts)), (a_cames, .inl (E.2.1, 12, .inl cames))])
noncomputable def J_X12_takesKey_22 (N : Nat)   (t0 : Int32) (x1 : Int32) (tape : Nat → Int32) (taped : Int32) (spot : Int32) : Option (Int32 × Int32 × Int32) :=
  lt (0) (fun taped_2 =>
  if (t0 = 0 : Prop) then
  some (0, taped_2, spot)
  else
  some (x1, taped_2, spot))
set_option maxHeartbeats 4000000 in
set_option maxRecDepth 100000 in
theorem j_X12_takesKey_22 {E : mE} {l : Launch} {p : Program} {e : Env} {s : State} {m : MethodId} {args : Array Value} {below : List Frame} {meth : Method} {c : Code} {A : Nat → Prop} {Q : State → Prop} {N : Nat} {h : Nat} {a_g : Nat} {a_kept : Nat} {a_tape : Nat} {a_written : Nat} {a_asked : Nat} {a_there : Nat} {a_counts : Nat} {a_lasts : Nat} {a_cames : Nat}  {g : Nat → Int32} {kept : Nat → Int32} {isKept : Int32} {tape : Nat → Int32} {taped0 : Int32} {spot0 : Int32} {written : Nat → Int32} {writtenMany : Int32} {asked : Nat → Int32} {askedMany : Int32} {there : Nat → Int32} {counts : Nat → Int32} {lasts : Nat → Int32} {cames : Nat → Int32}  {o : Int32 × Int32 × Int32} (B : mB E yX12_takesKey cX12_takesKey 3 (some .int) 0 0 (po_X12_takesKey E h a_g a_kept a_tape a_written a_asked a_there a_counts a_lasts a_cames g kept isKept tape taped0 spot0 written writtenMany asked askedMany there counts lasts cames o) p s m args below meth c A Q) {t0 : Int32} {x1 : Int32} {taped : Int32} {spot : Int32}    {H : Heap} {locs : List Loc} {ls : Array Slot} (hf : J_X12_takesKey_22 N t0 x1 tape taped spot = some o)  (w : mW E A s [(h, .inr (11, [.ref a_g, .ref a_kept, .int isKept, .ref a_tape, .int taped, .int spot, .ref a_written, .int writtenMany, .ref a_asked, .int askedMany, .ref a_there, .ref a_counts, .ref a_lasts, .ref a_cames])), (a_g, .inl (E.2.1, 8787, .inl g)), (a_kept, .inl (E.2.1, 8787, .inl kept)), (a_tape, .inl (E.2.2.1, 60, .inl tape)), (a_written, .inl (E.2.1, 40, .inl written)), (a_asked, .inl (E.2.1, 60, .inl asked)), (a_there, .inl (E.2.1, 12, .inl there)), (a_counts, .inl (E.2.1, 12, .inl counts)), (a_lasts, .inl (E.2.1, 12, .inl lasts)), (a_cames, .inl (E.2.1, 12, .inl cames))] H locs) (hl : lv_has ls 3 [(0, .ref h), (1, .int x1)]) : W p l e ({ frames := 2, cells := 0, slots := 0, locals := 44 } : Room) s m args below meth c H locs 0 0 Q (F0 m 22 ls [.int t0]) := by
  obtain ⟨hx, hb, hml, hown, hts⟩ := id B.1
  unfold J_X12_takesKey_22 at hf
  refine lv_istore_n (lv' := [(2, .int t0), (0, .ref h), (1, .int x1)]) hx hb dX12_takesKey_22 rfl hl (by decide) rfl (fun ls hl => ?_)
  refine lv_aload_n hx hb dX12_takesKey_23 rfl (lv_at hl 1 rfl) ?_
  refine lv_iconst (v := 0) hx hb dX12_takesKey_24 (by decide) ?_
  refine mx_puti B w 0 fl_X12_54 fi_X12_4 rfl (Nat.le_of_ble_eq_true rfl) dX12_takesKey_25 (fun taped_2 H locs ev w => ?_)
  have hf := lt_n ev hf; clear ev
  have w : mW E A s [(h, .inr (11, [.ref a_g, .ref a_kept, .int isKept, .ref a_tape, .int taped_2, .int spot, .ref a_written, .int writtenMany, .ref a_asked, .int askedMany, .ref a_there, .ref a_counts, .ref a_lasts, .ref a_cames])), (a_g, .inl (E.2.1, 8787, .inl g)), (a_kept, .inl (E.2.1, 8787, .inl kept)), (a_tape, .inl (E.2.2.1, 60, .inl tape)), (a_written, .inl (E.2.1, 40, .inl written)), (a_asked, .inl (E.2.1, 60, .inl asked)), (a_there, .inl (E.2.1, 12, .inl there)), (a_counts, .inl (E.2.1, 12, .inl counts)), (a_lasts, .inl (E.2.1, 12, .inl lasts)), (a_cames, .inl (E.2.1, 12, .inl cames))] H locs := w
  refine lv_iload_n hx hb dX12_takesKey_28 rfl (lv_at hl 0 rfl) ?_
  refine lv_if_eq (tgt := 36) hx hb dX12_takesKey_29 (by decide) (fun hc => ?_) (fun hc => ?_)
  · have hf := it_t hc hf
    refine lv_iconst (v := 0) hx hb dX12_takesKey_36 (by decide) ?_
    cases hf
    exact mx_iret B w ⟨rfl, rfl⟩ dX12_takesKey_37
  · have hf := it_f hc hf
    refine lv_iload_n hx hb dX12_takesKey_32 rfl (lv_at hl 2 rfl) ?_
    refine lv_goto (tgt := 37) hx hb dX12_takesKey_33 (by decide) ?_
    cases hf
    exact mx_iret B w ⟨rfl, rfl⟩ dX12_takesKey_37
noncomputable def F_X12_takesKey (N : Nat)  (tape : Nat → Int32) (taped : Int32) (spot : Int32)  : Option (Int32 × Int32 × Int32) :=
  bd (F_X12_keyAt N tape taped spot 0) (fun o_1 =>
  if (o_1.2 = taped : Prop) then
  J_X12_takesKey_22 N 1 o_1.1 tape taped o_1.2
  else
  J_X12_takesKey_22 N 0 o_1.1 tape taped o_1.2)
set_option maxHeartbeats 4000000 in
set_option maxRecDepth 100000 in
theorem d_X12_takesKey (E : mE) (l : Launch) (N : Nat) (h : Nat) (a_g : Nat) (a_kept : Nat) (a_tape : Nat) (a_written : Nat) (a_asked : Nat) (a_there : Nat) (a_counts : Nat) (a_lasts : Nat) (a_cames : Nat)  (g : Nat → Int32) (kept : Nat → Int32) (isKept : Int32) (tape : Nat → Int32) (taped : Int32) (spot : Int32) (written : Nat → Int32) (writtenMany : Int32) (asked : Nat → Int32) (askedMany : Int32) (there : Nat → Int32) (counts : Nat → Int32) (lasts : Nat → Int32) (cames : Nat → Int32)    (o : Int32 × Int32 × Int32) (hf : F_X12_takesKey N tape taped spot = some o) : MX E l yX12_takesKey cX12_takesKey 3 (some .int) ({ frames := 2, cells := 0, slots := 0, locals := 44 } : Room) [.ref h] [(h, .inr (11, [.ref a_g, .ref a_kept, .int isKept, .ref a_tape, .int taped, .int spot, .ref a_written, .int writtenMany, .ref a_asked, .int askedMany, .ref a_there, .ref a_counts, .ref a_lasts, .ref a_cames])), (a_g, .inl (E.2.1, 8787, .inl g)), (a_kept, .inl (E.2.1, 8787, .inl kept)), (a_tape, .inl (E.2.2.1, 60, .inl tape)), (a_written, .inl (E.2.1, 40, .inl written)), (a_asked, .inl (E.2.1, 60, .inl asked)), (a_there, .inl (E.2.1, 12, .inl there)), (a_counts, .inl (E.2.1, 12, .inl counts)), (a_lasts, .inl (E.2.1, 12, .inl lasts)), (a_cames, .inl (E.2.1, 12, .inl cames))] (po_X12_takesKey E h a_g a_kept a_tape a_written a_asked a_there a_counts a_lasts a_cames g kept isKept tape taped spot written writtenMany asked askedMany there counts lasts cames o) := by
  refine mx_intro (by decide +kernel) (Nat.le_of_ble_eq_true rfl) ?_
  intro p e s m args below meth c A Q ls B w hl
  obtain ⟨hx, hb, hml, hown, hts⟩ := id B.1
  unfold F_X12_takesKey at hf
  have hl : lv_has ls 3 [(0, .ref h)] := hl
  refine lv_aload_n hx hb dX12_takesKey_0 rfl (lv_at hl 0 rfl) ?_
  refine lv_iconst (v := 0) hx hb dX12_takesKey_1 (by decide) ?_
  obtain ⟨o_1, hq, hf⟩ := bd_e hf
  refine mx_callV (As := [.int 0]) (rest := []) (wr := []) (d_X12_keyAt E l N h a_g a_kept a_tape a_written a_asked a_there a_counts a_lasts a_cames g kept isKept tape taped spot written writtenMany asked askedMany there counts lasts cames 0  o_1 hq) B w [0, 1, 2, 3, 4, 5, 6, 7, 8, 9] [] rfl rfl (by decide) (by decide) (by decide) 0 rfl rfl cv_X12_keyAt kw_1285 1 (by decide +kernel) ⟨Nat.le_of_ble_eq_true rfl, Nat.le_of_ble_eq_true rfl⟩ rfl hl.1 rfl (Nat.le_of_ble_eq_true rfl) dX12_takesKey_2 rfl rfl ⟨Nat.zero_le _, Nat.zero_le _⟩ (fun v w' H locs hpo w => ?_)
  clear hq
  obtain ⟨rfl, rfl⟩ := hpo
  have w : mW E A s [(h, .inr (11, [.ref a_g, .ref a_kept, .int isKept, .ref a_tape, .int taped, .int o_1.2, .ref a_written, .int writtenMany, .ref a_asked, .int askedMany, .ref a_there, .ref a_counts, .ref a_lasts, .ref a_cames])), (a_g, .inl (E.2.1, 8787, .inl g)), (a_kept, .inl (E.2.1, 8787, .inl kept)), (a_tape, .inl (E.2.2.1, 60, .inl tape)), (a_written, .inl (E.2.1, 40, .inl written)), (a_asked, .inl (E.2.1, 60, .inl asked)), (a_there, .inl (E.2.1, 12, .inl there)), (a_counts, .inl (E.2.1, 12, .inl counts)), (a_lasts, .inl (E.2.1, 12, .inl lasts)), (a_cames, .inl (E.2.1, 12, .inl cames))] H locs := w
  refine lv_istore_n (lv' := [(1, .int o_1.1), (0, .ref h)]) hx hb dX12_takesKey_5 rfl hl (by decide) rfl (fun ls hl => ?_)
  refine lv_aload_n hx hb dX12_takesKey_6 rfl (lv_at hl 1 rfl) ?_
  refine mx_get B w 0 fl_X12_50 rfl rfl dX12_takesKey_7 ?_
  refine lv_aload_n hx hb dX12_takesKey_10 rfl (lv_at hl 1 rfl) ?_
  refine mx_get B w 0 fl_X12_54 rfl rfl dX12_takesKey_11 ?_
  refine lv_icmp_ne (tgt := 21) hx hb dX12_takesKey_14 (by decide) (fun hc => ?_) (fun hc => ?_)
  · have hf := it_f hc hf
    refine lv_iconst (v := 0) hx hb dX12_takesKey_21 (by decide) ?_
    exact j_X12_takesKey_22 B   hf  w (lv_sub hl [1, 0] rfl)
  · have hf := it_t hc hf
    refine lv_iconst (v := 1) hx hb dX12_takesKey_17 (by decide) ?_
    refine lv_goto (tgt := 22) hx hb dX12_takesKey_18 (by decide) ?_
    exact j_X12_takesKey_22 B   hf  w (lv_sub hl [1, 0] rfl)
-- X12_placeOf
def po_X12_placeOf (E : mE)     (o : Int32) : Option Value → va_W → Prop := (fun (v : Option Value) (w' : va_W) => v = some (.int o) ∧ w' = [])
noncomputable def F_X12_placeOf (N : Nat)   (x0 : Int32) (x1 : Int32) : Option (Int32) :=
  bd (F_X12_hashOf N x0) (fun o_1 =>
  some (irm (ush (o_1 * ((2 * x1) + 1)) (3 + (5 * x1))) 16))
set_option maxHeartbeats 4000000 in
set_option maxRecDepth 100000 in
theorem d_X12_placeOf (E : mE) (l : Launch) (N : Nat)     (x0 : Int32) (x1 : Int32)  (o : Int32) (hf : F_X12_placeOf N x0 x1 = some o) : MX E l yX12_placeOf cX12_placeOf 2 (some .int) ({ frames := 3, cells := 0, slots := 0, locals := 68 } : Room) [.int x0, .int x1] [] (po_X12_placeOf E o) := by
  refine mx_intro (by decide +kernel) (Nat.le_of_ble_eq_true rfl) ?_
  intro p e s m args below meth c A Q ls B w hl
  obtain ⟨hx, hb, hml, hown, hts⟩ := id B.1
  unfold F_X12_placeOf at hf
  have hl : lv_has ls 2 [(0, .int x0), (1, .int x1)] := hl
  refine lv_iload_n hx hb dX12_placeOf_0 rfl (lv_at hl 0 rfl) ?_
  obtain ⟨o_1, hq, hf⟩ := bd_e hf
  refine mx_callS (As := [.int x0]) (rest := []) (wr := []) (d_X12_hashOf E l N  x0  o_1 hq) B w [] [] rfl rfl (by decide) (by decide) (by decide) cs_X12_hashOf kw_1296 1 (by decide +kernel) ⟨Nat.le_of_ble_eq_true rfl, Nat.le_of_ble_eq_true rfl⟩ rfl hl.1 rfl (Nat.le_of_ble_eq_true rfl) dX12_placeOf_1 rfl rfl ⟨Nat.zero_le _, Nat.zero_le _⟩ (fun v w' H locs hpo w => ?_)
  clear hq
  obtain ⟨rfl, rfl⟩ := hpo
  refine lv_iconst (v := 2) hx hb dX12_placeOf_4 (by decide) ?_
  refine lv_iload_n hx hb dX12_placeOf_5 rfl (lv_at hl 1 rfl) ?_
  refine lv_imul hx hb dX12_placeOf_6 ?_
  refine lv_iconst (v := 1) hx hb dX12_placeOf_7 (by decide) ?_
  refine lv_iadd hx hb dX12_placeOf_8 ?_
  refine lv_imul hx hb dX12_placeOf_9 ?_
  refine lv_iconst (v := 3) hx hb dX12_placeOf_10 (by decide) ?_
  refine lv_iconst (v := 5) hx hb dX12_placeOf_11 (by decide) ?_
  refine lv_iload_n hx hb dX12_placeOf_12 rfl (lv_at hl 1 rfl) ?_
  refine lv_imul hx hb dX12_placeOf_13 ?_
  refine lv_iadd hx hb dX12_placeOf_14 ?_
  refine lv_iushr (v := ush (o_1 * ((2 * x1) + 1)) (3 + (5 * x1))) hx hb dX12_placeOf_15 rfl ?_
  refine lv_bipush (v := 16) hx hb dX12_placeOf_16 (by decide) ?_
  refine lv_irem hx hb dX12_placeOf_18 (by decide) ?_
  cases hf
  exact mx_iret B w ⟨rfl, rfl⟩ dX12_placeOf_19
-- X12_uses
def po_X12_uses (E : mE) (h : Nat) (a_g : Nat) (a_kept : Nat) (a_tape : Nat) (a_written : Nat) (a_asked : Nat) (a_there : Nat) (a_counts : Nat) (a_lasts : Nat) (a_cames : Nat)  (g : Nat → Int32) (kept : Nat → Int32) (isKept : Int32) (tape : Nat → Int32) (taped : Int32) (spot : Int32) (written : Nat → Int32) (writtenMany : Int32) (asked : Nat → Int32) (askedMany : Int32) (there : Nat → Int32) (counts : Nat → Int32) (lasts : Nat → Int32) (cames : Nat → Int32)  (o : (Nat → Int32)) : Option Value → va_W → Prop := (fun (v : Option Value) (w' : va_W) => v = none ∧ w' = [(h, .inr (11, [.ref a_g, .ref a_kept, .int isKept, .ref a_tape, .int taped, .int spot, .ref a_written, .int writtenMany, .ref a_asked, .int askedMany, .ref a_there, .ref a_counts, .ref a_lasts, .ref a_cames])), (a_g, .inl (E.2.1, 8787, .inl o)), (a_kept, .inl (E.2.1, 8787, .inl kept)), (a_tape, .inl (E.2.2.1, 60, .inl tape)), (a_written, .inl (E.2.1, 40, .inl written)), (a_asked, .inl (E.2.1, 60, .inl asked)), (a_there, .inl (E.2.1, 12, .inl there)), (a_counts, .inl (E.2.1, 12, .inl counts)), (a_lasts, .inl (E.2.1, 12, .inl lasts)), (a_cames, .inl (E.2.1, 12, .inl cames))])
noncomputable def K_X12_uses_58 (N : Nat)  (rec : Int32 → (Nat → Int32) → (Option ((Nat → Int32)))) (k105 : (Nat → Int32) → (Option ((Nat → Int32)))) (x1 : Int32)  (x3 : Int32) (g : Nat → Int32) : Option ((Nat → Int32)) :=
  if (4 ≤ x3 : Prop) then
  k105 g
  else
  bd (F_X12_placeOf N x1 x3) (fun o_9 =>
  lt ((34 + (16 * x3)) + o_9) (fun x4_10 =>
  ld g 8787 x4_10 (fun v_11 =>
  sto g 8787 x4_10 (imn 15 (v_11 + 1)) (fun g_12 =>
  lt (x3 + 1) (fun x3_13 =>
  rec x3_13 g_12)))))
noncomputable def L_X12_uses_58 (N : Nat)  (k105 : (Nat → Int32) → (Option ((Nat → Int32)))) (x1 : Int32)  (n : Nat) : Int32 → (Nat → Int32) → (Option ((Nat → Int32))) :=
  Nat.rec (motive := fun _ => Int32 → (Nat → Int32) → (Option ((Nat → Int32)))) (fun _ _ => none) (fun _ rec => K_X12_uses_58 N rec k105 x1) n
set_option maxHeartbeats 4000000 in
set_option maxRecDepth 100000 in
theorem l_X12_uses_58 {E : mE} {l : Launch} {p : Program} {e : Env} {s : State} {m : MethodId} {args : Array Value} {below : List Frame} {meth : Method} {c : Code} {A : Nat → Prop} {Q : State → Prop} {N : Nat} {h : Nat} {a_g : Nat} {a_kept : Nat} {a_tape : Nat} {a_written : Nat} {a_asked : Nat} {a_there : Nat} {a_counts : Nat} {a_lasts : Nat} {a_cames : Nat}  {g0 : Nat → Int32} {kept : Nat → Int32} {isKept : Int32} {tape : Nat → Int32} {taped : Int32} {spot : Int32} {written : Nat → Int32} {writtenMany : Int32} {asked : Nat → Int32} {askedMany : Int32} {there : Nat → Int32} {counts : Nat → Int32} {lasts : Nat → Int32} {cames : Nat → Int32}  {o : (Nat → Int32)} (B : mB E yX12_uses cX12_uses 5 none 0 0 (po_X12_uses E h a_g a_kept a_tape a_written a_asked a_there a_counts a_lasts a_cames g0 kept isKept tape taped spot written writtenMany asked askedMany there counts lasts cames o) p s m args below meth c A Q)   {x1 : Int32} (k105 : (Nat → Int32) → (Option ((Nat → Int32))))  (hk105 : ∀  (g : Nat → Int32)  (H : Heap) (locs : List Loc) (ls : Array Slot), k105 g = some o → mW E A s [(h, .inr (11, [.ref a_g, .ref a_kept, .int isKept, .ref a_tape, .int taped, .int spot, .ref a_written, .int writtenMany, .ref a_asked, .int askedMany, .ref a_there, .ref a_counts, .ref a_lasts, .ref a_cames])), (a_g, .inl (E.2.1, 8787, .inl g)), (a_kept, .inl (E.2.1, 8787, .inl kept)), (a_tape, .inl (E.2.2.1, 60, .inl tape)), (a_written, .inl (E.2.1, 40, .inl written)), (a_asked, .inl (E.2.1, 60, .inl asked)), (a_there, .inl (E.2.1, 12, .inl there)), (a_counts, .inl (E.2.1, 12, .inl counts)), (a_lasts, .inl (E.2.1, 12, .inl lasts)), (a_cames, .inl (E.2.1, 12, .inl cames))] H locs → lv_has ls 5 [] → W p l e ({ frames := 4, cells := 0, slots := 0, locals := 89 } : Room) s m args below meth c H locs 0 0 Q (F0 m 105 ls [])) : ∀ n : Nat, ∀ (x3 : Int32) (g : Nat → Int32)  (H : Heap) (locs : List Loc) (ls : Array Slot), L_X12_uses_58 N k105 x1 n x3 g = some o → mW E A s [(h, .inr (11, [.ref a_g, .ref a_kept, .int isKept, .ref a_tape, .int taped, .int spot, .ref a_written, .int writtenMany, .ref a_asked, .int askedMany, .ref a_there, .ref a_counts, .ref a_lasts, .ref a_cames])), (a_g, .inl (E.2.1, 8787, .inl g)), (a_kept, .inl (E.2.1, 8787, .inl kept)), (a_tape, .inl (E.2.2.1, 60, .inl tape)), (a_written, .inl (E.2.1, 40, .inl written)), (a_asked, .inl (E.2.1, 60, .inl asked)), (a_there, .inl (E.2.1, 12, .inl there)), (a_counts, .inl (E.2.1, 12, .inl counts)), (a_lasts, .inl (E.2.1, 12, .inl lasts)), (a_cames, .inl (E.2.1, 12, .inl cames))] H locs → lv_has ls 5 [(0, .ref h), (1, .int x1), (3, .int x3)] → W p l e ({ frames := 4, cells := 0, slots := 0, locals := 89 } : Room) s m args below meth c H locs 0 0 Q (F0 m 58 ls []) := by
  obtain ⟨hx, hb, hml, hown, hts⟩ := id B.1
  intro n
  induction n with
  | zero =>
    intro x3 g H locs ls hf w hl
    exact nomatch hf
  | succ n hrec =>
    intro x3 g H locs ls hf w hl
    have hf : K_X12_uses_58 N (L_X12_uses_58 N k105 x1 n) k105 x1 x3 g = some o := hf
    unfold K_X12_uses_58 at hf
    refine lv_iload_n hx hb dX12_uses_58 rfl (lv_at hl 2 rfl) ?_
    refine lv_iconst (v := 4) hx hb dX12_uses_59 (by decide) ?_
    refine lv_icmp_ge (tgt := 105) hx hb dX12_uses_60 (by decide) (fun hc => ?_) (fun hc => ?_)
    · have hf := it_t hc hf
      exact hk105 _ _ _ _ hf  w (lv_sub hl [] rfl)
    · have hf := it_f hc hf
      refine lv_bipush (v := 34) hx hb dX12_uses_63 (by decide) ?_
      refine lv_bipush (v := 16) hx hb dX12_uses_65 (by decide) ?_
      refine lv_iload_n hx hb dX12_uses_67 rfl (lv_at hl 2 rfl) ?_
      refine lv_imul hx hb dX12_uses_68 ?_
      refine lv_iadd hx hb dX12_uses_69 ?_
      refine lv_iload_n hx hb dX12_uses_70 rfl (lv_at hl 1 rfl) ?_
      refine lv_iload_n hx hb dX12_uses_71 rfl (lv_at hl 2 rfl) ?_
      obtain ⟨o_9, hq, hf⟩ := bd_e hf
      refine mx_callS (As := [.int x1, .int x3]) (rest := [.int (34 + (16 * x3))]) (wr := [(h, .inr (11, [.ref a_g, .ref a_kept, .int isKept, .ref a_tape, .int taped, .int spot, .ref a_written, .int writtenMany, .ref a_asked, .int askedMany, .ref a_there, .ref a_counts, .ref a_lasts, .ref a_cames])), (a_g, .inl (E.2.1, 8787, .inl g)), (a_kept, .inl (E.2.1, 8787, .inl kept)), (a_tape, .inl (E.2.2.1, 60, .inl tape)), (a_written, .inl (E.2.1, 40, .inl written)), (a_asked, .inl (E.2.1, 60, .inl asked)), (a_there, .inl (E.2.1, 12, .inl there)), (a_counts, .inl (E.2.1, 12, .inl counts)), (a_lasts, .inl (E.2.1, 12, .inl lasts)), (a_cames, .inl (E.2.1, 12, .inl cames))]) (d_X12_placeOf E l N  x1 x3  o_9 hq) B w [] [0, 1, 2, 3, 4, 5, 6, 7, 8, 9] rfl rfl (by decide) (by decide) (by decide) cs_X12_placeOf kw_1293 2 (by decide +kernel) ⟨Nat.le_of_ble_eq_true rfl, Nat.le_of_ble_eq_true rfl⟩ rfl hl.1 rfl (Nat.le_of_ble_eq_true rfl) dX12_uses_72 rfl rfl ⟨Nat.zero_le _, Nat.zero_le _⟩ (fun v w' H locs hpo w => ?_)
      clear hq
      obtain ⟨rfl, rfl⟩ := hpo
      have w : mW E A s [(h, .inr (11, [.ref a_g, .ref a_kept, .int isKept, .ref a_tape, .int taped, .int spot, .ref a_written, .int writtenMany, .ref a_asked, .int askedMany, .ref a_there, .ref a_counts, .ref a_lasts, .ref a_cames])), (a_g, .inl (E.2.1, 8787, .inl g)), (a_kept, .inl (E.2.1, 8787, .inl kept)), (a_tape, .inl (E.2.2.1, 60, .inl tape)), (a_written, .inl (E.2.1, 40, .inl written)), (a_asked, .inl (E.2.1, 60, .inl asked)), (a_there, .inl (E.2.1, 12, .inl there)), (a_counts, .inl (E.2.1, 12, .inl counts)), (a_lasts, .inl (E.2.1, 12, .inl lasts)), (a_cames, .inl (E.2.1, 12, .inl cames))] H locs := w
      refine lv_iadd hx hb dX12_uses_75 ?_
      refine lv_topi (fun x4_10 ev => ?_)
      have hf := lt_n ev hf; clear ev
      refine lv_istore (lv' := [(4, .int x4_10), (0, .ref h), (1, .int x1), (3, .int x3)]) hx hb dX12_uses_76 hl (by decide) rfl (fun ls hl => ?_)
      refine lv_aload_n hx hb dX12_uses_78 rfl (lv_at hl 1 rfl) ?_
      refine mx_get B w 0 fl_X12_9 rfl rfl dX12_uses_79 ?_
      refine lv_iload hx hb dX12_uses_82 (lv_at hl 0 rfl) ?_
      refine lv_bipush (v := 15) hx hb dX12_uses_84 (by decide) ?_
      refine lv_aload_n hx hb dX12_uses_86 rfl (lv_at hl 1 rfl) ?_
      refine mx_get B w 0 fl_X12_9 rfl rfl dX12_uses_87 ?_
      refine lv_iload hx hb dX12_uses_90 (lv_at hl 0 rfl) ?_
      obtain ⟨hin, hf⟩ := ld_e hf
      refine mx_iald B w 1 rfl hin dX12_uses_92 (fun v_11 ev => ?_)
      have hf := hf _ ev; clear ev
      refine lv_iconst (v := 1) hx hb dX12_uses_93 (by decide) ?_
      refine lv_iadd hx hb dX12_uses_94 ?_
      refine va_mmin hx hb (by rw [hml]; exact hl.1.symm) hown (hts _ kl_min_X12) (hts _ kw_static_min) (hts _ kw_init_math) (hts _ kw_code_min) (Nat.le_of_ble_eq_true rfl) (Nat.le_of_ble_eq_true rfl) (Nat.le_of_ble_eq_true rfl) (Nat.le_of_ble_eq_true rfl) dX12_uses_95 ?_
      obtain ⟨hin, hf⟩ := sto_e hf
      refine mx_iast B w 1 rfl hin dX12_uses_98 (fun g_12 H locs ev w => ?_)
      have hf := hf _ ev; clear ev
      have w : mW E A s [(h, .inr (11, [.ref a_g, .ref a_kept, .int isKept, .ref a_tape, .int taped, .int spot, .ref a_written, .int writtenMany, .ref a_asked, .int askedMany, .ref a_there, .ref a_counts, .ref a_lasts, .ref a_cames])), (a_g, .inl (E.2.1, 8787, .inl g_12)), (a_kept, .inl (E.2.1, 8787, .inl kept)), (a_tape, .inl (E.2.2.1, 60, .inl tape)), (a_written, .inl (E.2.1, 40, .inl written)), (a_asked, .inl (E.2.1, 60, .inl asked)), (a_there, .inl (E.2.1, 12, .inl there)), (a_counts, .inl (E.2.1, 12, .inl counts)), (a_lasts, .inl (E.2.1, 12, .inl lasts)), (a_cames, .inl (E.2.1, 12, .inl cames))] H locs := w
      obtain ⟨x3_13, ev⟩ : ∃ y : Int32, y = x3 + 1 := ⟨_, rfl⟩
      refine lv_iinc (v := x3_13) (lv' := [(3, .int x3_13), (4, .int x4_10), (0, .ref h), (1, .int x1)]) hx hb dX12_uses_99 hl (k := 3) rfl (by rw [ev]; rfl) (by decide) rfl (fun ls hl => ?_)
      have hf := lt_n ev hf; clear ev
      refine lv_goto (tgt := 58) hx hb dX12_uses_102 (by decide) ?_
      exact hrec _ _ _ _ _ hf  w (lv_sub hl [2, 3, 0] rfl)
noncomputable def F_X12_uses (N : Nat)  (g : Nat → Int32) (x1 : Int32) (x2 : Int32) : Option ((Nat → Int32)) :=
  ld g 8787 9 (fun v_1 =>
  sto g 8787 9 (v_1 + 1) (fun g_2 =>
  ld g_2 8787 20 (fun v_3 =>
  sto g_2 8787 20 (v_3 + 1) (fun g_4 =>
  ld g_4 8787 (8403 + (4 * x2)) (fun v_5 =>
  sto g_4 8787 (8403 + (4 * x2)) (v_5 + 1) (fun g_6 =>
  bd (F_X12_slot N g_6 18 8607 1 60) (fun o_7 =>
  sto o_7.2 8787 o_7.1 x1 (fun g_8 =>
  L_X12_uses_58 N (fun g => some (g)) x1 N 0 g_8))))))))
set_option maxHeartbeats 4000000 in
set_option maxRecDepth 100000 in
theorem d_X12_uses (E : mE) (l : Launch) (N : Nat) (h : Nat) (a_g : Nat) (a_kept : Nat) (a_tape : Nat) (a_written : Nat) (a_asked : Nat) (a_there : Nat) (a_counts : Nat) (a_lasts : Nat) (a_cames : Nat)  (g : Nat → Int32) (kept : Nat → Int32) (isKept : Int32) (tape : Nat → Int32) (taped : Int32) (spot : Int32) (written : Nat → Int32) (writtenMany : Int32) (asked : Nat → Int32) (askedMany : Int32) (there : Nat → Int32) (counts : Nat → Int32) (lasts : Nat → Int32) (cames : Nat → Int32)  (x1 : Int32) (x2 : Int32)  (o : (Nat → Int32)) (hf : F_X12_uses N g x1 x2 = some o) : MX E l yX12_uses cX12_uses 5 none ({ frames := 4, cells := 0, slots := 0, locals := 89 } : Room) [.ref h, .int x1, .int x2] [(h, .inr (11, [.ref a_g, .ref a_kept, .int isKept, .ref a_tape, .int taped, .int spot, .ref a_written, .int writtenMany, .ref a_asked, .int askedMany, .ref a_there, .ref a_counts, .ref a_lasts, .ref a_cames])), (a_g, .inl (E.2.1, 8787, .inl g)), (a_kept, .inl (E.2.1, 8787, .inl kept)), (a_tape, .inl (E.2.2.1, 60, .inl tape)), (a_written, .inl (E.2.1, 40, .inl written)), (a_asked, .inl (E.2.1, 60, .inl asked)), (a_there, .inl (E.2.1, 12, .inl there)), (a_counts, .inl (E.2.1, 12, .inl counts)), (a_lasts, .inl (E.2.1, 12, .inl lasts)), (a_cames, .inl (E.2.1, 12, .inl cames))] (po_X12_uses E h a_g a_kept a_tape a_written a_asked a_there a_counts a_lasts a_cames g kept isKept tape taped spot written writtenMany asked askedMany there counts lasts cames o) := by
  refine mx_intro (by decide +kernel) (Nat.le_of_ble_eq_true rfl) ?_
  intro p e s m args below meth c A Q ls B w hl
  obtain ⟨hx, hb, hml, hown, hts⟩ := id B.1
  unfold F_X12_uses at hf
  have hl : lv_has ls 5 [(0, .ref h), (1, .int x1), (2, .int x2)] := hl
  refine lv_aload_n hx hb dX12_uses_0 rfl (lv_at hl 0 rfl) ?_
  refine mx_get B w 0 fl_X12_9 rfl rfl dX12_uses_1 ?_
  refine lv_bipush (v := 9) hx hb dX12_uses_4 (by decide) ?_
  refine lv_dup2_11 hx hb dX12_uses_6 rfl rfl ?_
  obtain ⟨hin, hf⟩ := ld_e hf
  refine mx_iald B w 1 rfl hin dX12_uses_7 (fun v_1 ev => ?_)
  have hf := hf _ ev; clear ev
  refine lv_iconst (v := 1) hx hb dX12_uses_8 (by decide) ?_
  refine lv_iadd hx hb dX12_uses_9 ?_
  obtain ⟨hin, hf⟩ := sto_e hf
  refine mx_iast B w 1 rfl hin dX12_uses_10 (fun g_2 H locs ev w => ?_)
  have hf := hf _ ev; clear ev
  have w : mW E A s [(h, .inr (11, [.ref a_g, .ref a_kept, .int isKept, .ref a_tape, .int taped, .int spot, .ref a_written, .int writtenMany, .ref a_asked, .int askedMany, .ref a_there, .ref a_counts, .ref a_lasts, .ref a_cames])), (a_g, .inl (E.2.1, 8787, .inl g_2)), (a_kept, .inl (E.2.1, 8787, .inl kept)), (a_tape, .inl (E.2.2.1, 60, .inl tape)), (a_written, .inl (E.2.1, 40, .inl written)), (a_asked, .inl (E.2.1, 60, .inl asked)), (a_there, .inl (E.2.1, 12, .inl there)), (a_counts, .inl (E.2.1, 12, .inl counts)), (a_lasts, .inl (E.2.1, 12, .inl lasts)), (a_cames, .inl (E.2.1, 12, .inl cames))] H locs := w
  refine lv_aload_n hx hb dX12_uses_11 rfl (lv_at hl 0 rfl) ?_
  refine mx_get B w 0 fl_X12_9 rfl rfl dX12_uses_12 ?_
  refine lv_bipush (v := 20) hx hb dX12_uses_15 (by decide) ?_
  refine lv_dup2_11 hx hb dX12_uses_17 rfl rfl ?_
  obtain ⟨hin, hf⟩ := ld_e hf
  refine mx_iald B w 1 rfl hin dX12_uses_18 (fun v_3 ev => ?_)
  have hf := hf _ ev; clear ev
  refine lv_iconst (v := 1) hx hb dX12_uses_19 (by decide) ?_
  refine lv_iadd hx hb dX12_uses_20 ?_
  obtain ⟨hin, hf⟩ := sto_e hf
  refine mx_iast B w 1 rfl hin dX12_uses_21 (fun g_4 H locs ev w => ?_)
  have hf := hf _ ev; clear ev
  have w : mW E A s [(h, .inr (11, [.ref a_g, .ref a_kept, .int isKept, .ref a_tape, .int taped, .int spot, .ref a_written, .int writtenMany, .ref a_asked, .int askedMany, .ref a_there, .ref a_counts, .ref a_lasts, .ref a_cames])), (a_g, .inl (E.2.1, 8787, .inl g_4)), (a_kept, .inl (E.2.1, 8787, .inl kept)), (a_tape, .inl (E.2.2.1, 60, .inl tape)), (a_written, .inl (E.2.1, 40, .inl written)), (a_asked, .inl (E.2.1, 60, .inl asked)), (a_there, .inl (E.2.1, 12, .inl there)), (a_counts, .inl (E.2.1, 12, .inl counts)), (a_lasts, .inl (E.2.1, 12, .inl lasts)), (a_cames, .inl (E.2.1, 12, .inl cames))] H locs := w
  refine lv_aload_n hx hb dX12_uses_22 rfl (lv_at hl 0 rfl) ?_
  refine mx_get B w 0 fl_X12_9 rfl rfl dX12_uses_23 ?_
  refine lv_sipush (v := 8403) hx hb dX12_uses_26 (by decide) ?_
  refine lv_iconst (v := 4) hx hb dX12_uses_29 (by decide) ?_
  refine lv_iload_n hx hb dX12_uses_30 rfl (lv_at hl 2 rfl) ?_
  refine lv_imul hx hb dX12_uses_31 ?_
  refine lv_iadd hx hb dX12_uses_32 ?_
  refine lv_dup2_11 hx hb dX12_uses_33 rfl rfl ?_
  obtain ⟨hin, hf⟩ := ld_e hf
  refine mx_iald B w 1 rfl hin dX12_uses_34 (fun v_5 ev => ?_)
  have hf := hf _ ev; clear ev
  refine lv_iconst (v := 1) hx hb dX12_uses_35 (by decide) ?_
  refine lv_iadd hx hb dX12_uses_36 ?_
  obtain ⟨hin, hf⟩ := sto_e hf
  refine mx_iast B w 1 rfl hin dX12_uses_37 (fun g_6 H locs ev w => ?_)
  have hf := hf _ ev; clear ev
  have w : mW E A s [(h, .inr (11, [.ref a_g, .ref a_kept, .int isKept, .ref a_tape, .int taped, .int spot, .ref a_written, .int writtenMany, .ref a_asked, .int askedMany, .ref a_there, .ref a_counts, .ref a_lasts, .ref a_cames])), (a_g, .inl (E.2.1, 8787, .inl g_6)), (a_kept, .inl (E.2.1, 8787, .inl kept)), (a_tape, .inl (E.2.2.1, 60, .inl tape)), (a_written, .inl (E.2.1, 40, .inl written)), (a_asked, .inl (E.2.1, 60, .inl asked)), (a_there, .inl (E.2.1, 12, .inl there)), (a_counts, .inl (E.2.1, 12, .inl counts)), (a_lasts, .inl (E.2.1, 12, .inl lasts)), (a_cames, .inl (E.2.1, 12, .inl cames))] H locs := w
  refine lv_aload_n hx hb dX12_uses_38 rfl (lv_at hl 0 rfl) ?_
  refine mx_get B w 0 fl_X12_9 rfl rfl dX12_uses_39 ?_
  refine lv_aload_n hx hb dX12_uses_42 rfl (lv_at hl 0 rfl) ?_
  refine lv_bipush (v := 18) hx hb dX12_uses_43 (by decide) ?_
  refine lv_sipush (v := 8607) hx hb dX12_uses_45 (by decide) ?_
  refine lv_iconst (v := 1) hx hb dX12_uses_48 (by decide) ?_
  refine lv_bipush (v := 60) hx hb dX12_uses_49 (by decide) ?_
  obtain ⟨o_7, hq, hf⟩ := bd_e hf
  refine mx_callV (As := [.int 18, .int 8607, .int 1, .int 60]) (rest := [.ref a_g]) (wr := []) (d_X12_slot E l N h a_g a_kept a_tape a_written a_asked a_there a_counts a_lasts a_cames g_6 kept isKept tape taped spot written writtenMany asked askedMany there counts lasts cames 18 8607 1 60  o_7 hq) B w [0, 1, 2, 3, 4, 5, 6, 7, 8, 9] [] rfl rfl (by decide) (by decide) (by decide) 0 rfl rfl cv_X12_slot kw_1369 4 (by decide +kernel) ⟨Nat.le_of_ble_eq_true rfl, Nat.le_of_ble_eq_true rfl⟩ rfl hl.1 rfl (Nat.le_of_ble_eq_true rfl) dX12_uses_51 rfl rfl ⟨Nat.zero_le _, Nat.zero_le _⟩ (fun v w' H locs hpo w => ?_)
  clear hq
  obtain ⟨rfl, rfl⟩ := hpo
  have w : mW E A s [(h, .inr (11, [.ref a_g, .ref a_kept, .int isKept, .ref a_tape, .int taped, .int spot, .ref a_written, .int writtenMany, .ref a_asked, .int askedMany, .ref a_there, .ref a_counts, .ref a_lasts, .ref a_cames])), (a_g, .inl (E.2.1, 8787, .inl o_7.2)), (a_kept, .inl (E.2.1, 8787, .inl kept)), (a_tape, .inl (E.2.2.1, 60, .inl tape)), (a_written, .inl (E.2.1, 40, .inl written)), (a_asked, .inl (E.2.1, 60, .inl asked)), (a_there, .inl (E.2.1, 12, .inl there)), (a_counts, .inl (E.2.1, 12, .inl counts)), (a_lasts, .inl (E.2.1, 12, .inl lasts)), (a_cames, .inl (E.2.1, 12, .inl cames))] H locs := w
  refine lv_iload_n hx hb dX12_uses_54 rfl (lv_at hl 1 rfl) ?_
  obtain ⟨hin, hf⟩ := sto_e hf
  refine mx_iast B w 1 rfl hin dX12_uses_55 (fun g_8 H locs ev w => ?_)
  have hf := hf _ ev; clear ev
  have w : mW E A s [(h, .inr (11, [.ref a_g, .ref a_kept, .int isKept, .ref a_tape, .int taped, .int spot, .ref a_written, .int writtenMany, .ref a_asked, .int askedMany, .ref a_there, .ref a_counts, .ref a_lasts, .ref a_cames])), (a_g, .inl (E.2.1, 8787, .inl g_8)), (a_kept, .inl (E.2.1, 8787, .inl kept)), (a_tape, .inl (E.2.2.1, 60, .inl tape)), (a_written, .inl (E.2.1, 40, .inl written)), (a_asked, .inl (E.2.1, 60, .inl asked)), (a_there, .inl (E.2.1, 12, .inl there)), (a_counts, .inl (E.2.1, 12, .inl counts)), (a_lasts, .inl (E.2.1, 12, .inl lasts)), (a_cames, .inl (E.2.1, 12, .inl cames))] H locs := w
  refine lv_iconst (v := 0) hx hb dX12_uses_56 (by decide) ?_
  refine lv_istore_n (lv' := [(3, .int 0), (0, .ref h), (1, .int x1), (2, .int x2)]) hx hb dX12_uses_57 rfl hl (by decide) rfl (fun ls hl => ?_)
  refine l_X12_uses_58 B _  ?_ N _ _ _ _ _ hf  w (lv_sub hl [1, 2, 0] rfl)
  · intro g H locs ls hf w hl
    cases hf
    exact mx_vret B w ⟨rfl, rfl⟩ dX12_uses_105
-- X12_entryOf
def po_X12_entryOf (E : mE) (h : Nat) (a_g : Nat) (a_kept : Nat) (a_tape : Nat) (a_written : Nat) (a_asked : Nat) (a_there : Nat) (a_counts : Nat) (a_lasts : Nat) (a_cames : Nat)  (g : Nat → Int32) (kept : Nat → Int32) (isKept : Int32) (tape : Nat → Int32) (taped : Int32) (spot : Int32) (written : Nat → Int32) (writtenMany : Int32) (asked : Nat → Int32) (askedMany : Int32) (there : Nat → Int32) (counts : Nat → Int32) (lasts : Nat → Int32) (cames : Nat → Int32)  (o : Int32) : Option Value → va_W → Prop := (fun (v : Option Value) (w' : va_W) => v = some (.int o) ∧ w' = [(h, .inr (11, [.ref a_g, .ref a_kept, .int isKept, .ref a_tape, .int taped, .int spot, .ref a_written, .int writtenMany, .ref a_asked, .int askedMany, .ref a_there, .ref a_counts, .ref a_lasts, .ref a_cames])), (a_g, .inl (E.2.1, 8787, .inl g)), (a_kept, .inl (E.2.1, 8787, .inl kept)), (a_tape, .inl (E.2.2.1, 60, .inl tape)), (a_written, .inl (E.2.1, 40, .inl written)), (a_asked, .inl (E.2.1, 60, .inl asked)), (a_there, .inl (E.2.1, 12, .inl there)), (a_counts, .inl (E.2.1, 12, .inl counts)), (a_lasts, .inl (E.2.1, 12, .inl lasts)), (a_cames, .inl (E.2.1, 12, .inl cames))])
noncomputable def K_X12_entryOf_2 (N : Nat)  (rec : Int32 → Option (Int32)) (k31 : Unit → Option (Int32)) (k23 : Int32 → Option (Int32)) (x1 : Int32) (g : Nat → Int32) (x2 : Int32)  : Option (Int32) :=
  ld g 8787 13 (fun v_1 =>
  if (v_1 ≤ x2 : Prop) then
  k31 ()
  else
  bd (F_X12_at g x2 0) (fun o_2 =>
  if (o_2 = x1 : Prop) then
  k23 x2
  else
  lt (x2 + 1) (fun x2_3 =>
  rec x2_3)))
noncomputable def L_X12_entryOf_2 (N : Nat)  (k31 : Unit → Option (Int32)) (k23 : Int32 → Option (Int32)) (x1 : Int32) (g : Nat → Int32) (n : Nat) : Int32 → Option (Int32) :=
  Nat.rec (motive := fun _ => Int32 → Option (Int32)) (fun _ => none) (fun _ rec => K_X12_entryOf_2 N rec k31 k23 x1 g) n
set_option maxHeartbeats 4000000 in
set_option maxRecDepth 100000 in
theorem l_X12_entryOf_2 {E : mE} {l : Launch} {p : Program} {e : Env} {s : State} {m : MethodId} {args : Array Value} {below : List Frame} {meth : Method} {c : Code} {A : Nat → Prop} {Q : State → Prop} {N : Nat} {h : Nat} {a_g : Nat} {a_kept : Nat} {a_tape : Nat} {a_written : Nat} {a_asked : Nat} {a_there : Nat} {a_counts : Nat} {a_lasts : Nat} {a_cames : Nat}  {g : Nat → Int32} {kept : Nat → Int32} {isKept : Int32} {tape : Nat → Int32} {taped : Int32} {spot : Int32} {written : Nat → Int32} {writtenMany : Int32} {asked : Nat → Int32} {askedMany : Int32} {there : Nat → Int32} {counts : Nat → Int32} {lasts : Nat → Int32} {cames : Nat → Int32}  {o : Int32} (B : mB E yX12_entryOf cX12_entryOf 3 (some .int) 0 0 (po_X12_entryOf E h a_g a_kept a_tape a_written a_asked a_there a_counts a_lasts a_cames g kept isKept tape taped spot written writtenMany asked askedMany there counts lasts cames o) p s m args below meth c A Q)   {x1 : Int32} (k31 : Unit → Option (Int32)) (k23 : Int32 → Option (Int32))  (hk31 : ∀    (H : Heap) (locs : List Loc) (ls : Array Slot), k31 () = some o → mW E A s [(h, .inr (11, [.ref a_g, .ref a_kept, .int isKept, .ref a_tape, .int taped, .int spot, .ref a_written, .int writtenMany, .ref a_asked, .int askedMany, .ref a_there, .ref a_counts, .ref a_lasts, .ref a_cames])), (a_g, .inl (E.2.1, 8787, .inl g)), (a_kept, .inl (E.2.1, 8787, .inl kept)), (a_tape, .inl (E.2.2.1, 60, .inl tape)), (a_written, .inl (E.2.1, 40, .inl written)), (a_asked, .inl (E.2.1, 60, .inl asked)), (a_there, .inl (E.2.1, 12, .inl there)), (a_counts, .inl (E.2.1, 12, .inl counts)), (a_lasts, .inl (E.2.1, 12, .inl lasts)), (a_cames, .inl (E.2.1, 12, .inl cames))] H locs → lv_has ls 3 [] → W p l e ({ frames := 1, cells := 0, slots := 0, locals := 22 } : Room) s m args below meth c H locs 0 0 Q (F0 m 31 ls [])) (hk23 : ∀ (x2 : Int32)   (H : Heap) (locs : List Loc) (ls : Array Slot), k23 x2 = some o → mW E A s [(h, .inr (11, [.ref a_g, .ref a_kept, .int isKept, .ref a_tape, .int taped, .int spot, .ref a_written, .int writtenMany, .ref a_asked, .int askedMany, .ref a_there, .ref a_counts, .ref a_lasts, .ref a_cames])), (a_g, .inl (E.2.1, 8787, .inl g)), (a_kept, .inl (E.2.1, 8787, .inl kept)), (a_tape, .inl (E.2.2.1, 60, .inl tape)), (a_written, .inl (E.2.1, 40, .inl written)), (a_asked, .inl (E.2.1, 60, .inl asked)), (a_there, .inl (E.2.1, 12, .inl there)), (a_counts, .inl (E.2.1, 12, .inl counts)), (a_lasts, .inl (E.2.1, 12, .inl lasts)), (a_cames, .inl (E.2.1, 12, .inl cames))] H locs → lv_has ls 3 [(2, .int x2)] → W p l e ({ frames := 1, cells := 0, slots := 0, locals := 22 } : Room) s m args below meth c H locs 0 0 Q (F0 m 23 ls [])) : ∀ n : Nat, ∀ (x2 : Int32)   (H : Heap) (locs : List Loc) (ls : Array Slot), L_X12_entryOf_2 N k31 k23 x1 g n x2 = some o → mW E A s [(h, .inr (11, [.ref a_g, .ref a_kept, .int isKept, .ref a_tape, .int taped, .int spot, .ref a_written, .int writtenMany, .ref a_asked, .int askedMany, .ref a_there, .ref a_counts, .ref a_lasts, .ref a_cames])), (a_g, .inl (E.2.1, 8787, .inl g)), (a_kept, .inl (E.2.1, 8787, .inl kept)), (a_tape, .inl (E.2.2.1, 60, .inl tape)), (a_written, .inl (E.2.1, 40, .inl written)), (a_asked, .inl (E.2.1, 60, .inl asked)), (a_there, .inl (E.2.1, 12, .inl there)), (a_counts, .inl (E.2.1, 12, .inl counts)), (a_lasts, .inl (E.2.1, 12, .inl lasts)), (a_cames, .inl (E.2.1, 12, .inl cames))] H locs → lv_has ls 3 [(0, .ref h), (1, .int x1), (2, .int x2)] → W p l e ({ frames := 1, cells := 0, slots := 0, locals := 22 } : Room) s m args below meth c H locs 0 0 Q (F0 m 2 ls []) := by
  obtain ⟨hx, hb, hml, hown, hts⟩ := id B.1
  intro n
  induction n with
  | zero =>
    intro x2 H locs ls hf w hl
    exact nomatch hf
  | succ n hrec =>
    intro x2 H locs ls hf w hl
    have hf : K_X12_entryOf_2 N (L_X12_entryOf_2 N k31 k23 x1 g n) k31 k23 x1 g x2 = some o := hf
    unfold K_X12_entryOf_2 at hf
    refine lv_iload_n hx hb dX12_entryOf_2 rfl (lv_at hl 2 rfl) ?_
    refine lv_aload_n hx hb dX12_entryOf_3 rfl (lv_at hl 0 rfl) ?_
    refine mx_get B w 0 fl_X12_9 rfl rfl dX12_entryOf_4 ?_
    refine lv_bipush (v := 13) hx hb dX12_entryOf_7 (by decide) ?_
    obtain ⟨hin, hf⟩ := ld_e hf
    refine mx_iald B w 1 rfl hin dX12_entryOf_9 (fun v_1 ev => ?_)
    have hf := hf _ ev; clear ev
    refine lv_icmp_ge (tgt := 31) hx hb dX12_entryOf_10 (by decide) (fun hc => ?_) (fun hc => ?_)
    · have hf := it_t hc hf
      exact hk31 _ _ _ hf  w (lv_sub hl [] rfl)
    · have hf := it_f hc hf
      refine lv_aload_n hx hb dX12_entryOf_13 rfl (lv_at hl 0 rfl) ?_
      refine lv_iload_n hx hb dX12_entryOf_14 rfl (lv_at hl 2 rfl) ?_
      refine lv_iconst (v := 0) hx hb dX12_entryOf_15 (by decide) ?_
      obtain ⟨o_2, hq, hf⟩ := bd_e hf
      refine mx_callV (As := [.int x2, .int 0]) (rest := []) (wr := []) (d_X12_at E l  h a_g a_kept a_tape a_written a_asked a_there a_counts a_lasts a_cames g kept isKept tape taped spot written writtenMany asked askedMany there counts lasts cames x2 0  o_2 hq) B w [0, 1, 2, 3, 4, 5, 6, 7, 8, 9] [] rfl rfl (by decide) (by decide) (by decide) 0 rfl rfl cv_X12_at kw_1325 2 (by decide +kernel) ⟨Nat.le_of_ble_eq_true rfl, Nat.le_of_ble_eq_true rfl⟩ rfl hl.1 rfl (Nat.le_of_ble_eq_true rfl) dX12_entryOf_16 rfl rfl ⟨Nat.zero_le _, Nat.zero_le _⟩ (fun v w' H locs hpo w => ?_)
      clear hq
      obtain ⟨rfl, rfl⟩ := hpo
      have w : mW E A s [(h, .inr (11, [.ref a_g, .ref a_kept, .int isKept, .ref a_tape, .int taped, .int spot, .ref a_written, .int writtenMany, .ref a_asked, .int askedMany, .ref a_there, .ref a_counts, .ref a_lasts, .ref a_cames])), (a_g, .inl (E.2.1, 8787, .inl g)), (a_kept, .inl (E.2.1, 8787, .inl kept)), (a_tape, .inl (E.2.2.1, 60, .inl tape)), (a_written, .inl (E.2.1, 40, .inl written)), (a_asked, .inl (E.2.1, 60, .inl asked)), (a_there, .inl (E.2.1, 12, .inl there)), (a_counts, .inl (E.2.1, 12, .inl counts)), (a_lasts, .inl (E.2.1, 12, .inl lasts)), (a_cames, .inl (E.2.1, 12, .inl cames))] H locs := w
      refine lv_iload_n hx hb dX12_entryOf_19 rfl (lv_at hl 1 rfl) ?_
      refine lv_icmp_ne (tgt := 25) hx hb dX12_entryOf_20 (by decide) (fun hc => ?_) (fun hc => ?_)
      · have hf := it_f hc hf
        obtain ⟨x2_3, ev⟩ : ∃ y : Int32, y = x2 + 1 := ⟨_, rfl⟩
        refine lv_iinc (v := x2_3) (lv' := [(2, .int x2_3), (0, .ref h), (1, .int x1)]) hx hb dX12_entryOf_25 hl (k := 2) rfl (by rw [ev]; rfl) (by decide) rfl (fun ls hl => ?_)
        have hf := lt_n ev hf; clear ev
        refine lv_goto (tgt := 2) hx hb dX12_entryOf_28 (by decide) ?_
        exact hrec _ _ _ _ hf  w (lv_sub hl [1, 2, 0] rfl)
      · have hf := it_t hc hf
        exact hk23 _ _ _ _ hf  w (lv_sub hl [2] rfl)
noncomputable def F_X12_entryOf (N : Nat)  (g : Nat → Int32) (x1 : Int32) : Option (Int32) :=
  L_X12_entryOf_2 N (fun _ => some ((-1))) (fun x2 => some (x2)) x1 g N 0
set_option maxHeartbeats 4000000 in
set_option maxRecDepth 100000 in
theorem d_X12_entryOf (E : mE) (l : Launch) (N : Nat) (h : Nat) (a_g : Nat) (a_kept : Nat) (a_tape : Nat) (a_written : Nat) (a_asked : Nat) (a_there : Nat) (a_counts : Nat) (a_lasts : Nat) (a_cames : Nat)  (g : Nat → Int32) (kept : Nat → Int32) (isKept : Int32) (tape : Nat → Int32) (taped : Int32) (spot : Int32) (written : Nat → Int32) (writtenMany : Int32) (asked : Nat → Int32) (askedMany : Int32) (there : Nat → Int32) (counts : Nat → Int32) (lasts : Nat → Int32) (cames : Nat → Int32)  (x1 : Int32)  (o : Int32) (hf : F_X12_entryOf N g x1 = some o) : MX E l yX12_entryOf cX12_entryOf 3 (some .int) ({ frames := 1, cells := 0, slots := 0, locals := 22 } : Room) [.ref h, .int x1] [(h, .inr (11, [.ref a_g, .ref a_kept, .int isKept, .ref a_tape, .int taped, .int spot, .ref a_written, .int writtenMany, .ref a_asked, .int askedMany, .ref a_there, .ref a_counts, .ref a_lasts, .ref a_cames])), (a_g, .inl (E.2.1, 8787, .inl g)), (a_kept, .inl (E.2.1, 8787, .inl kept)), (a_tape, .inl (E.2.2.1, 60, .inl tape)), (a_written, .inl (E.2.1, 40, .inl written)), (a_asked, .inl (E.2.1, 60, .inl asked)), (a_there, .inl (E.2.1, 12, .inl there)), (a_counts, .inl (E.2.1, 12, .inl counts)), (a_lasts, .inl (E.2.1, 12, .inl lasts)), (a_cames, .inl (E.2.1, 12, .inl cames))] (po_X12_entryOf E h a_g a_kept a_tape a_written a_asked a_there a_counts a_lasts a_cames g kept isKept tape taped spot written writtenMany asked askedMany there counts lasts cames o) := by
  refine mx_intro (by decide +kernel) (Nat.le_of_ble_eq_true rfl) ?_
  intro p e s m args below meth c A Q ls B w hl
  obtain ⟨hx, hb, hml, hown, hts⟩ := id B.1
  unfold F_X12_entryOf at hf
  have hl : lv_has ls 3 [(0, .ref h), (1, .int x1)] := hl
  refine lv_iconst (v := 0) hx hb dX12_entryOf_0 (by decide) ?_
  refine lv_istore_n (lv' := [(2, .int 0), (0, .ref h), (1, .int x1)]) hx hb dX12_entryOf_1 rfl hl (by decide) rfl (fun ls hl => ?_)
  refine l_X12_entryOf_2 B _ _  ?_ ?_ N _ _ _ _ hf  w (lv_sub hl [1, 2, 0] rfl)
  · intro H locs ls hf w hl
    refine lv_iconst (v := (-1)) hx hb dX12_entryOf_31 (by decide) ?_
    cases hf
    exact mx_iret B w ⟨rfl, rfl⟩ dX12_entryOf_32
  · intro x2 H locs ls hf w hl
    refine lv_iload_n hx hb dX12_entryOf_23 rfl (lv_at hl 0 rfl) ?_
    cases hf
    exact mx_iret B w ⟨rfl, rfl⟩ dX12_entryOf_24
