abbrev cX12_sets : ByteArray := prog_14_method_21_code
def yX12_sets : MethodName := ⟨RX12, "sets", "(III)V"⟩
theorem dX12_sets_0 : decode cX12_sets 0 = .ok (.aload_n 0, 1) := by decide +kernel
theorem dX12_sets_1 : decode cX12_sets 1 = .ok (.getfield 9, 3) := by decide +kernel
theorem dX12_sets_4 : decode cX12_sets 4 = .ok (.bipush 98, 2) := by decide +kernel
theorem dX12_sets_6 : decode cX12_sets 6 = .ok (.iload_n 1, 1) := by decide +kernel
theorem dX12_sets_7 : decode cX12_sets 7 = .ok (.bipush 9, 2) := by decide +kernel
theorem dX12_sets_9 : decode cX12_sets 9 = .ok (.imul, 1) := by decide +kernel
theorem dX12_sets_10 : decode cX12_sets 10 = .ok (.iadd, 1) := by decide +kernel
theorem dX12_sets_11 : decode cX12_sets 11 = .ok (.iload_n 2, 1) := by decide +kernel
theorem dX12_sets_12 : decode cX12_sets 12 = .ok (.iadd, 1) := by decide +kernel
theorem dX12_sets_13 : decode cX12_sets 13 = .ok (.iload_n 3, 1) := by decide +kernel
theorem dX12_sets_14 : decode cX12_sets 14 = .ok (.iastore, 1) := by decide +kernel
theorem dX12_sets_15 : decode cX12_sets 15 = .ok (.return_, 1) := by decide +kernel
abbrev cX12_isDue : ByteArray := prog_14_method_25_code
def yX12_isDue : MethodName := ⟨RX12, "isDue", "(I)Z"⟩
theorem dX12_isDue_0 : decode cX12_isDue 0 = .ok (.aload_n 0, 1) := by decide +kernel
theorem dX12_isDue_1 : decode cX12_isDue 1 = .ok (.iload_n 1, 1) := by decide +kernel
theorem dX12_isDue_2 : decode cX12_isDue 2 = .ok (.invokevirtual 93, 3) := by decide +kernel
theorem dX12_isDue_5 : decode cX12_isDue 5 = .ok (.ifCond .ne 39, 3) := by decide +kernel
theorem dX12_isDue_8 : decode cX12_isDue 8 = .ok (.aload_n 0, 1) := by decide +kernel
theorem dX12_isDue_9 : decode cX12_isDue 9 = .ok (.getfield 9, 3) := by decide +kernel
theorem dX12_isDue_12 : decode cX12_isDue 12 = .ok (.iconst 3, 1) := by decide +kernel
theorem dX12_isDue_13 : decode cX12_isDue 13 = .ok (.iaload, 1) := by decide +kernel
theorem dX12_isDue_14 : decode cX12_isDue 14 = .ok (.ifCond .eq 30, 3) := by decide +kernel
theorem dX12_isDue_17 : decode cX12_isDue 17 = .ok (.aload_n 0, 1) := by decide +kernel
theorem dX12_isDue_18 : decode cX12_isDue 18 = .ok (.getfield 9, 3) := by decide +kernel
theorem dX12_isDue_21 : decode cX12_isDue 21 = .ok (.bipush 8, 2) := by decide +kernel
theorem dX12_isDue_23 : decode cX12_isDue 23 = .ok (.iaload, 1) := by decide +kernel
theorem dX12_isDue_24 : decode cX12_isDue 24 = .ok (.aload_n 0, 1) := by decide +kernel
theorem dX12_isDue_25 : decode cX12_isDue 25 = .ok (.iload_n 1, 1) := by decide +kernel
theorem dX12_isDue_26 : decode cX12_isDue 26 = .ok (.iconst 4, 1) := by decide +kernel
theorem dX12_isDue_27 : decode cX12_isDue 27 = .ok (.invokevirtual 86, 3) := by decide +kernel
theorem dX12_isDue_30 : decode cX12_isDue 30 = .ok (.aload_n 0, 1) := by decide +kernel
theorem dX12_isDue_31 : decode cX12_isDue 31 = .ok (.getfield 9, 3) := by decide +kernel
theorem dX12_isDue_34 : decode cX12_isDue 34 = .ok (.iconst 3, 1) := by decide +kernel
theorem dX12_isDue_35 : decode cX12_isDue 35 = .ok (.iaload, 1) := by decide +kernel
theorem dX12_isDue_36 : decode cX12_isDue 36 = .ok (.iadd, 1) := by decide +kernel
theorem dX12_isDue_37 : decode cX12_isDue 37 = .ok (.if_icmp .lt 7, 3) := by decide +kernel
theorem dX12_isDue_40 : decode cX12_isDue 40 = .ok (.iconst 1, 1) := by decide +kernel
theorem dX12_isDue_41 : decode cX12_isDue 41 = .ok (.goto 4, 3) := by decide +kernel
theorem dX12_isDue_44 : decode cX12_isDue 44 = .ok (.iconst 0, 1) := by decide +kernel
theorem dX12_isDue_45 : decode cX12_isDue 45 = .ok (.ireturn, 1) := by decide +kernel
abbrev cX12_loadOf : ByteArray := prog_14_method_43_code
def yX12_loadOf : MethodName := ⟨RX12, "loadOf", "(I)I"⟩
theorem dX12_loadOf_0 : decode cX12_loadOf 0 = .ok (.iconst 0, 1) := by decide +kernel
theorem dX12_loadOf_1 : decode cX12_loadOf 1 = .ok (.istore_n 2, 1) := by decide +kernel
theorem dX12_loadOf_2 : decode cX12_loadOf 2 = .ok (.iload_n 2, 1) := by decide +kernel
theorem dX12_loadOf_3 : decode cX12_loadOf 3 = .ok (.aload_n 0, 1) := by decide +kernel
theorem dX12_loadOf_4 : decode cX12_loadOf 4 = .ok (.getfield 9, 3) := by decide +kernel
theorem dX12_loadOf_7 : decode cX12_loadOf 7 = .ok (.bipush 15, 2) := by decide +kernel
theorem dX12_loadOf_9 : decode cX12_loadOf 9 = .ok (.iaload, 1) := by decide +kernel
theorem dX12_loadOf_10 : decode cX12_loadOf 10 = .ok (.if_icmp .ge 21, 3) := by decide +kernel
theorem dX12_loadOf_13 : decode cX12_loadOf 13 = .ok (.aload_n 0, 1) := by decide +kernel
theorem dX12_loadOf_14 : decode cX12_loadOf 14 = .ok (.iload_n 2, 1) := by decide +kernel
theorem dX12_loadOf_15 : decode cX12_loadOf 15 = .ok (.iconst 0, 1) := by decide +kernel
theorem dX12_loadOf_16 : decode cX12_loadOf 16 = .ok (.invokevirtual 147, 3) := by decide +kernel
theorem dX12_loadOf_19 : decode cX12_loadOf 19 = .ok (.iload_n 1, 1) := by decide +kernel
theorem dX12_loadOf_20 : decode cX12_loadOf 20 = .ok (.if_icmp .ne 5, 3) := by decide +kernel
theorem dX12_loadOf_23 : decode cX12_loadOf 23 = .ok (.iload_n 2, 1) := by decide +kernel
theorem dX12_loadOf_24 : decode cX12_loadOf 24 = .ok (.ireturn, 1) := by decide +kernel
theorem dX12_loadOf_25 : decode cX12_loadOf 25 = .ok (.iinc 2 1, 3) := by decide +kernel
theorem dX12_loadOf_28 : decode cX12_loadOf 28 = .ok (.goto (-26), 3) := by decide +kernel
theorem dX12_loadOf_31 : decode cX12_loadOf 31 = .ok (.iconst (-1), 1) := by decide +kernel
theorem dX12_loadOf_32 : decode cX12_loadOf 32 = .ok (.ireturn, 1) := by decide +kernel
abbrev cX12_lines : ByteArray := prog_14_method_46_code
def yX12_lines : MethodName := ⟨RX12, "lines", "(II)V"⟩
theorem dX12_lines_0 : decode cX12_lines 0 = .ok (.sipush 2003, 3) := by decide +kernel
theorem dX12_lines_3 : decode cX12_lines 3 = .ok (.aload_n 0, 1) := by decide +kernel
theorem dX12_lines_4 : decode cX12_lines 4 = .ok (.getfield 9, 3) := by decide +kernel
theorem dX12_lines_7 : decode cX12_lines 7 = .ok (.bipush 15, 2) := by decide +kernel
theorem dX12_lines_9 : decode cX12_lines 9 = .ok (.iaload, 1) := by decide +kernel
theorem dX12_lines_10 : decode cX12_lines 10 = .ok (.bipush 20, 2) := by decide +kernel
theorem dX12_lines_12 : decode cX12_lines 12 = .ok (.imul, 1) := by decide +kernel
theorem dX12_lines_13 : decode cX12_lines 13 = .ok (.iadd, 1) := by decide +kernel
theorem dX12_lines_14 : decode cX12_lines 14 = .ok (.istore_n 3, 1) := by decide +kernel
theorem dX12_lines_15 : decode cX12_lines 15 = .ok (.aload_n 0, 1) := by decide +kernel
theorem dX12_lines_16 : decode cX12_lines 16 = .ok (.getfield 9, 3) := by decide +kernel
theorem dX12_lines_19 : decode cX12_lines 19 = .ok (.bipush 15, 2) := by decide +kernel
theorem dX12_lines_21 : decode cX12_lines 21 = .ok (.dup2, 1) := by decide +kernel
theorem dX12_lines_22 : decode cX12_lines 22 = .ok (.iaload, 1) := by decide +kernel
theorem dX12_lines_23 : decode cX12_lines 23 = .ok (.iconst 1, 1) := by decide +kernel
theorem dX12_lines_24 : decode cX12_lines 24 = .ok (.iadd, 1) := by decide +kernel
theorem dX12_lines_25 : decode cX12_lines 25 = .ok (.iastore, 1) := by decide +kernel
theorem dX12_lines_26 : decode cX12_lines 26 = .ok (.aload_n 0, 1) := by decide +kernel
theorem dX12_lines_27 : decode cX12_lines 27 = .ok (.getfield 9, 3) := by decide +kernel
theorem dX12_lines_30 : decode cX12_lines 30 = .ok (.iload_n 3, 1) := by decide +kernel
theorem dX12_lines_31 : decode cX12_lines 31 = .ok (.iconst 0, 1) := by decide +kernel
theorem dX12_lines_32 : decode cX12_lines 32 = .ok (.iadd, 1) := by decide +kernel
theorem dX12_lines_33 : decode cX12_lines 33 = .ok (.iload_n 1, 1) := by decide +kernel
theorem dX12_lines_34 : decode cX12_lines 34 = .ok (.iastore, 1) := by decide +kernel
theorem dX12_lines_35 : decode cX12_lines 35 = .ok (.aload_n 0, 1) := by decide +kernel
theorem dX12_lines_36 : decode cX12_lines 36 = .ok (.getfield 9, 3) := by decide +kernel
theorem dX12_lines_39 : decode cX12_lines 39 = .ok (.iload_n 3, 1) := by decide +kernel
theorem dX12_lines_40 : decode cX12_lines 40 = .ok (.iconst 1, 1) := by decide +kernel
theorem dX12_lines_41 : decode cX12_lines 41 = .ok (.iadd, 1) := by decide +kernel
theorem dX12_lines_42 : decode cX12_lines 42 = .ok (.iconst 1, 1) := by decide +kernel
theorem dX12_lines_43 : decode cX12_lines 43 = .ok (.iastore, 1) := by decide +kernel
theorem dX12_lines_44 : decode cX12_lines 44 = .ok (.aload_n 0, 1) := by decide +kernel
theorem dX12_lines_45 : decode cX12_lines 45 = .ok (.getfield 9, 3) := by decide +kernel
theorem dX12_lines_48 : decode cX12_lines 48 = .ok (.iload_n 3, 1) := by decide +kernel
theorem dX12_lines_49 : decode cX12_lines 49 = .ok (.iconst 3, 1) := by decide +kernel
theorem dX12_lines_50 : decode cX12_lines 50 = .ok (.iadd, 1) := by decide +kernel
theorem dX12_lines_51 : decode cX12_lines 51 = .ok (.iload_n 2, 1) := by decide +kernel
theorem dX12_lines_52 : decode cX12_lines 52 = .ok (.ifCond .ge 7, 3) := by decide +kernel
theorem dX12_lines_55 : decode cX12_lines 55 = .ok (.iconst 0, 1) := by decide +kernel
theorem dX12_lines_56 : decode cX12_lines 56 = .ok (.goto 4, 3) := by decide +kernel
theorem dX12_lines_59 : decode cX12_lines 59 = .ok (.iconst 1, 1) := by decide +kernel
theorem dX12_lines_60 : decode cX12_lines 60 = .ok (.iastore, 1) := by decide +kernel
theorem dX12_lines_61 : decode cX12_lines 61 = .ok (.aload_n 0, 1) := by decide +kernel
theorem dX12_lines_62 : decode cX12_lines 62 = .ok (.getfield 9, 3) := by decide +kernel
theorem dX12_lines_65 : decode cX12_lines 65 = .ok (.iload_n 3, 1) := by decide +kernel
theorem dX12_lines_66 : decode cX12_lines 66 = .ok (.iconst 4, 1) := by decide +kernel
theorem dX12_lines_67 : decode cX12_lines 67 = .ok (.iadd, 1) := by decide +kernel
theorem dX12_lines_68 : decode cX12_lines 68 = .ok (.iload_n 2, 1) := by decide +kernel
theorem dX12_lines_69 : decode cX12_lines 69 = .ok (.iastore, 1) := by decide +kernel
theorem dX12_lines_70 : decode cX12_lines 70 = .ok (.aload_n 0, 1) := by decide +kernel
theorem dX12_lines_71 : decode cX12_lines 71 = .ok (.iconst 1, 1) := by decide +kernel
theorem dX12_lines_72 : decode cX12_lines 72 = .ok (.iload_n 1, 1) := by decide +kernel
theorem dX12_lines_73 : decode cX12_lines 73 = .ok (.invokevirtual 67, 3) := by decide +kernel
theorem dX12_lines_76 : decode cX12_lines 76 = .ok (.aload_n 0, 1) := by decide +kernel
theorem dX12_lines_77 : decode cX12_lines 77 = .ok (.invokevirtual 143, 3) := by decide +kernel
theorem dX12_lines_80 : decode cX12_lines 80 = .ok (.return_, 1) := by decide +kernel
abbrev cX12_hits : ByteArray := prog_14_method_58_code
def yX12_hits : MethodName := ⟨RX12, "hits", "(II)I"⟩
theorem dX12_hits_0 : decode cX12_hits 0 = .ok (.aload_n 0, 1) := by decide +kernel
theorem dX12_hits_1 : decode cX12_hits 1 = .ok (.iload_n 1, 1) := by decide +kernel
theorem dX12_hits_2 : decode cX12_hits 2 = .ok (.iconst 5, 1) := by decide +kernel
theorem dX12_hits_3 : decode cX12_hits 3 = .ok (.sipush 999, 3) := by decide +kernel
theorem dX12_hits_6 : decode cX12_hits 6 = .ok (.aload_n 0, 1) := by decide +kernel
theorem dX12_hits_7 : decode cX12_hits 7 = .ok (.iload_n 1, 1) := by decide +kernel
theorem dX12_hits_8 : decode cX12_hits 8 = .ok (.iconst 5, 1) := by decide +kernel
theorem dX12_hits_9 : decode cX12_hits 9 = .ok (.invokevirtual 86, 3) := by decide +kernel
theorem dX12_hits_12 : decode cX12_hits 12 = .ok (.iconst 1, 1) := by decide +kernel
theorem dX12_hits_13 : decode cX12_hits 13 = .ok (.iadd, 1) := by decide +kernel
theorem dX12_hits_14 : decode cX12_hits 14 = .ok (.invokestatic 74, 3) := by decide +kernel
theorem dX12_hits_17 : decode cX12_hits 17 = .ok (.invokevirtual 136, 3) := by decide +kernel
theorem dX12_hits_20 : decode cX12_hits 20 = .ok (.aload_n 0, 1) := by decide +kernel
theorem dX12_hits_21 : decode cX12_hits 21 = .ok (.iload_n 1, 1) := by decide +kernel
theorem dX12_hits_22 : decode cX12_hits 22 = .ok (.bipush 6, 2) := by decide +kernel
theorem dX12_hits_24 : decode cX12_hits 24 = .ok (.aload_n 0, 1) := by decide +kernel
theorem dX12_hits_25 : decode cX12_hits 25 = .ok (.getfield 9, 3) := by decide +kernel
theorem dX12_hits_28 : decode cX12_hits 28 = .ok (.bipush 9, 2) := by decide +kernel
theorem dX12_hits_30 : decode cX12_hits 30 = .ok (.iaload, 1) := by decide +kernel
theorem dX12_hits_31 : decode cX12_hits 31 = .ok (.invokevirtual 136, 3) := by decide +kernel
theorem dX12_hits_34 : decode cX12_hits 34 = .ok (.aload_n 0, 1) := by decide +kernel
theorem dX12_hits_35 : decode cX12_hits 35 = .ok (.getfield 9, 3) := by decide +kernel
theorem dX12_hits_38 : decode cX12_hits 38 = .ok (.bipush 21, 2) := by decide +kernel
theorem dX12_hits_40 : decode cX12_hits 40 = .ok (.dup2, 1) := by decide +kernel
theorem dX12_hits_41 : decode cX12_hits 41 = .ok (.iaload, 1) := by decide +kernel
theorem dX12_hits_42 : decode cX12_hits 42 = .ok (.iconst 1, 1) := by decide +kernel
theorem dX12_hits_43 : decode cX12_hits 43 = .ok (.iadd, 1) := by decide +kernel
theorem dX12_hits_44 : decode cX12_hits 44 = .ok (.iastore, 1) := by decide +kernel
theorem dX12_hits_45 : decode cX12_hits 45 = .ok (.aload_n 0, 1) := by decide +kernel
theorem dX12_hits_46 : decode cX12_hits 46 = .ok (.getfield 9, 3) := by decide +kernel
theorem dX12_hits_49 : decode cX12_hits 49 = .ok (.sipush 8403, 3) := by decide +kernel
theorem dX12_hits_52 : decode cX12_hits 52 = .ok (.iconst 4, 1) := by decide +kernel
theorem dX12_hits_53 : decode cX12_hits 53 = .ok (.iload_n 2, 1) := by decide +kernel
theorem dX12_hits_54 : decode cX12_hits 54 = .ok (.imul, 1) := by decide +kernel
theorem dX12_hits_55 : decode cX12_hits 55 = .ok (.iadd, 1) := by decide +kernel
theorem dX12_hits_56 : decode cX12_hits 56 = .ok (.iconst 1, 1) := by decide +kernel
theorem dX12_hits_57 : decode cX12_hits 57 = .ok (.iadd, 1) := by decide +kernel
theorem dX12_hits_58 : decode cX12_hits 58 = .ok (.dup2, 1) := by decide +kernel
theorem dX12_hits_59 : decode cX12_hits 59 = .ok (.iaload, 1) := by decide +kernel
theorem dX12_hits_60 : decode cX12_hits 60 = .ok (.iconst 1, 1) := by decide +kernel
theorem dX12_hits_61 : decode cX12_hits 61 = .ok (.iadd, 1) := by decide +kernel
theorem dX12_hits_62 : decode cX12_hits 62 = .ok (.iastore, 1) := by decide +kernel
theorem dX12_hits_63 : decode cX12_hits 63 = .ok (.aload_n 0, 1) := by decide +kernel
theorem dX12_hits_64 : decode cX12_hits 64 = .ok (.iload_n 1, 1) := by decide +kernel
theorem dX12_hits_65 : decode cX12_hits 65 = .ok (.iconst 0, 1) := by decide +kernel
theorem dX12_hits_66 : decode cX12_hits 66 = .ok (.invokevirtual 86, 3) := by decide +kernel
theorem dX12_hits_69 : decode cX12_hits 69 = .ok (.istore_n 3, 1) := by decide +kernel
theorem dX12_hits_70 : decode cX12_hits 70 = .ok (.aload_n 0, 1) := by decide +kernel
theorem dX12_hits_71 : decode cX12_hits 71 = .ok (.iconst 0, 1) := by decide +kernel
theorem dX12_hits_72 : decode cX12_hits 72 = .ok (.iload_n 3, 1) := by decide +kernel
theorem dX12_hits_73 : decode cX12_hits 73 = .ok (.invokevirtual 67, 3) := by decide +kernel
theorem dX12_hits_76 : decode cX12_hits 76 = .ok (.aload_n 0, 1) := by decide +kernel
theorem dX12_hits_77 : decode cX12_hits 77 = .ok (.iload_n 1, 1) := by decide +kernel
theorem dX12_hits_78 : decode cX12_hits 78 = .ok (.invokevirtual 185, 3) := by decide +kernel
theorem dX12_hits_81 : decode cX12_hits 81 = .ok (.ifCond .eq 17, 3) := by decide +kernel
theorem dX12_hits_84 : decode cX12_hits 84 = .ok (.aload_n 0, 1) := by decide +kernel
theorem dX12_hits_85 : decode cX12_hits 85 = .ok (.iload_n 3, 1) := by decide +kernel
theorem dX12_hits_86 : decode cX12_hits 86 = .ok (.invokevirtual 162, 3) := by decide +kernel
theorem dX12_hits_89 : decode cX12_hits 89 = .ok (.ifCond .ge 9, 3) := by decide +kernel
theorem dX12_hits_92 : decode cX12_hits 92 = .ok (.aload_n 0, 1) := by decide +kernel
theorem dX12_hits_93 : decode cX12_hits 93 = .ok (.iload_n 3, 1) := by decide +kernel
theorem dX12_hits_94 : decode cX12_hits 94 = .ok (.iconst (-1), 1) := by decide +kernel
theorem dX12_hits_95 : decode cX12_hits 95 = .ok (.invokevirtual 188, 3) := by decide +kernel
theorem dX12_hits_98 : decode cX12_hits 98 = .ok (.aload_n 0, 1) := by decide +kernel
theorem dX12_hits_99 : decode cX12_hits 99 = .ok (.iload_n 1, 1) := by decide +kernel
theorem dX12_hits_100 : decode cX12_hits 100 = .ok (.iconst 1, 1) := by decide +kernel
theorem dX12_hits_101 : decode cX12_hits 101 = .ok (.invokevirtual 86, 3) := by decide +kernel
theorem dX12_hits_104 : decode cX12_hits 104 = .ok (.ireturn, 1) := by decide +kernel
theorem kw_1430 : Cond.methodLink "FrequencyShelfModel" 136 yX12_sets ∈ TB := tb_at 1430 (by decide +kernel) (by decide +kernel)
theorem kw_1433 : Cond.code yX12_sets cX12_sets 4 none ∈ TB := tb_at 1433 (by decide +kernel) (by decide +kernel)
theorem kw_1432 : Cond.instanceMethod yX12_sets ∈ TB := tb_at 1432 (by decide +kernel) (by decide +kernel)
theorem kw_41 : Cond.selects "FrequencyShelfModel" yX12_sets yX12_sets ∈ TB := tb_at 41 (by decide +kernel) (by decide +kernel)
theorem cv_X12_sets : Cond.code yX12_sets cX12_sets 4 none ∈ TB ∧ Cond.instanceMethod yX12_sets ∈ TB ∧ Cond.selects "FrequencyShelfModel" yX12_sets yX12_sets ∈ TB ∧ Cond.initialized "FrequencyShelfModel" ∈ TB := ⟨kw_1433, kw_1432, kw_41, kw_75⟩
theorem kw_1476 : Cond.methodLink "FrequencyShelfModel" 185 yX12_isDue ∈ TB := tb_at 1476 (by decide +kernel) (by decide +kernel)
theorem kw_1479 : Cond.code yX12_isDue cX12_isDue 2 (some .boolean) ∈ TB := tb_at 1479 (by decide +kernel) (by decide +kernel)
theorem kw_1478 : Cond.instanceMethod yX12_isDue ∈ TB := tb_at 1478 (by decide +kernel) (by decide +kernel)
theorem kw_47 : Cond.selects "FrequencyShelfModel" yX12_isDue yX12_isDue ∈ TB := tb_at 47 (by decide +kernel) (by decide +kernel)
theorem cv_X12_isDue : Cond.code yX12_isDue cX12_isDue 2 (some .boolean) ∈ TB ∧ Cond.instanceMethod yX12_isDue ∈ TB ∧ Cond.selects "FrequencyShelfModel" yX12_isDue yX12_isDue ∈ TB ∧ Cond.initialized "FrequencyShelfModel" ∈ TB := ⟨kw_1479, kw_1478, kw_47, kw_75⟩
theorem kw_1410 : Cond.methodLink "FrequencyShelfModel" 162 yX12_loadOf ∈ TB := tb_at 1410 (by decide +kernel) (by decide +kernel)
theorem kw_1413 : Cond.code yX12_loadOf cX12_loadOf 3 (some .int) ∈ TB := tb_at 1413 (by decide +kernel) (by decide +kernel)
theorem kw_1412 : Cond.instanceMethod yX12_loadOf ∈ TB := tb_at 1412 (by decide +kernel) (by decide +kernel)
theorem kw_36 : Cond.selects "FrequencyShelfModel" yX12_loadOf yX12_loadOf ∈ TB := tb_at 36 (by decide +kernel) (by decide +kernel)
theorem cv_X12_loadOf : Cond.code yX12_loadOf cX12_loadOf 3 (some .int) ∈ TB ∧ Cond.instanceMethod yX12_loadOf ∈ TB ∧ Cond.selects "FrequencyShelfModel" yX12_loadOf yX12_loadOf ∈ TB ∧ Cond.initialized "FrequencyShelfModel" ∈ TB := ⟨kw_1413, kw_1412, kw_36, kw_75⟩
theorem kw_1480 : Cond.methodLink "FrequencyShelfModel" 188 yX12_lines ∈ TB := tb_at 1480 (by decide +kernel) (by decide +kernel)
theorem kw_1483 : Cond.code yX12_lines cX12_lines 4 none ∈ TB := tb_at 1483 (by decide +kernel) (by decide +kernel)
theorem kw_1482 : Cond.instanceMethod yX12_lines ∈ TB := tb_at 1482 (by decide +kernel) (by decide +kernel)
theorem kw_48 : Cond.selects "FrequencyShelfModel" yX12_lines yX12_lines ∈ TB := tb_at 48 (by decide +kernel) (by decide +kernel)
theorem cv_X12_lines : Cond.code yX12_lines cX12_lines 4 none ∈ TB ∧ Cond.instanceMethod yX12_lines ∈ TB ∧ Cond.selects "FrequencyShelfModel" yX12_lines yX12_lines ∈ TB ∧ Cond.initialized "FrequencyShelfModel" ∈ TB := ⟨kw_1483, kw_1482, kw_48, kw_75⟩
abbrev cX12_coldAt : ByteArray := prog_14_method_33_code
def yX12_coldAt : MethodName := ⟨RX12, "coldAt", "(II)I"⟩
theorem dX12_coldAt_0 : decode cX12_coldAt 0 = .ok (.aload_n 0, 1) := by decide +kernel
theorem dX12_coldAt_1 : decode cX12_coldAt 1 = .ok (.getfield 9, 3) := by decide +kernel
theorem dX12_coldAt_4 : decode cX12_coldAt 4 = .ok (.sipush 1898, 3) := by decide +kernel
theorem dX12_coldAt_7 : decode cX12_coldAt 7 = .ok (.iload_n 1, 1) := by decide +kernel
theorem dX12_coldAt_8 : decode cX12_coldAt 8 = .ok (.iconst 5, 1) := by decide +kernel
theorem dX12_coldAt_9 : decode cX12_coldAt 9 = .ok (.imul, 1) := by decide +kernel
theorem dX12_coldAt_10 : decode cX12_coldAt 10 = .ok (.iadd, 1) := by decide +kernel
theorem dX12_coldAt_11 : decode cX12_coldAt 11 = .ok (.iload_n 2, 1) := by decide +kernel
theorem dX12_coldAt_12 : decode cX12_coldAt 12 = .ok (.iadd, 1) := by decide +kernel
theorem dX12_coldAt_13 : decode cX12_coldAt 13 = .ok (.iaload, 1) := by decide +kernel
theorem dX12_coldAt_14 : decode cX12_coldAt 14 = .ok (.ireturn, 1) := by decide +kernel
abbrev cX12_coldOf : ByteArray := prog_14_method_34_code
def yX12_coldOf : MethodName := ⟨RX12, "coldOf", "(I)I"⟩
theorem dX12_coldOf_0 : decode cX12_coldOf 0 = .ok (.iconst 0, 1) := by decide +kernel
theorem dX12_coldOf_1 : decode cX12_coldOf 1 = .ok (.istore_n 2, 1) := by decide +kernel
theorem dX12_coldOf_2 : decode cX12_coldOf 2 = .ok (.iload_n 2, 1) := by decide +kernel
theorem dX12_coldOf_3 : decode cX12_coldOf 3 = .ok (.aload_n 0, 1) := by decide +kernel
theorem dX12_coldOf_4 : decode cX12_coldOf 4 = .ok (.getfield 9, 3) := by decide +kernel
theorem dX12_coldOf_7 : decode cX12_coldOf 7 = .ok (.bipush 14, 2) := by decide +kernel
theorem dX12_coldOf_9 : decode cX12_coldOf 9 = .ok (.iaload, 1) := by decide +kernel
theorem dX12_coldOf_10 : decode cX12_coldOf 10 = .ok (.if_icmp .ge 21, 3) := by decide +kernel
theorem dX12_coldOf_13 : decode cX12_coldOf 13 = .ok (.aload_n 0, 1) := by decide +kernel
theorem dX12_coldOf_14 : decode cX12_coldOf 14 = .ok (.iload_n 2, 1) := by decide +kernel
theorem dX12_coldOf_15 : decode cX12_coldOf 15 = .ok (.iconst 0, 1) := by decide +kernel
theorem dX12_coldOf_16 : decode cX12_coldOf 16 = .ok (.invokevirtual 117, 3) := by decide +kernel
theorem dX12_coldOf_19 : decode cX12_coldOf 19 = .ok (.iload_n 1, 1) := by decide +kernel
theorem dX12_coldOf_20 : decode cX12_coldOf 20 = .ok (.if_icmp .ne 5, 3) := by decide +kernel
theorem dX12_coldOf_23 : decode cX12_coldOf 23 = .ok (.iload_n 2, 1) := by decide +kernel
theorem dX12_coldOf_24 : decode cX12_coldOf 24 = .ok (.ireturn, 1) := by decide +kernel
theorem dX12_coldOf_25 : decode cX12_coldOf 25 = .ok (.iinc 2 1, 3) := by decide +kernel
theorem dX12_coldOf_28 : decode cX12_coldOf 28 = .ok (.goto (-26), 3) := by decide +kernel
theorem dX12_coldOf_31 : decode cX12_coldOf 31 = .ok (.iconst (-1), 1) := by decide +kernel
theorem dX12_coldOf_32 : decode cX12_coldOf 32 = .ok (.ireturn, 1) := by decide +kernel
theorem kw_1418 : Cond.methodLink "FrequencyShelfModel" 117 yX12_coldAt ∈ TB := tb_at 1418 (by decide +kernel) (by decide +kernel)
theorem kw_1421 : Cond.code yX12_coldAt cX12_coldAt 3 (some .int) ∈ TB := tb_at 1421 (by decide +kernel) (by decide +kernel)
theorem kw_1420 : Cond.instanceMethod yX12_coldAt ∈ TB := tb_at 1420 (by decide +kernel) (by decide +kernel)
theorem kw_38 : Cond.selects "FrequencyShelfModel" yX12_coldAt yX12_coldAt ∈ TB := tb_at 38 (by decide +kernel) (by decide +kernel)
theorem cv_X12_coldAt : Cond.code yX12_coldAt cX12_coldAt 3 (some .int) ∈ TB ∧ Cond.instanceMethod yX12_coldAt ∈ TB ∧ Cond.selects "FrequencyShelfModel" yX12_coldAt yX12_coldAt ∈ TB ∧ Cond.initialized "FrequencyShelfModel" ∈ TB := ⟨kw_1421, kw_1420, kw_38, kw_75⟩
abbrev cX12_seenOf : ByteArray := prog_14_method_17_code
def yX12_seenOf : MethodName := ⟨RX12, "seenOf", "(I)I"⟩
theorem dX12_seenOf_0 : decode cX12_seenOf 0 = .ok (.bipush 15, 2) := by decide +kernel
theorem dX12_seenOf_2 : decode cX12_seenOf 2 = .ok (.istore_n 2, 1) := by decide +kernel
theorem dX12_seenOf_3 : decode cX12_seenOf 3 = .ok (.iconst 0, 1) := by decide +kernel
theorem dX12_seenOf_4 : decode cX12_seenOf 4 = .ok (.istore_n 3, 1) := by decide +kernel
theorem dX12_seenOf_5 : decode cX12_seenOf 5 = .ok (.iload_n 3, 1) := by decide +kernel
theorem dX12_seenOf_6 : decode cX12_seenOf 6 = .ok (.iconst 4, 1) := by decide +kernel
theorem dX12_seenOf_7 : decode cX12_seenOf 7 = .ok (.if_icmp .ge 32, 3) := by decide +kernel
theorem dX12_seenOf_10 : decode cX12_seenOf 10 = .ok (.iload_n 2, 1) := by decide +kernel
theorem dX12_seenOf_11 : decode cX12_seenOf 11 = .ok (.aload_n 0, 1) := by decide +kernel
theorem dX12_seenOf_12 : decode cX12_seenOf 12 = .ok (.getfield 9, 3) := by decide +kernel
theorem dX12_seenOf_15 : decode cX12_seenOf 15 = .ok (.bipush 34, 2) := by decide +kernel
theorem dX12_seenOf_17 : decode cX12_seenOf 17 = .ok (.bipush 16, 2) := by decide +kernel
theorem dX12_seenOf_19 : decode cX12_seenOf 19 = .ok (.iload_n 3, 1) := by decide +kernel
theorem dX12_seenOf_20 : decode cX12_seenOf 20 = .ok (.imul, 1) := by decide +kernel
theorem dX12_seenOf_21 : decode cX12_seenOf 21 = .ok (.iadd, 1) := by decide +kernel
theorem dX12_seenOf_22 : decode cX12_seenOf 22 = .ok (.iload_n 1, 1) := by decide +kernel
theorem dX12_seenOf_23 : decode cX12_seenOf 23 = .ok (.iload_n 3, 1) := by decide +kernel
theorem dX12_seenOf_24 : decode cX12_seenOf 24 = .ok (.invokestatic 71, 3) := by decide +kernel
theorem dX12_seenOf_27 : decode cX12_seenOf 27 = .ok (.iadd, 1) := by decide +kernel
theorem dX12_seenOf_28 : decode cX12_seenOf 28 = .ok (.iaload, 1) := by decide +kernel
theorem dX12_seenOf_29 : decode cX12_seenOf 29 = .ok (.invokestatic 74, 3) := by decide +kernel
theorem dX12_seenOf_32 : decode cX12_seenOf 32 = .ok (.istore_n 2, 1) := by decide +kernel
theorem dX12_seenOf_33 : decode cX12_seenOf 33 = .ok (.iinc 3 1, 3) := by decide +kernel
theorem dX12_seenOf_36 : decode cX12_seenOf 36 = .ok (.goto (-31), 3) := by decide +kernel
theorem dX12_seenOf_39 : decode cX12_seenOf 39 = .ok (.iload_n 2, 1) := by decide +kernel
theorem dX12_seenOf_40 : decode cX12_seenOf 40 = .ok (.ireturn, 1) := by decide +kernel
abbrev cX12_mayCome : ByteArray := prog_14_method_36_code
def yX12_mayCome : MethodName := ⟨RX12, "mayCome", "(II)Z"⟩
theorem dX12_mayCome_0 : decode cX12_mayCome 0 = .ok (.iload_n 2, 1) := by decide +kernel
theorem dX12_mayCome_1 : decode cX12_mayCome 1 = .ok (.aload_n 0, 1) := by decide +kernel
theorem dX12_mayCome_2 : decode cX12_mayCome 2 = .ok (.getfield 9, 3) := by decide +kernel
theorem dX12_mayCome_5 : decode cX12_mayCome 5 = .ok (.iconst 0, 1) := by decide +kernel
theorem dX12_mayCome_6 : decode cX12_mayCome 6 = .ok (.iaload, 1) := by decide +kernel
theorem dX12_mayCome_7 : decode cX12_mayCome 7 = .ok (.if_icmp .le 5, 3) := by decide +kernel
theorem dX12_mayCome_10 : decode cX12_mayCome 10 = .ok (.iconst 0, 1) := by decide +kernel
theorem dX12_mayCome_11 : decode cX12_mayCome 11 = .ok (.ireturn, 1) := by decide +kernel
theorem dX12_mayCome_12 : decode cX12_mayCome 12 = .ok (.aload_n 0, 1) := by decide +kernel
theorem dX12_mayCome_13 : decode cX12_mayCome 13 = .ok (.getfield 9, 3) := by decide +kernel
theorem dX12_mayCome_16 : decode cX12_mayCome 16 = .ok (.iconst 5, 1) := by decide +kernel
theorem dX12_mayCome_17 : decode cX12_mayCome 17 = .ok (.iaload, 1) := by decide +kernel
theorem dX12_mayCome_18 : decode cX12_mayCome 18 = .ok (.ifCond .eq 18, 3) := by decide +kernel
theorem dX12_mayCome_21 : decode cX12_mayCome 21 = .ok (.aload_n 0, 1) := by decide +kernel
theorem dX12_mayCome_22 : decode cX12_mayCome 22 = .ok (.invokevirtual 120, 3) := by decide +kernel
theorem dX12_mayCome_25 : decode cX12_mayCome 25 = .ok (.iload_n 2, 1) := by decide +kernel
theorem dX12_mayCome_26 : decode cX12_mayCome 26 = .ok (.iadd, 1) := by decide +kernel
theorem dX12_mayCome_27 : decode cX12_mayCome 27 = .ok (.aload_n 0, 1) := by decide +kernel
theorem dX12_mayCome_28 : decode cX12_mayCome 28 = .ok (.getfield 9, 3) := by decide +kernel
theorem dX12_mayCome_31 : decode cX12_mayCome 31 = .ok (.iconst 0, 1) := by decide +kernel
theorem dX12_mayCome_32 : decode cX12_mayCome 32 = .ok (.iaload, 1) := by decide +kernel
theorem dX12_mayCome_33 : decode cX12_mayCome 33 = .ok (.if_icmp .gt 5, 3) := by decide +kernel
theorem dX12_mayCome_36 : decode cX12_mayCome 36 = .ok (.iconst 1, 1) := by decide +kernel
theorem dX12_mayCome_37 : decode cX12_mayCome 37 = .ok (.ireturn, 1) := by decide +kernel
theorem dX12_mayCome_38 : decode cX12_mayCome 38 = .ok (.aload_n 0, 1) := by decide +kernel
theorem dX12_mayCome_39 : decode cX12_mayCome 39 = .ok (.iconst 0, 1) := by decide +kernel
theorem dX12_mayCome_40 : decode cX12_mayCome 40 = .ok (.invokevirtual 123, 3) := by decide +kernel
theorem dX12_mayCome_43 : decode cX12_mayCome 43 = .ok (.istore_n 3, 1) := by decide +kernel
theorem dX12_mayCome_44 : decode cX12_mayCome 44 = .ok (.aload_n 0, 1) := by decide +kernel
theorem dX12_mayCome_45 : decode cX12_mayCome 45 = .ok (.iload_n 3, 1) := by decide +kernel
theorem dX12_mayCome_46 : decode cX12_mayCome 46 = .ok (.invokevirtual 93, 3) := by decide +kernel
theorem dX12_mayCome_49 : decode cX12_mayCome 49 = .ok (.ifCond .ne 17, 3) := by decide +kernel
theorem dX12_mayCome_52 : decode cX12_mayCome 52 = .ok (.aload_n 0, 1) := by decide +kernel
theorem dX12_mayCome_53 : decode cX12_mayCome 53 = .ok (.iload_n 3, 1) := by decide +kernel
theorem dX12_mayCome_54 : decode cX12_mayCome 54 = .ok (.iconst 5, 1) := by decide +kernel
theorem dX12_mayCome_55 : decode cX12_mayCome 55 = .ok (.invokevirtual 86, 3) := by decide +kernel
theorem dX12_mayCome_58 : decode cX12_mayCome 58 = .ok (.aload_n 0, 1) := by decide +kernel
theorem dX12_mayCome_59 : decode cX12_mayCome 59 = .ok (.iload_n 1, 1) := by decide +kernel
theorem dX12_mayCome_60 : decode cX12_mayCome 60 = .ok (.invokevirtual 83, 3) := by decide +kernel
theorem dX12_mayCome_63 : decode cX12_mayCome 63 = .ok (.if_icmp .ge 7, 3) := by decide +kernel
theorem dX12_mayCome_66 : decode cX12_mayCome 66 = .ok (.iconst 1, 1) := by decide +kernel
theorem dX12_mayCome_67 : decode cX12_mayCome 67 = .ok (.goto 4, 3) := by decide +kernel
theorem dX12_mayCome_70 : decode cX12_mayCome 70 = .ok (.iconst 0, 1) := by decide +kernel
theorem dX12_mayCome_71 : decode cX12_mayCome 71 = .ok (.ireturn, 1) := by decide +kernel
theorem kw_1289 : Cond.methodLink "FrequencyShelfModel" 83 yX12_seenOf ∈ TB := tb_at 1289 (by decide +kernel) (by decide +kernel)
theorem kw_1292 : Cond.code yX12_seenOf cX12_seenOf 4 (some .int) ∈ TB := tb_at 1292 (by decide +kernel) (by decide +kernel)
theorem kw_1291 : Cond.instanceMethod yX12_seenOf ∈ TB := tb_at 1291 (by decide +kernel) (by decide +kernel)
theorem kw_14 : Cond.selects "FrequencyShelfModel" yX12_seenOf yX12_seenOf ∈ TB := tb_at 14 (by decide +kernel) (by decide +kernel)
theorem cv_X12_seenOf : Cond.code yX12_seenOf cX12_seenOf 4 (some .int) ∈ TB ∧ Cond.instanceMethod yX12_seenOf ∈ TB ∧ Cond.selects "FrequencyShelfModel" yX12_seenOf yX12_seenOf ∈ TB ∧ Cond.initialized "FrequencyShelfModel" ∈ TB := ⟨kw_1292, kw_1291, kw_14, kw_75⟩
abbrev cX12_letsIn : ByteArray := prog_14_method_37_code
def yX12_letsIn : MethodName := ⟨RX12, "letsIn", "(IIIII)Z"⟩
theorem dX12_letsIn_0 : decode cX12_letsIn 0 = .ok (.aload_n 0, 1) := by decide +kernel
theorem dX12_letsIn_1 : decode cX12_letsIn 1 = .ok (.iload_n 1, 1) := by decide +kernel
theorem dX12_letsIn_2 : decode cX12_letsIn 2 = .ok (.iload_n 3, 1) := by decide +kernel
theorem dX12_letsIn_3 : decode cX12_letsIn 3 = .ok (.invokevirtual 130, 3) := by decide +kernel
theorem dX12_letsIn_6 : decode cX12_letsIn 6 = .ok (.ifCond .ne 11, 3) := by decide +kernel
theorem dX12_letsIn_9 : decode cX12_letsIn 9 = .ok (.aload_n 0, 1) := by decide +kernel
theorem dX12_letsIn_10 : decode cX12_letsIn 10 = .ok (.iconst 5, 1) := by decide +kernel
theorem dX12_letsIn_11 : decode cX12_letsIn 11 = .ok (.iload_n 1, 1) := by decide +kernel
theorem dX12_letsIn_12 : decode cX12_letsIn 12 = .ok (.invokevirtual 67, 3) := by decide +kernel
theorem dX12_letsIn_15 : decode cX12_letsIn 15 = .ok (.iconst 0, 1) := by decide +kernel
theorem dX12_letsIn_16 : decode cX12_letsIn 16 = .ok (.ireturn, 1) := by decide +kernel
theorem dX12_letsIn_17 : decode cX12_letsIn 17 = .ok (.aload_n 0, 1) := by decide +kernel
theorem dX12_letsIn_18 : decode cX12_letsIn 18 = .ok (.iload_n 3, 1) := by decide +kernel
theorem dX12_letsIn_19 : decode cX12_letsIn 19 = .ok (.iconst 0, 1) := by decide +kernel
theorem dX12_letsIn_20 : decode cX12_letsIn 20 = .ok (.invokevirtual 133, 3) := by decide +kernel
theorem dX12_letsIn_23 : decode cX12_letsIn 23 = .ok (.aload_n 0, 1) := by decide +kernel
theorem dX12_letsIn_24 : decode cX12_letsIn 24 = .ok (.getfield 9, 3) := by decide +kernel
theorem dX12_letsIn_27 : decode cX12_letsIn 27 = .ok (.bipush 13, 2) := by decide +kernel
theorem dX12_letsIn_29 : decode cX12_letsIn 29 = .ok (.iaload, 1) := by decide +kernel
theorem dX12_letsIn_30 : decode cX12_letsIn 30 = .ok (.istore 6, 2) := by decide +kernel
theorem dX12_letsIn_32 : decode cX12_letsIn 32 = .ok (.aload_n 0, 1) := by decide +kernel
theorem dX12_letsIn_33 : decode cX12_letsIn 33 = .ok (.getfield 9, 3) := by decide +kernel
theorem dX12_letsIn_36 : decode cX12_letsIn 36 = .ok (.bipush 13, 2) := by decide +kernel
theorem dX12_letsIn_38 : decode cX12_letsIn 38 = .ok (.dup2, 1) := by decide +kernel
theorem dX12_letsIn_39 : decode cX12_letsIn 39 = .ok (.iaload, 1) := by decide +kernel
theorem dX12_letsIn_40 : decode cX12_letsIn 40 = .ok (.iconst 1, 1) := by decide +kernel
theorem dX12_letsIn_41 : decode cX12_letsIn 41 = .ok (.iadd, 1) := by decide +kernel
theorem dX12_letsIn_42 : decode cX12_letsIn 42 = .ok (.iastore, 1) := by decide +kernel
theorem dX12_letsIn_43 : decode cX12_letsIn 43 = .ok (.aload_n 0, 1) := by decide +kernel
theorem dX12_letsIn_44 : decode cX12_letsIn 44 = .ok (.getfield 9, 3) := by decide +kernel
theorem dX12_letsIn_47 : decode cX12_letsIn 47 = .ok (.bipush 10, 2) := by decide +kernel
theorem dX12_letsIn_49 : decode cX12_letsIn 49 = .ok (.dup2, 1) := by decide +kernel
theorem dX12_letsIn_50 : decode cX12_letsIn 50 = .ok (.iaload, 1) := by decide +kernel
theorem dX12_letsIn_51 : decode cX12_letsIn 51 = .ok (.iconst 1, 1) := by decide +kernel
theorem dX12_letsIn_52 : decode cX12_letsIn 52 = .ok (.iadd, 1) := by decide +kernel
theorem dX12_letsIn_53 : decode cX12_letsIn 53 = .ok (.iastore, 1) := by decide +kernel
theorem dX12_letsIn_54 : decode cX12_letsIn 54 = .ok (.aload_n 0, 1) := by decide +kernel
theorem dX12_letsIn_55 : decode cX12_letsIn 55 = .ok (.iload 6, 2) := by decide +kernel
theorem dX12_letsIn_57 : decode cX12_letsIn 57 = .ok (.iconst 0, 1) := by decide +kernel
theorem dX12_letsIn_58 : decode cX12_letsIn 58 = .ok (.iload_n 1, 1) := by decide +kernel
theorem dX12_letsIn_59 : decode cX12_letsIn 59 = .ok (.invokevirtual 136, 3) := by decide +kernel
theorem dX12_letsIn_62 : decode cX12_letsIn 62 = .ok (.aload_n 0, 1) := by decide +kernel
theorem dX12_letsIn_63 : decode cX12_letsIn 63 = .ok (.iload 6, 2) := by decide +kernel
theorem dX12_letsIn_65 : decode cX12_letsIn 65 = .ok (.iconst 1, 1) := by decide +kernel
theorem dX12_letsIn_66 : decode cX12_letsIn 66 = .ok (.iload_n 2, 1) := by decide +kernel
theorem dX12_letsIn_67 : decode cX12_letsIn 67 = .ok (.invokevirtual 136, 3) := by decide +kernel
theorem dX12_letsIn_70 : decode cX12_letsIn 70 = .ok (.aload_n 0, 1) := by decide +kernel
theorem dX12_letsIn_71 : decode cX12_letsIn 71 = .ok (.iload 6, 2) := by decide +kernel
theorem dX12_letsIn_73 : decode cX12_letsIn 73 = .ok (.iconst 2, 1) := by decide +kernel
theorem dX12_letsIn_74 : decode cX12_letsIn 74 = .ok (.iload_n 3, 1) := by decide +kernel
theorem dX12_letsIn_75 : decode cX12_letsIn 75 = .ok (.invokevirtual 136, 3) := by decide +kernel
theorem dX12_letsIn_78 : decode cX12_letsIn 78 = .ok (.aload_n 0, 1) := by decide +kernel
theorem dX12_letsIn_79 : decode cX12_letsIn 79 = .ok (.iload 6, 2) := by decide +kernel
theorem dX12_letsIn_81 : decode cX12_letsIn 81 = .ok (.iconst 3, 1) := by decide +kernel
theorem dX12_letsIn_82 : decode cX12_letsIn 82 = .ok (.iload 4, 2) := by decide +kernel
theorem dX12_letsIn_84 : decode cX12_letsIn 84 = .ok (.invokevirtual 136, 3) := by decide +kernel
theorem dX12_letsIn_87 : decode cX12_letsIn 87 = .ok (.aload_n 0, 1) := by decide +kernel
theorem dX12_letsIn_88 : decode cX12_letsIn 88 = .ok (.iload 6, 2) := by decide +kernel
theorem dX12_letsIn_90 : decode cX12_letsIn 90 = .ok (.iconst 4, 1) := by decide +kernel
theorem dX12_letsIn_91 : decode cX12_letsIn 91 = .ok (.iload 5, 2) := by decide +kernel
theorem dX12_letsIn_93 : decode cX12_letsIn 93 = .ok (.invokevirtual 136, 3) := by decide +kernel
theorem dX12_letsIn_96 : decode cX12_letsIn 96 = .ok (.aload_n 0, 1) := by decide +kernel
theorem dX12_letsIn_97 : decode cX12_letsIn 97 = .ok (.iload 6, 2) := by decide +kernel
theorem dX12_letsIn_99 : decode cX12_letsIn 99 = .ok (.iconst 5, 1) := by decide +kernel
theorem dX12_letsIn_100 : decode cX12_letsIn 100 = .ok (.aload_n 0, 1) := by decide +kernel
theorem dX12_letsIn_101 : decode cX12_letsIn 101 = .ok (.iload_n 1, 1) := by decide +kernel
theorem dX12_letsIn_102 : decode cX12_letsIn 102 = .ok (.invokevirtual 83, 3) := by decide +kernel
theorem dX12_letsIn_105 : decode cX12_letsIn 105 = .ok (.invokevirtual 136, 3) := by decide +kernel
theorem dX12_letsIn_108 : decode cX12_letsIn 108 = .ok (.aload_n 0, 1) := by decide +kernel
theorem dX12_letsIn_109 : decode cX12_letsIn 109 = .ok (.iload 6, 2) := by decide +kernel
theorem dX12_letsIn_111 : decode cX12_letsIn 111 = .ok (.bipush 6, 2) := by decide +kernel
theorem dX12_letsIn_113 : decode cX12_letsIn 113 = .ok (.aload_n 0, 1) := by decide +kernel
theorem dX12_letsIn_114 : decode cX12_letsIn 114 = .ok (.getfield 9, 3) := by decide +kernel
theorem dX12_letsIn_117 : decode cX12_letsIn 117 = .ok (.bipush 9, 2) := by decide +kernel
theorem dX12_letsIn_119 : decode cX12_letsIn 119 = .ok (.iaload, 1) := by decide +kernel
theorem dX12_letsIn_120 : decode cX12_letsIn 120 = .ok (.invokevirtual 136, 3) := by decide +kernel
theorem dX12_letsIn_123 : decode cX12_letsIn 123 = .ok (.aload_n 0, 1) := by decide +kernel
theorem dX12_letsIn_124 : decode cX12_letsIn 124 = .ok (.iload 6, 2) := by decide +kernel
theorem dX12_letsIn_126 : decode cX12_letsIn 126 = .ok (.bipush 7, 2) := by decide +kernel
theorem dX12_letsIn_128 : decode cX12_letsIn 128 = .ok (.aload_n 0, 1) := by decide +kernel
theorem dX12_letsIn_129 : decode cX12_letsIn 129 = .ok (.getfield 9, 3) := by decide +kernel
theorem dX12_letsIn_132 : decode cX12_letsIn 132 = .ok (.bipush 10, 2) := by decide +kernel
theorem dX12_letsIn_134 : decode cX12_letsIn 134 = .ok (.iaload, 1) := by decide +kernel
theorem dX12_letsIn_135 : decode cX12_letsIn 135 = .ok (.invokevirtual 136, 3) := by decide +kernel
theorem dX12_letsIn_138 : decode cX12_letsIn 138 = .ok (.aload_n 0, 1) := by decide +kernel
theorem dX12_letsIn_139 : decode cX12_letsIn 139 = .ok (.iload 6, 2) := by decide +kernel
theorem dX12_letsIn_141 : decode cX12_letsIn 141 = .ok (.bipush 8, 2) := by decide +kernel
theorem dX12_letsIn_143 : decode cX12_letsIn 143 = .ok (.iconst 0, 1) := by decide +kernel
theorem dX12_letsIn_144 : decode cX12_letsIn 144 = .ok (.invokevirtual 136, 3) := by decide +kernel
theorem dX12_letsIn_147 : decode cX12_letsIn 147 = .ok (.aload_n 0, 1) := by decide +kernel
theorem dX12_letsIn_148 : decode cX12_letsIn 148 = .ok (.iconst 4, 1) := by decide +kernel
theorem dX12_letsIn_149 : decode cX12_letsIn 149 = .ok (.iload_n 1, 1) := by decide +kernel
theorem dX12_letsIn_150 : decode cX12_letsIn 150 = .ok (.invokevirtual 67, 3) := by decide +kernel
theorem dX12_letsIn_153 : decode cX12_letsIn 153 = .ok (.iconst 1, 1) := by decide +kernel
theorem dX12_letsIn_154 : decode cX12_letsIn 154 = .ok (.ireturn, 1) := by decide +kernel
theorem kw_1438 : Cond.methodLink "FrequencyShelfModel" 130 yX12_mayCome ∈ TB := tb_at 1438 (by decide +kernel) (by decide +kernel)
theorem kw_1441 : Cond.code yX12_mayCome cX12_mayCome 4 (some .boolean) ∈ TB := tb_at 1441 (by decide +kernel) (by decide +kernel)
theorem kw_1440 : Cond.instanceMethod yX12_mayCome ∈ TB := tb_at 1440 (by decide +kernel) (by decide +kernel)
theorem kw_43 : Cond.selects "FrequencyShelfModel" yX12_mayCome yX12_mayCome ∈ TB := tb_at 43 (by decide +kernel) (by decide +kernel)
theorem cv_X12_mayCome : Cond.code yX12_mayCome cX12_mayCome 4 (some .boolean) ∈ TB ∧ Cond.instanceMethod yX12_mayCome ∈ TB ∧ Cond.selects "FrequencyShelfModel" yX12_mayCome yX12_mayCome ∈ TB ∧ Cond.initialized "FrequencyShelfModel" ∈ TB := ⟨kw_1441, kw_1440, kw_43, kw_75⟩
abbrev cX12_warms : ByteArray := prog_14_method_59_code
def yX12_warms : MethodName := ⟨RX12, "warms", "(I)I"⟩
theorem dX12_warms_0 : decode cX12_warms 0 = .ok (.aload_n 0, 1) := by decide +kernel
theorem dX12_warms_1 : decode cX12_warms 1 = .ok (.iload_n 1, 1) := by decide +kernel
theorem dX12_warms_2 : decode cX12_warms 2 = .ok (.iconst 0, 1) := by decide +kernel
theorem dX12_warms_3 : decode cX12_warms 3 = .ok (.invokevirtual 117, 3) := by decide +kernel
theorem dX12_warms_6 : decode cX12_warms 6 = .ok (.istore_n 2, 1) := by decide +kernel
theorem dX12_warms_7 : decode cX12_warms 7 = .ok (.aload_n 0, 1) := by decide +kernel
theorem dX12_warms_8 : decode cX12_warms 8 = .ok (.iload_n 1, 1) := by decide +kernel
theorem dX12_warms_9 : decode cX12_warms 9 = .ok (.iconst 1, 1) := by decide +kernel
theorem dX12_warms_10 : decode cX12_warms 10 = .ok (.invokevirtual 117, 3) := by decide +kernel
theorem dX12_warms_13 : decode cX12_warms 13 = .ok (.istore_n 3, 1) := by decide +kernel
theorem dX12_warms_14 : decode cX12_warms 14 = .ok (.aload_n 0, 1) := by decide +kernel
theorem dX12_warms_15 : decode cX12_warms 15 = .ok (.iload_n 1, 1) := by decide +kernel
theorem dX12_warms_16 : decode cX12_warms 16 = .ok (.iconst 2, 1) := by decide +kernel
theorem dX12_warms_17 : decode cX12_warms 17 = .ok (.invokevirtual 117, 3) := by decide +kernel
theorem dX12_warms_20 : decode cX12_warms 20 = .ok (.istore 4, 2) := by decide +kernel
theorem dX12_warms_22 : decode cX12_warms 22 = .ok (.aload_n 0, 1) := by decide +kernel
theorem dX12_warms_23 : decode cX12_warms 23 = .ok (.iload_n 1, 1) := by decide +kernel
theorem dX12_warms_24 : decode cX12_warms 24 = .ok (.iconst 3, 1) := by decide +kernel
theorem dX12_warms_25 : decode cX12_warms 25 = .ok (.invokevirtual 117, 3) := by decide +kernel
theorem dX12_warms_28 : decode cX12_warms 28 = .ok (.istore 5, 2) := by decide +kernel
theorem dX12_warms_30 : decode cX12_warms 30 = .ok (.aload_n 0, 1) := by decide +kernel
theorem dX12_warms_31 : decode cX12_warms 31 = .ok (.iload_n 1, 1) := by decide +kernel
theorem dX12_warms_32 : decode cX12_warms 32 = .ok (.iconst 4, 1) := by decide +kernel
theorem dX12_warms_33 : decode cX12_warms 33 = .ok (.invokevirtual 117, 3) := by decide +kernel
theorem dX12_warms_36 : decode cX12_warms 36 = .ok (.istore 6, 2) := by decide +kernel
theorem dX12_warms_38 : decode cX12_warms 38 = .ok (.aload_n 0, 1) := by decide +kernel
theorem dX12_warms_39 : decode cX12_warms 39 = .ok (.bipush 14, 2) := by decide +kernel
theorem dX12_warms_41 : decode cX12_warms 41 = .ok (.sipush 1898, 3) := by decide +kernel
theorem dX12_warms_44 : decode cX12_warms 44 = .ok (.iconst 5, 1) := by decide +kernel
theorem dX12_warms_45 : decode cX12_warms 45 = .ok (.iload_n 1, 1) := by decide +kernel
theorem dX12_warms_46 : decode cX12_warms 46 = .ok (.invokevirtual 103, 3) := by decide +kernel
theorem dX12_warms_49 : decode cX12_warms 49 = .ok (.aload_n 0, 1) := by decide +kernel
theorem dX12_warms_50 : decode cX12_warms 50 = .ok (.getfield 9, 3) := by decide +kernel
theorem dX12_warms_53 : decode cX12_warms 53 = .ok (.bipush 32, 2) := by decide +kernel
theorem dX12_warms_55 : decode cX12_warms 55 = .ok (.dup2, 1) := by decide +kernel
theorem dX12_warms_56 : decode cX12_warms 56 = .ok (.iaload, 1) := by decide +kernel
theorem dX12_warms_57 : decode cX12_warms 57 = .ok (.iconst 1, 1) := by decide +kernel
theorem dX12_warms_58 : decode cX12_warms 58 = .ok (.iadd, 1) := by decide +kernel
theorem dX12_warms_59 : decode cX12_warms 59 = .ok (.iastore, 1) := by decide +kernel
theorem dX12_warms_60 : decode cX12_warms 60 = .ok (.aload_n 0, 1) := by decide +kernel
theorem dX12_warms_61 : decode cX12_warms 61 = .ok (.bipush 12, 2) := by decide +kernel
theorem dX12_warms_63 : decode cX12_warms 63 = .ok (.iload_n 2, 1) := by decide +kernel
theorem dX12_warms_64 : decode cX12_warms 64 = .ok (.invokevirtual 67, 3) := by decide +kernel
theorem dX12_warms_67 : decode cX12_warms 67 = .ok (.aload_n 0, 1) := by decide +kernel
theorem dX12_warms_68 : decode cX12_warms 68 = .ok (.iload_n 2, 1) := by decide +kernel
theorem dX12_warms_69 : decode cX12_warms 69 = .ok (.iload_n 3, 1) := by decide +kernel
theorem dX12_warms_70 : decode cX12_warms 70 = .ok (.iload 4, 2) := by decide +kernel
theorem dX12_warms_72 : decode cX12_warms 72 = .ok (.iload 5, 2) := by decide +kernel
theorem dX12_warms_74 : decode cX12_warms 74 = .ok (.iload 6, 2) := by decide +kernel
theorem dX12_warms_76 : decode cX12_warms 76 = .ok (.invokevirtual 178, 3) := by decide +kernel
theorem dX12_warms_79 : decode cX12_warms 79 = .ok (.ifCond .ne 15, 3) := by decide +kernel
theorem dX12_warms_82 : decode cX12_warms 82 = .ok (.aload_n 0, 1) := by decide +kernel
theorem dX12_warms_83 : decode cX12_warms 83 = .ok (.iload_n 2, 1) := by decide +kernel
theorem dX12_warms_84 : decode cX12_warms 84 = .ok (.iload_n 3, 1) := by decide +kernel
theorem dX12_warms_85 : decode cX12_warms 85 = .ok (.iload 4, 2) := by decide +kernel
theorem dX12_warms_87 : decode cX12_warms 87 = .ok (.iload 5, 2) := by decide +kernel
theorem dX12_warms_89 : decode cX12_warms 89 = .ok (.iload 6, 2) := by decide +kernel
theorem dX12_warms_91 : decode cX12_warms 91 = .ok (.invokevirtual 107, 3) := by decide +kernel
theorem dX12_warms_94 : decode cX12_warms 94 = .ok (.iload_n 3, 1) := by decide +kernel
theorem dX12_warms_95 : decode cX12_warms 95 = .ok (.ireturn, 1) := by decide +kernel
theorem kw_1434 : Cond.methodLink "FrequencyShelfModel" 178 yX12_letsIn ∈ TB := tb_at 1434 (by decide +kernel) (by decide +kernel)
theorem kw_1437 : Cond.code yX12_letsIn cX12_letsIn 7 (some .boolean) ∈ TB := tb_at 1437 (by decide +kernel) (by decide +kernel)
theorem kw_1436 : Cond.instanceMethod yX12_letsIn ∈ TB := tb_at 1436 (by decide +kernel) (by decide +kernel)
theorem kw_42 : Cond.selects "FrequencyShelfModel" yX12_letsIn yX12_letsIn ∈ TB := tb_at 42 (by decide +kernel) (by decide +kernel)
theorem cv_X12_letsIn : Cond.code yX12_letsIn cX12_letsIn 7 (some .boolean) ∈ TB ∧ Cond.instanceMethod yX12_letsIn ∈ TB ∧ Cond.selects "FrequencyShelfModel" yX12_letsIn yX12_letsIn ∈ TB ∧ Cond.initialized "FrequencyShelfModel" ∈ TB := ⟨kw_1437, kw_1436, kw_42, kw_75⟩
abbrev cX12_waiterOf : ByteArray := prog_14_method_47_code
def yX12_waiterOf : MethodName := ⟨RX12, "waiterOf", "(II)I"⟩
theorem dX12_waiterOf_0 : decode cX12_waiterOf 0 = .ok (.iconst 0, 1) := by decide +kernel
theorem dX12_waiterOf_1 : decode cX12_waiterOf 1 = .ok (.istore_n 3, 1) := by decide +kernel
theorem dX12_waiterOf_2 : decode cX12_waiterOf 2 = .ok (.iload_n 3, 1) := by decide +kernel
theorem dX12_waiterOf_3 : decode cX12_waiterOf 3 = .ok (.aload_n 0, 1) := by decide +kernel
theorem dX12_waiterOf_4 : decode cX12_waiterOf 4 = .ok (.iload_n 1, 1) := by decide +kernel
theorem dX12_waiterOf_5 : decode cX12_waiterOf 5 = .ok (.iconst 3, 1) := by decide +kernel
theorem dX12_waiterOf_6 : decode cX12_waiterOf 6 = .ok (.invokevirtual 147, 3) := by decide +kernel
theorem dX12_waiterOf_9 : decode cX12_waiterOf 9 = .ok (.if_icmp .ge 23, 3) := by decide +kernel
theorem dX12_waiterOf_12 : decode cX12_waiterOf 12 = .ok (.aload_n 0, 1) := by decide +kernel
theorem dX12_waiterOf_13 : decode cX12_waiterOf 13 = .ok (.iload_n 1, 1) := by decide +kernel
theorem dX12_waiterOf_14 : decode cX12_waiterOf 14 = .ok (.iconst 4, 1) := by decide +kernel
theorem dX12_waiterOf_15 : decode cX12_waiterOf 15 = .ok (.iload_n 3, 1) := by decide +kernel
theorem dX12_waiterOf_16 : decode cX12_waiterOf 16 = .ok (.iadd, 1) := by decide +kernel
theorem dX12_waiterOf_17 : decode cX12_waiterOf 17 = .ok (.invokevirtual 147, 3) := by decide +kernel
theorem dX12_waiterOf_20 : decode cX12_waiterOf 20 = .ok (.iload_n 2, 1) := by decide +kernel
theorem dX12_waiterOf_21 : decode cX12_waiterOf 21 = .ok (.if_icmp .ne 5, 3) := by decide +kernel
theorem dX12_waiterOf_24 : decode cX12_waiterOf 24 = .ok (.iload_n 3, 1) := by decide +kernel
theorem dX12_waiterOf_25 : decode cX12_waiterOf 25 = .ok (.ireturn, 1) := by decide +kernel
theorem dX12_waiterOf_26 : decode cX12_waiterOf 26 = .ok (.iinc 3 1, 3) := by decide +kernel
theorem dX12_waiterOf_29 : decode cX12_waiterOf 29 = .ok (.goto (-27), 3) := by decide +kernel
theorem dX12_waiterOf_32 : decode cX12_waiterOf 32 = .ok (.iconst (-1), 1) := by decide +kernel
theorem dX12_waiterOf_33 : decode cX12_waiterOf 33 = .ok (.ireturn, 1) := by decide +kernel
abbrev cX12_joins : ByteArray := prog_14_method_48_code
def yX12_joins : MethodName := ⟨RX12, "joins", "(II)V"⟩
theorem dX12_joins_0 : decode cX12_joins 0 = .ok (.aload_n 0, 1) := by decide +kernel
theorem dX12_joins_1 : decode cX12_joins 1 = .ok (.iload_n 1, 1) := by decide +kernel
theorem dX12_joins_2 : decode cX12_joins 2 = .ok (.iload_n 2, 1) := by decide +kernel
theorem dX12_joins_3 : decode cX12_joins 3 = .ok (.invokevirtual 156, 3) := by decide +kernel
theorem dX12_joins_6 : decode cX12_joins 6 = .ok (.ifCond .ge 66, 3) := by decide +kernel
theorem dX12_joins_9 : decode cX12_joins 9 = .ok (.sipush 2003, 3) := by decide +kernel
theorem dX12_joins_12 : decode cX12_joins 12 = .ok (.iload_n 1, 1) := by decide +kernel
theorem dX12_joins_13 : decode cX12_joins 13 = .ok (.bipush 20, 2) := by decide +kernel
theorem dX12_joins_15 : decode cX12_joins 15 = .ok (.imul, 1) := by decide +kernel
theorem dX12_joins_16 : decode cX12_joins 16 = .ok (.iadd, 1) := by decide +kernel
theorem dX12_joins_17 : decode cX12_joins 17 = .ok (.istore_n 3, 1) := by decide +kernel
theorem dX12_joins_18 : decode cX12_joins 18 = .ok (.aload_n 0, 1) := by decide +kernel
theorem dX12_joins_19 : decode cX12_joins 19 = .ok (.getfield 9, 3) := by decide +kernel
theorem dX12_joins_22 : decode cX12_joins 22 = .ok (.iload_n 3, 1) := by decide +kernel
theorem dX12_joins_23 : decode cX12_joins 23 = .ok (.iconst 4, 1) := by decide +kernel
theorem dX12_joins_24 : decode cX12_joins 24 = .ok (.iadd, 1) := by decide +kernel
theorem dX12_joins_25 : decode cX12_joins 25 = .ok (.aload_n 0, 1) := by decide +kernel
theorem dX12_joins_26 : decode cX12_joins 26 = .ok (.getfield 9, 3) := by decide +kernel
theorem dX12_joins_29 : decode cX12_joins 29 = .ok (.iload_n 3, 1) := by decide +kernel
theorem dX12_joins_30 : decode cX12_joins 30 = .ok (.iconst 3, 1) := by decide +kernel
theorem dX12_joins_31 : decode cX12_joins 31 = .ok (.iadd, 1) := by decide +kernel
theorem dX12_joins_32 : decode cX12_joins 32 = .ok (.iaload, 1) := by decide +kernel
theorem dX12_joins_33 : decode cX12_joins 33 = .ok (.iadd, 1) := by decide +kernel
theorem dX12_joins_34 : decode cX12_joins 34 = .ok (.iload_n 2, 1) := by decide +kernel
theorem dX12_joins_35 : decode cX12_joins 35 = .ok (.iastore, 1) := by decide +kernel
theorem dX12_joins_36 : decode cX12_joins 36 = .ok (.aload_n 0, 1) := by decide +kernel
theorem dX12_joins_37 : decode cX12_joins 37 = .ok (.getfield 9, 3) := by decide +kernel
theorem dX12_joins_40 : decode cX12_joins 40 = .ok (.iload_n 3, 1) := by decide +kernel
theorem dX12_joins_41 : decode cX12_joins 41 = .ok (.iconst 3, 1) := by decide +kernel
theorem dX12_joins_42 : decode cX12_joins 42 = .ok (.iadd, 1) := by decide +kernel
theorem dX12_joins_43 : decode cX12_joins 43 = .ok (.dup2, 1) := by decide +kernel
theorem dX12_joins_44 : decode cX12_joins 44 = .ok (.iaload, 1) := by decide +kernel
theorem dX12_joins_45 : decode cX12_joins 45 = .ok (.iconst 1, 1) := by decide +kernel
theorem dX12_joins_46 : decode cX12_joins 46 = .ok (.iadd, 1) := by decide +kernel
theorem dX12_joins_47 : decode cX12_joins 47 = .ok (.iastore, 1) := by decide +kernel
theorem dX12_joins_48 : decode cX12_joins 48 = .ok (.aload_n 0, 1) := by decide +kernel
theorem dX12_joins_49 : decode cX12_joins 49 = .ok (.getfield 9, 3) := by decide +kernel
theorem dX12_joins_52 : decode cX12_joins 52 = .ok (.bipush 23, 2) := by decide +kernel
theorem dX12_joins_54 : decode cX12_joins 54 = .ok (.dup2, 1) := by decide +kernel
theorem dX12_joins_55 : decode cX12_joins 55 = .ok (.iaload, 1) := by decide +kernel
theorem dX12_joins_56 : decode cX12_joins 56 = .ok (.iconst 1, 1) := by decide +kernel
theorem dX12_joins_57 : decode cX12_joins 57 = .ok (.iadd, 1) := by decide +kernel
theorem dX12_joins_58 : decode cX12_joins 58 = .ok (.iastore, 1) := by decide +kernel
theorem dX12_joins_59 : decode cX12_joins 59 = .ok (.aload_n 0, 1) := by decide +kernel
theorem dX12_joins_60 : decode cX12_joins 60 = .ok (.iconst 2, 1) := by decide +kernel
theorem dX12_joins_61 : decode cX12_joins 61 = .ok (.aload_n 0, 1) := by decide +kernel
theorem dX12_joins_62 : decode cX12_joins 62 = .ok (.getfield 9, 3) := by decide +kernel
theorem dX12_joins_65 : decode cX12_joins 65 = .ok (.iload_n 3, 1) := by decide +kernel
theorem dX12_joins_66 : decode cX12_joins 66 = .ok (.iconst 0, 1) := by decide +kernel
theorem dX12_joins_67 : decode cX12_joins 67 = .ok (.iadd, 1) := by decide +kernel
theorem dX12_joins_68 : decode cX12_joins 68 = .ok (.iaload, 1) := by decide +kernel
theorem dX12_joins_69 : decode cX12_joins 69 = .ok (.invokevirtual 67, 3) := by decide +kernel
theorem dX12_joins_72 : decode cX12_joins 72 = .ok (.return_, 1) := by decide +kernel
theorem kw_1492 : Cond.methodLink "FrequencyShelfModel" 156 yX12_waiterOf ∈ TB := tb_at 1492 (by decide +kernel) (by decide +kernel)
theorem kw_1495 : Cond.code yX12_waiterOf cX12_waiterOf 4 (some .int) ∈ TB := tb_at 1495 (by decide +kernel) (by decide +kernel)
theorem kw_1494 : Cond.instanceMethod yX12_waiterOf ∈ TB := tb_at 1494 (by decide +kernel) (by decide +kernel)
theorem kw_51 : Cond.selects "FrequencyShelfModel" yX12_waiterOf yX12_waiterOf ∈ TB := tb_at 51 (by decide +kernel) (by decide +kernel)
theorem cv_X12_waiterOf : Cond.code yX12_waiterOf cX12_waiterOf 4 (some .int) ∈ TB ∧ Cond.instanceMethod yX12_waiterOf ∈ TB ∧ Cond.selects "FrequencyShelfModel" yX12_waiterOf yX12_waiterOf ∈ TB ∧ Cond.initialized "FrequencyShelfModel" ∈ TB := ⟨kw_1495, kw_1494, kw_51, kw_75⟩
abbrev cX12_asks : ByteArray := prog_14_method_60_code
def yX12_asks : MethodName := ⟨RX12, "asks", "(II)I"⟩
theorem dX12_asks_0 : decode cX12_asks 0 = .ok (.aload_n 0, 1) := by decide +kernel
theorem dX12_asks_1 : decode cX12_asks 1 = .ok (.iload_n 1, 1) := by decide +kernel
theorem dX12_asks_2 : decode cX12_asks 2 = .ok (.invokevirtual 171, 3) := by decide +kernel
theorem dX12_asks_5 : decode cX12_asks 5 = .ok (.istore_n 3, 1) := by decide +kernel
theorem dX12_asks_6 : decode cX12_asks 6 = .ok (.iload_n 3, 1) := by decide +kernel
theorem dX12_asks_7 : decode cX12_asks 7 = .ok (.ifCond .lt 18, 3) := by decide +kernel
theorem dX12_asks_10 : decode cX12_asks 10 = .ok (.aload_n 0, 1) := by decide +kernel
theorem dX12_asks_11 : decode cX12_asks 11 = .ok (.iload_n 3, 1) := by decide +kernel
theorem dX12_asks_12 : decode cX12_asks 12 = .ok (.invokevirtual 93, 3) := by decide +kernel
theorem dX12_asks_15 : decode cX12_asks 15 = .ok (.ifCond .ne 10, 3) := by decide +kernel
theorem dX12_asks_18 : decode cX12_asks 18 = .ok (.aload_n 0, 1) := by decide +kernel
theorem dX12_asks_19 : decode cX12_asks 19 = .ok (.iload_n 3, 1) := by decide +kernel
theorem dX12_asks_20 : decode cX12_asks 20 = .ok (.iload_n 2, 1) := by decide +kernel
theorem dX12_asks_21 : decode cX12_asks 21 = .ok (.invokevirtual 191, 3) := by decide +kernel
theorem dX12_asks_24 : decode cX12_asks 24 = .ok (.ireturn, 1) := by decide +kernel
theorem dX12_asks_25 : decode cX12_asks 25 = .ok (.iload_n 3, 1) := by decide +kernel
theorem dX12_asks_26 : decode cX12_asks 26 = .ok (.ifCond .lt 10, 3) := by decide +kernel
theorem dX12_asks_29 : decode cX12_asks 29 = .ok (.aload_n 0, 1) := by decide +kernel
theorem dX12_asks_30 : decode cX12_asks 30 = .ok (.iload_n 3, 1) := by decide +kernel
theorem dX12_asks_31 : decode cX12_asks 31 = .ok (.bipush 8, 2) := by decide +kernel
theorem dX12_asks_33 : decode cX12_asks 33 = .ok (.invokevirtual 111, 3) := by decide +kernel
theorem dX12_asks_36 : decode cX12_asks 36 = .ok (.aload_n 0, 1) := by decide +kernel
theorem dX12_asks_37 : decode cX12_asks 37 = .ok (.iload_n 1, 1) := by decide +kernel
theorem dX12_asks_38 : decode cX12_asks 38 = .ok (.invokevirtual 168, 3) := by decide +kernel
theorem dX12_asks_41 : decode cX12_asks 41 = .ok (.istore 4, 2) := by decide +kernel
theorem dX12_asks_43 : decode cX12_asks 43 = .ok (.iload 4, 2) := by decide +kernel
theorem dX12_asks_45 : decode cX12_asks 45 = .ok (.ifCond .lt 24, 3) := by decide +kernel
theorem dX12_asks_48 : decode cX12_asks 48 = .ok (.aload_n 0, 1) := by decide +kernel
theorem dX12_asks_49 : decode cX12_asks 49 = .ok (.aload_n 0, 1) := by decide +kernel
theorem dX12_asks_50 : decode cX12_asks 50 = .ok (.iload 4, 2) := by decide +kernel
theorem dX12_asks_52 : decode cX12_asks 52 = .ok (.iconst 4, 1) := by decide +kernel
theorem dX12_asks_53 : decode cX12_asks 53 = .ok (.invokevirtual 117, 3) := by decide +kernel
theorem dX12_asks_56 : decode cX12_asks 56 = .ok (.invokevirtual 89, 3) := by decide +kernel
theorem dX12_asks_59 : decode cX12_asks 59 = .ok (.ifCond .ne 10, 3) := by decide +kernel
theorem dX12_asks_62 : decode cX12_asks 62 = .ok (.aload_n 0, 1) := by decide +kernel
theorem dX12_asks_63 : decode cX12_asks 63 = .ok (.iload 4, 2) := by decide +kernel
theorem dX12_asks_65 : decode cX12_asks 65 = .ok (.invokevirtual 194, 3) := by decide +kernel
theorem dX12_asks_68 : decode cX12_asks 68 = .ok (.ireturn, 1) := by decide +kernel
theorem dX12_asks_69 : decode cX12_asks 69 = .ok (.iload 4, 2) := by decide +kernel
theorem dX12_asks_71 : decode cX12_asks 71 = .ok (.ifCond .lt 15, 3) := by decide +kernel
theorem dX12_asks_74 : decode cX12_asks 74 = .ok (.aload_n 0, 1) := by decide +kernel
theorem dX12_asks_75 : decode cX12_asks 75 = .ok (.bipush 14, 2) := by decide +kernel
theorem dX12_asks_77 : decode cX12_asks 77 = .ok (.sipush 1898, 3) := by decide +kernel
theorem dX12_asks_80 : decode cX12_asks 80 = .ok (.iconst 5, 1) := by decide +kernel
theorem dX12_asks_81 : decode cX12_asks 81 = .ok (.iload 4, 2) := by decide +kernel
theorem dX12_asks_83 : decode cX12_asks 83 = .ok (.invokevirtual 103, 3) := by decide +kernel
theorem dX12_asks_86 : decode cX12_asks 86 = .ok (.aload_n 0, 1) := by decide +kernel
theorem dX12_asks_87 : decode cX12_asks 87 = .ok (.iload_n 1, 1) := by decide +kernel
theorem dX12_asks_88 : decode cX12_asks 88 = .ok (.invokevirtual 162, 3) := by decide +kernel
theorem dX12_asks_91 : decode cX12_asks 91 = .ok (.istore 5, 2) := by decide +kernel
theorem dX12_asks_93 : decode cX12_asks 93 = .ok (.iload 5, 2) := by decide +kernel
theorem dX12_asks_95 : decode cX12_asks 95 = .ok (.ifCond .lt 13, 3) := by decide +kernel
theorem dX12_asks_98 : decode cX12_asks 98 = .ok (.aload_n 0, 1) := by decide +kernel
theorem dX12_asks_99 : decode cX12_asks 99 = .ok (.iload 5, 2) := by decide +kernel
theorem dX12_asks_101 : decode cX12_asks 101 = .ok (.iload_n 2, 1) := by decide +kernel
theorem dX12_asks_102 : decode cX12_asks 102 = .ok (.invokevirtual 197, 3) := by decide +kernel
theorem dX12_asks_105 : decode cX12_asks 105 = .ok (.goto 9, 3) := by decide +kernel
theorem dX12_asks_108 : decode cX12_asks 108 = .ok (.aload_n 0, 1) := by decide +kernel
theorem dX12_asks_109 : decode cX12_asks 109 = .ok (.iload_n 1, 1) := by decide +kernel
theorem dX12_asks_110 : decode cX12_asks 110 = .ok (.iload_n 2, 1) := by decide +kernel
theorem dX12_asks_111 : decode cX12_asks 111 = .ok (.invokevirtual 188, 3) := by decide +kernel
theorem dX12_asks_114 : decode cX12_asks 114 = .ok (.sipush (-1006), 3) := by decide +kernel
theorem dX12_asks_117 : decode cX12_asks 117 = .ok (.ireturn, 1) := by decide +kernel
theorem kw_1422 : Cond.methodLink "FrequencyShelfModel" 171 yX12_entryOf ∈ TB := tb_at 1422 (by decide +kernel) (by decide +kernel)
theorem kw_1425 : Cond.code yX12_entryOf cX12_entryOf 3 (some .int) ∈ TB := tb_at 1425 (by decide +kernel) (by decide +kernel)
theorem kw_1424 : Cond.instanceMethod yX12_entryOf ∈ TB := tb_at 1424 (by decide +kernel) (by decide +kernel)
theorem kw_39 : Cond.selects "FrequencyShelfModel" yX12_entryOf yX12_entryOf ∈ TB := tb_at 39 (by decide +kernel) (by decide +kernel)
theorem cv_X12_entryOf : Cond.code yX12_entryOf cX12_entryOf 3 (some .int) ∈ TB ∧ Cond.instanceMethod yX12_entryOf ∈ TB ∧ Cond.selects "FrequencyShelfModel" yX12_entryOf yX12_entryOf ∈ TB ∧ Cond.initialized "FrequencyShelfModel" ∈ TB := ⟨kw_1425, kw_1424, kw_39, kw_75⟩
theorem kw_1414 : Cond.methodLink "FrequencyShelfModel" 168 yX12_coldOf ∈ TB := tb_at 1414 (by decide +kernel) (by decide +kernel)
theorem kw_1417 : Cond.code yX12_coldOf cX12_coldOf 3 (some .int) ∈ TB := tb_at 1417 (by decide +kernel) (by decide +kernel)
theorem kw_1416 : Cond.instanceMethod yX12_coldOf ∈ TB := tb_at 1416 (by decide +kernel) (by decide +kernel)
theorem kw_37 : Cond.selects "FrequencyShelfModel" yX12_coldOf yX12_coldOf ∈ TB := tb_at 37 (by decide +kernel) (by decide +kernel)
theorem cv_X12_coldOf : Cond.code yX12_coldOf cX12_coldOf 3 (some .int) ∈ TB ∧ Cond.instanceMethod yX12_coldOf ∈ TB ∧ Cond.selects "FrequencyShelfModel" yX12_coldOf yX12_coldOf ∈ TB ∧ Cond.initialized "FrequencyShelfModel" ∈ TB := ⟨kw_1417, kw_1416, kw_37, kw_75⟩
theorem kw_1488 : Cond.methodLink "FrequencyShelfModel" 197 yX12_joins ∈ TB := tb_at 1488 (by decide +kernel) (by decide +kernel)
theorem kw_1491 : Cond.code yX12_joins cX12_joins 4 none ∈ TB := tb_at 1491 (by decide +kernel) (by decide +kernel)
theorem kw_1490 : Cond.instanceMethod yX12_joins ∈ TB := tb_at 1490 (by decide +kernel) (by decide +kernel)
theorem kw_50 : Cond.selects "FrequencyShelfModel" yX12_joins yX12_joins ∈ TB := tb_at 50 (by decide +kernel) (by decide +kernel)
theorem cv_X12_joins : Cond.code yX12_joins cX12_joins 4 none ∈ TB ∧ Cond.instanceMethod yX12_joins ∈ TB ∧ Cond.selects "FrequencyShelfModel" yX12_joins yX12_joins ∈ TB ∧ Cond.initialized "FrequencyShelfModel" ∈ TB := ⟨kw_1491, kw_1490, kw_50, kw_75⟩
theorem kw_1484 : Cond.methodLink "FrequencyShelfModel" 194 yX12_warms ∈ TB := tb_at 1484 (by decide +kernel) (by decide +kernel)
theorem kw_1487 : Cond.code yX12_warms cX12_warms 7 (some .int) ∈ TB := tb_at 1487 (by decide +kernel) (by decide +kernel)
theorem kw_1486 : Cond.instanceMethod yX12_warms ∈ TB := tb_at 1486 (by decide +kernel) (by decide +kernel)
theorem kw_49 : Cond.selects "FrequencyShelfModel" yX12_warms yX12_warms ∈ TB := tb_at 49 (by decide +kernel) (by decide +kernel)
theorem cv_X12_warms : Cond.code yX12_warms cX12_warms 7 (some .int) ∈ TB ∧ Cond.instanceMethod yX12_warms ∈ TB ∧ Cond.selects "FrequencyShelfModel" yX12_warms yX12_warms ∈ TB ∧ Cond.initialized "FrequencyShelfModel" ∈ TB := ⟨kw_1487, kw_1486, kw_49, kw_75⟩
theorem kw_1472 : Cond.methodLink "FrequencyShelfModel" 191 yX12_hits ∈ TB := tb_at 1472 (by decide +kernel) (by decide +kernel)
theorem kw_1475 : Cond.code yX12_hits cX12_hits 4 (some .int) ∈ TB := tb_at 1475 (by decide +kernel) (by decide +kernel)
theorem kw_1474 : Cond.instanceMethod yX12_hits ∈ TB := tb_at 1474 (by decide +kernel) (by decide +kernel)
theorem kw_46 : Cond.selects "FrequencyShelfModel" yX12_hits yX12_hits ∈ TB := tb_at 46 (by decide +kernel) (by decide +kernel)
theorem cv_X12_hits : Cond.code yX12_hits cX12_hits 4 (some .int) ∈ TB ∧ Cond.instanceMethod yX12_hits ∈ TB ∧ Cond.selects "FrequencyShelfModel" yX12_hits yX12_hits ∈ TB ∧ Cond.initialized "FrequencyShelfModel" ∈ TB := ⟨kw_1475, kw_1474, kw_46, kw_75⟩
abbrev cX12_halves : ByteArray := prog_14_method_57_code
def yX12_halves : MethodName := ⟨RX12, "halves", "()V"⟩
theorem dX12_halves_0 : decode cX12_halves 0 = .ok (.aload_n 0, 1) := by decide +kernel
theorem dX12_halves_1 : decode cX12_halves 1 = .ok (.getfield 9, 3) := by decide +kernel
theorem dX12_halves_4 : decode cX12_halves 4 = .ok (.bipush 11, 2) := by decide +kernel
theorem dX12_halves_6 : decode cX12_halves 6 = .ok (.dup2, 1) := by decide +kernel
theorem dX12_halves_7 : decode cX12_halves 7 = .ok (.iaload, 1) := by decide +kernel
theorem dX12_halves_8 : decode cX12_halves 8 = .ok (.iconst 1, 1) := by decide +kernel
theorem dX12_halves_9 : decode cX12_halves 9 = .ok (.iadd, 1) := by decide +kernel
theorem dX12_halves_10 : decode cX12_halves 10 = .ok (.iastore, 1) := by decide +kernel
theorem dX12_halves_11 : decode cX12_halves 11 = .ok (.aload_n 0, 1) := by decide +kernel
theorem dX12_halves_12 : decode cX12_halves 12 = .ok (.getfield 9, 3) := by decide +kernel
theorem dX12_halves_15 : decode cX12_halves 15 = .ok (.bipush 11, 2) := by decide +kernel
theorem dX12_halves_17 : decode cX12_halves 17 = .ok (.iaload, 1) := by decide +kernel
theorem dX12_halves_18 : decode cX12_halves 18 = .ok (.aload_n 0, 1) := by decide +kernel
theorem dX12_halves_19 : decode cX12_halves 19 = .ok (.getfield 9, 3) := by decide +kernel
theorem dX12_halves_22 : decode cX12_halves 22 = .ok (.iconst 1, 1) := by decide +kernel
theorem dX12_halves_23 : decode cX12_halves 23 = .ok (.iaload, 1) := by decide +kernel
theorem dX12_halves_24 : decode cX12_halves 24 = .ok (.irem, 1) := by decide +kernel
theorem dX12_halves_25 : decode cX12_halves 25 = .ok (.ifCond .eq 4, 3) := by decide +kernel
theorem dX12_halves_28 : decode cX12_halves 28 = .ok (.return_, 1) := by decide +kernel
theorem dX12_halves_29 : decode cX12_halves 29 = .ok (.iconst 0, 1) := by decide +kernel
theorem dX12_halves_30 : decode cX12_halves 30 = .ok (.istore_n 1, 1) := by decide +kernel
theorem dX12_halves_31 : decode cX12_halves 31 = .ok (.iload_n 1, 1) := by decide +kernel
theorem dX12_halves_32 : decode cX12_halves 32 = .ok (.aload_n 0, 1) := by decide +kernel
theorem dX12_halves_33 : decode cX12_halves 33 = .ok (.getfield 9, 3) := by decide +kernel
theorem dX12_halves_36 : decode cX12_halves 36 = .ok (.bipush 13, 2) := by decide +kernel
theorem dX12_halves_38 : decode cX12_halves 38 = .ok (.iaload, 1) := by decide +kernel
theorem dX12_halves_39 : decode cX12_halves 39 = .ok (.if_icmp .ge 23, 3) := by decide +kernel
theorem dX12_halves_42 : decode cX12_halves 42 = .ok (.aload_n 0, 1) := by decide +kernel
theorem dX12_halves_43 : decode cX12_halves 43 = .ok (.iload_n 1, 1) := by decide +kernel
theorem dX12_halves_44 : decode cX12_halves 44 = .ok (.iconst 5, 1) := by decide +kernel
theorem dX12_halves_45 : decode cX12_halves 45 = .ok (.aload_n 0, 1) := by decide +kernel
theorem dX12_halves_46 : decode cX12_halves 46 = .ok (.iload_n 1, 1) := by decide +kernel
theorem dX12_halves_47 : decode cX12_halves 47 = .ok (.iconst 5, 1) := by decide +kernel
theorem dX12_halves_48 : decode cX12_halves 48 = .ok (.invokevirtual 86, 3) := by decide +kernel
theorem dX12_halves_51 : decode cX12_halves 51 = .ok (.iconst 2, 1) := by decide +kernel
theorem dX12_halves_52 : decode cX12_halves 52 = .ok (.idiv, 1) := by decide +kernel
theorem dX12_halves_53 : decode cX12_halves 53 = .ok (.invokevirtual 136, 3) := by decide +kernel
theorem dX12_halves_56 : decode cX12_halves 56 = .ok (.iinc 1 1, 3) := by decide +kernel
theorem dX12_halves_59 : decode cX12_halves 59 = .ok (.goto (-28), 3) := by decide +kernel
theorem dX12_halves_62 : decode cX12_halves 62 = .ok (.iconst 0, 1) := by decide +kernel
theorem dX12_halves_63 : decode cX12_halves 63 = .ok (.istore_n 1, 1) := by decide +kernel
theorem dX12_halves_64 : decode cX12_halves 64 = .ok (.iload_n 1, 1) := by decide +kernel
theorem dX12_halves_65 : decode cX12_halves 65 = .ok (.bipush 64, 2) := by decide +kernel
theorem dX12_halves_67 : decode cX12_halves 67 = .ok (.if_icmp .ge 22, 3) := by decide +kernel
theorem dX12_halves_70 : decode cX12_halves 70 = .ok (.aload_n 0, 1) := by decide +kernel
theorem dX12_halves_71 : decode cX12_halves 71 = .ok (.getfield 9, 3) := by decide +kernel
theorem dX12_halves_74 : decode cX12_halves 74 = .ok (.bipush 34, 2) := by decide +kernel
theorem dX12_halves_76 : decode cX12_halves 76 = .ok (.iload_n 1, 1) := by decide +kernel
theorem dX12_halves_77 : decode cX12_halves 77 = .ok (.iadd, 1) := by decide +kernel
theorem dX12_halves_78 : decode cX12_halves 78 = .ok (.dup2, 1) := by decide +kernel
theorem dX12_halves_79 : decode cX12_halves 79 = .ok (.iaload, 1) := by decide +kernel
theorem dX12_halves_80 : decode cX12_halves 80 = .ok (.iconst 2, 1) := by decide +kernel
theorem dX12_halves_81 : decode cX12_halves 81 = .ok (.idiv, 1) := by decide +kernel
theorem dX12_halves_82 : decode cX12_halves 82 = .ok (.iastore, 1) := by decide +kernel
theorem dX12_halves_83 : decode cX12_halves 83 = .ok (.iinc 1 1, 3) := by decide +kernel
theorem dX12_halves_86 : decode cX12_halves 86 = .ok (.goto (-22), 3) := by decide +kernel
theorem dX12_halves_89 : decode cX12_halves 89 = .ok (.aload_n 0, 1) := by decide +kernel
theorem dX12_halves_90 : decode cX12_halves 90 = .ok (.getfield 9, 3) := by decide +kernel
theorem dX12_halves_93 : decode cX12_halves 93 = .ok (.bipush 30, 2) := by decide +kernel
theorem dX12_halves_95 : decode cX12_halves 95 = .ok (.dup2, 1) := by decide +kernel
theorem dX12_halves_96 : decode cX12_halves 96 = .ok (.iaload, 1) := by decide +kernel
theorem dX12_halves_97 : decode cX12_halves 97 = .ok (.iconst 1, 1) := by decide +kernel
theorem dX12_halves_98 : decode cX12_halves 98 = .ok (.iadd, 1) := by decide +kernel
theorem dX12_halves_99 : decode cX12_halves 99 = .ok (.iastore, 1) := by decide +kernel
theorem dX12_halves_100 : decode cX12_halves 100 = .ok (.aload_n 0, 1) := by decide +kernel
theorem dX12_halves_101 : decode cX12_halves 101 = .ok (.bipush 10, 2) := by decide +kernel
theorem dX12_halves_103 : decode cX12_halves 103 = .ok (.iconst 0, 1) := by decide +kernel
theorem dX12_halves_104 : decode cX12_halves 104 = .ok (.invokevirtual 67, 3) := by decide +kernel
theorem dX12_halves_107 : decode cX12_halves 107 = .ok (.return_, 1) := by decide +kernel
abbrev cX12_ask : ByteArray := prog_14_method_61_code
def yX12_ask : MethodName := ⟨RX12, "ask", "(I)I"⟩
theorem dX12_ask_0 : decode cX12_ask 0 = .ok (.iload_n 1, 1) := by decide +kernel
theorem dX12_ask_1 : decode cX12_ask 1 = .ok (.invokestatic 200, 3) := by decide +kernel
theorem dX12_ask_4 : decode cX12_ask 4 = .ok (.ifCond .ne 7, 3) := by decide +kernel
theorem dX12_ask_7 : decode cX12_ask 7 = .ok (.sipush (-1001), 3) := by decide +kernel
theorem dX12_ask_10 : decode cX12_ask 10 = .ok (.ireturn, 1) := by decide +kernel
theorem dX12_ask_11 : decode cX12_ask 11 = .ok (.aload_n 0, 1) := by decide +kernel
theorem dX12_ask_12 : decode cX12_ask 12 = .ok (.invokevirtual 79, 3) := by decide +kernel
theorem dX12_ask_15 : decode cX12_ask 15 = .ok (.istore_n 2, 1) := by decide +kernel
theorem dX12_ask_16 : decode cX12_ask 16 = .ok (.iload_n 2, 1) := by decide +kernel
theorem dX12_ask_17 : decode cX12_ask 17 = .ok (.ifCond .ne 7, 3) := by decide +kernel
theorem dX12_ask_20 : decode cX12_ask 20 = .ok (.sipush (-1002), 3) := by decide +kernel
theorem dX12_ask_23 : decode cX12_ask 23 = .ok (.ireturn, 1) := by decide +kernel
theorem dX12_ask_24 : decode cX12_ask 24 = .ok (.aload_n 0, 1) := by decide +kernel
theorem dX12_ask_25 : decode cX12_ask 25 = .ok (.iload_n 2, 1) := by decide +kernel
theorem dX12_ask_26 : decode cX12_ask 26 = .ok (.iload_n 1, 1) := by decide +kernel
theorem dX12_ask_27 : decode cX12_ask 27 = .ok (.invokevirtual 203, 3) := by decide +kernel
theorem dX12_ask_30 : decode cX12_ask 30 = .ok (.aload_n 0, 1) := by decide +kernel
theorem dX12_ask_31 : decode cX12_ask 31 = .ok (.iload_n 2, 1) := by decide +kernel
theorem dX12_ask_32 : decode cX12_ask 32 = .ok (.iload_n 1, 1) := by decide +kernel
theorem dX12_ask_33 : decode cX12_ask 33 = .ok (.invokevirtual 206, 3) := by decide +kernel
theorem dX12_ask_36 : decode cX12_ask 36 = .ok (.istore_n 3, 1) := by decide +kernel
theorem dX12_ask_37 : decode cX12_ask 37 = .ok (.aload_n 0, 1) := by decide +kernel
theorem dX12_ask_38 : decode cX12_ask 38 = .ok (.invokevirtual 209, 3) := by decide +kernel
theorem dX12_ask_41 : decode cX12_ask 41 = .ok (.iload_n 3, 1) := by decide +kernel
theorem dX12_ask_42 : decode cX12_ask 42 = .ok (.ireturn, 1) := by decide +kernel
theorem kw_1461 : Cond.methodLink "FrequencyShelfModel" 200 yX12_isAsker ∈ TB := tb_at 1461 (by decide +kernel) (by decide +kernel)
theorem kw_1463 : Cond.code yX12_isAsker cX12_isAsker 1 (some .boolean) ∈ TB := tb_at 1463 (by decide +kernel) (by decide +kernel)
theorem kw_1462 : Cond.static yX12_isAsker ∈ TB := tb_at 1462 (by decide +kernel) (by decide +kernel)
theorem cs_X12_isAsker : Cond.code yX12_isAsker cX12_isAsker 1 (some .boolean) ∈ TB ∧ Cond.static yX12_isAsker ∈ TB ∧ Cond.initialized "FrequencyShelfModel" ∈ TB := ⟨kw_1463, kw_1462, kw_75⟩
theorem kw_1281 : Cond.methodLink "FrequencyShelfModel" 79 yX12_takesKey ∈ TB := tb_at 1281 (by decide +kernel) (by decide +kernel)
theorem kw_1284 : Cond.code yX12_takesKey cX12_takesKey 3 (some .int) ∈ TB := tb_at 1284 (by decide +kernel) (by decide +kernel)
theorem kw_1283 : Cond.instanceMethod yX12_takesKey ∈ TB := tb_at 1283 (by decide +kernel) (by decide +kernel)
theorem kw_12 : Cond.selects "FrequencyShelfModel" yX12_takesKey yX12_takesKey ∈ TB := tb_at 12 (by decide +kernel) (by decide +kernel)
theorem cv_X12_takesKey : Cond.code yX12_takesKey cX12_takesKey 3 (some .int) ∈ TB ∧ Cond.instanceMethod yX12_takesKey ∈ TB ∧ Cond.selects "FrequencyShelfModel" yX12_takesKey yX12_takesKey ∈ TB ∧ Cond.initialized "FrequencyShelfModel" ∈ TB := ⟨kw_1284, kw_1283, kw_12, kw_75⟩
theorem kw_1464 : Cond.methodLink "FrequencyShelfModel" 203 yX12_uses ∈ TB := tb_at 1464 (by decide +kernel) (by decide +kernel)
theorem kw_1467 : Cond.code yX12_uses cX12_uses 5 none ∈ TB := tb_at 1467 (by decide +kernel) (by decide +kernel)
theorem kw_1466 : Cond.instanceMethod yX12_uses ∈ TB := tb_at 1466 (by decide +kernel) (by decide +kernel)
theorem kw_44 : Cond.selects "FrequencyShelfModel" yX12_uses yX12_uses ∈ TB := tb_at 44 (by decide +kernel) (by decide +kernel)
theorem cv_X12_uses : Cond.code yX12_uses cX12_uses 5 none ∈ TB ∧ Cond.instanceMethod yX12_uses ∈ TB ∧ Cond.selects "FrequencyShelfModel" yX12_uses yX12_uses ∈ TB ∧ Cond.initialized "FrequencyShelfModel" ∈ TB := ⟨kw_1467, kw_1466, kw_44, kw_75⟩
theorem kw_1468 : Cond.methodLink "FrequencyShelfModel" 206 yX12_asks ∈ TB := tb_at 1468 (by decide +kernel) (by decide +kernel)
theorem kw_1471 : Cond.code yX12_asks cX12_asks 6 (some .int) ∈ TB := tb_at 1471 (by decide +kernel) (by decide +kernel)
theorem kw_1470 : Cond.instanceMethod yX12_asks ∈ TB := tb_at 1470 (by decide +kernel) (by decide +kernel)
theorem kw_45 : Cond.selects "FrequencyShelfModel" yX12_asks yX12_asks ∈ TB := tb_at 45 (by decide +kernel) (by decide +kernel)
theorem cv_X12_asks : Cond.code yX12_asks cX12_asks 6 (some .int) ∈ TB ∧ Cond.instanceMethod yX12_asks ∈ TB ∧ Cond.selects "FrequencyShelfModel" yX12_asks yX12_asks ∈ TB ∧ Cond.initialized "FrequencyShelfModel" ∈ TB := ⟨kw_1471, kw_1470, kw_45, kw_75⟩
theorem kw_1496 : Cond.methodLink "FrequencyShelfModel" 209 yX12_halves ∈ TB := tb_at 1496 (by decide +kernel) (by decide +kernel)
theorem kw_1499 : Cond.code yX12_halves cX12_halves 2 none ∈ TB := tb_at 1499 (by decide +kernel) (by decide +kernel)
theorem kw_1498 : Cond.instanceMethod yX12_halves ∈ TB := tb_at 1498 (by decide +kernel) (by decide +kernel)
theorem kw_52 : Cond.selects "FrequencyShelfModel" yX12_halves yX12_halves ∈ TB := tb_at 52 (by decide +kernel) (by decide +kernel)
theorem cv_X12_halves : Cond.code yX12_halves cX12_halves 2 none ∈ TB ∧ Cond.instanceMethod yX12_halves ∈ TB ∧ Cond.selects "FrequencyShelfModel" yX12_halves yX12_halves ∈ TB ∧ Cond.initialized "FrequencyShelfModel" ∈ TB := ⟨kw_1499, kw_1498, kw_52, kw_75⟩
abbrev cX12_giveUp : ByteArray := prog_14_method_62_code
def yX12_giveUp : MethodName := ⟨RX12, "giveUp", "(I)I"⟩
theorem dX12_giveUp_0 : decode cX12_giveUp 0 = .ok (.iload_n 1, 1) := by decide +kernel
theorem dX12_giveUp_1 : decode cX12_giveUp 1 = .ok (.invokestatic 200, 3) := by decide +kernel
theorem dX12_giveUp_4 : decode cX12_giveUp 4 = .ok (.ifCond .ne 7, 3) := by decide +kernel
theorem dX12_giveUp_7 : decode cX12_giveUp 7 = .ok (.sipush (-1001), 3) := by decide +kernel
theorem dX12_giveUp_10 : decode cX12_giveUp 10 = .ok (.ireturn, 1) := by decide +kernel
theorem dX12_giveUp_11 : decode cX12_giveUp 11 = .ok (.aload_n 0, 1) := by decide +kernel
theorem dX12_giveUp_12 : decode cX12_giveUp 12 = .ok (.invokevirtual 79, 3) := by decide +kernel
theorem dX12_giveUp_15 : decode cX12_giveUp 15 = .ok (.istore_n 2, 1) := by decide +kernel
theorem dX12_giveUp_16 : decode cX12_giveUp 16 = .ok (.iload_n 2, 1) := by decide +kernel
theorem dX12_giveUp_17 : decode cX12_giveUp 17 = .ok (.ifCond .ne 7, 3) := by decide +kernel
theorem dX12_giveUp_20 : decode cX12_giveUp 20 = .ok (.sipush (-1002), 3) := by decide +kernel
theorem dX12_giveUp_23 : decode cX12_giveUp 23 = .ok (.ireturn, 1) := by decide +kernel
theorem dX12_giveUp_24 : decode cX12_giveUp 24 = .ok (.aload_n 0, 1) := by decide +kernel
theorem dX12_giveUp_25 : decode cX12_giveUp 25 = .ok (.iload_n 2, 1) := by decide +kernel
theorem dX12_giveUp_26 : decode cX12_giveUp 26 = .ok (.invokevirtual 162, 3) := by decide +kernel
theorem dX12_giveUp_29 : decode cX12_giveUp 29 = .ok (.istore_n 3, 1) := by decide +kernel
theorem dX12_giveUp_30 : decode cX12_giveUp 30 = .ok (.iload_n 3, 1) := by decide +kernel
theorem dX12_giveUp_31 : decode cX12_giveUp 31 = .ok (.ifCond .ge 7, 3) := by decide +kernel
theorem dX12_giveUp_34 : decode cX12_giveUp 34 = .ok (.iconst (-1), 1) := by decide +kernel
theorem dX12_giveUp_35 : decode cX12_giveUp 35 = .ok (.goto 9, 3) := by decide +kernel
theorem dX12_giveUp_38 : decode cX12_giveUp 38 = .ok (.aload_n 0, 1) := by decide +kernel
theorem dX12_giveUp_39 : decode cX12_giveUp 39 = .ok (.iload_n 3, 1) := by decide +kernel
theorem dX12_giveUp_40 : decode cX12_giveUp 40 = .ok (.iload_n 1, 1) := by decide +kernel
theorem dX12_giveUp_41 : decode cX12_giveUp 41 = .ok (.invokevirtual 156, 3) := by decide +kernel
theorem dX12_giveUp_44 : decode cX12_giveUp 44 = .ok (.istore 4, 2) := by decide +kernel
theorem dX12_giveUp_46 : decode cX12_giveUp 46 = .ok (.iload 4, 2) := by decide +kernel
theorem dX12_giveUp_48 : decode cX12_giveUp 48 = .ok (.ifCond .ge 5, 3) := by decide +kernel
theorem dX12_giveUp_51 : decode cX12_giveUp 51 = .ok (.iconst 0, 1) := by decide +kernel
theorem dX12_giveUp_52 : decode cX12_giveUp 52 = .ok (.ireturn, 1) := by decide +kernel
theorem dX12_giveUp_53 : decode cX12_giveUp 53 = .ok (.sipush 2003, 3) := by decide +kernel
theorem dX12_giveUp_56 : decode cX12_giveUp 56 = .ok (.iload_n 3, 1) := by decide +kernel
theorem dX12_giveUp_57 : decode cX12_giveUp 57 = .ok (.bipush 20, 2) := by decide +kernel
theorem dX12_giveUp_59 : decode cX12_giveUp 59 = .ok (.imul, 1) := by decide +kernel
theorem dX12_giveUp_60 : decode cX12_giveUp 60 = .ok (.iadd, 1) := by decide +kernel
theorem dX12_giveUp_61 : decode cX12_giveUp 61 = .ok (.istore 5, 2) := by decide +kernel
theorem dX12_giveUp_63 : decode cX12_giveUp 63 = .ok (.aload_n 0, 1) := by decide +kernel
theorem dX12_giveUp_64 : decode cX12_giveUp 64 = .ok (.getfield 9, 3) := by decide +kernel
theorem dX12_giveUp_67 : decode cX12_giveUp 67 = .ok (.iload 5, 2) := by decide +kernel
theorem dX12_giveUp_69 : decode cX12_giveUp 69 = .ok (.iconst 3, 1) := by decide +kernel
theorem dX12_giveUp_70 : decode cX12_giveUp 70 = .ok (.iadd, 1) := by decide +kernel
theorem dX12_giveUp_71 : decode cX12_giveUp 71 = .ok (.dup2, 1) := by decide +kernel
theorem dX12_giveUp_72 : decode cX12_giveUp 72 = .ok (.iaload, 1) := by decide +kernel
theorem dX12_giveUp_73 : decode cX12_giveUp 73 = .ok (.iconst 1, 1) := by decide +kernel
theorem dX12_giveUp_74 : decode cX12_giveUp 74 = .ok (.isub, 1) := by decide +kernel
theorem dX12_giveUp_75 : decode cX12_giveUp 75 = .ok (.iastore, 1) := by decide +kernel
theorem dX12_giveUp_76 : decode cX12_giveUp 76 = .ok (.iload 4, 2) := by decide +kernel
theorem dX12_giveUp_78 : decode cX12_giveUp 78 = .ok (.aload_n 0, 1) := by decide +kernel
theorem dX12_giveUp_79 : decode cX12_giveUp 79 = .ok (.getfield 9, 3) := by decide +kernel
theorem dX12_giveUp_82 : decode cX12_giveUp 82 = .ok (.iload 5, 2) := by decide +kernel
theorem dX12_giveUp_84 : decode cX12_giveUp 84 = .ok (.iconst 3, 1) := by decide +kernel
theorem dX12_giveUp_85 : decode cX12_giveUp 85 = .ok (.iadd, 1) := by decide +kernel
theorem dX12_giveUp_86 : decode cX12_giveUp 86 = .ok (.iaload, 1) := by decide +kernel
theorem dX12_giveUp_87 : decode cX12_giveUp 87 = .ok (.if_icmp .ge 35, 3) := by decide +kernel
theorem dX12_giveUp_90 : decode cX12_giveUp 90 = .ok (.aload_n 0, 1) := by decide +kernel
theorem dX12_giveUp_91 : decode cX12_giveUp 91 = .ok (.getfield 9, 3) := by decide +kernel
theorem dX12_giveUp_94 : decode cX12_giveUp 94 = .ok (.iload 5, 2) := by decide +kernel
theorem dX12_giveUp_96 : decode cX12_giveUp 96 = .ok (.iconst 4, 1) := by decide +kernel
theorem dX12_giveUp_97 : decode cX12_giveUp 97 = .ok (.iadd, 1) := by decide +kernel
theorem dX12_giveUp_98 : decode cX12_giveUp 98 = .ok (.iload 4, 2) := by decide +kernel
theorem dX12_giveUp_100 : decode cX12_giveUp 100 = .ok (.iadd, 1) := by decide +kernel
theorem dX12_giveUp_101 : decode cX12_giveUp 101 = .ok (.aload_n 0, 1) := by decide +kernel
theorem dX12_giveUp_102 : decode cX12_giveUp 102 = .ok (.getfield 9, 3) := by decide +kernel
theorem dX12_giveUp_105 : decode cX12_giveUp 105 = .ok (.iload 5, 2) := by decide +kernel
theorem dX12_giveUp_107 : decode cX12_giveUp 107 = .ok (.iconst 4, 1) := by decide +kernel
theorem dX12_giveUp_108 : decode cX12_giveUp 108 = .ok (.iadd, 1) := by decide +kernel
theorem dX12_giveUp_109 : decode cX12_giveUp 109 = .ok (.iload 4, 2) := by decide +kernel
theorem dX12_giveUp_111 : decode cX12_giveUp 111 = .ok (.iadd, 1) := by decide +kernel
theorem dX12_giveUp_112 : decode cX12_giveUp 112 = .ok (.iconst 1, 1) := by decide +kernel
theorem dX12_giveUp_113 : decode cX12_giveUp 113 = .ok (.iadd, 1) := by decide +kernel
theorem dX12_giveUp_114 : decode cX12_giveUp 114 = .ok (.iaload, 1) := by decide +kernel
theorem dX12_giveUp_115 : decode cX12_giveUp 115 = .ok (.iastore, 1) := by decide +kernel
theorem dX12_giveUp_116 : decode cX12_giveUp 116 = .ok (.iinc 4 1, 3) := by decide +kernel
theorem dX12_giveUp_119 : decode cX12_giveUp 119 = .ok (.goto (-43), 3) := by decide +kernel
theorem dX12_giveUp_122 : decode cX12_giveUp 122 = .ok (.aload_n 0, 1) := by decide +kernel
theorem dX12_giveUp_123 : decode cX12_giveUp 123 = .ok (.getfield 9, 3) := by decide +kernel
theorem dX12_giveUp_126 : decode cX12_giveUp 126 = .ok (.iload 5, 2) := by decide +kernel
theorem dX12_giveUp_128 : decode cX12_giveUp 128 = .ok (.iconst 3, 1) := by decide +kernel
theorem dX12_giveUp_129 : decode cX12_giveUp 129 = .ok (.iadd, 1) := by decide +kernel
theorem dX12_giveUp_130 : decode cX12_giveUp 130 = .ok (.iaload, 1) := by decide +kernel
theorem dX12_giveUp_131 : decode cX12_giveUp 131 = .ok (.ifCond .ne 28, 3) := by decide +kernel
theorem dX12_giveUp_134 : decode cX12_giveUp 134 = .ok (.aload_n 0, 1) := by decide +kernel
theorem dX12_giveUp_135 : decode cX12_giveUp 135 = .ok (.getfield 9, 3) := by decide +kernel
theorem dX12_giveUp_138 : decode cX12_giveUp 138 = .ok (.iload 5, 2) := by decide +kernel
theorem dX12_giveUp_140 : decode cX12_giveUp 140 = .ok (.iconst 1, 1) := by decide +kernel
theorem dX12_giveUp_141 : decode cX12_giveUp 141 = .ok (.iadd, 1) := by decide +kernel
theorem dX12_giveUp_142 : decode cX12_giveUp 142 = .ok (.iaload, 1) := by decide +kernel
theorem dX12_giveUp_143 : decode cX12_giveUp 143 = .ok (.iconst 1, 1) := by decide +kernel
theorem dX12_giveUp_144 : decode cX12_giveUp 144 = .ok (.if_icmp .ne 15, 3) := by decide +kernel
theorem dX12_giveUp_147 : decode cX12_giveUp 147 = .ok (.aload_n 0, 1) := by decide +kernel
theorem dX12_giveUp_148 : decode cX12_giveUp 148 = .ok (.bipush 15, 2) := by decide +kernel
theorem dX12_giveUp_150 : decode cX12_giveUp 150 = .ok (.sipush 2003, 3) := by decide +kernel
theorem dX12_giveUp_153 : decode cX12_giveUp 153 = .ok (.bipush 20, 2) := by decide +kernel
theorem dX12_giveUp_155 : decode cX12_giveUp 155 = .ok (.iload_n 3, 1) := by decide +kernel
theorem dX12_giveUp_156 : decode cX12_giveUp 156 = .ok (.invokevirtual 103, 3) := by decide +kernel
theorem dX12_giveUp_159 : decode cX12_giveUp 159 = .ok (.iconst 1, 1) := by decide +kernel
theorem dX12_giveUp_160 : decode cX12_giveUp 160 = .ok (.ireturn, 1) := by decide +kernel
abbrev cX12_take : ByteArray := prog_14_method_63_code
def yX12_take : MethodName := ⟨RX12, "take", "(I)I"⟩
theorem dX12_take_0 : decode cX12_take 0 = .ok (.iload_n 1, 1) := by decide +kernel
theorem dX12_take_1 : decode cX12_take 1 = .ok (.invokestatic 200, 3) := by decide +kernel
theorem dX12_take_4 : decode cX12_take 4 = .ok (.ifCond .ne 7, 3) := by decide +kernel
theorem dX12_take_7 : decode cX12_take 7 = .ok (.sipush (-1001), 3) := by decide +kernel
theorem dX12_take_10 : decode cX12_take 10 = .ok (.ireturn, 1) := by decide +kernel
theorem dX12_take_11 : decode cX12_take 11 = .ok (.aload_n 0, 1) := by decide +kernel
theorem dX12_take_12 : decode cX12_take 12 = .ok (.getfield 9, 3) := by decide +kernel
theorem dX12_take_15 : decode cX12_take 15 = .ok (.sipush 8003, 3) := by decide +kernel
theorem dX12_take_18 : decode cX12_take 18 = .ok (.iload_n 1, 1) := by decide +kernel
theorem dX12_take_19 : decode cX12_take 19 = .ok (.iadd, 1) := by decide +kernel
theorem dX12_take_20 : decode cX12_take 20 = .ok (.iaload, 1) := by decide +kernel
theorem dX12_take_21 : decode cX12_take 21 = .ok (.ifCond .ne 7, 3) := by decide +kernel
theorem dX12_take_24 : decode cX12_take 24 = .ok (.sipush (-1003), 3) := by decide +kernel
theorem dX12_take_27 : decode cX12_take 27 = .ok (.ireturn, 1) := by decide +kernel
theorem dX12_take_28 : decode cX12_take 28 = .ok (.aload_n 0, 1) := by decide +kernel
theorem dX12_take_29 : decode cX12_take 29 = .ok (.getfield 9, 3) := by decide +kernel
theorem dX12_take_32 : decode cX12_take 32 = .ok (.sipush 8019, 3) := by decide +kernel
theorem dX12_take_35 : decode cX12_take 35 = .ok (.bipush 24, 2) := by decide +kernel
theorem dX12_take_37 : decode cX12_take 37 = .ok (.iload_n 1, 1) := by decide +kernel
theorem dX12_take_38 : decode cX12_take 38 = .ok (.imul, 1) := by decide +kernel
theorem dX12_take_39 : decode cX12_take 39 = .ok (.iadd, 1) := by decide +kernel
theorem dX12_take_40 : decode cX12_take 40 = .ok (.iconst 1, 1) := by decide +kernel
theorem dX12_take_41 : decode cX12_take 41 = .ok (.iadd, 1) := by decide +kernel
theorem dX12_take_42 : decode cX12_take 42 = .ok (.iaload, 1) := by decide +kernel
theorem dX12_take_43 : decode cX12_take 43 = .ok (.istore_n 2, 1) := by decide +kernel
theorem dX12_take_44 : decode cX12_take 44 = .ok (.aload_n 0, 1) := by decide +kernel
theorem dX12_take_45 : decode cX12_take 45 = .ok (.sipush 8003, 3) := by decide +kernel
theorem dX12_take_48 : decode cX12_take 48 = .ok (.iload_n 1, 1) := by decide +kernel
theorem dX12_take_49 : decode cX12_take 49 = .ok (.iadd, 1) := by decide +kernel
theorem dX12_take_50 : decode cX12_take 50 = .ok (.sipush 8019, 3) := by decide +kernel
theorem dX12_take_53 : decode cX12_take 53 = .ok (.bipush 24, 2) := by decide +kernel
theorem dX12_take_55 : decode cX12_take 55 = .ok (.iload_n 1, 1) := by decide +kernel
theorem dX12_take_56 : decode cX12_take 56 = .ok (.imul, 1) := by decide +kernel
theorem dX12_take_57 : decode cX12_take 57 = .ok (.iadd, 1) := by decide +kernel
theorem dX12_take_58 : decode cX12_take 58 = .ok (.iconst 2, 1) := by decide +kernel
theorem dX12_take_59 : decode cX12_take 59 = .ok (.iconst 0, 1) := by decide +kernel
theorem dX12_take_60 : decode cX12_take 60 = .ok (.invokevirtual 103, 3) := by decide +kernel
theorem dX12_take_63 : decode cX12_take 63 = .ok (.aload_n 0, 1) := by decide +kernel
theorem dX12_take_64 : decode cX12_take 64 = .ok (.getfield 9, 3) := by decide +kernel
theorem dX12_take_67 : decode cX12_take 67 = .ok (.sipush 8403, 3) := by decide +kernel
theorem dX12_take_70 : decode cX12_take 70 = .ok (.iconst 4, 1) := by decide +kernel
theorem dX12_take_71 : decode cX12_take 71 = .ok (.iload_n 1, 1) := by decide +kernel
theorem dX12_take_72 : decode cX12_take 72 = .ok (.imul, 1) := by decide +kernel
theorem dX12_take_73 : decode cX12_take 73 = .ok (.iadd, 1) := by decide +kernel
theorem dX12_take_74 : decode cX12_take 74 = .ok (.iconst 3, 1) := by decide +kernel
theorem dX12_take_75 : decode cX12_take 75 = .ok (.iadd, 1) := by decide +kernel
theorem dX12_take_76 : decode cX12_take 76 = .ok (.dup2, 1) := by decide +kernel
theorem dX12_take_77 : decode cX12_take 77 = .ok (.iaload, 1) := by decide +kernel
theorem dX12_take_78 : decode cX12_take 78 = .ok (.iconst 1, 1) := by decide +kernel
theorem dX12_take_79 : decode cX12_take 79 = .ok (.iadd, 1) := by decide +kernel
theorem dX12_take_80 : decode cX12_take 80 = .ok (.iastore, 1) := by decide +kernel
theorem dX12_take_81 : decode cX12_take 81 = .ok (.iload_n 2, 1) := by decide +kernel
theorem dX12_take_82 : decode cX12_take 82 = .ok (.ireturn, 1) := by decide +kernel
abbrev cX12_keyTells : ByteArray := prog_14_method_8_code
def yX12_keyTells : MethodName := ⟨RX12, "keyTells", "(II)I"⟩
theorem dX12_keyTells_0 : decode cX12_keyTells 0 = .ok (.iload_n 0, 1) := by decide +kernel
theorem dX12_keyTells_1 : decode cX12_keyTells 1 = .ok (.invokestatic 42, 3) := by decide +kernel
theorem dX12_keyTells_4 : decode cX12_keyTells 4 = .ok (.istore_n 2, 1) := by decide +kernel
theorem dX12_keyTells_5 : decode cX12_keyTells 5 = .ok (.iload_n 1, 1) := by decide +kernel
theorem dX12_keyTells_6 : decode cX12_keyTells 6 = .ok (.iconst (-1), 1) := by decide +kernel
theorem dX12_keyTells_7 : decode cX12_keyTells 7 = .ok (.if_icmp .ne 7, 3) := by decide +kernel
theorem dX12_keyTells_10 : decode cX12_keyTells 10 = .ok (.iload_n 2, 1) := by decide +kernel
theorem dX12_keyTells_11 : decode cX12_keyTells 11 = .ok (.goto 19, 3) := by decide +kernel
theorem dX12_keyTells_14 : decode cX12_keyTells 14 = .ok (.iload_n 1, 1) := by decide +kernel
theorem dX12_keyTells_15 : decode cX12_keyTells 15 = .ok (.iload_n 2, 1) := by decide +kernel
theorem dX12_keyTells_16 : decode cX12_keyTells 16 = .ok (.if_icmp .ge 11, 3) := by decide +kernel
theorem dX12_keyTells_19 : decode cX12_keyTells 19 = .ok (.iload_n 0, 1) := by decide +kernel
theorem dX12_keyTells_20 : decode cX12_keyTells 20 = .ok (.iload_n 1, 1) := by decide +kernel
theorem dX12_keyTells_21 : decode cX12_keyTells 21 = .ok (.invokestatic 46, 3) := by decide +kernel
theorem dX12_keyTells_24 : decode cX12_keyTells 24 = .ok (.goto 6, 3) := by decide +kernel
theorem dX12_keyTells_27 : decode cX12_keyTells 27 = .ok (.sipush (-1003), 3) := by decide +kernel
theorem dX12_keyTells_30 : decode cX12_keyTells 30 = .ok (.ireturn, 1) := by decide +kernel
abbrev cX12_first : ByteArray := prog_14_method_64_code
def yX12_first : MethodName := ⟨RX12, "first", "(II)I"⟩
theorem dX12_first_0 : decode cX12_first 0 = .ok (.iload_n 1, 1) := by decide +kernel
theorem dX12_first_1 : decode cX12_first 1 = .ok (.invokestatic 200, 3) := by decide +kernel
theorem dX12_first_4 : decode cX12_first 4 = .ok (.ifCond .eq 8, 3) := by decide +kernel
theorem dX12_first_7 : decode cX12_first 7 = .ok (.iload_n 2, 1) := by decide +kernel
theorem dX12_first_8 : decode cX12_first 8 = .ok (.iconst (-1), 1) := by decide +kernel
theorem dX12_first_9 : decode cX12_first 9 = .ok (.if_icmp .ge 7, 3) := by decide +kernel
theorem dX12_first_12 : decode cX12_first 12 = .ok (.sipush (-1001), 3) := by decide +kernel
theorem dX12_first_15 : decode cX12_first 15 = .ok (.ireturn, 1) := by decide +kernel
theorem dX12_first_16 : decode cX12_first 16 = .ok (.aload_n 0, 1) := by decide +kernel
theorem dX12_first_17 : decode cX12_first 17 = .ok (.getfield 9, 3) := by decide +kernel
theorem dX12_first_20 : decode cX12_first 20 = .ok (.sipush 8003, 3) := by decide +kernel
theorem dX12_first_23 : decode cX12_first 23 = .ok (.iload_n 1, 1) := by decide +kernel
theorem dX12_first_24 : decode cX12_first 24 = .ok (.iadd, 1) := by decide +kernel
theorem dX12_first_25 : decode cX12_first 25 = .ok (.iaload, 1) := by decide +kernel
theorem dX12_first_26 : decode cX12_first 26 = .ok (.ifCond .ne 9, 3) := by decide +kernel
theorem dX12_first_29 : decode cX12_first 29 = .ok (.sipush (-1005), 3) := by decide +kernel
theorem dX12_first_32 : decode cX12_first 32 = .ok (.goto 20, 3) := by decide +kernel
theorem dX12_first_35 : decode cX12_first 35 = .ok (.aload_n 0, 1) := by decide +kernel
theorem dX12_first_36 : decode cX12_first 36 = .ok (.getfield 9, 3) := by decide +kernel
theorem dX12_first_39 : decode cX12_first 39 = .ok (.sipush 8019, 3) := by decide +kernel
theorem dX12_first_42 : decode cX12_first 42 = .ok (.bipush 24, 2) := by decide +kernel
theorem dX12_first_44 : decode cX12_first 44 = .ok (.iload_n 1, 1) := by decide +kernel
theorem dX12_first_45 : decode cX12_first 45 = .ok (.imul, 1) := by decide +kernel
theorem dX12_first_46 : decode cX12_first 46 = .ok (.iadd, 1) := by decide +kernel
theorem dX12_first_47 : decode cX12_first 47 = .ok (.iaload, 1) := by decide +kernel
theorem dX12_first_48 : decode cX12_first 48 = .ok (.iload_n 2, 1) := by decide +kernel
theorem dX12_first_49 : decode cX12_first 49 = .ok (.invokestatic 182, 3) := by decide +kernel
theorem dX12_first_52 : decode cX12_first 52 = .ok (.ireturn, 1) := by decide +kernel
theorem kw_1450 : Cond.methodLink "FrequencyShelfModel" 182 yX12_keyTells ∈ TB := tb_at 1450 (by decide +kernel) (by decide +kernel)
theorem kw_1452 : Cond.code yX12_keyTells cX12_keyTells 3 (some .int) ∈ TB := tb_at 1452 (by decide +kernel) (by decide +kernel)
theorem kw_1451 : Cond.static yX12_keyTells ∈ TB := tb_at 1451 (by decide +kernel) (by decide +kernel)
theorem cs_X12_keyTells : Cond.code yX12_keyTells cX12_keyTells 3 (some .int) ∈ TB ∧ Cond.static yX12_keyTells ∈ TB ∧ Cond.initialized "FrequencyShelfModel" ∈ TB := ⟨kw_1452, kw_1451, kw_75⟩
abbrev cX12_box : ByteArray := prog_14_method_65_code
def yX12_box : MethodName := ⟨RX12, "box", "(II)I"⟩
theorem dX12_box_0 : decode cX12_box 0 = .ok (.iload_n 1, 1) := by decide +kernel
theorem dX12_box_1 : decode cX12_box 1 = .ok (.invokestatic 200, 3) := by decide +kernel
theorem dX12_box_4 : decode cX12_box 4 = .ok (.ifCond .eq 12, 3) := by decide +kernel
theorem dX12_box_7 : decode cX12_box 7 = .ok (.iload_n 2, 1) := by decide +kernel
theorem dX12_box_8 : decode cX12_box 8 = .ok (.iconst 0, 1) := by decide +kernel
theorem dX12_box_9 : decode cX12_box 9 = .ok (.iconst 1, 1) := by decide +kernel
theorem dX12_box_10 : decode cX12_box 10 = .ok (.invokestatic 38, 3) := by decide +kernel
theorem dX12_box_13 : decode cX12_box 13 = .ok (.ifCond .ne 7, 3) := by decide +kernel
theorem dX12_box_16 : decode cX12_box 16 = .ok (.sipush (-1001), 3) := by decide +kernel
theorem dX12_box_19 : decode cX12_box 19 = .ok (.ireturn, 1) := by decide +kernel
theorem dX12_box_20 : decode cX12_box 20 = .ok (.iload_n 2, 1) := by decide +kernel
theorem dX12_box_21 : decode cX12_box 21 = .ok (.ifCond .ne 14, 3) := by decide +kernel
theorem dX12_box_24 : decode cX12_box 24 = .ok (.aload_n 0, 1) := by decide +kernel
theorem dX12_box_25 : decode cX12_box 25 = .ok (.getfield 9, 3) := by decide +kernel
theorem dX12_box_28 : decode cX12_box 28 = .ok (.sipush 8003, 3) := by decide +kernel
theorem dX12_box_31 : decode cX12_box 31 = .ok (.iload_n 1, 1) := by decide +kernel
theorem dX12_box_32 : decode cX12_box 32 = .ok (.iadd, 1) := by decide +kernel
theorem dX12_box_33 : decode cX12_box 33 = .ok (.iaload, 1) := by decide +kernel
theorem dX12_box_34 : decode cX12_box 34 = .ok (.ireturn, 1) := by decide +kernel
theorem dX12_box_35 : decode cX12_box 35 = .ok (.iconst 0, 1) := by decide +kernel
theorem dX12_box_36 : decode cX12_box 36 = .ok (.istore_n 3, 1) := by decide +kernel
theorem dX12_box_37 : decode cX12_box 37 = .ok (.iconst 0, 1) := by decide +kernel
theorem dX12_box_38 : decode cX12_box 38 = .ok (.istore 4, 2) := by decide +kernel
theorem dX12_box_40 : decode cX12_box 40 = .ok (.iload 4, 2) := by decide +kernel
theorem dX12_box_42 : decode cX12_box 42 = .ok (.aload_n 0, 1) := by decide +kernel
theorem dX12_box_43 : decode cX12_box 43 = .ok (.getfield 9, 3) := by decide +kernel
theorem dX12_box_46 : decode cX12_box 46 = .ok (.bipush 15, 2) := by decide +kernel
theorem dX12_box_48 : decode cX12_box 48 = .ok (.iaload, 1) := by decide +kernel
theorem dX12_box_49 : decode cX12_box 49 = .ok (.if_icmp .ge 27, 3) := by decide +kernel
theorem dX12_box_52 : decode cX12_box 52 = .ok (.iload_n 3, 1) := by decide +kernel
theorem dX12_box_53 : decode cX12_box 53 = .ok (.aload_n 0, 1) := by decide +kernel
theorem dX12_box_54 : decode cX12_box 54 = .ok (.iload 4, 2) := by decide +kernel
theorem dX12_box_56 : decode cX12_box 56 = .ok (.iload_n 1, 1) := by decide +kernel
theorem dX12_box_57 : decode cX12_box 57 = .ok (.invokevirtual 156, 3) := by decide +kernel
theorem dX12_box_60 : decode cX12_box 60 = .ok (.ifCond .lt 7, 3) := by decide +kernel
theorem dX12_box_63 : decode cX12_box 63 = .ok (.iconst 1, 1) := by decide +kernel
theorem dX12_box_64 : decode cX12_box 64 = .ok (.goto 4, 3) := by decide +kernel
theorem dX12_box_67 : decode cX12_box 67 = .ok (.iconst 0, 1) := by decide +kernel
theorem dX12_box_68 : decode cX12_box 68 = .ok (.iadd, 1) := by decide +kernel
theorem dX12_box_69 : decode cX12_box 69 = .ok (.istore_n 3, 1) := by decide +kernel
theorem dX12_box_70 : decode cX12_box 70 = .ok (.iinc 4 1, 3) := by decide +kernel
theorem dX12_box_73 : decode cX12_box 73 = .ok (.goto (-33), 3) := by decide +kernel
theorem dX12_box_76 : decode cX12_box 76 = .ok (.iload_n 3, 1) := by decide +kernel
theorem dX12_box_77 : decode cX12_box 77 = .ok (.ireturn, 1) := by decide +kernel
abbrev cX12_write : ByteArray := prog_14_method_67_code
def yX12_write : MethodName := ⟨RX12, "write", "(I)I"⟩
theorem dX12_write_0 : decode cX12_write 0 = .ok (.iload_n 1, 1) := by decide +kernel
theorem dX12_write_1 : decode cX12_write 1 = .ok (.iconst 0, 1) := by decide +kernel
theorem dX12_write_2 : decode cX12_write 2 = .ok (.ldc 146, 2) := by decide +kernel
theorem dX12_write_4 : decode cX12_write 4 = .ok (.invokestatic 38, 3) := by decide +kernel
theorem dX12_write_7 : decode cX12_write 7 = .ok (.ifCond .ne 7, 3) := by decide +kernel
theorem dX12_write_10 : decode cX12_write 10 = .ok (.sipush (-1001), 3) := by decide +kernel
theorem dX12_write_13 : decode cX12_write 13 = .ok (.ireturn, 1) := by decide +kernel
theorem dX12_write_14 : decode cX12_write 14 = .ok (.aload_n 0, 1) := by decide +kernel
theorem dX12_write_15 : decode cX12_write 15 = .ok (.invokevirtual 79, 3) := by decide +kernel
theorem dX12_write_18 : decode cX12_write 18 = .ok (.istore_n 2, 1) := by decide +kernel
theorem dX12_write_19 : decode cX12_write 19 = .ok (.iload_n 2, 1) := by decide +kernel
theorem dX12_write_20 : decode cX12_write 20 = .ok (.ifCond .ne 7, 3) := by decide +kernel
theorem dX12_write_23 : decode cX12_write 23 = .ok (.sipush (-1002), 3) := by decide +kernel
theorem dX12_write_26 : decode cX12_write 26 = .ok (.ireturn, 1) := by decide +kernel
theorem dX12_write_27 : decode cX12_write 27 = .ok (.aload_n 0, 1) := by decide +kernel
theorem dX12_write_28 : decode cX12_write 28 = .ok (.iload_n 2, 1) := by decide +kernel
theorem dX12_write_29 : decode cX12_write 29 = .ok (.invokevirtual 171, 3) := by decide +kernel
theorem dX12_write_32 : decode cX12_write 32 = .ok (.istore_n 3, 1) := by decide +kernel
theorem dX12_write_33 : decode cX12_write 33 = .ok (.iload_n 3, 1) := by decide +kernel
theorem dX12_write_34 : decode cX12_write 34 = .ok (.ifCond .lt 11, 3) := by decide +kernel
theorem dX12_write_37 : decode cX12_write 37 = .ok (.aload_n 0, 1) := by decide +kernel
theorem dX12_write_38 : decode cX12_write 38 = .ok (.iload_n 3, 1) := by decide +kernel
theorem dX12_write_39 : decode cX12_write 39 = .ok (.invokevirtual 93, 3) := by decide +kernel
theorem dX12_write_42 : decode cX12_write 42 = .ok (.ifCond .eq 11, 3) := by decide +kernel
theorem dX12_write_45 : decode cX12_write 45 = .ok (.aload_n 0, 1) := by decide +kernel
theorem dX12_write_46 : decode cX12_write 46 = .ok (.iload_n 2, 1) := by decide +kernel
theorem dX12_write_47 : decode cX12_write 47 = .ok (.iload_n 1, 1) := by decide +kernel
theorem dX12_write_48 : decode cX12_write 48 = .ok (.invokevirtual 100, 3) := by decide +kernel
theorem dX12_write_51 : decode cX12_write 51 = .ok (.iconst 0, 1) := by decide +kernel
theorem dX12_write_52 : decode cX12_write 52 = .ok (.ireturn, 1) := by decide +kernel
theorem dX12_write_53 : decode cX12_write 53 = .ok (.aload_n 0, 1) := by decide +kernel
theorem dX12_write_54 : decode cX12_write 54 = .ok (.getfield 9, 3) := by decide +kernel
theorem dX12_write_57 : decode cX12_write 57 = .ok (.bipush 12, 2) := by decide +kernel
theorem dX12_write_59 : decode cX12_write 59 = .ok (.dup2, 1) := by decide +kernel
theorem dX12_write_60 : decode cX12_write 60 = .ok (.iaload, 1) := by decide +kernel
theorem dX12_write_61 : decode cX12_write 61 = .ok (.iconst 1, 1) := by decide +kernel
theorem dX12_write_62 : decode cX12_write 62 = .ok (.iadd, 1) := by decide +kernel
theorem dX12_write_63 : decode cX12_write 63 = .ok (.iastore, 1) := by decide +kernel
theorem dX12_write_64 : decode cX12_write 64 = .ok (.aload_n 0, 1) := by decide +kernel
theorem dX12_write_65 : decode cX12_write 65 = .ok (.iload_n 3, 1) := by decide +kernel
theorem dX12_write_66 : decode cX12_write 66 = .ok (.iconst 1, 1) := by decide +kernel
theorem dX12_write_67 : decode cX12_write 67 = .ok (.iload_n 1, 1) := by decide +kernel
theorem dX12_write_68 : decode cX12_write 68 = .ok (.invokevirtual 136, 3) := by decide +kernel
theorem dX12_write_71 : decode cX12_write 71 = .ok (.aload_n 0, 1) := by decide +kernel
theorem dX12_write_72 : decode cX12_write 72 = .ok (.iload_n 3, 1) := by decide +kernel
theorem dX12_write_73 : decode cX12_write 73 = .ok (.iconst 4, 1) := by decide +kernel
theorem dX12_write_74 : decode cX12_write 74 = .ok (.aload_n 0, 1) := by decide +kernel
theorem dX12_write_75 : decode cX12_write 75 = .ok (.getfield 9, 3) := by decide +kernel
theorem dX12_write_78 : decode cX12_write 78 = .ok (.bipush 8, 2) := by decide +kernel
theorem dX12_write_80 : decode cX12_write 80 = .ok (.iaload, 1) := by decide +kernel
theorem dX12_write_81 : decode cX12_write 81 = .ok (.invokevirtual 136, 3) := by decide +kernel
theorem dX12_write_84 : decode cX12_write 84 = .ok (.aload_n 0, 1) := by decide +kernel
theorem dX12_write_85 : decode cX12_write 85 = .ok (.iload_n 3, 1) := by decide +kernel
theorem dX12_write_86 : decode cX12_write 86 = .ok (.bipush 8, 2) := by decide +kernel
theorem dX12_write_88 : decode cX12_write 88 = .ok (.aload_n 0, 1) := by decide +kernel
theorem dX12_write_89 : decode cX12_write 89 = .ok (.getfield 9, 3) := by decide +kernel
theorem dX12_write_92 : decode cX12_write 92 = .ok (.bipush 12, 2) := by decide +kernel
theorem dX12_write_94 : decode cX12_write 94 = .ok (.iaload, 1) := by decide +kernel
theorem dX12_write_95 : decode cX12_write 95 = .ok (.invokevirtual 136, 3) := by decide +kernel
theorem dX12_write_98 : decode cX12_write 98 = .ok (.iconst 1, 1) := by decide +kernel
theorem dX12_write_99 : decode cX12_write 99 = .ok (.ireturn, 1) := by decide +kernel
abbrev cX12_firstDirty : ByteArray := prog_14_method_68_code
def yX12_firstDirty : MethodName := ⟨RX12, "firstDirty", "()I"⟩
theorem dX12_firstDirty_0 : decode cX12_firstDirty 0 = .ok (.iconst (-1), 1) := by decide +kernel
theorem dX12_firstDirty_1 : decode cX12_firstDirty 1 = .ok (.istore_n 1, 1) := by decide +kernel
theorem dX12_firstDirty_2 : decode cX12_firstDirty 2 = .ok (.iconst 0, 1) := by decide +kernel
theorem dX12_firstDirty_3 : decode cX12_firstDirty 3 = .ok (.istore_n 2, 1) := by decide +kernel
theorem dX12_firstDirty_4 : decode cX12_firstDirty 4 = .ok (.iload_n 2, 1) := by decide +kernel
theorem dX12_firstDirty_5 : decode cX12_firstDirty 5 = .ok (.aload_n 0, 1) := by decide +kernel
theorem dX12_firstDirty_6 : decode cX12_firstDirty 6 = .ok (.getfield 9, 3) := by decide +kernel
theorem dX12_firstDirty_9 : decode cX12_firstDirty 9 = .ok (.bipush 13, 2) := by decide +kernel
theorem dX12_firstDirty_11 : decode cX12_firstDirty 11 = .ok (.iaload, 1) := by decide +kernel
theorem dX12_firstDirty_12 : decode cX12_firstDirty 12 = .ok (.if_icmp .ge 42, 3) := by decide +kernel
theorem dX12_firstDirty_15 : decode cX12_firstDirty 15 = .ok (.aload_n 0, 1) := by decide +kernel
theorem dX12_firstDirty_16 : decode cX12_firstDirty 16 = .ok (.iload_n 2, 1) := by decide +kernel
theorem dX12_firstDirty_17 : decode cX12_firstDirty 17 = .ok (.bipush 8, 2) := by decide +kernel
theorem dX12_firstDirty_19 : decode cX12_firstDirty 19 = .ok (.invokevirtual 86, 3) := by decide +kernel
theorem dX12_firstDirty_22 : decode cX12_firstDirty 22 = .ok (.ifCond .eq 26, 3) := by decide +kernel
theorem dX12_firstDirty_25 : decode cX12_firstDirty 25 = .ok (.iload_n 1, 1) := by decide +kernel
theorem dX12_firstDirty_26 : decode cX12_firstDirty 26 = .ok (.ifCond .lt 20, 3) := by decide +kernel
theorem dX12_firstDirty_29 : decode cX12_firstDirty 29 = .ok (.aload_n 0, 1) := by decide +kernel
theorem dX12_firstDirty_30 : decode cX12_firstDirty 30 = .ok (.iload_n 2, 1) := by decide +kernel
theorem dX12_firstDirty_31 : decode cX12_firstDirty 31 = .ok (.bipush 8, 2) := by decide +kernel
theorem dX12_firstDirty_33 : decode cX12_firstDirty 33 = .ok (.invokevirtual 86, 3) := by decide +kernel
theorem dX12_firstDirty_36 : decode cX12_firstDirty 36 = .ok (.aload_n 0, 1) := by decide +kernel
theorem dX12_firstDirty_37 : decode cX12_firstDirty 37 = .ok (.iload_n 1, 1) := by decide +kernel
theorem dX12_firstDirty_38 : decode cX12_firstDirty 38 = .ok (.bipush 8, 2) := by decide +kernel
theorem dX12_firstDirty_40 : decode cX12_firstDirty 40 = .ok (.invokevirtual 86, 3) := by decide +kernel
theorem dX12_firstDirty_43 : decode cX12_firstDirty 43 = .ok (.if_icmp .ge 5, 3) := by decide +kernel
theorem dX12_firstDirty_46 : decode cX12_firstDirty 46 = .ok (.iload_n 2, 1) := by decide +kernel
theorem dX12_firstDirty_47 : decode cX12_firstDirty 47 = .ok (.istore_n 1, 1) := by decide +kernel
theorem dX12_firstDirty_48 : decode cX12_firstDirty 48 = .ok (.iinc 2 1, 3) := by decide +kernel
theorem dX12_firstDirty_51 : decode cX12_firstDirty 51 = .ok (.goto (-47), 3) := by decide +kernel
theorem dX12_firstDirty_54 : decode cX12_firstDirty 54 = .ok (.iload_n 1, 1) := by decide +kernel
theorem dX12_firstDirty_55 : decode cX12_firstDirty 55 = .ok (.ireturn, 1) := by decide +kernel
abbrev cX12_flush : ByteArray := prog_14_method_69_code
def yX12_flush : MethodName := ⟨RX12, "flush", "()I"⟩
theorem dX12_flush_0 : decode cX12_flush 0 = .ok (.iconst 0, 1) := by decide +kernel
theorem dX12_flush_1 : decode cX12_flush 1 = .ok (.istore_n 1, 1) := by decide +kernel
theorem dX12_flush_2 : decode cX12_flush 2 = .ok (.aload_n 0, 1) := by decide +kernel
theorem dX12_flush_3 : decode cX12_flush 3 = .ok (.invokevirtual 212, 3) := by decide +kernel
theorem dX12_flush_6 : decode cX12_flush 6 = .ok (.istore_n 2, 1) := by decide +kernel
theorem dX12_flush_7 : decode cX12_flush 7 = .ok (.iload_n 2, 1) := by decide +kernel
theorem dX12_flush_8 : decode cX12_flush 8 = .ok (.ifCond .lt 38, 3) := by decide +kernel
theorem dX12_flush_11 : decode cX12_flush 11 = .ok (.aload_n 0, 1) := by decide +kernel
theorem dX12_flush_12 : decode cX12_flush 12 = .ok (.iload_n 2, 1) := by decide +kernel
theorem dX12_flush_13 : decode cX12_flush 13 = .ok (.bipush 8, 2) := by decide +kernel
theorem dX12_flush_15 : decode cX12_flush 15 = .ok (.iconst 0, 1) := by decide +kernel
theorem dX12_flush_16 : decode cX12_flush 16 = .ok (.invokevirtual 136, 3) := by decide +kernel
theorem dX12_flush_19 : decode cX12_flush 19 = .ok (.aload_n 0, 1) := by decide +kernel
theorem dX12_flush_20 : decode cX12_flush 20 = .ok (.aload_n 0, 1) := by decide +kernel
theorem dX12_flush_21 : decode cX12_flush 21 = .ok (.iload_n 2, 1) := by decide +kernel
theorem dX12_flush_22 : decode cX12_flush 22 = .ok (.iconst 0, 1) := by decide +kernel
theorem dX12_flush_23 : decode cX12_flush 23 = .ok (.invokevirtual 86, 3) := by decide +kernel
theorem dX12_flush_26 : decode cX12_flush 26 = .ok (.aload_n 0, 1) := by decide +kernel
theorem dX12_flush_27 : decode cX12_flush 27 = .ok (.iload_n 2, 1) := by decide +kernel
theorem dX12_flush_28 : decode cX12_flush 28 = .ok (.iconst 1, 1) := by decide +kernel
theorem dX12_flush_29 : decode cX12_flush 29 = .ok (.invokevirtual 86, 3) := by decide +kernel
theorem dX12_flush_32 : decode cX12_flush 32 = .ok (.invokevirtual 100, 3) := by decide +kernel
theorem dX12_flush_35 : decode cX12_flush 35 = .ok (.iinc 1 1, 3) := by decide +kernel
theorem dX12_flush_38 : decode cX12_flush 38 = .ok (.aload_n 0, 1) := by decide +kernel
theorem dX12_flush_39 : decode cX12_flush 39 = .ok (.invokevirtual 212, 3) := by decide +kernel
theorem dX12_flush_42 : decode cX12_flush 42 = .ok (.istore_n 2, 1) := by decide +kernel
theorem dX12_flush_43 : decode cX12_flush 43 = .ok (.goto (-36), 3) := by decide +kernel
theorem dX12_flush_46 : decode cX12_flush 46 = .ok (.iload_n 1, 1) := by decide +kernel
theorem dX12_flush_47 : decode cX12_flush 47 = .ok (.ireturn, 1) := by decide +kernel
theorem kw_1528 : Cond.methodLink "FrequencyShelfModel" 212 yX12_firstDirty ∈ TB := tb_at 1528 (by decide +kernel) (by decide +kernel)
theorem kw_1531 : Cond.code yX12_firstDirty cX12_firstDirty 3 (some .int) ∈ TB := tb_at 1531 (by decide +kernel) (by decide +kernel)
theorem kw_1530 : Cond.instanceMethod yX12_firstDirty ∈ TB := tb_at 1530 (by decide +kernel) (by decide +kernel)
theorem kw_53 : Cond.selects "FrequencyShelfModel" yX12_firstDirty yX12_firstDirty ∈ TB := tb_at 53 (by decide +kernel) (by decide +kernel)
theorem cv_X12_firstDirty : Cond.code yX12_firstDirty cX12_firstDirty 3 (some .int) ∈ TB ∧ Cond.instanceMethod yX12_firstDirty ∈ TB ∧ Cond.selects "FrequencyShelfModel" yX12_firstDirty yX12_firstDirty ∈ TB ∧ Cond.initialized "FrequencyShelfModel" ∈ TB := ⟨kw_1531, kw_1530, kw_53, kw_75⟩
abbrev cX12_writtenOf : ByteArray := prog_14_method_70_code
def yX12_writtenOf : MethodName := ⟨RX12, "writtenOf", "(II)I"⟩
theorem dX12_writtenOf_0 : decode cX12_writtenOf 0 = .ok (.iload_n 1, 1) := by decide +kernel
theorem dX12_writtenOf_1 : decode cX12_writtenOf 1 = .ok (.ifCond .lt 9, 3) := by decide +kernel
theorem dX12_writtenOf_4 : decode cX12_writtenOf 4 = .ok (.iload_n 2, 1) := by decide +kernel
theorem dX12_writtenOf_5 : decode cX12_writtenOf 5 = .ok (.bipush (-2), 2) := by decide +kernel
theorem dX12_writtenOf_7 : decode cX12_writtenOf 7 = .ok (.if_icmp .ge 7, 3) := by decide +kernel
theorem dX12_writtenOf_10 : decode cX12_writtenOf 10 = .ok (.sipush (-1001), 3) := by decide +kernel
theorem dX12_writtenOf_13 : decode cX12_writtenOf 13 = .ok (.ireturn, 1) := by decide +kernel
theorem dX12_writtenOf_14 : decode cX12_writtenOf 14 = .ok (.iload_n 1, 1) := by decide +kernel
theorem dX12_writtenOf_15 : decode cX12_writtenOf 15 = .ok (.aload_n 0, 1) := by decide +kernel
theorem dX12_writtenOf_16 : decode cX12_writtenOf 16 = .ok (.getfield 9, 3) := by decide +kernel
theorem dX12_writtenOf_19 : decode cX12_writtenOf 19 = .ok (.bipush 17, 2) := by decide +kernel
theorem dX12_writtenOf_21 : decode cX12_writtenOf 21 = .ok (.iaload, 1) := by decide +kernel
theorem dX12_writtenOf_22 : decode cX12_writtenOf 22 = .ok (.if_icmp .lt 7, 3) := by decide +kernel
theorem dX12_writtenOf_25 : decode cX12_writtenOf 25 = .ok (.sipush (-1003), 3) := by decide +kernel
theorem dX12_writtenOf_28 : decode cX12_writtenOf 28 = .ok (.ireturn, 1) := by decide +kernel
theorem dX12_writtenOf_29 : decode cX12_writtenOf 29 = .ok (.iload_n 2, 1) := by decide +kernel
theorem dX12_writtenOf_30 : decode cX12_writtenOf 30 = .ok (.iconst (-1), 1) := by decide +kernel
theorem dX12_writtenOf_31 : decode cX12_writtenOf 31 = .ok (.if_icmp .ne 18, 3) := by decide +kernel
theorem dX12_writtenOf_34 : decode cX12_writtenOf 34 = .ok (.aload_n 0, 1) := by decide +kernel
theorem dX12_writtenOf_35 : decode cX12_writtenOf 35 = .ok (.getfield 9, 3) := by decide +kernel
theorem dX12_writtenOf_38 : decode cX12_writtenOf 38 = .ok (.sipush 8527, 3) := by decide +kernel
theorem dX12_writtenOf_41 : decode cX12_writtenOf 41 = .ok (.iconst 2, 1) := by decide +kernel
theorem dX12_writtenOf_42 : decode cX12_writtenOf 42 = .ok (.iload_n 1, 1) := by decide +kernel
theorem dX12_writtenOf_43 : decode cX12_writtenOf 43 = .ok (.imul, 1) := by decide +kernel
theorem dX12_writtenOf_44 : decode cX12_writtenOf 44 = .ok (.iadd, 1) := by decide +kernel
theorem dX12_writtenOf_45 : decode cX12_writtenOf 45 = .ok (.iconst 1, 1) := by decide +kernel
theorem dX12_writtenOf_46 : decode cX12_writtenOf 46 = .ok (.iadd, 1) := by decide +kernel
theorem dX12_writtenOf_47 : decode cX12_writtenOf 47 = .ok (.iaload, 1) := by decide +kernel
theorem dX12_writtenOf_48 : decode cX12_writtenOf 48 = .ok (.ireturn, 1) := by decide +kernel
theorem dX12_writtenOf_49 : decode cX12_writtenOf 49 = .ok (.aload_n 0, 1) := by decide +kernel
theorem dX12_writtenOf_50 : decode cX12_writtenOf 50 = .ok (.getfield 9, 3) := by decide +kernel
theorem dX12_writtenOf_53 : decode cX12_writtenOf 53 = .ok (.sipush 8527, 3) := by decide +kernel
theorem dX12_writtenOf_56 : decode cX12_writtenOf 56 = .ok (.iconst 2, 1) := by decide +kernel
theorem dX12_writtenOf_57 : decode cX12_writtenOf 57 = .ok (.iload_n 1, 1) := by decide +kernel
theorem dX12_writtenOf_58 : decode cX12_writtenOf 58 = .ok (.imul, 1) := by decide +kernel
theorem dX12_writtenOf_59 : decode cX12_writtenOf 59 = .ok (.iadd, 1) := by decide +kernel
theorem dX12_writtenOf_60 : decode cX12_writtenOf 60 = .ok (.iaload, 1) := by decide +kernel
theorem dX12_writtenOf_61 : decode cX12_writtenOf 61 = .ok (.iload_n 2, 1) := by decide +kernel
theorem dX12_writtenOf_62 : decode cX12_writtenOf 62 = .ok (.bipush (-2), 2) := by decide +kernel
theorem dX12_writtenOf_64 : decode cX12_writtenOf 64 = .ok (.if_icmp .ne 7, 3) := by decide +kernel
theorem dX12_writtenOf_67 : decode cX12_writtenOf 67 = .ok (.iconst (-1), 1) := by decide +kernel
theorem dX12_writtenOf_68 : decode cX12_writtenOf 68 = .ok (.goto 4, 3) := by decide +kernel
theorem dX12_writtenOf_71 : decode cX12_writtenOf 71 = .ok (.iload_n 2, 1) := by decide +kernel
theorem dX12_writtenOf_72 : decode cX12_writtenOf 72 = .ok (.invokestatic 182, 3) := by decide +kernel
theorem dX12_writtenOf_75 : decode cX12_writtenOf 75 = .ok (.ireturn, 1) := by decide +kernel
abbrev cX12_of : ByteArray := prog_14_method_66_code
def yX12_of : MethodName := ⟨RX12, "of", "(II)I"⟩
theorem dX12_of_0 : decode cX12_of 0 = .ok (.iload_n 1, 1) := by decide +kernel
theorem dX12_of_1 : decode cX12_of 1 = .ok (.invokestatic 200, 3) := by decide +kernel
theorem dX12_of_4 : decode cX12_of 4 = .ok (.ifCond .eq 29, 3) := by decide +kernel
theorem dX12_of_7 : decode cX12_of 7 = .ok (.iload_n 2, 1) := by decide +kernel
theorem dX12_of_8 : decode cX12_of 8 = .ok (.iconst 0, 1) := by decide +kernel
theorem dX12_of_9 : decode cX12_of 9 = .ok (.iconst 3, 1) := by decide +kernel
theorem dX12_of_10 : decode cX12_of 10 = .ok (.invokestatic 38, 3) := by decide +kernel
theorem dX12_of_13 : decode cX12_of 13 = .ok (.ifCond .eq 20, 3) := by decide +kernel
theorem dX12_of_16 : decode cX12_of 16 = .ok (.aload_n 0, 1) := by decide +kernel
theorem dX12_of_17 : decode cX12_of 17 = .ok (.getfield 9, 3) := by decide +kernel
theorem dX12_of_20 : decode cX12_of 20 = .ok (.sipush 8403, 3) := by decide +kernel
theorem dX12_of_23 : decode cX12_of 23 = .ok (.iconst 4, 1) := by decide +kernel
theorem dX12_of_24 : decode cX12_of 24 = .ok (.iload_n 1, 1) := by decide +kernel
theorem dX12_of_25 : decode cX12_of 25 = .ok (.imul, 1) := by decide +kernel
theorem dX12_of_26 : decode cX12_of 26 = .ok (.iadd, 1) := by decide +kernel
theorem dX12_of_27 : decode cX12_of 27 = .ok (.iload_n 2, 1) := by decide +kernel
theorem dX12_of_28 : decode cX12_of 28 = .ok (.iadd, 1) := by decide +kernel
theorem dX12_of_29 : decode cX12_of 29 = .ok (.iaload, 1) := by decide +kernel
theorem dX12_of_30 : decode cX12_of 30 = .ok (.goto 6, 3) := by decide +kernel
theorem dX12_of_33 : decode cX12_of 33 = .ok (.sipush (-1001), 3) := by decide +kernel
theorem dX12_of_36 : decode cX12_of 36 = .ok (.ireturn, 1) := by decide +kernel
-- X12_sets
def po_X12_sets (E : mE) (h : Nat) (a_g : Nat) (a_kept : Nat) (a_tape : Nat) (a_written : Nat) (a_asked : Nat) (a_there : Nat) (a_counts : Nat) (a_lasts : Nat) (a_cames : Nat)  (g : Nat → Int32) (kept : Nat → Int32) (isKept : Int32) (tape : Nat → Int32) (taped : Int32) (spot : Int32) (written : Nat → Int32) (writtenMany : Int32) (asked : Nat → Int32) (askedMany : Int32) (there : Nat → Int32) (counts : Nat → Int32) (lasts : Nat → Int32) (cames : Nat → Int32)  (o : (Nat → Int32)) : Option Value → va_W → Prop := (fun (v : Option Value) (w' : va_W) => v = none ∧ w' = [(h, .inr (11, [.ref a_g, .ref a_kept, .int isKept, .ref a_tape, .int taped, .int spot, .ref a_written, .int writtenMany, .ref a_asked, .int askedMany, .ref a_there, .ref a_counts, .ref a_lasts, .ref a_cames])), (a_g, .inl (E.2.1, 8787, .inl o)), (a_kept, .inl (E.2.1, 8787, .inl kept)), (a_tape, .inl (E.2.2.1, 60, .inl tape)), (a_written, .inl (E.2.1, 40, .inl written)), (a_asked, .inl (E.2.1, 60, .inl asked)), (a_there, .inl (E.2.1, 12, .inl there)), (a_counts, .inl (E.2.1, 12, .inl counts)), (a_lasts, .inl (E.2.1, 12, .inl lasts)), (a_cames, .inl (E.2.1, 12, .inl cames))])
noncomputable def F_X12_sets  (g : Nat → Int32) (x1 : Int32) (x2 : Int32) (x3 : Int32) : Option ((Nat → Int32)) :=
  sto g 8787 ((98 + (x1 * 9)) + x2) x3 (fun g_1 =>
  some (g_1))
set_option maxHeartbeats 4000000 in
set_option maxRecDepth 100000 in
theorem d_X12_sets (E : mE) (l : Launch) (h : Nat) (a_g : Nat) (a_kept : Nat) (a_tape : Nat) (a_written : Nat) (a_asked : Nat) (a_there : Nat) (a_counts : Nat) (a_lasts : Nat) (a_cames : Nat)  (g : Nat → Int32) (kept : Nat → Int32) (isKept : Int32) (tape : Nat → Int32) (taped : Int32) (spot : Int32) (written : Nat → Int32) (writtenMany : Int32) (asked : Nat → Int32) (askedMany : Int32) (there : Nat → Int32) (counts : Nat → Int32) (lasts : Nat → Int32) (cames : Nat → Int32)  (x1 : Int32) (x2 : Int32) (x3 : Int32)  (o : (Nat → Int32)) (hf : F_X12_sets g x1 x2 x3 = some o) : MX E l yX12_sets cX12_sets 4 none ({ frames := 0, cells := 0, slots := 0, locals := 0 } : Room) [.ref h, .int x1, .int x2, .int x3] [(h, .inr (11, [.ref a_g, .ref a_kept, .int isKept, .ref a_tape, .int taped, .int spot, .ref a_written, .int writtenMany, .ref a_asked, .int askedMany, .ref a_there, .ref a_counts, .ref a_lasts, .ref a_cames])), (a_g, .inl (E.2.1, 8787, .inl g)), (a_kept, .inl (E.2.1, 8787, .inl kept)), (a_tape, .inl (E.2.2.1, 60, .inl tape)), (a_written, .inl (E.2.1, 40, .inl written)), (a_asked, .inl (E.2.1, 60, .inl asked)), (a_there, .inl (E.2.1, 12, .inl there)), (a_counts, .inl (E.2.1, 12, .inl counts)), (a_lasts, .inl (E.2.1, 12, .inl lasts)), (a_cames, .inl (E.2.1, 12, .inl cames))] (po_X12_sets E h a_g a_kept a_tape a_written a_asked a_there a_counts a_lasts a_cames g kept isKept tape taped spot written writtenMany asked askedMany there counts lasts cames o) := by
  refine mx_intro (by decide +kernel) (Nat.le_of_ble_eq_true rfl) ?_
  intro p e s m args below meth c A Q ls B w hl
  obtain ⟨hx, hb, hml, hown, hts⟩ := id B.1
  unfold F_X12_sets at hf
  have hl : lv_has ls 4 [(0, .ref h), (1, .int x1), (2, .int x2), (3, .int x3)] := hl
  refine lv_aload_n hx hb dX12_sets_0 rfl (lv_at hl 0 rfl) ?_
  refine mx_get B w 0 fl_X12_9 rfl rfl dX12_sets_1 ?_
  refine lv_bipush (v := 98) hx hb dX12_sets_4 (by decide) ?_
  refine lv_iload_n hx hb dX12_sets_6 rfl (lv_at hl 1 rfl) ?_
  refine lv_bipush (v := 9) hx hb dX12_sets_7 (by decide) ?_
  refine lv_imul hx hb dX12_sets_9 ?_
  refine lv_iadd hx hb dX12_sets_10 ?_
  refine lv_iload_n hx hb dX12_sets_11 rfl (lv_at hl 2 rfl) ?_
  refine lv_iadd hx hb dX12_sets_12 ?_
  refine lv_iload_n hx hb dX12_sets_13 rfl (lv_at hl 3 rfl) ?_
  obtain ⟨hin, hf⟩ := sto_e hf
  refine mx_iast B w 1 rfl hin dX12_sets_14 (fun g_1 H locs ev w => ?_)
  have hf := hf _ ev; clear ev
  have w : mW E A s [(h, .inr (11, [.ref a_g, .ref a_kept, .int isKept, .ref a_tape, .int taped, .int spot, .ref a_written, .int writtenMany, .ref a_asked, .int askedMany, .ref a_there, .ref a_counts, .ref a_lasts, .ref a_cames])), (a_g, .inl (E.2.1, 8787, .inl g_1)), (a_kept, .inl (E.2.1, 8787, .inl kept)), (a_tape, .inl (E.2.2.1, 60, .inl tape)), (a_written, .inl (E.2.1, 40, .inl written)), (a_asked, .inl (E.2.1, 60, .inl asked)), (a_there, .inl (E.2.1, 12, .inl there)), (a_counts, .inl (E.2.1, 12, .inl counts)), (a_lasts, .inl (E.2.1, 12, .inl lasts)), (a_cames, .inl (E.2.1, 12, .inl cames))] H locs := w
  cases hf
  exact mx_vret B w ⟨rfl, rfl⟩ dX12_sets_15
-- X12_isDue
def po_X12_isDue (E : mE) (h : Nat) (a_g : Nat) (a_kept : Nat) (a_tape : Nat) (a_written : Nat) (a_asked : Nat) (a_there : Nat) (a_counts : Nat) (a_lasts : Nat) (a_cames : Nat)  (g : Nat → Int32) (kept : Nat → Int32) (isKept : Int32) (tape : Nat → Int32) (taped : Int32) (spot : Int32) (written : Nat → Int32) (writtenMany : Int32) (asked : Nat → Int32) (askedMany : Int32) (there : Nat → Int32) (counts : Nat → Int32) (lasts : Nat → Int32) (cames : Nat → Int32)  (o : Int32) : Option Value → va_W → Prop := (fun (v : Option Value) (w' : va_W) => v = some (.int o) ∧ w' = [(h, .inr (11, [.ref a_g, .ref a_kept, .int isKept, .ref a_tape, .int taped, .int spot, .ref a_written, .int writtenMany, .ref a_asked, .int askedMany, .ref a_there, .ref a_counts, .ref a_lasts, .ref a_cames])), (a_g, .inl (E.2.1, 8787, .inl g)), (a_kept, .inl (E.2.1, 8787, .inl kept)), (a_tape, .inl (E.2.2.1, 60, .inl tape)), (a_written, .inl (E.2.1, 40, .inl written)), (a_asked, .inl (E.2.1, 60, .inl asked)), (a_there, .inl (E.2.1, 12, .inl there)), (a_counts, .inl (E.2.1, 12, .inl counts)), (a_lasts, .inl (E.2.1, 12, .inl lasts)), (a_cames, .inl (E.2.1, 12, .inl cames))])
noncomputable def F_X12_isDue  (g : Nat → Int32) (x1 : Int32) : Option (Int32) :=
  bd (F_X12_isStale g x1) (fun o_1 =>
  if (o_1 = 0 : Prop) then
  ld g 8787 3 (fun v_2 =>
  if (v_2 = 0 : Prop) then
  some (0)
  else
  ld g 8787 8 (fun v_3 =>
  bd (F_X12_at g x1 4) (fun o_4 =>
  ld g 8787 3 (fun v_5 =>
  if (v_3 < (o_4 + v_5) : Prop) then
  some (0)
  else
  some (1)))))
  else
  some (0))
set_option maxHeartbeats 4000000 in
set_option maxRecDepth 100000 in
theorem d_X12_isDue (E : mE) (l : Launch) (h : Nat) (a_g : Nat) (a_kept : Nat) (a_tape : Nat) (a_written : Nat) (a_asked : Nat) (a_there : Nat) (a_counts : Nat) (a_lasts : Nat) (a_cames : Nat)  (g : Nat → Int32) (kept : Nat → Int32) (isKept : Int32) (tape : Nat → Int32) (taped : Int32) (spot : Int32) (written : Nat → Int32) (writtenMany : Int32) (asked : Nat → Int32) (askedMany : Int32) (there : Nat → Int32) (counts : Nat → Int32) (lasts : Nat → Int32) (cames : Nat → Int32)  (x1 : Int32)  (o : Int32) (hf : F_X12_isDue g x1 = some o) : MX E l yX12_isDue cX12_isDue 2 (some .boolean) ({ frames := 2, cells := 0, slots := 0, locals := 43 } : Room) [.ref h, .int x1] [(h, .inr (11, [.ref a_g, .ref a_kept, .int isKept, .ref a_tape, .int taped, .int spot, .ref a_written, .int writtenMany, .ref a_asked, .int askedMany, .ref a_there, .ref a_counts, .ref a_lasts, .ref a_cames])), (a_g, .inl (E.2.1, 8787, .inl g)), (a_kept, .inl (E.2.1, 8787, .inl kept)), (a_tape, .inl (E.2.2.1, 60, .inl tape)), (a_written, .inl (E.2.1, 40, .inl written)), (a_asked, .inl (E.2.1, 60, .inl asked)), (a_there, .inl (E.2.1, 12, .inl there)), (a_counts, .inl (E.2.1, 12, .inl counts)), (a_lasts, .inl (E.2.1, 12, .inl lasts)), (a_cames, .inl (E.2.1, 12, .inl cames))] (po_X12_isDue E h a_g a_kept a_tape a_written a_asked a_there a_counts a_lasts a_cames g kept isKept tape taped spot written writtenMany asked askedMany there counts lasts cames o) := by
  refine mx_intro (by decide +kernel) (Nat.le_of_ble_eq_true rfl) ?_
  intro p e s m args below meth c A Q ls B w hl
  obtain ⟨hx, hb, hml, hown, hts⟩ := id B.1
  unfold F_X12_isDue at hf
  have hl : lv_has ls 2 [(0, .ref h), (1, .int x1)] := hl
  refine lv_aload_n hx hb dX12_isDue_0 rfl (lv_at hl 0 rfl) ?_
  refine lv_iload_n hx hb dX12_isDue_1 rfl (lv_at hl 1 rfl) ?_
  obtain ⟨o_1, hq, hf⟩ := bd_e hf
  refine mx_callV (As := [.int x1]) (rest := []) (wr := []) (d_X12_isStale E l  h a_g a_kept a_tape a_written a_asked a_there a_counts a_lasts a_cames g kept isKept tape taped spot written writtenMany asked askedMany there counts lasts cames x1  o_1 hq) B w [0, 1, 2, 3, 4, 5, 6, 7, 8, 9] [] rfl rfl (by decide) (by decide) (by decide) 0 rfl rfl cv_X12_isStale kw_1337 1 (by decide +kernel) ⟨Nat.le_of_ble_eq_true rfl, Nat.le_of_ble_eq_true rfl⟩ rfl hl.1 rfl (Nat.le_of_ble_eq_true rfl) dX12_isDue_2 rfl rfl ⟨Nat.zero_le _, Nat.zero_le _⟩ (fun v w' H locs hpo w => ?_)
  clear hq
  obtain ⟨rfl, rfl⟩ := hpo
  have w : mW E A s [(h, .inr (11, [.ref a_g, .ref a_kept, .int isKept, .ref a_tape, .int taped, .int spot, .ref a_written, .int writtenMany, .ref a_asked, .int askedMany, .ref a_there, .ref a_counts, .ref a_lasts, .ref a_cames])), (a_g, .inl (E.2.1, 8787, .inl g)), (a_kept, .inl (E.2.1, 8787, .inl kept)), (a_tape, .inl (E.2.2.1, 60, .inl tape)), (a_written, .inl (E.2.1, 40, .inl written)), (a_asked, .inl (E.2.1, 60, .inl asked)), (a_there, .inl (E.2.1, 12, .inl there)), (a_counts, .inl (E.2.1, 12, .inl counts)), (a_lasts, .inl (E.2.1, 12, .inl lasts)), (a_cames, .inl (E.2.1, 12, .inl cames))] H locs := w
  refine lv_if_ne (tgt := 44) hx hb dX12_isDue_5 (by decide) (fun hc => ?_) (fun hc => ?_)
  · have hf := it_f hc hf
    refine lv_iconst (v := 0) hx hb dX12_isDue_44 (by decide) ?_
    cases hf
    exact mx_zret B w rfl ⟨rfl, rfl⟩ dX12_isDue_45
  · have hf := it_t hc hf
    refine lv_aload_n hx hb dX12_isDue_8 rfl (lv_at hl 0 rfl) ?_
    refine mx_get B w 0 fl_X12_9 rfl rfl dX12_isDue_9 ?_
    refine lv_iconst (v := 3) hx hb dX12_isDue_12 (by decide) ?_
    obtain ⟨hin, hf⟩ := ld_e hf
    refine mx_iald B w 1 rfl hin dX12_isDue_13 (fun v_2 ev => ?_)
    have hf := hf _ ev; clear ev
    refine lv_if_eq (tgt := 44) hx hb dX12_isDue_14 (by decide) (fun hc => ?_) (fun hc => ?_)
    · have hf := it_t hc hf
      refine lv_iconst (v := 0) hx hb dX12_isDue_44 (by decide) ?_
      cases hf
      exact mx_zret B w rfl ⟨rfl, rfl⟩ dX12_isDue_45
    · have hf := it_f hc hf
      refine lv_aload_n hx hb dX12_isDue_17 rfl (lv_at hl 0 rfl) ?_
      refine mx_get B w 0 fl_X12_9 rfl rfl dX12_isDue_18 ?_
      refine lv_bipush (v := 8) hx hb dX12_isDue_21 (by decide) ?_
      obtain ⟨hin, hf⟩ := ld_e hf
      refine mx_iald B w 1 rfl hin dX12_isDue_23 (fun v_3 ev => ?_)
      have hf := hf _ ev; clear ev
      refine lv_aload_n hx hb dX12_isDue_24 rfl (lv_at hl 0 rfl) ?_
      refine lv_iload_n hx hb dX12_isDue_25 rfl (lv_at hl 1 rfl) ?_
      refine lv_iconst (v := 4) hx hb dX12_isDue_26 (by decide) ?_
      obtain ⟨o_4, hq, hf⟩ := bd_e hf
      refine mx_callV (As := [.int x1, .int 4]) (rest := [.int v_3]) (wr := []) (d_X12_at E l  h a_g a_kept a_tape a_written a_asked a_there a_counts a_lasts a_cames g kept isKept tape taped spot written writtenMany asked askedMany there counts lasts cames x1 4  o_4 hq) B w [0, 1, 2, 3, 4, 5, 6, 7, 8, 9] [] rfl rfl (by decide) (by decide) (by decide) 0 rfl rfl cv_X12_at kw_1325 2 (by decide +kernel) ⟨Nat.le_of_ble_eq_true rfl, Nat.le_of_ble_eq_true rfl⟩ rfl hl.1 rfl (Nat.le_of_ble_eq_true rfl) dX12_isDue_27 rfl rfl ⟨Nat.zero_le _, Nat.zero_le _⟩ (fun v w' H locs hpo w => ?_)
      clear hq
      obtain ⟨rfl, rfl⟩ := hpo
      have w : mW E A s [(h, .inr (11, [.ref a_g, .ref a_kept, .int isKept, .ref a_tape, .int taped, .int spot, .ref a_written, .int writtenMany, .ref a_asked, .int askedMany, .ref a_there, .ref a_counts, .ref a_lasts, .ref a_cames])), (a_g, .inl (E.2.1, 8787, .inl g)), (a_kept, .inl (E.2.1, 8787, .inl kept)), (a_tape, .inl (E.2.2.1, 60, .inl tape)), (a_written, .inl (E.2.1, 40, .inl written)), (a_asked, .inl (E.2.1, 60, .inl asked)), (a_there, .inl (E.2.1, 12, .inl there)), (a_counts, .inl (E.2.1, 12, .inl counts)), (a_lasts, .inl (E.2.1, 12, .inl lasts)), (a_cames, .inl (E.2.1, 12, .inl cames))] H locs := w
      refine lv_aload_n hx hb dX12_isDue_30 rfl (lv_at hl 0 rfl) ?_
      refine mx_get B w 0 fl_X12_9 rfl rfl dX12_isDue_31 ?_
      refine lv_iconst (v := 3) hx hb dX12_isDue_34 (by decide) ?_
      obtain ⟨hin, hf⟩ := ld_e hf
      refine mx_iald B w 1 rfl hin dX12_isDue_35 (fun v_5 ev => ?_)
      have hf := hf _ ev; clear ev
      refine lv_iadd hx hb dX12_isDue_36 ?_
      refine lv_icmp_lt (tgt := 44) hx hb dX12_isDue_37 (by decide) (fun hc => ?_) (fun hc => ?_)
      · have hf := it_t hc hf
        refine lv_iconst (v := 0) hx hb dX12_isDue_44 (by decide) ?_
        cases hf
        exact mx_zret B w rfl ⟨rfl, rfl⟩ dX12_isDue_45
      · have hf := it_f hc hf
        refine lv_iconst (v := 1) hx hb dX12_isDue_40 (by decide) ?_
        refine lv_goto (tgt := 45) hx hb dX12_isDue_41 (by decide) ?_
        cases hf
        exact mx_zret B w rfl ⟨rfl, rfl⟩ dX12_isDue_45
-- X12_loadOf
def po_X12_loadOf (E : mE) (h : Nat) (a_g : Nat) (a_kept : Nat) (a_tape : Nat) (a_written : Nat) (a_asked : Nat) (a_there : Nat) (a_counts : Nat) (a_lasts : Nat) (a_cames : Nat)  (g : Nat → Int32) (kept : Nat → Int32) (isKept : Int32) (tape : Nat → Int32) (taped : Int32) (spot : Int32) (written : Nat → Int32) (writtenMany : Int32) (asked : Nat → Int32) (askedMany : Int32) (there : Nat → Int32) (counts : Nat → Int32) (lasts : Nat → Int32) (cames : Nat → Int32)  (o : Int32) : Option Value → va_W → Prop := (fun (v : Option Value) (w' : va_W) => v = some (.int o) ∧ w' = [(h, .inr (11, [.ref a_g, .ref a_kept, .int isKept, .ref a_tape, .int taped, .int spot, .ref a_written, .int writtenMany, .ref a_asked, .int askedMany, .ref a_there, .ref a_counts, .ref a_lasts, .ref a_cames])), (a_g, .inl (E.2.1, 8787, .inl g)), (a_kept, .inl (E.2.1, 8787, .inl kept)), (a_tape, .inl (E.2.2.1, 60, .inl tape)), (a_written, .inl (E.2.1, 40, .inl written)), (a_asked, .inl (E.2.1, 60, .inl asked)), (a_there, .inl (E.2.1, 12, .inl there)), (a_counts, .inl (E.2.1, 12, .inl counts)), (a_lasts, .inl (E.2.1, 12, .inl lasts)), (a_cames, .inl (E.2.1, 12, .inl cames))])
noncomputable def K_X12_loadOf_2 (N : Nat)  (rec : Int32 → Option (Int32)) (k31 : Unit → Option (Int32)) (k23 : Int32 → Option (Int32)) (x1 : Int32) (g : Nat → Int32) (x2 : Int32)  : Option (Int32) :=
  ld g 8787 15 (fun v_1 =>
  if (v_1 ≤ x2 : Prop) then
  k31 ()
  else
  bd (F_X12_loadAt g x2 0) (fun o_2 =>
  if (o_2 = x1 : Prop) then
  k23 x2
  else
  lt (x2 + 1) (fun x2_3 =>
  rec x2_3)))
noncomputable def L_X12_loadOf_2 (N : Nat)  (k31 : Unit → Option (Int32)) (k23 : Int32 → Option (Int32)) (x1 : Int32) (g : Nat → Int32) (n : Nat) : Int32 → Option (Int32) :=
  Nat.rec (motive := fun _ => Int32 → Option (Int32)) (fun _ => none) (fun _ rec => K_X12_loadOf_2 N rec k31 k23 x1 g) n
set_option maxHeartbeats 4000000 in
set_option maxRecDepth 100000 in
theorem l_X12_loadOf_2 {E : mE} {l : Launch} {p : Program} {e : Env} {s : State} {m : MethodId} {args : Array Value} {below : List Frame} {meth : Method} {c : Code} {A : Nat → Prop} {Q : State → Prop} {N : Nat} {h : Nat} {a_g : Nat} {a_kept : Nat} {a_tape : Nat} {a_written : Nat} {a_asked : Nat} {a_there : Nat} {a_counts : Nat} {a_lasts : Nat} {a_cames : Nat}  {g : Nat → Int32} {kept : Nat → Int32} {isKept : Int32} {tape : Nat → Int32} {taped : Int32} {spot : Int32} {written : Nat → Int32} {writtenMany : Int32} {asked : Nat → Int32} {askedMany : Int32} {there : Nat → Int32} {counts : Nat → Int32} {lasts : Nat → Int32} {cames : Nat → Int32}  {o : Int32} (B : mB E yX12_loadOf cX12_loadOf 3 (some .int) 0 0 (po_X12_loadOf E h a_g a_kept a_tape a_written a_asked a_there a_counts a_lasts a_cames g kept isKept tape taped spot written writtenMany asked askedMany there counts lasts cames o) p s m args below meth c A Q)   {x1 : Int32} (k31 : Unit → Option (Int32)) (k23 : Int32 → Option (Int32))  (hk31 : ∀    (H : Heap) (locs : List Loc) (ls : Array Slot), k31 () = some o → mW E A s [(h, .inr (11, [.ref a_g, .ref a_kept, .int isKept, .ref a_tape, .int taped, .int spot, .ref a_written, .int writtenMany, .ref a_asked, .int askedMany, .ref a_there, .ref a_counts, .ref a_lasts, .ref a_cames])), (a_g, .inl (E.2.1, 8787, .inl g)), (a_kept, .inl (E.2.1, 8787, .inl kept)), (a_tape, .inl (E.2.2.1, 60, .inl tape)), (a_written, .inl (E.2.1, 40, .inl written)), (a_asked, .inl (E.2.1, 60, .inl asked)), (a_there, .inl (E.2.1, 12, .inl there)), (a_counts, .inl (E.2.1, 12, .inl counts)), (a_lasts, .inl (E.2.1, 12, .inl lasts)), (a_cames, .inl (E.2.1, 12, .inl cames))] H locs → lv_has ls 3 [] → W p l e ({ frames := 1, cells := 0, slots := 0, locals := 22 } : Room) s m args below meth c H locs 0 0 Q (F0 m 31 ls [])) (hk23 : ∀ (x2 : Int32)   (H : Heap) (locs : List Loc) (ls : Array Slot), k23 x2 = some o → mW E A s [(h, .inr (11, [.ref a_g, .ref a_kept, .int isKept, .ref a_tape, .int taped, .int spot, .ref a_written, .int writtenMany, .ref a_asked, .int askedMany, .ref a_there, .ref a_counts, .ref a_lasts, .ref a_cames])), (a_g, .inl (E.2.1, 8787, .inl g)), (a_kept, .inl (E.2.1, 8787, .inl kept)), (a_tape, .inl (E.2.2.1, 60, .inl tape)), (a_written, .inl (E.2.1, 40, .inl written)), (a_asked, .inl (E.2.1, 60, .inl asked)), (a_there, .inl (E.2.1, 12, .inl there)), (a_counts, .inl (E.2.1, 12, .inl counts)), (a_lasts, .inl (E.2.1, 12, .inl lasts)), (a_cames, .inl (E.2.1, 12, .inl cames))] H locs → lv_has ls 3 [(2, .int x2)] → W p l e ({ frames := 1, cells := 0, slots := 0, locals := 22 } : Room) s m args below meth c H locs 0 0 Q (F0 m 23 ls [])) : ∀ n : Nat, ∀ (x2 : Int32)   (H : Heap) (locs : List Loc) (ls : Array Slot), L_X12_loadOf_2 N k31 k23 x1 g n x2 = some o → mW E A s [(h, .inr (11, [.ref a_g, .ref a_kept, .int isKept, .ref a_tape, .int taped, .int spot, .ref a_written, .int writtenMany, .ref a_asked, .int askedMany, .ref a_there, .ref a_counts, .ref a_lasts, .ref a_cames])), (a_g, .inl (E.2.1, 8787, .inl g)), (a_kept, .inl (E.2.1, 8787, .inl kept)), (a_tape, .inl (E.2.2.1, 60, .inl tape)), (a_written, .inl (E.2.1, 40, .inl written)), (a_asked, .inl (E.2.1, 60, .inl asked)), (a_there, .inl (E.2.1, 12, .inl there)), (a_counts, .inl (E.2.1, 12, .inl counts)), (a_lasts, .inl (E.2.1, 12, .inl lasts)), (a_cames, .inl (E.2.1, 12, .inl cames))] H locs → lv_has ls 3 [(0, .ref h), (1, .int x1), (2, .int x2)] → W p l e ({ frames := 1, cells := 0, slots := 0, locals := 22 } : Room) s m args below meth c H locs 0 0 Q (F0 m 2 ls []) := by
  obtain ⟨hx, hb, hml, hown, hts⟩ := id B.1
  intro n
  induction n with
  | zero =>
    intro x2 H locs ls hf w hl
    exact nomatch hf
  | succ n hrec =>
    intro x2 H locs ls hf w hl
    have hf : K_X12_loadOf_2 N (L_X12_loadOf_2 N k31 k23 x1 g n) k31 k23 x1 g x2 = some o := hf
    unfold K_X12_loadOf_2 at hf
    refine lv_iload_n hx hb dX12_loadOf_2 rfl (lv_at hl 2 rfl) ?_
    refine lv_aload_n hx hb dX12_loadOf_3 rfl (lv_at hl 0 rfl) ?_
    refine mx_get B w 0 fl_X12_9 rfl rfl dX12_loadOf_4 ?_
    refine lv_bipush (v := 15) hx hb dX12_loadOf_7 (by decide) ?_
    obtain ⟨hin, hf⟩ := ld_e hf
    refine mx_iald B w 1 rfl hin dX12_loadOf_9 (fun v_1 ev => ?_)
    have hf := hf _ ev; clear ev
    refine lv_icmp_ge (tgt := 31) hx hb dX12_loadOf_10 (by decide) (fun hc => ?_) (fun hc => ?_)
    · have hf := it_t hc hf
      exact hk31 _ _ _ hf  w (lv_sub hl [] rfl)
    · have hf := it_f hc hf
      refine lv_aload_n hx hb dX12_loadOf_13 rfl (lv_at hl 0 rfl) ?_
      refine lv_iload_n hx hb dX12_loadOf_14 rfl (lv_at hl 2 rfl) ?_
      refine lv_iconst (v := 0) hx hb dX12_loadOf_15 (by decide) ?_
      obtain ⟨o_2, hq, hf⟩ := bd_e hf
      refine mx_callV (As := [.int x2, .int 0]) (rest := []) (wr := []) (d_X12_loadAt E l  h a_g a_kept a_tape a_written a_asked a_there a_counts a_lasts a_cames g kept isKept tape taped spot written writtenMany asked askedMany there counts lasts cames x2 0  o_2 hq) B w [0, 1, 2, 3, 4, 5, 6, 7, 8, 9] [] rfl rfl (by decide) (by decide) (by decide) 0 rfl rfl cv_X12_loadAt kw_1385 2 (by decide +kernel) ⟨Nat.le_of_ble_eq_true rfl, Nat.le_of_ble_eq_true rfl⟩ rfl hl.1 rfl (Nat.le_of_ble_eq_true rfl) dX12_loadOf_16 rfl rfl ⟨Nat.zero_le _, Nat.zero_le _⟩ (fun v w' H locs hpo w => ?_)
      clear hq
      obtain ⟨rfl, rfl⟩ := hpo
      have w : mW E A s [(h, .inr (11, [.ref a_g, .ref a_kept, .int isKept, .ref a_tape, .int taped, .int spot, .ref a_written, .int writtenMany, .ref a_asked, .int askedMany, .ref a_there, .ref a_counts, .ref a_lasts, .ref a_cames])), (a_g, .inl (E.2.1, 8787, .inl g)), (a_kept, .inl (E.2.1, 8787, .inl kept)), (a_tape, .inl (E.2.2.1, 60, .inl tape)), (a_written, .inl (E.2.1, 40, .inl written)), (a_asked, .inl (E.2.1, 60, .inl asked)), (a_there, .inl (E.2.1, 12, .inl there)), (a_counts, .inl (E.2.1, 12, .inl counts)), (a_lasts, .inl (E.2.1, 12, .inl lasts)), (a_cames, .inl (E.2.1, 12, .inl cames))] H locs := w
      refine lv_iload_n hx hb dX12_loadOf_19 rfl (lv_at hl 1 rfl) ?_
      refine lv_icmp_ne (tgt := 25) hx hb dX12_loadOf_20 (by decide) (fun hc => ?_) (fun hc => ?_)
      · have hf := it_f hc hf
        obtain ⟨x2_3, ev⟩ : ∃ y : Int32, y = x2 + 1 := ⟨_, rfl⟩
        refine lv_iinc (v := x2_3) (lv' := [(2, .int x2_3), (0, .ref h), (1, .int x1)]) hx hb dX12_loadOf_25 hl (k := 2) rfl (by rw [ev]; rfl) (by decide) rfl (fun ls hl => ?_)
        have hf := lt_n ev hf; clear ev
        refine lv_goto (tgt := 2) hx hb dX12_loadOf_28 (by decide) ?_
        exact hrec _ _ _ _ hf  w (lv_sub hl [1, 2, 0] rfl)
      · have hf := it_t hc hf
        exact hk23 _ _ _ _ hf  w (lv_sub hl [2] rfl)
noncomputable def F_X12_loadOf (N : Nat)  (g : Nat → Int32) (x1 : Int32) : Option (Int32) :=
  L_X12_loadOf_2 N (fun _ => some ((-1))) (fun x2 => some (x2)) x1 g N 0
set_option maxHeartbeats 4000000 in
set_option maxRecDepth 100000 in
theorem d_X12_loadOf (E : mE) (l : Launch) (N : Nat) (h : Nat) (a_g : Nat) (a_kept : Nat) (a_tape : Nat) (a_written : Nat) (a_asked : Nat) (a_there : Nat) (a_counts : Nat) (a_lasts : Nat) (a_cames : Nat)  (g : Nat → Int32) (kept : Nat → Int32) (isKept : Int32) (tape : Nat → Int32) (taped : Int32) (spot : Int32) (written : Nat → Int32) (writtenMany : Int32) (asked : Nat → Int32) (askedMany : Int32) (there : Nat → Int32) (counts : Nat → Int32) (lasts : Nat → Int32) (cames : Nat → Int32)  (x1 : Int32)  (o : Int32) (hf : F_X12_loadOf N g x1 = some o) : MX E l yX12_loadOf cX12_loadOf 3 (some .int) ({ frames := 1, cells := 0, slots := 0, locals := 22 } : Room) [.ref h, .int x1] [(h, .inr (11, [.ref a_g, .ref a_kept, .int isKept, .ref a_tape, .int taped, .int spot, .ref a_written, .int writtenMany, .ref a_asked, .int askedMany, .ref a_there, .ref a_counts, .ref a_lasts, .ref a_cames])), (a_g, .inl (E.2.1, 8787, .inl g)), (a_kept, .inl (E.2.1, 8787, .inl kept)), (a_tape, .inl (E.2.2.1, 60, .inl tape)), (a_written, .inl (E.2.1, 40, .inl written)), (a_asked, .inl (E.2.1, 60, .inl asked)), (a_there, .inl (E.2.1, 12, .inl there)), (a_counts, .inl (E.2.1, 12, .inl counts)), (a_lasts, .inl (E.2.1, 12, .inl lasts)), (a_cames, .inl (E.2.1, 12, .inl cames))] (po_X12_loadOf E h a_g a_kept a_tape a_written a_asked a_there a_counts a_lasts a_cames g kept isKept tape taped spot written writtenMany asked askedMany there counts lasts cames o) := by
  refine mx_intro (by decide +kernel) (Nat.le_of_ble_eq_true rfl) ?_
  intro p e s m args below meth c A Q ls B w hl
  obtain ⟨hx, hb, hml, hown, hts⟩ := id B.1
  unfold F_X12_loadOf at hf
  have hl : lv_has ls 3 [(0, .ref h), (1, .int x1)] := hl
  refine lv_iconst (v := 0) hx hb dX12_loadOf_0 (by decide) ?_
  refine lv_istore_n (lv' := [(2, .int 0), (0, .ref h), (1, .int x1)]) hx hb dX12_loadOf_1 rfl hl (by decide) rfl (fun ls hl => ?_)
  refine l_X12_loadOf_2 B _ _  ?_ ?_ N _ _ _ _ hf  w (lv_sub hl [1, 2, 0] rfl)
  · intro H locs ls hf w hl
    refine lv_iconst (v := (-1)) hx hb dX12_loadOf_31 (by decide) ?_
    cases hf
    exact mx_iret B w ⟨rfl, rfl⟩ dX12_loadOf_32
  · intro x2 H locs ls hf w hl
    refine lv_iload_n hx hb dX12_loadOf_23 rfl (lv_at hl 0 rfl) ?_
    cases hf
    exact mx_iret B w ⟨rfl, rfl⟩ dX12_loadOf_24
-- X12_lines
def po_X12_lines (E : mE) (h : Nat) (a_g : Nat) (a_kept : Nat) (a_tape : Nat) (a_written : Nat) (a_asked : Nat) (a_there : Nat) (a_counts : Nat) (a_lasts : Nat) (a_cames : Nat)  (g : Nat → Int32) (kept : Nat → Int32) (isKept : Int32) (tape : Nat → Int32) (taped : Int32) (spot : Int32) (written : Nat → Int32) (writtenMany : Int32) (asked : Nat → Int32) (askedMany : Int32) (there : Nat → Int32) (counts : Nat → Int32) (lasts : Nat → Int32) (cames : Nat → Int32)  (o : (Nat → Int32)) : Option Value → va_W → Prop := (fun (v : Option Value) (w' : va_W) => v = none ∧ w' = [(h, .inr (11, [.ref a_g, .ref a_kept, .int isKept, .ref a_tape, .int taped, .int spot, .ref a_written, .int writtenMany, .ref a_asked, .int askedMany, .ref a_there, .ref a_counts, .ref a_lasts, .ref a_cames])), (a_g, .inl (E.2.1, 8787, .inl o)), (a_kept, .inl (E.2.1, 8787, .inl kept)), (a_tape, .inl (E.2.2.1, 60, .inl tape)), (a_written, .inl (E.2.1, 40, .inl written)), (a_asked, .inl (E.2.1, 60, .inl asked)), (a_there, .inl (E.2.1, 12, .inl there)), (a_counts, .inl (E.2.1, 12, .inl counts)), (a_lasts, .inl (E.2.1, 12, .inl lasts)), (a_cames, .inl (E.2.1, 12, .inl cames))])
noncomputable def J_X12_lines_60 (N : Nat)   (t1 : Int32) (t2 : Int32) (x1 : Int32) (x2 : Int32) (x3 : Int32) (g : Nat → Int32) : Option ((Nat → Int32)) :=
  sto g 8787 t1 t2 (fun g_7 =>
  sto g_7 8787 (x3 + 4) x2 (fun g_8 =>
  bd (F_X12_happens N g_8 1 x1) (fun o_9 =>
  bd (F_X12_runs N o_9) (fun o_10 =>
  some (o_10)))))
set_option maxHeartbeats 4000000 in
set_option maxRecDepth 100000 in
theorem j_X12_lines_60 {E : mE} {l : Launch} {p : Program} {e : Env} {s : State} {m : MethodId} {args : Array Value} {below : List Frame} {meth : Method} {c : Code} {A : Nat → Prop} {Q : State → Prop} {N : Nat} {h : Nat} {a_g : Nat} {a_kept : Nat} {a_tape : Nat} {a_written : Nat} {a_asked : Nat} {a_there : Nat} {a_counts : Nat} {a_lasts : Nat} {a_cames : Nat}  {g0 : Nat → Int32} {kept : Nat → Int32} {isKept : Int32} {tape : Nat → Int32} {taped : Int32} {spot : Int32} {written : Nat → Int32} {writtenMany : Int32} {asked : Nat → Int32} {askedMany : Int32} {there : Nat → Int32} {counts : Nat → Int32} {lasts : Nat → Int32} {cames : Nat → Int32}  {o : (Nat → Int32)} (B : mB E yX12_lines cX12_lines 4 none 0 0 (po_X12_lines E h a_g a_kept a_tape a_written a_asked a_there a_counts a_lasts a_cames g0 kept isKept tape taped spot written writtenMany asked askedMany there counts lasts cames o) p s m args below meth c A Q) {t1 : Int32} {t2 : Int32} {x1 : Int32} {x2 : Int32} {x3 : Int32} {g : Nat → Int32}    {H : Heap} {locs : List Loc} {ls : Array Slot} (hf : J_X12_lines_60 N t1 t2 x1 x2 x3 g = some o)  (w : mW E A s [(h, .inr (11, [.ref a_g, .ref a_kept, .int isKept, .ref a_tape, .int taped, .int spot, .ref a_written, .int writtenMany, .ref a_asked, .int askedMany, .ref a_there, .ref a_counts, .ref a_lasts, .ref a_cames])), (a_g, .inl (E.2.1, 8787, .inl g)), (a_kept, .inl (E.2.1, 8787, .inl kept)), (a_tape, .inl (E.2.2.1, 60, .inl tape)), (a_written, .inl (E.2.1, 40, .inl written)), (a_asked, .inl (E.2.1, 60, .inl asked)), (a_there, .inl (E.2.1, 12, .inl there)), (a_counts, .inl (E.2.1, 12, .inl counts)), (a_lasts, .inl (E.2.1, 12, .inl lasts)), (a_cames, .inl (E.2.1, 12, .inl cames))] H locs) (hl : lv_has ls 4 [(0, .ref h), (1, .int x1), (2, .int x2), (3, .int x3)]) : W p l e ({ frames := 5, cells := 0, slots := 0, locals := 113 } : Room) s m args below meth c H locs 0 0 Q (F0 m 60 ls [.int t2, .int t1, .ref a_g]) := by
  obtain ⟨hx, hb, hml, hown, hts⟩ := id B.1
  unfold J_X12_lines_60 at hf
  obtain ⟨hin, hf⟩ := sto_e hf
  refine mx_iast B w 1 rfl hin dX12_lines_60 (fun g_7 H locs ev w => ?_)
  have hf := hf _ ev; clear ev
  have w : mW E A s [(h, .inr (11, [.ref a_g, .ref a_kept, .int isKept, .ref a_tape, .int taped, .int spot, .ref a_written, .int writtenMany, .ref a_asked, .int askedMany, .ref a_there, .ref a_counts, .ref a_lasts, .ref a_cames])), (a_g, .inl (E.2.1, 8787, .inl g_7)), (a_kept, .inl (E.2.1, 8787, .inl kept)), (a_tape, .inl (E.2.2.1, 60, .inl tape)), (a_written, .inl (E.2.1, 40, .inl written)), (a_asked, .inl (E.2.1, 60, .inl asked)), (a_there, .inl (E.2.1, 12, .inl there)), (a_counts, .inl (E.2.1, 12, .inl counts)), (a_lasts, .inl (E.2.1, 12, .inl lasts)), (a_cames, .inl (E.2.1, 12, .inl cames))] H locs := w
  refine lv_aload_n hx hb dX12_lines_61 rfl (lv_at hl 0 rfl) ?_
  refine mx_get B w 0 fl_X12_9 rfl rfl dX12_lines_62 ?_
  refine lv_iload_n hx hb dX12_lines_65 rfl (lv_at hl 3 rfl) ?_
  refine lv_iconst (v := 4) hx hb dX12_lines_66 (by decide) ?_
  refine lv_iadd hx hb dX12_lines_67 ?_
  refine lv_iload_n hx hb dX12_lines_68 rfl (lv_at hl 2 rfl) ?_
  obtain ⟨hin, hf⟩ := sto_e hf
  refine mx_iast B w 1 rfl hin dX12_lines_69 (fun g_8 H locs ev w => ?_)
  have hf := hf _ ev; clear ev
  have w : mW E A s [(h, .inr (11, [.ref a_g, .ref a_kept, .int isKept, .ref a_tape, .int taped, .int spot, .ref a_written, .int writtenMany, .ref a_asked, .int askedMany, .ref a_there, .ref a_counts, .ref a_lasts, .ref a_cames])), (a_g, .inl (E.2.1, 8787, .inl g_8)), (a_kept, .inl (E.2.1, 8787, .inl kept)), (a_tape, .inl (E.2.2.1, 60, .inl tape)), (a_written, .inl (E.2.1, 40, .inl written)), (a_asked, .inl (E.2.1, 60, .inl asked)), (a_there, .inl (E.2.1, 12, .inl there)), (a_counts, .inl (E.2.1, 12, .inl counts)), (a_lasts, .inl (E.2.1, 12, .inl lasts)), (a_cames, .inl (E.2.1, 12, .inl cames))] H locs := w
  refine lv_aload_n hx hb dX12_lines_70 rfl (lv_at hl 0 rfl) ?_
  refine lv_iconst (v := 1) hx hb dX12_lines_71 (by decide) ?_
  refine lv_iload_n hx hb dX12_lines_72 rfl (lv_at hl 1 rfl) ?_
  obtain ⟨o_9, hq, hf⟩ := bd_e hf
  refine mx_callV (As := [.int 1, .int x1]) (rest := []) (wr := []) (d_X12_happens E l N h a_g a_kept a_tape a_written a_asked a_there a_counts a_lasts a_cames g_8 kept isKept tape taped spot written writtenMany asked askedMany there counts lasts cames 1 x1  o_9 hq) B w [0, 1, 2, 3, 4, 5, 6, 7, 8, 9] [] rfl rfl (by decide) (by decide) (by decide) 0 rfl rfl cv_X12_happens kw_1373 2 (by decide +kernel) ⟨Nat.le_of_ble_eq_true rfl, Nat.le_of_ble_eq_true rfl⟩ rfl hl.1 rfl (Nat.le_of_ble_eq_true rfl) dX12_lines_73 rfl rfl ⟨Nat.zero_le _, Nat.zero_le _⟩ (fun v w' H locs hpo w => ?_)
  clear hq
  obtain ⟨rfl, rfl⟩ := hpo
  have w : mW E A s [(h, .inr (11, [.ref a_g, .ref a_kept, .int isKept, .ref a_tape, .int taped, .int spot, .ref a_written, .int writtenMany, .ref a_asked, .int askedMany, .ref a_there, .ref a_counts, .ref a_lasts, .ref a_cames])), (a_g, .inl (E.2.1, 8787, .inl o_9)), (a_kept, .inl (E.2.1, 8787, .inl kept)), (a_tape, .inl (E.2.2.1, 60, .inl tape)), (a_written, .inl (E.2.1, 40, .inl written)), (a_asked, .inl (E.2.1, 60, .inl asked)), (a_there, .inl (E.2.1, 12, .inl there)), (a_counts, .inl (E.2.1, 12, .inl counts)), (a_lasts, .inl (E.2.1, 12, .inl lasts)), (a_cames, .inl (E.2.1, 12, .inl cames))] H locs := w
  refine lv_aload_n hx hb dX12_lines_76 rfl (lv_at hl 0 rfl) ?_
  obtain ⟨o_10, hq, hf⟩ := bd_e hf
  refine mx_callV (As := []) (rest := []) (wr := []) (d_X12_runs E l N h a_g a_kept a_tape a_written a_asked a_there a_counts a_lasts a_cames o_9 kept isKept tape taped spot written writtenMany asked askedMany there counts lasts cames   o_10 hq) B w [0, 1, 2, 3, 4, 5, 6, 7, 8, 9] [] rfl rfl (by decide) (by decide) (by decide) 0 rfl rfl cv_X12_runs kw_1377 0 (by decide +kernel) ⟨Nat.le_of_ble_eq_true rfl, Nat.le_of_ble_eq_true rfl⟩ rfl hl.1 rfl (Nat.le_of_ble_eq_true rfl) dX12_lines_77 rfl rfl ⟨Nat.zero_le _, Nat.zero_le _⟩ (fun v w' H locs hpo w => ?_)
  clear hq
  obtain ⟨rfl, rfl⟩ := hpo
  have w : mW E A s [(h, .inr (11, [.ref a_g, .ref a_kept, .int isKept, .ref a_tape, .int taped, .int spot, .ref a_written, .int writtenMany, .ref a_asked, .int askedMany, .ref a_there, .ref a_counts, .ref a_lasts, .ref a_cames])), (a_g, .inl (E.2.1, 8787, .inl o_10)), (a_kept, .inl (E.2.1, 8787, .inl kept)), (a_tape, .inl (E.2.2.1, 60, .inl tape)), (a_written, .inl (E.2.1, 40, .inl written)), (a_asked, .inl (E.2.1, 60, .inl asked)), (a_there, .inl (E.2.1, 12, .inl there)), (a_counts, .inl (E.2.1, 12, .inl counts)), (a_lasts, .inl (E.2.1, 12, .inl lasts)), (a_cames, .inl (E.2.1, 12, .inl cames))] H locs := w
  cases hf
  exact mx_vret B w ⟨rfl, rfl⟩ dX12_lines_80
noncomputable def F_X12_lines (N : Nat)  (g : Nat → Int32) (x1 : Int32) (x2 : Int32) : Option ((Nat → Int32)) :=
  ld g 8787 15 (fun v_1 =>
  lt (2003 + (v_1 * 20)) (fun x3_2 =>
  ld g 8787 15 (fun v_3 =>
  sto g 8787 15 (v_3 + 1) (fun g_4 =>
  sto g_4 8787 (x3_2 + 0) x1 (fun g_5 =>
  sto g_5 8787 (x3_2 + 1) 1 (fun g_6 =>
  if (0 ≤ x2 : Prop) then
  J_X12_lines_60 N (x3_2 + 3) 1 x1 x2 x3_2 g_6
  else
  J_X12_lines_60 N (x3_2 + 3) 0 x1 x2 x3_2 g_6))))))
set_option maxHeartbeats 4000000 in
set_option maxRecDepth 100000 in
theorem d_X12_lines (E : mE) (l : Launch) (N : Nat) (h : Nat) (a_g : Nat) (a_kept : Nat) (a_tape : Nat) (a_written : Nat) (a_asked : Nat) (a_there : Nat) (a_counts : Nat) (a_lasts : Nat) (a_cames : Nat)  (g : Nat → Int32) (kept : Nat → Int32) (isKept : Int32) (tape : Nat → Int32) (taped : Int32) (spot : Int32) (written : Nat → Int32) (writtenMany : Int32) (asked : Nat → Int32) (askedMany : Int32) (there : Nat → Int32) (counts : Nat → Int32) (lasts : Nat → Int32) (cames : Nat → Int32)  (x1 : Int32) (x2 : Int32)  (o : (Nat → Int32)) (hf : F_X12_lines N g x1 x2 = some o) : MX E l yX12_lines cX12_lines 4 none ({ frames := 5, cells := 0, slots := 0, locals := 113 } : Room) [.ref h, .int x1, .int x2] [(h, .inr (11, [.ref a_g, .ref a_kept, .int isKept, .ref a_tape, .int taped, .int spot, .ref a_written, .int writtenMany, .ref a_asked, .int askedMany, .ref a_there, .ref a_counts, .ref a_lasts, .ref a_cames])), (a_g, .inl (E.2.1, 8787, .inl g)), (a_kept, .inl (E.2.1, 8787, .inl kept)), (a_tape, .inl (E.2.2.1, 60, .inl tape)), (a_written, .inl (E.2.1, 40, .inl written)), (a_asked, .inl (E.2.1, 60, .inl asked)), (a_there, .inl (E.2.1, 12, .inl there)), (a_counts, .inl (E.2.1, 12, .inl counts)), (a_lasts, .inl (E.2.1, 12, .inl lasts)), (a_cames, .inl (E.2.1, 12, .inl cames))] (po_X12_lines E h a_g a_kept a_tape a_written a_asked a_there a_counts a_lasts a_cames g kept isKept tape taped spot written writtenMany asked askedMany there counts lasts cames o) := by
  refine mx_intro (by decide +kernel) (Nat.le_of_ble_eq_true rfl) ?_
  intro p e s m args below meth c A Q ls B w hl
  obtain ⟨hx, hb, hml, hown, hts⟩ := id B.1
  unfold F_X12_lines at hf
  have hl : lv_has ls 4 [(0, .ref h), (1, .int x1), (2, .int x2)] := hl
  refine lv_sipush (v := 2003) hx hb dX12_lines_0 (by decide) ?_
  refine lv_aload_n hx hb dX12_lines_3 rfl (lv_at hl 0 rfl) ?_
  refine mx_get B w 0 fl_X12_9 rfl rfl dX12_lines_4 ?_
  refine lv_bipush (v := 15) hx hb dX12_lines_7 (by decide) ?_
  obtain ⟨hin, hf⟩ := ld_e hf
  refine mx_iald B w 1 rfl hin dX12_lines_9 (fun v_1 ev => ?_)
  have hf := hf _ ev; clear ev
  refine lv_bipush (v := 20) hx hb dX12_lines_10 (by decide) ?_
  refine lv_imul hx hb dX12_lines_12 ?_
  refine lv_iadd hx hb dX12_lines_13 ?_
  refine lv_topi (fun x3_2 ev => ?_)
  have hf := lt_n ev hf; clear ev
  refine lv_istore_n (lv' := [(3, .int x3_2), (0, .ref h), (1, .int x1), (2, .int x2)]) hx hb dX12_lines_14 rfl hl (by decide) rfl (fun ls hl => ?_)
  refine lv_aload_n hx hb dX12_lines_15 rfl (lv_at hl 1 rfl) ?_
  refine mx_get B w 0 fl_X12_9 rfl rfl dX12_lines_16 ?_
  refine lv_bipush (v := 15) hx hb dX12_lines_19 (by decide) ?_
  refine lv_dup2_11 hx hb dX12_lines_21 rfl rfl ?_
  obtain ⟨hin, hf⟩ := ld_e hf
  refine mx_iald B w 1 rfl hin dX12_lines_22 (fun v_3 ev => ?_)
  have hf := hf _ ev; clear ev
  refine lv_iconst (v := 1) hx hb dX12_lines_23 (by decide) ?_
  refine lv_iadd hx hb dX12_lines_24 ?_
  obtain ⟨hin, hf⟩ := sto_e hf
  refine mx_iast B w 1 rfl hin dX12_lines_25 (fun g_4 H locs ev w => ?_)
  have hf := hf _ ev; clear ev
  have w : mW E A s [(h, .inr (11, [.ref a_g, .ref a_kept, .int isKept, .ref a_tape, .int taped, .int spot, .ref a_written, .int writtenMany, .ref a_asked, .int askedMany, .ref a_there, .ref a_counts, .ref a_lasts, .ref a_cames])), (a_g, .inl (E.2.1, 8787, .inl g_4)), (a_kept, .inl (E.2.1, 8787, .inl kept)), (a_tape, .inl (E.2.2.1, 60, .inl tape)), (a_written, .inl (E.2.1, 40, .inl written)), (a_asked, .inl (E.2.1, 60, .inl asked)), (a_there, .inl (E.2.1, 12, .inl there)), (a_counts, .inl (E.2.1, 12, .inl counts)), (a_lasts, .inl (E.2.1, 12, .inl lasts)), (a_cames, .inl (E.2.1, 12, .inl cames))] H locs := w
  refine lv_aload_n hx hb dX12_lines_26 rfl (lv_at hl 1 rfl) ?_
  refine mx_get B w 0 fl_X12_9 rfl rfl dX12_lines_27 ?_
  refine lv_iload_n hx hb dX12_lines_30 rfl (lv_at hl 0 rfl) ?_
  refine lv_iconst (v := 0) hx hb dX12_lines_31 (by decide) ?_
  refine lv_iadd hx hb dX12_lines_32 ?_
  refine lv_iload_n hx hb dX12_lines_33 rfl (lv_at hl 2 rfl) ?_
  obtain ⟨hin, hf⟩ := sto_e hf
  refine mx_iast B w 1 rfl hin dX12_lines_34 (fun g_5 H locs ev w => ?_)
  have hf := hf _ ev; clear ev
  have w : mW E A s [(h, .inr (11, [.ref a_g, .ref a_kept, .int isKept, .ref a_tape, .int taped, .int spot, .ref a_written, .int writtenMany, .ref a_asked, .int askedMany, .ref a_there, .ref a_counts, .ref a_lasts, .ref a_cames])), (a_g, .inl (E.2.1, 8787, .inl g_5)), (a_kept, .inl (E.2.1, 8787, .inl kept)), (a_tape, .inl (E.2.2.1, 60, .inl tape)), (a_written, .inl (E.2.1, 40, .inl written)), (a_asked, .inl (E.2.1, 60, .inl asked)), (a_there, .inl (E.2.1, 12, .inl there)), (a_counts, .inl (E.2.1, 12, .inl counts)), (a_lasts, .inl (E.2.1, 12, .inl lasts)), (a_cames, .inl (E.2.1, 12, .inl cames))] H locs := w
  refine lv_aload_n hx hb dX12_lines_35 rfl (lv_at hl 1 rfl) ?_
  refine mx_get B w 0 fl_X12_9 rfl rfl dX12_lines_36 ?_
  refine lv_iload_n hx hb dX12_lines_39 rfl (lv_at hl 0 rfl) ?_
  refine lv_iconst (v := 1) hx hb dX12_lines_40 (by decide) ?_
  refine lv_iadd hx hb dX12_lines_41 ?_
  refine lv_iconst (v := 1) hx hb dX12_lines_42 (by decide) ?_
  obtain ⟨hin, hf⟩ := sto_e hf
  refine mx_iast B w 1 rfl hin dX12_lines_43 (fun g_6 H locs ev w => ?_)
  have hf := hf _ ev; clear ev
  have w : mW E A s [(h, .inr (11, [.ref a_g, .ref a_kept, .int isKept, .ref a_tape, .int taped, .int spot, .ref a_written, .int writtenMany, .ref a_asked, .int askedMany, .ref a_there, .ref a_counts, .ref a_lasts, .ref a_cames])), (a_g, .inl (E.2.1, 8787, .inl g_6)), (a_kept, .inl (E.2.1, 8787, .inl kept)), (a_tape, .inl (E.2.2.1, 60, .inl tape)), (a_written, .inl (E.2.1, 40, .inl written)), (a_asked, .inl (E.2.1, 60, .inl asked)), (a_there, .inl (E.2.1, 12, .inl there)), (a_counts, .inl (E.2.1, 12, .inl counts)), (a_lasts, .inl (E.2.1, 12, .inl lasts)), (a_cames, .inl (E.2.1, 12, .inl cames))] H locs := w
  refine lv_aload_n hx hb dX12_lines_44 rfl (lv_at hl 1 rfl) ?_
  refine mx_get B w 0 fl_X12_9 rfl rfl dX12_lines_45 ?_
  refine lv_iload_n hx hb dX12_lines_48 rfl (lv_at hl 0 rfl) ?_
  refine lv_iconst (v := 3) hx hb dX12_lines_49 (by decide) ?_
  refine lv_iadd hx hb dX12_lines_50 ?_
  refine lv_iload_n hx hb dX12_lines_51 rfl (lv_at hl 3 rfl) ?_
  refine lv_if_ge (tgt := 59) hx hb dX12_lines_52 (by decide) (fun hc => ?_) (fun hc => ?_)
  · have hf := it_t hc hf
    refine lv_iconst (v := 1) hx hb dX12_lines_59 (by decide) ?_
    exact j_X12_lines_60 B   hf  w (lv_sub hl [1, 2, 3, 0] rfl)
  · have hf := it_f hc hf
    refine lv_iconst (v := 0) hx hb dX12_lines_55 (by decide) ?_
    refine lv_goto (tgt := 60) hx hb dX12_lines_56 (by decide) ?_
    exact j_X12_lines_60 B   hf  w (lv_sub hl [1, 2, 3, 0] rfl)
-- X12_hits
def po_X12_hits (E : mE) (h : Nat) (a_g : Nat) (a_kept : Nat) (a_tape : Nat) (a_written : Nat) (a_asked : Nat) (a_there : Nat) (a_counts : Nat) (a_lasts : Nat) (a_cames : Nat)  (g : Nat → Int32) (kept : Nat → Int32) (isKept : Int32) (tape : Nat → Int32) (taped : Int32) (spot : Int32) (written : Nat → Int32) (writtenMany : Int32) (asked : Nat → Int32) (askedMany : Int32) (there : Nat → Int32) (counts : Nat → Int32) (lasts : Nat → Int32) (cames : Nat → Int32)  (o : Int32 × (Nat → Int32)) : Option Value → va_W → Prop := (fun (v : Option Value) (w' : va_W) => v = some (.int o.1) ∧ w' = [(h, .inr (11, [.ref a_g, .ref a_kept, .int isKept, .ref a_tape, .int taped, .int spot, .ref a_written, .int writtenMany, .ref a_asked, .int askedMany, .ref a_there, .ref a_counts, .ref a_lasts, .ref a_cames])), (a_g, .inl (E.2.1, 8787, .inl o.2)), (a_kept, .inl (E.2.1, 8787, .inl kept)), (a_tape, .inl (E.2.2.1, 60, .inl tape)), (a_written, .inl (E.2.1, 40, .inl written)), (a_asked, .inl (E.2.1, 60, .inl asked)), (a_there, .inl (E.2.1, 12, .inl there)), (a_counts, .inl (E.2.1, 12, .inl counts)), (a_lasts, .inl (E.2.1, 12, .inl lasts)), (a_cames, .inl (E.2.1, 12, .inl cames))])
noncomputable def J_X12_hits_98 (N : Nat)   (x1 : Int32) (g : Nat → Int32) : Option (Int32 × (Nat → Int32)) :=
  bd (F_X12_at g x1 1) (fun o_12 =>
  some (o_12, g))
set_option maxHeartbeats 4000000 in
set_option maxRecDepth 100000 in
theorem j_X12_hits_98 {E : mE} {l : Launch} {p : Program} {e : Env} {s : State} {m : MethodId} {args : Array Value} {below : List Frame} {meth : Method} {c : Code} {A : Nat → Prop} {Q : State → Prop} {N : Nat} {h : Nat} {a_g : Nat} {a_kept : Nat} {a_tape : Nat} {a_written : Nat} {a_asked : Nat} {a_there : Nat} {a_counts : Nat} {a_lasts : Nat} {a_cames : Nat}  {g0 : Nat → Int32} {kept : Nat → Int32} {isKept : Int32} {tape : Nat → Int32} {taped : Int32} {spot : Int32} {written : Nat → Int32} {writtenMany : Int32} {asked : Nat → Int32} {askedMany : Int32} {there : Nat → Int32} {counts : Nat → Int32} {lasts : Nat → Int32} {cames : Nat → Int32}  {o : Int32 × (Nat → Int32)} (B : mB E yX12_hits cX12_hits 4 (some .int) 0 0 (po_X12_hits E h a_g a_kept a_tape a_written a_asked a_there a_counts a_lasts a_cames g0 kept isKept tape taped spot written writtenMany asked askedMany there counts lasts cames o) p s m args below meth c A Q) {x1 : Int32} {g : Nat → Int32}    {H : Heap} {locs : List Loc} {ls : Array Slot} (hf : J_X12_hits_98 N x1 g = some o)  (w : mW E A s [(h, .inr (11, [.ref a_g, .ref a_kept, .int isKept, .ref a_tape, .int taped, .int spot, .ref a_written, .int writtenMany, .ref a_asked, .int askedMany, .ref a_there, .ref a_counts, .ref a_lasts, .ref a_cames])), (a_g, .inl (E.2.1, 8787, .inl g)), (a_kept, .inl (E.2.1, 8787, .inl kept)), (a_tape, .inl (E.2.2.1, 60, .inl tape)), (a_written, .inl (E.2.1, 40, .inl written)), (a_asked, .inl (E.2.1, 60, .inl asked)), (a_there, .inl (E.2.1, 12, .inl there)), (a_counts, .inl (E.2.1, 12, .inl counts)), (a_lasts, .inl (E.2.1, 12, .inl lasts)), (a_cames, .inl (E.2.1, 12, .inl cames))] H locs) (hl : lv_has ls 4 [(0, .ref h), (1, .int x1)]) : W p l e ({ frames := 6, cells := 0, slots := 0, locals := 136 } : Room) s m args below meth c H locs 0 0 Q (F0 m 98 ls []) := by
  obtain ⟨hx, hb, hml, hown, hts⟩ := id B.1
  unfold J_X12_hits_98 at hf
  refine lv_aload_n hx hb dX12_hits_98 rfl (lv_at hl 0 rfl) ?_
  refine lv_iload_n hx hb dX12_hits_99 rfl (lv_at hl 1 rfl) ?_
  refine lv_iconst (v := 1) hx hb dX12_hits_100 (by decide) ?_
  obtain ⟨o_12, hq, hf⟩ := bd_e hf
  refine mx_callV (As := [.int x1, .int 1]) (rest := []) (wr := []) (d_X12_at E l  h a_g a_kept a_tape a_written a_asked a_there a_counts a_lasts a_cames g kept isKept tape taped spot written writtenMany asked askedMany there counts lasts cames x1 1  o_12 hq) B w [0, 1, 2, 3, 4, 5, 6, 7, 8, 9] [] rfl rfl (by decide) (by decide) (by decide) 0 rfl rfl cv_X12_at kw_1325 2 (by decide +kernel) ⟨Nat.le_of_ble_eq_true rfl, Nat.le_of_ble_eq_true rfl⟩ rfl hl.1 rfl (Nat.le_of_ble_eq_true rfl) dX12_hits_101 rfl rfl ⟨Nat.zero_le _, Nat.zero_le _⟩ (fun v w' H locs hpo w => ?_)
  clear hq
  obtain ⟨rfl, rfl⟩ := hpo
  have w : mW E A s [(h, .inr (11, [.ref a_g, .ref a_kept, .int isKept, .ref a_tape, .int taped, .int spot, .ref a_written, .int writtenMany, .ref a_asked, .int askedMany, .ref a_there, .ref a_counts, .ref a_lasts, .ref a_cames])), (a_g, .inl (E.2.1, 8787, .inl g)), (a_kept, .inl (E.2.1, 8787, .inl kept)), (a_tape, .inl (E.2.2.1, 60, .inl tape)), (a_written, .inl (E.2.1, 40, .inl written)), (a_asked, .inl (E.2.1, 60, .inl asked)), (a_there, .inl (E.2.1, 12, .inl there)), (a_counts, .inl (E.2.1, 12, .inl counts)), (a_lasts, .inl (E.2.1, 12, .inl lasts)), (a_cames, .inl (E.2.1, 12, .inl cames))] H locs := w
  cases hf
  exact mx_iret B w ⟨rfl, rfl⟩ dX12_hits_104
noncomputable def F_X12_hits (N : Nat)  (g : Nat → Int32) (x1 : Int32) (x2 : Int32) : Option (Int32 × (Nat → Int32)) :=
  bd (F_X12_at g x1 5) (fun o_1 =>
  bd (F_X12_sets g x1 5 (imn 999 (o_1 + 1))) (fun o_2 =>
  ld o_2 8787 9 (fun v_3 =>
  bd (F_X12_sets o_2 x1 6 v_3) (fun o_4 =>
  ld o_4 8787 21 (fun v_5 =>
  sto o_4 8787 21 (v_5 + 1) (fun g_6 =>
  ld g_6 8787 ((8403 + (4 * x2)) + 1) (fun v_7 =>
  sto g_6 8787 ((8403 + (4 * x2)) + 1) (v_7 + 1) (fun g_8 =>
  bd (F_X12_at g_8 x1 0) (fun o_9 =>
  bd (F_X12_happens N g_8 0 o_9) (fun o_10 =>
  bd (F_X12_isDue o_10 x1) (fun o_11 =>
  if (o_11 = 0 : Prop) then
  J_X12_hits_98 N x1 o_10
  else
  bd (F_X12_loadOf N o_10 o_9) (fun o_13 =>
  if (0 ≤ o_13 : Prop) then
  J_X12_hits_98 N x1 o_10
  else
  bd (F_X12_lines N o_10 o_9 ((-1))) (fun o_14 =>
  J_X12_hits_98 N x1 o_14)))))))))))))
set_option maxHeartbeats 4000000 in
set_option maxRecDepth 100000 in
theorem d_X12_hits (E : mE) (l : Launch) (N : Nat) (h : Nat) (a_g : Nat) (a_kept : Nat) (a_tape : Nat) (a_written : Nat) (a_asked : Nat) (a_there : Nat) (a_counts : Nat) (a_lasts : Nat) (a_cames : Nat)  (g : Nat → Int32) (kept : Nat → Int32) (isKept : Int32) (tape : Nat → Int32) (taped : Int32) (spot : Int32) (written : Nat → Int32) (writtenMany : Int32) (asked : Nat → Int32) (askedMany : Int32) (there : Nat → Int32) (counts : Nat → Int32) (lasts : Nat → Int32) (cames : Nat → Int32)  (x1 : Int32) (x2 : Int32)  (o : Int32 × (Nat → Int32)) (hf : F_X12_hits N g x1 x2 = some o) : MX E l yX12_hits cX12_hits 4 (some .int) ({ frames := 6, cells := 0, slots := 0, locals := 136 } : Room) [.ref h, .int x1, .int x2] [(h, .inr (11, [.ref a_g, .ref a_kept, .int isKept, .ref a_tape, .int taped, .int spot, .ref a_written, .int writtenMany, .ref a_asked, .int askedMany, .ref a_there, .ref a_counts, .ref a_lasts, .ref a_cames])), (a_g, .inl (E.2.1, 8787, .inl g)), (a_kept, .inl (E.2.1, 8787, .inl kept)), (a_tape, .inl (E.2.2.1, 60, .inl tape)), (a_written, .inl (E.2.1, 40, .inl written)), (a_asked, .inl (E.2.1, 60, .inl asked)), (a_there, .inl (E.2.1, 12, .inl there)), (a_counts, .inl (E.2.1, 12, .inl counts)), (a_lasts, .inl (E.2.1, 12, .inl lasts)), (a_cames, .inl (E.2.1, 12, .inl cames))] (po_X12_hits E h a_g a_kept a_tape a_written a_asked a_there a_counts a_lasts a_cames g kept isKept tape taped spot written writtenMany asked askedMany there counts lasts cames o) := by
  refine mx_intro (by decide +kernel) (Nat.le_of_ble_eq_true rfl) ?_
  intro p e s m args below meth c A Q ls B w hl
  obtain ⟨hx, hb, hml, hown, hts⟩ := id B.1
  unfold F_X12_hits at hf
  have hl : lv_has ls 4 [(0, .ref h), (1, .int x1), (2, .int x2)] := hl
  refine lv_aload_n hx hb dX12_hits_0 rfl (lv_at hl 0 rfl) ?_
  refine lv_iload_n hx hb dX12_hits_1 rfl (lv_at hl 1 rfl) ?_
  refine lv_iconst (v := 5) hx hb dX12_hits_2 (by decide) ?_
  refine lv_sipush (v := 999) hx hb dX12_hits_3 (by decide) ?_
  refine lv_aload_n hx hb dX12_hits_6 rfl (lv_at hl 0 rfl) ?_
  refine lv_iload_n hx hb dX12_hits_7 rfl (lv_at hl 1 rfl) ?_
  refine lv_iconst (v := 5) hx hb dX12_hits_8 (by decide) ?_
  obtain ⟨o_1, hq, hf⟩ := bd_e hf
  refine mx_callV (As := [.int x1, .int 5]) (rest := [.int 999, .int 5, .int x1, .ref h]) (wr := []) (d_X12_at E l  h a_g a_kept a_tape a_written a_asked a_there a_counts a_lasts a_cames g kept isKept tape taped spot written writtenMany asked askedMany there counts lasts cames x1 5  o_1 hq) B w [0, 1, 2, 3, 4, 5, 6, 7, 8, 9] [] rfl rfl (by decide) (by decide) (by decide) 0 rfl rfl cv_X12_at kw_1325 2 (by decide +kernel) ⟨Nat.le_of_ble_eq_true rfl, Nat.le_of_ble_eq_true rfl⟩ rfl hl.1 rfl (Nat.le_of_ble_eq_true rfl) dX12_hits_9 rfl rfl ⟨Nat.zero_le _, Nat.zero_le _⟩ (fun v w' H locs hpo w => ?_)
  clear hq
  obtain ⟨rfl, rfl⟩ := hpo
  have w : mW E A s [(h, .inr (11, [.ref a_g, .ref a_kept, .int isKept, .ref a_tape, .int taped, .int spot, .ref a_written, .int writtenMany, .ref a_asked, .int askedMany, .ref a_there, .ref a_counts, .ref a_lasts, .ref a_cames])), (a_g, .inl (E.2.1, 8787, .inl g)), (a_kept, .inl (E.2.1, 8787, .inl kept)), (a_tape, .inl (E.2.2.1, 60, .inl tape)), (a_written, .inl (E.2.1, 40, .inl written)), (a_asked, .inl (E.2.1, 60, .inl asked)), (a_there, .inl (E.2.1, 12, .inl there)), (a_counts, .inl (E.2.1, 12, .inl counts)), (a_lasts, .inl (E.2.1, 12, .inl lasts)), (a_cames, .inl (E.2.1, 12, .inl cames))] H locs := w
  refine lv_iconst (v := 1) hx hb dX12_hits_12 (by decide) ?_
  refine lv_iadd hx hb dX12_hits_13 ?_
  refine va_mmin hx hb (by rw [hml]; exact hl.1.symm) hown (hts _ kl_min_X12) (hts _ kw_static_min) (hts _ kw_init_math) (hts _ kw_code_min) (Nat.le_of_ble_eq_true rfl) (Nat.le_of_ble_eq_true rfl) (Nat.le_of_ble_eq_true rfl) (Nat.le_of_ble_eq_true rfl) dX12_hits_14 ?_
  obtain ⟨o_2, hq, hf⟩ := bd_e hf
  refine mx_callV (As := [.int x1, .int 5, .int (imn 999 (o_1 + 1))]) (rest := []) (wr := []) (d_X12_sets E l  h a_g a_kept a_tape a_written a_asked a_there a_counts a_lasts a_cames g kept isKept tape taped spot written writtenMany asked askedMany there counts lasts cames x1 5 (imn 999 (o_1 + 1))  o_2 hq) B w [0, 1, 2, 3, 4, 5, 6, 7, 8, 9] [] rfl rfl (by decide) (by decide) (by decide) 0 rfl rfl cv_X12_sets kw_1430 3 (by decide +kernel) ⟨Nat.le_of_ble_eq_true rfl, Nat.le_of_ble_eq_true rfl⟩ rfl hl.1 rfl (Nat.le_of_ble_eq_true rfl) dX12_hits_17 rfl rfl ⟨Nat.zero_le _, Nat.zero_le _⟩ (fun v w' H locs hpo w => ?_)
  clear hq
  obtain ⟨rfl, rfl⟩ := hpo
  have w : mW E A s [(h, .inr (11, [.ref a_g, .ref a_kept, .int isKept, .ref a_tape, .int taped, .int spot, .ref a_written, .int writtenMany, .ref a_asked, .int askedMany, .ref a_there, .ref a_counts, .ref a_lasts, .ref a_cames])), (a_g, .inl (E.2.1, 8787, .inl o_2)), (a_kept, .inl (E.2.1, 8787, .inl kept)), (a_tape, .inl (E.2.2.1, 60, .inl tape)), (a_written, .inl (E.2.1, 40, .inl written)), (a_asked, .inl (E.2.1, 60, .inl asked)), (a_there, .inl (E.2.1, 12, .inl there)), (a_counts, .inl (E.2.1, 12, .inl counts)), (a_lasts, .inl (E.2.1, 12, .inl lasts)), (a_cames, .inl (E.2.1, 12, .inl cames))] H locs := w
  refine lv_aload_n hx hb dX12_hits_20 rfl (lv_at hl 0 rfl) ?_
  refine lv_iload_n hx hb dX12_hits_21 rfl (lv_at hl 1 rfl) ?_
  refine lv_bipush (v := 6) hx hb dX12_hits_22 (by decide) ?_
  refine lv_aload_n hx hb dX12_hits_24 rfl (lv_at hl 0 rfl) ?_
  refine mx_get B w 0 fl_X12_9 rfl rfl dX12_hits_25 ?_
  refine lv_bipush (v := 9) hx hb dX12_hits_28 (by decide) ?_
  obtain ⟨hin, hf⟩ := ld_e hf
  refine mx_iald B w 1 rfl hin dX12_hits_30 (fun v_3 ev => ?_)
  have hf := hf _ ev; clear ev
  obtain ⟨o_4, hq, hf⟩ := bd_e hf
  refine mx_callV (As := [.int x1, .int 6, .int v_3]) (rest := []) (wr := []) (d_X12_sets E l  h a_g a_kept a_tape a_written a_asked a_there a_counts a_lasts a_cames o_2 kept isKept tape taped spot written writtenMany asked askedMany there counts lasts cames x1 6 v_3  o_4 hq) B w [0, 1, 2, 3, 4, 5, 6, 7, 8, 9] [] rfl rfl (by decide) (by decide) (by decide) 0 rfl rfl cv_X12_sets kw_1430 3 (by decide +kernel) ⟨Nat.le_of_ble_eq_true rfl, Nat.le_of_ble_eq_true rfl⟩ rfl hl.1 rfl (Nat.le_of_ble_eq_true rfl) dX12_hits_31 rfl rfl ⟨Nat.zero_le _, Nat.zero_le _⟩ (fun v w' H locs hpo w => ?_)
  clear hq
  obtain ⟨rfl, rfl⟩ := hpo
  have w : mW E A s [(h, .inr (11, [.ref a_g, .ref a_kept, .int isKept, .ref a_tape, .int taped, .int spot, .ref a_written, .int writtenMany, .ref a_asked, .int askedMany, .ref a_there, .ref a_counts, .ref a_lasts, .ref a_cames])), (a_g, .inl (E.2.1, 8787, .inl o_4)), (a_kept, .inl (E.2.1, 8787, .inl kept)), (a_tape, .inl (E.2.2.1, 60, .inl tape)), (a_written, .inl (E.2.1, 40, .inl written)), (a_asked, .inl (E.2.1, 60, .inl asked)), (a_there, .inl (E.2.1, 12, .inl there)), (a_counts, .inl (E.2.1, 12, .inl counts)), (a_lasts, .inl (E.2.1, 12, .inl lasts)), (a_cames, .inl (E.2.1, 12, .inl cames))] H locs := w
  refine lv_aload_n hx hb dX12_hits_34 rfl (lv_at hl 0 rfl) ?_
  refine mx_get B w 0 fl_X12_9 rfl rfl dX12_hits_35 ?_
  refine lv_bipush (v := 21) hx hb dX12_hits_38 (by decide) ?_
  refine lv_dup2_11 hx hb dX12_hits_40 rfl rfl ?_
  obtain ⟨hin, hf⟩ := ld_e hf
  refine mx_iald B w 1 rfl hin dX12_hits_41 (fun v_5 ev => ?_)
  have hf := hf _ ev; clear ev
  refine lv_iconst (v := 1) hx hb dX12_hits_42 (by decide) ?_
  refine lv_iadd hx hb dX12_hits_43 ?_
  obtain ⟨hin, hf⟩ := sto_e hf
  refine mx_iast B w 1 rfl hin dX12_hits_44 (fun g_6 H locs ev w => ?_)
  have hf := hf _ ev; clear ev
  have w : mW E A s [(h, .inr (11, [.ref a_g, .ref a_kept, .int isKept, .ref a_tape, .int taped, .int spot, .ref a_written, .int writtenMany, .ref a_asked, .int askedMany, .ref a_there, .ref a_counts, .ref a_lasts, .ref a_cames])), (a_g, .inl (E.2.1, 8787, .inl g_6)), (a_kept, .inl (E.2.1, 8787, .inl kept)), (a_tape, .inl (E.2.2.1, 60, .inl tape)), (a_written, .inl (E.2.1, 40, .inl written)), (a_asked, .inl (E.2.1, 60, .inl asked)), (a_there, .inl (E.2.1, 12, .inl there)), (a_counts, .inl (E.2.1, 12, .inl counts)), (a_lasts, .inl (E.2.1, 12, .inl lasts)), (a_cames, .inl (E.2.1, 12, .inl cames))] H locs := w
  refine lv_aload_n hx hb dX12_hits_45 rfl (lv_at hl 0 rfl) ?_
  refine mx_get B w 0 fl_X12_9 rfl rfl dX12_hits_46 ?_
  refine lv_sipush (v := 8403) hx hb dX12_hits_49 (by decide) ?_
  refine lv_iconst (v := 4) hx hb dX12_hits_52 (by decide) ?_
  refine lv_iload_n hx hb dX12_hits_53 rfl (lv_at hl 2 rfl) ?_
  refine lv_imul hx hb dX12_hits_54 ?_
  refine lv_iadd hx hb dX12_hits_55 ?_
  refine lv_iconst (v := 1) hx hb dX12_hits_56 (by decide) ?_
  refine lv_iadd hx hb dX12_hits_57 ?_
  refine lv_dup2_11 hx hb dX12_hits_58 rfl rfl ?_
  obtain ⟨hin, hf⟩ := ld_e hf
  refine mx_iald B w 1 rfl hin dX12_hits_59 (fun v_7 ev => ?_)
  have hf := hf _ ev; clear ev
  refine lv_iconst (v := 1) hx hb dX12_hits_60 (by decide) ?_
  refine lv_iadd hx hb dX12_hits_61 ?_
  obtain ⟨hin, hf⟩ := sto_e hf
  refine mx_iast B w 1 rfl hin dX12_hits_62 (fun g_8 H locs ev w => ?_)
  have hf := hf _ ev; clear ev
  have w : mW E A s [(h, .inr (11, [.ref a_g, .ref a_kept, .int isKept, .ref a_tape, .int taped, .int spot, .ref a_written, .int writtenMany, .ref a_asked, .int askedMany, .ref a_there, .ref a_counts, .ref a_lasts, .ref a_cames])), (a_g, .inl (E.2.1, 8787, .inl g_8)), (a_kept, .inl (E.2.1, 8787, .inl kept)), (a_tape, .inl (E.2.2.1, 60, .inl tape)), (a_written, .inl (E.2.1, 40, .inl written)), (a_asked, .inl (E.2.1, 60, .inl asked)), (a_there, .inl (E.2.1, 12, .inl there)), (a_counts, .inl (E.2.1, 12, .inl counts)), (a_lasts, .inl (E.2.1, 12, .inl lasts)), (a_cames, .inl (E.2.1, 12, .inl cames))] H locs := w
  refine lv_aload_n hx hb dX12_hits_63 rfl (lv_at hl 0 rfl) ?_
  refine lv_iload_n hx hb dX12_hits_64 rfl (lv_at hl 1 rfl) ?_
  refine lv_iconst (v := 0) hx hb dX12_hits_65 (by decide) ?_
  obtain ⟨o_9, hq, hf⟩ := bd_e hf
  refine mx_callV (As := [.int x1, .int 0]) (rest := []) (wr := []) (d_X12_at E l  h a_g a_kept a_tape a_written a_asked a_there a_counts a_lasts a_cames g_8 kept isKept tape taped spot written writtenMany asked askedMany there counts lasts cames x1 0  o_9 hq) B w [0, 1, 2, 3, 4, 5, 6, 7, 8, 9] [] rfl rfl (by decide) (by decide) (by decide) 0 rfl rfl cv_X12_at kw_1325 2 (by decide +kernel) ⟨Nat.le_of_ble_eq_true rfl, Nat.le_of_ble_eq_true rfl⟩ rfl hl.1 rfl (Nat.le_of_ble_eq_true rfl) dX12_hits_66 rfl rfl ⟨Nat.zero_le _, Nat.zero_le _⟩ (fun v w' H locs hpo w => ?_)
  clear hq
  obtain ⟨rfl, rfl⟩ := hpo
  have w : mW E A s [(h, .inr (11, [.ref a_g, .ref a_kept, .int isKept, .ref a_tape, .int taped, .int spot, .ref a_written, .int writtenMany, .ref a_asked, .int askedMany, .ref a_there, .ref a_counts, .ref a_lasts, .ref a_cames])), (a_g, .inl (E.2.1, 8787, .inl g_8)), (a_kept, .inl (E.2.1, 8787, .inl kept)), (a_tape, .inl (E.2.2.1, 60, .inl tape)), (a_written, .inl (E.2.1, 40, .inl written)), (a_asked, .inl (E.2.1, 60, .inl asked)), (a_there, .inl (E.2.1, 12, .inl there)), (a_counts, .inl (E.2.1, 12, .inl counts)), (a_lasts, .inl (E.2.1, 12, .inl lasts)), (a_cames, .inl (E.2.1, 12, .inl cames))] H locs := w
  refine lv_istore_n (lv' := [(3, .int o_9), (0, .ref h), (1, .int x1), (2, .int x2)]) hx hb dX12_hits_69 rfl hl (by decide) rfl (fun ls hl => ?_)
  refine lv_aload_n hx hb dX12_hits_70 rfl (lv_at hl 1 rfl) ?_
  refine lv_iconst (v := 0) hx hb dX12_hits_71 (by decide) ?_
  refine lv_iload_n hx hb dX12_hits_72 rfl (lv_at hl 0 rfl) ?_
  obtain ⟨o_10, hq, hf⟩ := bd_e hf
  refine mx_callV (As := [.int 0, .int o_9]) (rest := []) (wr := []) (d_X12_happens E l N h a_g a_kept a_tape a_written a_asked a_there a_counts a_lasts a_cames g_8 kept isKept tape taped spot written writtenMany asked askedMany there counts lasts cames 0 o_9  o_10 hq) B w [0, 1, 2, 3, 4, 5, 6, 7, 8, 9] [] rfl rfl (by decide) (by decide) (by decide) 0 rfl rfl cv_X12_happens kw_1373 2 (by decide +kernel) ⟨Nat.le_of_ble_eq_true rfl, Nat.le_of_ble_eq_true rfl⟩ rfl hl.1 rfl (Nat.le_of_ble_eq_true rfl) dX12_hits_73 rfl rfl ⟨Nat.zero_le _, Nat.zero_le _⟩ (fun v w' H locs hpo w => ?_)
  clear hq
  obtain ⟨rfl, rfl⟩ := hpo
  have w : mW E A s [(h, .inr (11, [.ref a_g, .ref a_kept, .int isKept, .ref a_tape, .int taped, .int spot, .ref a_written, .int writtenMany, .ref a_asked, .int askedMany, .ref a_there, .ref a_counts, .ref a_lasts, .ref a_cames])), (a_g, .inl (E.2.1, 8787, .inl o_10)), (a_kept, .inl (E.2.1, 8787, .inl kept)), (a_tape, .inl (E.2.2.1, 60, .inl tape)), (a_written, .inl (E.2.1, 40, .inl written)), (a_asked, .inl (E.2.1, 60, .inl asked)), (a_there, .inl (E.2.1, 12, .inl there)), (a_counts, .inl (E.2.1, 12, .inl counts)), (a_lasts, .inl (E.2.1, 12, .inl lasts)), (a_cames, .inl (E.2.1, 12, .inl cames))] H locs := w
  refine lv_aload_n hx hb dX12_hits_76 rfl (lv_at hl 1 rfl) ?_
  refine lv_iload_n hx hb dX12_hits_77 rfl (lv_at hl 2 rfl) ?_
  obtain ⟨o_11, hq, hf⟩ := bd_e hf
  refine mx_callV (As := [.int x1]) (rest := []) (wr := []) (d_X12_isDue E l  h a_g a_kept a_tape a_written a_asked a_there a_counts a_lasts a_cames o_10 kept isKept tape taped spot written writtenMany asked askedMany there counts lasts cames x1  o_11 hq) B w [0, 1, 2, 3, 4, 5, 6, 7, 8, 9] [] rfl rfl (by decide) (by decide) (by decide) 0 rfl rfl cv_X12_isDue kw_1476 1 (by decide +kernel) ⟨Nat.le_of_ble_eq_true rfl, Nat.le_of_ble_eq_true rfl⟩ rfl hl.1 rfl (Nat.le_of_ble_eq_true rfl) dX12_hits_78 rfl rfl ⟨Nat.zero_le _, Nat.zero_le _⟩ (fun v w' H locs hpo w => ?_)
  clear hq
  obtain ⟨rfl, rfl⟩ := hpo
  have w : mW E A s [(h, .inr (11, [.ref a_g, .ref a_kept, .int isKept, .ref a_tape, .int taped, .int spot, .ref a_written, .int writtenMany, .ref a_asked, .int askedMany, .ref a_there, .ref a_counts, .ref a_lasts, .ref a_cames])), (a_g, .inl (E.2.1, 8787, .inl o_10)), (a_kept, .inl (E.2.1, 8787, .inl kept)), (a_tape, .inl (E.2.2.1, 60, .inl tape)), (a_written, .inl (E.2.1, 40, .inl written)), (a_asked, .inl (E.2.1, 60, .inl asked)), (a_there, .inl (E.2.1, 12, .inl there)), (a_counts, .inl (E.2.1, 12, .inl counts)), (a_lasts, .inl (E.2.1, 12, .inl lasts)), (a_cames, .inl (E.2.1, 12, .inl cames))] H locs := w
  refine lv_if_eq (tgt := 98) hx hb dX12_hits_81 (by decide) (fun hc => ?_) (fun hc => ?_)
  · have hf := it_t hc hf
    exact j_X12_hits_98 B   hf  w (lv_sub hl [1, 2] rfl)
  · have hf := it_f hc hf
    refine lv_aload_n hx hb dX12_hits_84 rfl (lv_at hl 1 rfl) ?_
    refine lv_iload_n hx hb dX12_hits_85 rfl (lv_at hl 0 rfl) ?_
    obtain ⟨o_13, hq, hf⟩ := bd_e hf
    refine mx_callV (As := [.int o_9]) (rest := []) (wr := []) (d_X12_loadOf E l N h a_g a_kept a_tape a_written a_asked a_there a_counts a_lasts a_cames o_10 kept isKept tape taped spot written writtenMany asked askedMany there counts lasts cames o_9  o_13 hq) B w [0, 1, 2, 3, 4, 5, 6, 7, 8, 9] [] rfl rfl (by decide) (by decide) (by decide) 0 rfl rfl cv_X12_loadOf kw_1410 1 (by decide +kernel) ⟨Nat.le_of_ble_eq_true rfl, Nat.le_of_ble_eq_true rfl⟩ rfl hl.1 rfl (Nat.le_of_ble_eq_true rfl) dX12_hits_86 rfl rfl ⟨Nat.zero_le _, Nat.zero_le _⟩ (fun v w' H locs hpo w => ?_)
    clear hq
    obtain ⟨rfl, rfl⟩ := hpo
    have w : mW E A s [(h, .inr (11, [.ref a_g, .ref a_kept, .int isKept, .ref a_tape, .int taped, .int spot, .ref a_written, .int writtenMany, .ref a_asked, .int askedMany, .ref a_there, .ref a_counts, .ref a_lasts, .ref a_cames])), (a_g, .inl (E.2.1, 8787, .inl o_10)), (a_kept, .inl (E.2.1, 8787, .inl kept)), (a_tape, .inl (E.2.2.1, 60, .inl tape)), (a_written, .inl (E.2.1, 40, .inl written)), (a_asked, .inl (E.2.1, 60, .inl asked)), (a_there, .inl (E.2.1, 12, .inl there)), (a_counts, .inl (E.2.1, 12, .inl counts)), (a_lasts, .inl (E.2.1, 12, .inl lasts)), (a_cames, .inl (E.2.1, 12, .inl cames))] H locs := w
    refine lv_if_ge (tgt := 98) hx hb dX12_hits_89 (by decide) (fun hc => ?_) (fun hc => ?_)
    · have hf := it_t hc hf
      exact j_X12_hits_98 B   hf  w (lv_sub hl [1, 2] rfl)
    · have hf := it_f hc hf
      refine lv_aload_n hx hb dX12_hits_92 rfl (lv_at hl 1 rfl) ?_
      refine lv_iload_n hx hb dX12_hits_93 rfl (lv_at hl 0 rfl) ?_
      refine lv_iconst (v := (-1)) hx hb dX12_hits_94 (by decide) ?_
      obtain ⟨o_14, hq, hf⟩ := bd_e hf
      refine mx_callV (As := [.int o_9, .int ((-1))]) (rest := []) (wr := []) (d_X12_lines E l N h a_g a_kept a_tape a_written a_asked a_there a_counts a_lasts a_cames o_10 kept isKept tape taped spot written writtenMany asked askedMany there counts lasts cames o_9 ((-1))  o_14 hq) B w [0, 1, 2, 3, 4, 5, 6, 7, 8, 9] [] rfl rfl (by decide) (by decide) (by decide) 0 rfl rfl cv_X12_lines kw_1480 2 (by decide +kernel) ⟨Nat.le_of_ble_eq_true rfl, Nat.le_of_ble_eq_true rfl⟩ rfl hl.1 rfl (Nat.le_of_ble_eq_true rfl) dX12_hits_95 rfl rfl ⟨Nat.zero_le _, Nat.zero_le _⟩ (fun v w' H locs hpo w => ?_)
      clear hq
      obtain ⟨rfl, rfl⟩ := hpo
      have w : mW E A s [(h, .inr (11, [.ref a_g, .ref a_kept, .int isKept, .ref a_tape, .int taped, .int spot, .ref a_written, .int writtenMany, .ref a_asked, .int askedMany, .ref a_there, .ref a_counts, .ref a_lasts, .ref a_cames])), (a_g, .inl (E.2.1, 8787, .inl o_14)), (a_kept, .inl (E.2.1, 8787, .inl kept)), (a_tape, .inl (E.2.2.1, 60, .inl tape)), (a_written, .inl (E.2.1, 40, .inl written)), (a_asked, .inl (E.2.1, 60, .inl asked)), (a_there, .inl (E.2.1, 12, .inl there)), (a_counts, .inl (E.2.1, 12, .inl counts)), (a_lasts, .inl (E.2.1, 12, .inl lasts)), (a_cames, .inl (E.2.1, 12, .inl cames))] H locs := w
      exact j_X12_hits_98 B   hf  w (lv_sub hl [1, 2] rfl)
-- X12_coldAt
def po_X12_coldAt (E : mE) (h : Nat) (a_g : Nat) (a_kept : Nat) (a_tape : Nat) (a_written : Nat) (a_asked : Nat) (a_there : Nat) (a_counts : Nat) (a_lasts : Nat) (a_cames : Nat)  (g : Nat → Int32) (kept : Nat → Int32) (isKept : Int32) (tape : Nat → Int32) (taped : Int32) (spot : Int32) (written : Nat → Int32) (writtenMany : Int32) (asked : Nat → Int32) (askedMany : Int32) (there : Nat → Int32) (counts : Nat → Int32) (lasts : Nat → Int32) (cames : Nat → Int32)  (o : Int32) : Option Value → va_W → Prop := (fun (v : Option Value) (w' : va_W) => v = some (.int o) ∧ w' = [(h, .inr (11, [.ref a_g, .ref a_kept, .int isKept, .ref a_tape, .int taped, .int spot, .ref a_written, .int writtenMany, .ref a_asked, .int askedMany, .ref a_there, .ref a_counts, .ref a_lasts, .ref a_cames])), (a_g, .inl (E.2.1, 8787, .inl g)), (a_kept, .inl (E.2.1, 8787, .inl kept)), (a_tape, .inl (E.2.2.1, 60, .inl tape)), (a_written, .inl (E.2.1, 40, .inl written)), (a_asked, .inl (E.2.1, 60, .inl asked)), (a_there, .inl (E.2.1, 12, .inl there)), (a_counts, .inl (E.2.1, 12, .inl counts)), (a_lasts, .inl (E.2.1, 12, .inl lasts)), (a_cames, .inl (E.2.1, 12, .inl cames))])
noncomputable def F_X12_coldAt  (g : Nat → Int32) (x1 : Int32) (x2 : Int32) : Option (Int32) :=
  ld g 8787 ((1898 + (x1 * 5)) + x2) (fun v_1 =>
  some (v_1))
set_option maxHeartbeats 4000000 in
set_option maxRecDepth 100000 in
theorem d_X12_coldAt (E : mE) (l : Launch) (h : Nat) (a_g : Nat) (a_kept : Nat) (a_tape : Nat) (a_written : Nat) (a_asked : Nat) (a_there : Nat) (a_counts : Nat) (a_lasts : Nat) (a_cames : Nat)  (g : Nat → Int32) (kept : Nat → Int32) (isKept : Int32) (tape : Nat → Int32) (taped : Int32) (spot : Int32) (written : Nat → Int32) (writtenMany : Int32) (asked : Nat → Int32) (askedMany : Int32) (there : Nat → Int32) (counts : Nat → Int32) (lasts : Nat → Int32) (cames : Nat → Int32)  (x1 : Int32) (x2 : Int32)  (o : Int32) (hf : F_X12_coldAt g x1 x2 = some o) : MX E l yX12_coldAt cX12_coldAt 3 (some .int) ({ frames := 0, cells := 0, slots := 0, locals := 0 } : Room) [.ref h, .int x1, .int x2] [(h, .inr (11, [.ref a_g, .ref a_kept, .int isKept, .ref a_tape, .int taped, .int spot, .ref a_written, .int writtenMany, .ref a_asked, .int askedMany, .ref a_there, .ref a_counts, .ref a_lasts, .ref a_cames])), (a_g, .inl (E.2.1, 8787, .inl g)), (a_kept, .inl (E.2.1, 8787, .inl kept)), (a_tape, .inl (E.2.2.1, 60, .inl tape)), (a_written, .inl (E.2.1, 40, .inl written)), (a_asked, .inl (E.2.1, 60, .inl asked)), (a_there, .inl (E.2.1, 12, .inl there)), (a_counts, .inl (E.2.1, 12, .inl counts)), (a_lasts, .inl (E.2.1, 12, .inl lasts)), (a_cames, .inl (E.2.1, 12, .inl cames))] (po_X12_coldAt E h a_g a_kept a_tape a_written a_asked a_there a_counts a_lasts a_cames g kept isKept tape taped spot written writtenMany asked askedMany there counts lasts cames o) := by
  refine mx_intro (by decide +kernel) (Nat.le_of_ble_eq_true rfl) ?_
  intro p e s m args below meth c A Q ls B w hl
  obtain ⟨hx, hb, hml, hown, hts⟩ := id B.1
  unfold F_X12_coldAt at hf
  have hl : lv_has ls 3 [(0, .ref h), (1, .int x1), (2, .int x2)] := hl
  refine lv_aload_n hx hb dX12_coldAt_0 rfl (lv_at hl 0 rfl) ?_
  refine mx_get B w 0 fl_X12_9 rfl rfl dX12_coldAt_1 ?_
  refine lv_sipush (v := 1898) hx hb dX12_coldAt_4 (by decide) ?_
  refine lv_iload_n hx hb dX12_coldAt_7 rfl (lv_at hl 1 rfl) ?_
  refine lv_iconst (v := 5) hx hb dX12_coldAt_8 (by decide) ?_
  refine lv_imul hx hb dX12_coldAt_9 ?_
  refine lv_iadd hx hb dX12_coldAt_10 ?_
  refine lv_iload_n hx hb dX12_coldAt_11 rfl (lv_at hl 2 rfl) ?_
  refine lv_iadd hx hb dX12_coldAt_12 ?_
  obtain ⟨hin, hf⟩ := ld_e hf
  refine mx_iald B w 1 rfl hin dX12_coldAt_13 (fun v_1 ev => ?_)
  have hf := hf _ ev; clear ev
  cases hf
  exact mx_iret B w ⟨rfl, rfl⟩ dX12_coldAt_14
-- X12_coldOf
def po_X12_coldOf (E : mE) (h : Nat) (a_g : Nat) (a_kept : Nat) (a_tape : Nat) (a_written : Nat) (a_asked : Nat) (a_there : Nat) (a_counts : Nat) (a_lasts : Nat) (a_cames : Nat)  (g : Nat → Int32) (kept : Nat → Int32) (isKept : Int32) (tape : Nat → Int32) (taped : Int32) (spot : Int32) (written : Nat → Int32) (writtenMany : Int32) (asked : Nat → Int32) (askedMany : Int32) (there : Nat → Int32) (counts : Nat → Int32) (lasts : Nat → Int32) (cames : Nat → Int32)  (o : Int32) : Option Value → va_W → Prop := (fun (v : Option Value) (w' : va_W) => v = some (.int o) ∧ w' = [(h, .inr (11, [.ref a_g, .ref a_kept, .int isKept, .ref a_tape, .int taped, .int spot, .ref a_written, .int writtenMany, .ref a_asked, .int askedMany, .ref a_there, .ref a_counts, .ref a_lasts, .ref a_cames])), (a_g, .inl (E.2.1, 8787, .inl g)), (a_kept, .inl (E.2.1, 8787, .inl kept)), (a_tape, .inl (E.2.2.1, 60, .inl tape)), (a_written, .inl (E.2.1, 40, .inl written)), (a_asked, .inl (E.2.1, 60, .inl asked)), (a_there, .inl (E.2.1, 12, .inl there)), (a_counts, .inl (E.2.1, 12, .inl counts)), (a_lasts, .inl (E.2.1, 12, .inl lasts)), (a_cames, .inl (E.2.1, 12, .inl cames))])
noncomputable def K_X12_coldOf_2 (N : Nat)  (rec : Int32 → Option (Int32)) (k31 : Unit → Option (Int32)) (k23 : Int32 → Option (Int32)) (x1 : Int32) (g : Nat → Int32) (x2 : Int32)  : Option (Int32) :=
  ld g 8787 14 (fun v_1 =>
  if (v_1 ≤ x2 : Prop) then
  k31 ()
  else
  bd (F_X12_coldAt g x2 0) (fun o_2 =>
  if (o_2 = x1 : Prop) then
  k23 x2
  else
  lt (x2 + 1) (fun x2_3 =>
  rec x2_3)))
noncomputable def L_X12_coldOf_2 (N : Nat)  (k31 : Unit → Option (Int32)) (k23 : Int32 → Option (Int32)) (x1 : Int32) (g : Nat → Int32) (n : Nat) : Int32 → Option (Int32) :=
  Nat.rec (motive := fun _ => Int32 → Option (Int32)) (fun _ => none) (fun _ rec => K_X12_coldOf_2 N rec k31 k23 x1 g) n
set_option maxHeartbeats 4000000 in
set_option maxRecDepth 100000 in
theorem l_X12_coldOf_2 {E : mE} {l : Launch} {p : Program} {e : Env} {s : State} {m : MethodId} {args : Array Value} {below : List Frame} {meth : Method} {c : Code} {A : Nat → Prop} {Q : State → Prop} {N : Nat} {h : Nat} {a_g : Nat} {a_kept : Nat} {a_tape : Nat} {a_written : Nat} {a_asked : Nat} {a_there : Nat} {a_counts : Nat} {a_lasts : Nat} {a_cames : Nat}  {g : Nat → Int32} {kept : Nat → Int32} {isKept : Int32} {tape : Nat → Int32} {taped : Int32} {spot : Int32} {written : Nat → Int32} {writtenMany : Int32} {asked : Nat → Int32} {askedMany : Int32} {there : Nat → Int32} {counts : Nat → Int32} {lasts : Nat → Int32} {cames : Nat → Int32}  {o : Int32} (B : mB E yX12_coldOf cX12_coldOf 3 (some .int) 0 0 (po_X12_coldOf E h a_g a_kept a_tape a_written a_asked a_there a_counts a_lasts a_cames g kept isKept tape taped spot written writtenMany asked askedMany there counts lasts cames o) p s m args below meth c A Q)   {x1 : Int32} (k31 : Unit → Option (Int32)) (k23 : Int32 → Option (Int32))  (hk31 : ∀    (H : Heap) (locs : List Loc) (ls : Array Slot), k31 () = some o → mW E A s [(h, .inr (11, [.ref a_g, .ref a_kept, .int isKept, .ref a_tape, .int taped, .int spot, .ref a_written, .int writtenMany, .ref a_asked, .int askedMany, .ref a_there, .ref a_counts, .ref a_lasts, .ref a_cames])), (a_g, .inl (E.2.1, 8787, .inl g)), (a_kept, .inl (E.2.1, 8787, .inl kept)), (a_tape, .inl (E.2.2.1, 60, .inl tape)), (a_written, .inl (E.2.1, 40, .inl written)), (a_asked, .inl (E.2.1, 60, .inl asked)), (a_there, .inl (E.2.1, 12, .inl there)), (a_counts, .inl (E.2.1, 12, .inl counts)), (a_lasts, .inl (E.2.1, 12, .inl lasts)), (a_cames, .inl (E.2.1, 12, .inl cames))] H locs → lv_has ls 3 [] → W p l e ({ frames := 1, cells := 0, slots := 0, locals := 22 } : Room) s m args below meth c H locs 0 0 Q (F0 m 31 ls [])) (hk23 : ∀ (x2 : Int32)   (H : Heap) (locs : List Loc) (ls : Array Slot), k23 x2 = some o → mW E A s [(h, .inr (11, [.ref a_g, .ref a_kept, .int isKept, .ref a_tape, .int taped, .int spot, .ref a_written, .int writtenMany, .ref a_asked, .int askedMany, .ref a_there, .ref a_counts, .ref a_lasts, .ref a_cames])), (a_g, .inl (E.2.1, 8787, .inl g)), (a_kept, .inl (E.2.1, 8787, .inl kept)), (a_tape, .inl (E.2.2.1, 60, .inl tape)), (a_written, .inl (E.2.1, 40, .inl written)), (a_asked, .inl (E.2.1, 60, .inl asked)), (a_there, .inl (E.2.1, 12, .inl there)), (a_counts, .inl (E.2.1, 12, .inl counts)), (a_lasts, .inl (E.2.1, 12, .inl lasts)), (a_cames, .inl (E.2.1, 12, .inl cames))] H locs → lv_has ls 3 [(2, .int x2)] → W p l e ({ frames := 1, cells := 0, slots := 0, locals := 22 } : Room) s m args below meth c H locs 0 0 Q (F0 m 23 ls [])) : ∀ n : Nat, ∀ (x2 : Int32)   (H : Heap) (locs : List Loc) (ls : Array Slot), L_X12_coldOf_2 N k31 k23 x1 g n x2 = some o → mW E A s [(h, .inr (11, [.ref a_g, .ref a_kept, .int isKept, .ref a_tape, .int taped, .int spot, .ref a_written, .int writtenMany, .ref a_asked, .int askedMany, .ref a_there, .ref a_counts, .ref a_lasts, .ref a_cames])), (a_g, .inl (E.2.1, 8787, .inl g)), (a_kept, .inl (E.2.1, 8787, .inl kept)), (a_tape, .inl (E.2.2.1, 60, .inl tape)), (a_written, .inl (E.2.1, 40, .inl written)), (a_asked, .inl (E.2.1, 60, .inl asked)), (a_there, .inl (E.2.1, 12, .inl there)), (a_counts, .inl (E.2.1, 12, .inl counts)), (a_lasts, .inl (E.2.1, 12, .inl lasts)), (a_cames, .inl (E.2.1, 12, .inl cames))] H locs → lv_has ls 3 [(0, .ref h), (1, .int x1), (2, .int x2)] → W p l e ({ frames := 1, cells := 0, slots := 0, locals := 22 } : Room) s m args below meth c H locs 0 0 Q (F0 m 2 ls []) := by
  obtain ⟨hx, hb, hml, hown, hts⟩ := id B.1
  intro n
  induction n with
  | zero =>
    intro x2 H locs ls hf w hl
    exact nomatch hf
  | succ n hrec =>
    intro x2 H locs ls hf w hl
    have hf : K_X12_coldOf_2 N (L_X12_coldOf_2 N k31 k23 x1 g n) k31 k23 x1 g x2 = some o := hf
    unfold K_X12_coldOf_2 at hf
    refine lv_iload_n hx hb dX12_coldOf_2 rfl (lv_at hl 2 rfl) ?_
    refine lv_aload_n hx hb dX12_coldOf_3 rfl (lv_at hl 0 rfl) ?_
    refine mx_get B w 0 fl_X12_9 rfl rfl dX12_coldOf_4 ?_
    refine lv_bipush (v := 14) hx hb dX12_coldOf_7 (by decide) ?_
    obtain ⟨hin, hf⟩ := ld_e hf
    refine mx_iald B w 1 rfl hin dX12_coldOf_9 (fun v_1 ev => ?_)
    have hf := hf _ ev; clear ev
    refine lv_icmp_ge (tgt := 31) hx hb dX12_coldOf_10 (by decide) (fun hc => ?_) (fun hc => ?_)
    · have hf := it_t hc hf
      exact hk31 _ _ _ hf  w (lv_sub hl [] rfl)
    · have hf := it_f hc hf
      refine lv_aload_n hx hb dX12_coldOf_13 rfl (lv_at hl 0 rfl) ?_
      refine lv_iload_n hx hb dX12_coldOf_14 rfl (lv_at hl 2 rfl) ?_
      refine lv_iconst (v := 0) hx hb dX12_coldOf_15 (by decide) ?_
      obtain ⟨o_2, hq, hf⟩ := bd_e hf
      refine mx_callV (As := [.int x2, .int 0]) (rest := []) (wr := []) (d_X12_coldAt E l  h a_g a_kept a_tape a_written a_asked a_there a_counts a_lasts a_cames g kept isKept tape taped spot written writtenMany asked askedMany there counts lasts cames x2 0  o_2 hq) B w [0, 1, 2, 3, 4, 5, 6, 7, 8, 9] [] rfl rfl (by decide) (by decide) (by decide) 0 rfl rfl cv_X12_coldAt kw_1418 2 (by decide +kernel) ⟨Nat.le_of_ble_eq_true rfl, Nat.le_of_ble_eq_true rfl⟩ rfl hl.1 rfl (Nat.le_of_ble_eq_true rfl) dX12_coldOf_16 rfl rfl ⟨Nat.zero_le _, Nat.zero_le _⟩ (fun v w' H locs hpo w => ?_)
      clear hq
      obtain ⟨rfl, rfl⟩ := hpo
      have w : mW E A s [(h, .inr (11, [.ref a_g, .ref a_kept, .int isKept, .ref a_tape, .int taped, .int spot, .ref a_written, .int writtenMany, .ref a_asked, .int askedMany, .ref a_there, .ref a_counts, .ref a_lasts, .ref a_cames])), (a_g, .inl (E.2.1, 8787, .inl g)), (a_kept, .inl (E.2.1, 8787, .inl kept)), (a_tape, .inl (E.2.2.1, 60, .inl tape)), (a_written, .inl (E.2.1, 40, .inl written)), (a_asked, .inl (E.2.1, 60, .inl asked)), (a_there, .inl (E.2.1, 12, .inl there)), (a_counts, .inl (E.2.1, 12, .inl counts)), (a_lasts, .inl (E.2.1, 12, .inl lasts)), (a_cames, .inl (E.2.1, 12, .inl cames))] H locs := w
      refine lv_iload_n hx hb dX12_coldOf_19 rfl (lv_at hl 1 rfl) ?_
      refine lv_icmp_ne (tgt := 25) hx hb dX12_coldOf_20 (by decide) (fun hc => ?_) (fun hc => ?_)
      · have hf := it_f hc hf
        obtain ⟨x2_3, ev⟩ : ∃ y : Int32, y = x2 + 1 := ⟨_, rfl⟩
        refine lv_iinc (v := x2_3) (lv' := [(2, .int x2_3), (0, .ref h), (1, .int x1)]) hx hb dX12_coldOf_25 hl (k := 2) rfl (by rw [ev]; rfl) (by decide) rfl (fun ls hl => ?_)
        have hf := lt_n ev hf; clear ev
        refine lv_goto (tgt := 2) hx hb dX12_coldOf_28 (by decide) ?_
        exact hrec _ _ _ _ hf  w (lv_sub hl [1, 2, 0] rfl)
      · have hf := it_t hc hf
        exact hk23 _ _ _ _ hf  w (lv_sub hl [2] rfl)
noncomputable def F_X12_coldOf (N : Nat)  (g : Nat → Int32) (x1 : Int32) : Option (Int32) :=
  L_X12_coldOf_2 N (fun _ => some ((-1))) (fun x2 => some (x2)) x1 g N 0
set_option maxHeartbeats 4000000 in
set_option maxRecDepth 100000 in
theorem d_X12_coldOf (E : mE) (l : Launch) (N : Nat) (h : Nat) (a_g : Nat) (a_kept : Nat) (a_tape : Nat) (a_written : Nat) (a_asked : Nat) (a_there : Nat) (a_counts : Nat) (a_lasts : Nat) (a_cames : Nat)  (g : Nat → Int32) (kept : Nat → Int32) (isKept : Int32) (tape : Nat → Int32) (taped : Int32) (spot : Int32) (written : Nat → Int32) (writtenMany : Int32) (asked : Nat → Int32) (askedMany : Int32) (there : Nat → Int32) (counts : Nat → Int32) (lasts : Nat → Int32) (cames : Nat → Int32)  (x1 : Int32)  (o : Int32) (hf : F_X12_coldOf N g x1 = some o) : MX E l yX12_coldOf cX12_coldOf 3 (some .int) ({ frames := 1, cells := 0, slots := 0, locals := 22 } : Room) [.ref h, .int x1] [(h, .inr (11, [.ref a_g, .ref a_kept, .int isKept, .ref a_tape, .int taped, .int spot, .ref a_written, .int writtenMany, .ref a_asked, .int askedMany, .ref a_there, .ref a_counts, .ref a_lasts, .ref a_cames])), (a_g, .inl (E.2.1, 8787, .inl g)), (a_kept, .inl (E.2.1, 8787, .inl kept)), (a_tape, .inl (E.2.2.1, 60, .inl tape)), (a_written, .inl (E.2.1, 40, .inl written)), (a_asked, .inl (E.2.1, 60, .inl asked)), (a_there, .inl (E.2.1, 12, .inl there)), (a_counts, .inl (E.2.1, 12, .inl counts)), (a_lasts, .inl (E.2.1, 12, .inl lasts)), (a_cames, .inl (E.2.1, 12, .inl cames))] (po_X12_coldOf E h a_g a_kept a_tape a_written a_asked a_there a_counts a_lasts a_cames g kept isKept tape taped spot written writtenMany asked askedMany there counts lasts cames o) := by
  refine mx_intro (by decide +kernel) (Nat.le_of_ble_eq_true rfl) ?_
  intro p e s m args below meth c A Q ls B w hl
  obtain ⟨hx, hb, hml, hown, hts⟩ := id B.1
  unfold F_X12_coldOf at hf
  have hl : lv_has ls 3 [(0, .ref h), (1, .int x1)] := hl
  refine lv_iconst (v := 0) hx hb dX12_coldOf_0 (by decide) ?_
  refine lv_istore_n (lv' := [(2, .int 0), (0, .ref h), (1, .int x1)]) hx hb dX12_coldOf_1 rfl hl (by decide) rfl (fun ls hl => ?_)
  refine l_X12_coldOf_2 B _ _  ?_ ?_ N _ _ _ _ hf  w (lv_sub hl [1, 2, 0] rfl)
  · intro H locs ls hf w hl
    refine lv_iconst (v := (-1)) hx hb dX12_coldOf_31 (by decide) ?_
    cases hf
    exact mx_iret B w ⟨rfl, rfl⟩ dX12_coldOf_32
  · intro x2 H locs ls hf w hl
    refine lv_iload_n hx hb dX12_coldOf_23 rfl (lv_at hl 0 rfl) ?_
    cases hf
    exact mx_iret B w ⟨rfl, rfl⟩ dX12_coldOf_24
-- X12_seenOf
def po_X12_seenOf (E : mE) (h : Nat) (a_g : Nat) (a_kept : Nat) (a_tape : Nat) (a_written : Nat) (a_asked : Nat) (a_there : Nat) (a_counts : Nat) (a_lasts : Nat) (a_cames : Nat)  (g : Nat → Int32) (kept : Nat → Int32) (isKept : Int32) (tape : Nat → Int32) (taped : Int32) (spot : Int32) (written : Nat → Int32) (writtenMany : Int32) (asked : Nat → Int32) (askedMany : Int32) (there : Nat → Int32) (counts : Nat → Int32) (lasts : Nat → Int32) (cames : Nat → Int32)  (o : Int32) : Option Value → va_W → Prop := (fun (v : Option Value) (w' : va_W) => v = some (.int o) ∧ w' = [(h, .inr (11, [.ref a_g, .ref a_kept, .int isKept, .ref a_tape, .int taped, .int spot, .ref a_written, .int writtenMany, .ref a_asked, .int askedMany, .ref a_there, .ref a_counts, .ref a_lasts, .ref a_cames])), (a_g, .inl (E.2.1, 8787, .inl g)), (a_kept, .inl (E.2.1, 8787, .inl kept)), (a_tape, .inl (E.2.2.1, 60, .inl tape)), (a_written, .inl (E.2.1, 40, .inl written)), (a_asked, .inl (E.2.1, 60, .inl asked)), (a_there, .inl (E.2.1, 12, .inl there)), (a_counts, .inl (E.2.1, 12, .inl counts)), (a_lasts, .inl (E.2.1, 12, .inl lasts)), (a_cames, .inl (E.2.1, 12, .inl cames))])
noncomputable def K_X12_seenOf_5 (N : Nat)  (rec : Int32 → Int32 → Option (Int32)) (k39 : Int32 → Option (Int32)) (x1 : Int32) (g : Nat → Int32) (x2 : Int32) (x3 : Int32)  : Option (Int32) :=
  if (4 ≤ x3 : Prop) then
  k39 x2
  else
  bd (F_X12_placeOf N x1 x3) (fun o_1 =>
  ld g 8787 ((34 + (16 * x3)) + o_1) (fun v_2 =>
  lt (imn x2 v_2) (fun x2_3 =>
  lt (x3 + 1) (fun x3_4 =>
  rec x2_3 x3_4))))
noncomputable def L_X12_seenOf_5 (N : Nat)  (k39 : Int32 → Option (Int32)) (x1 : Int32) (g : Nat → Int32) (n : Nat) : Int32 → Int32 → Option (Int32) :=
  Nat.rec (motive := fun _ => Int32 → Int32 → Option (Int32)) (fun _ _ => none) (fun _ rec => K_X12_seenOf_5 N rec k39 x1 g) n
set_option maxHeartbeats 4000000 in
set_option maxRecDepth 100000 in
theorem l_X12_seenOf_5 {E : mE} {l : Launch} {p : Program} {e : Env} {s : State} {m : MethodId} {args : Array Value} {below : List Frame} {meth : Method} {c : Code} {A : Nat → Prop} {Q : State → Prop} {N : Nat} {h : Nat} {a_g : Nat} {a_kept : Nat} {a_tape : Nat} {a_written : Nat} {a_asked : Nat} {a_there : Nat} {a_counts : Nat} {a_lasts : Nat} {a_cames : Nat}  {g : Nat → Int32} {kept : Nat → Int32} {isKept : Int32} {tape : Nat → Int32} {taped : Int32} {spot : Int32} {written : Nat → Int32} {writtenMany : Int32} {asked : Nat → Int32} {askedMany : Int32} {there : Nat → Int32} {counts : Nat → Int32} {lasts : Nat → Int32} {cames : Nat → Int32}  {o : Int32} (B : mB E yX12_seenOf cX12_seenOf 4 (some .int) 0 0 (po_X12_seenOf E h a_g a_kept a_tape a_written a_asked a_there a_counts a_lasts a_cames g kept isKept tape taped spot written writtenMany asked askedMany there counts lasts cames o) p s m args below meth c A Q)   {x1 : Int32} (k39 : Int32 → Option (Int32))  (hk39 : ∀ (x2 : Int32)   (H : Heap) (locs : List Loc) (ls : Array Slot), k39 x2 = some o → mW E A s [(h, .inr (11, [.ref a_g, .ref a_kept, .int isKept, .ref a_tape, .int taped, .int spot, .ref a_written, .int writtenMany, .ref a_asked, .int askedMany, .ref a_there, .ref a_counts, .ref a_lasts, .ref a_cames])), (a_g, .inl (E.2.1, 8787, .inl g)), (a_kept, .inl (E.2.1, 8787, .inl kept)), (a_tape, .inl (E.2.2.1, 60, .inl tape)), (a_written, .inl (E.2.1, 40, .inl written)), (a_asked, .inl (E.2.1, 60, .inl asked)), (a_there, .inl (E.2.1, 12, .inl there)), (a_counts, .inl (E.2.1, 12, .inl counts)), (a_lasts, .inl (E.2.1, 12, .inl lasts)), (a_cames, .inl (E.2.1, 12, .inl cames))] H locs → lv_has ls 4 [(2, .int x2)] → W p l e ({ frames := 4, cells := 0, slots := 0, locals := 89 } : Room) s m args below meth c H locs 0 0 Q (F0 m 39 ls [])) : ∀ n : Nat, ∀ (x2 : Int32) (x3 : Int32)   (H : Heap) (locs : List Loc) (ls : Array Slot), L_X12_seenOf_5 N k39 x1 g n x2 x3 = some o → mW E A s [(h, .inr (11, [.ref a_g, .ref a_kept, .int isKept, .ref a_tape, .int taped, .int spot, .ref a_written, .int writtenMany, .ref a_asked, .int askedMany, .ref a_there, .ref a_counts, .ref a_lasts, .ref a_cames])), (a_g, .inl (E.2.1, 8787, .inl g)), (a_kept, .inl (E.2.1, 8787, .inl kept)), (a_tape, .inl (E.2.2.1, 60, .inl tape)), (a_written, .inl (E.2.1, 40, .inl written)), (a_asked, .inl (E.2.1, 60, .inl asked)), (a_there, .inl (E.2.1, 12, .inl there)), (a_counts, .inl (E.2.1, 12, .inl counts)), (a_lasts, .inl (E.2.1, 12, .inl lasts)), (a_cames, .inl (E.2.1, 12, .inl cames))] H locs → lv_has ls 4 [(0, .ref h), (1, .int x1), (2, .int x2), (3, .int x3)] → W p l e ({ frames := 4, cells := 0, slots := 0, locals := 89 } : Room) s m args below meth c H locs 0 0 Q (F0 m 5 ls []) := by
  obtain ⟨hx, hb, hml, hown, hts⟩ := id B.1
  intro n
  induction n with
  | zero =>
    intro x2 x3 H locs ls hf w hl
    exact nomatch hf
  | succ n hrec =>
    intro x2 x3 H locs ls hf w hl
    have hf : K_X12_seenOf_5 N (L_X12_seenOf_5 N k39 x1 g n) k39 x1 g x2 x3 = some o := hf
    unfold K_X12_seenOf_5 at hf
    refine lv_iload_n hx hb dX12_seenOf_5 rfl (lv_at hl 3 rfl) ?_
    refine lv_iconst (v := 4) hx hb dX12_seenOf_6 (by decide) ?_
    refine lv_icmp_ge (tgt := 39) hx hb dX12_seenOf_7 (by decide) (fun hc => ?_) (fun hc => ?_)
    · have hf := it_t hc hf
      exact hk39 _ _ _ _ hf  w (lv_sub hl [2] rfl)
    · have hf := it_f hc hf
      refine lv_iload_n hx hb dX12_seenOf_10 rfl (lv_at hl 2 rfl) ?_
      refine lv_aload_n hx hb dX12_seenOf_11 rfl (lv_at hl 0 rfl) ?_
      refine mx_get B w 0 fl_X12_9 rfl rfl dX12_seenOf_12 ?_
      refine lv_bipush (v := 34) hx hb dX12_seenOf_15 (by decide) ?_
      refine lv_bipush (v := 16) hx hb dX12_seenOf_17 (by decide) ?_
      refine lv_iload_n hx hb dX12_seenOf_19 rfl (lv_at hl 3 rfl) ?_
      refine lv_imul hx hb dX12_seenOf_20 ?_
      refine lv_iadd hx hb dX12_seenOf_21 ?_
      refine lv_iload_n hx hb dX12_seenOf_22 rfl (lv_at hl 1 rfl) ?_
      refine lv_iload_n hx hb dX12_seenOf_23 rfl (lv_at hl 3 rfl) ?_
      obtain ⟨o_1, hq, hf⟩ := bd_e hf
      refine mx_callS (As := [.int x1, .int x3]) (rest := [.int (34 + (16 * x3)), .ref a_g, .int x2]) (wr := [(h, .inr (11, [.ref a_g, .ref a_kept, .int isKept, .ref a_tape, .int taped, .int spot, .ref a_written, .int writtenMany, .ref a_asked, .int askedMany, .ref a_there, .ref a_counts, .ref a_lasts, .ref a_cames])), (a_g, .inl (E.2.1, 8787, .inl g)), (a_kept, .inl (E.2.1, 8787, .inl kept)), (a_tape, .inl (E.2.2.1, 60, .inl tape)), (a_written, .inl (E.2.1, 40, .inl written)), (a_asked, .inl (E.2.1, 60, .inl asked)), (a_there, .inl (E.2.1, 12, .inl there)), (a_counts, .inl (E.2.1, 12, .inl counts)), (a_lasts, .inl (E.2.1, 12, .inl lasts)), (a_cames, .inl (E.2.1, 12, .inl cames))]) (d_X12_placeOf E l N  x1 x3  o_1 hq) B w [] [0, 1, 2, 3, 4, 5, 6, 7, 8, 9] rfl rfl (by decide) (by decide) (by decide) cs_X12_placeOf kw_1293 2 (by decide +kernel) ⟨Nat.le_of_ble_eq_true rfl, Nat.le_of_ble_eq_true rfl⟩ rfl hl.1 rfl (Nat.le_of_ble_eq_true rfl) dX12_seenOf_24 rfl rfl ⟨Nat.zero_le _, Nat.zero_le _⟩ (fun v w' H locs hpo w => ?_)
      clear hq
      obtain ⟨rfl, rfl⟩ := hpo
      have w : mW E A s [(h, .inr (11, [.ref a_g, .ref a_kept, .int isKept, .ref a_tape, .int taped, .int spot, .ref a_written, .int writtenMany, .ref a_asked, .int askedMany, .ref a_there, .ref a_counts, .ref a_lasts, .ref a_cames])), (a_g, .inl (E.2.1, 8787, .inl g)), (a_kept, .inl (E.2.1, 8787, .inl kept)), (a_tape, .inl (E.2.2.1, 60, .inl tape)), (a_written, .inl (E.2.1, 40, .inl written)), (a_asked, .inl (E.2.1, 60, .inl asked)), (a_there, .inl (E.2.1, 12, .inl there)), (a_counts, .inl (E.2.1, 12, .inl counts)), (a_lasts, .inl (E.2.1, 12, .inl lasts)), (a_cames, .inl (E.2.1, 12, .inl cames))] H locs := w
      refine lv_iadd hx hb dX12_seenOf_27 ?_
      obtain ⟨hin, hf⟩ := ld_e hf
      refine mx_iald B w 1 rfl hin dX12_seenOf_28 (fun v_2 ev => ?_)
      have hf := hf _ ev; clear ev
      refine va_mmin hx hb (by rw [hml]; exact hl.1.symm) hown (hts _ kl_min_X12) (hts _ kw_static_min) (hts _ kw_init_math) (hts _ kw_code_min) (Nat.le_of_ble_eq_true rfl) (Nat.le_of_ble_eq_true rfl) (Nat.le_of_ble_eq_true rfl) (Nat.le_of_ble_eq_true rfl) dX12_seenOf_29 ?_
      refine lv_topi (fun x2_3 ev => ?_)
      have hf := lt_n ev hf; clear ev
      refine lv_istore_n (lv' := [(2, .int x2_3), (0, .ref h), (1, .int x1), (3, .int x3)]) hx hb dX12_seenOf_32 rfl hl (by decide) rfl (fun ls hl => ?_)
      obtain ⟨x3_4, ev⟩ : ∃ y : Int32, y = x3 + 1 := ⟨_, rfl⟩
      refine lv_iinc (v := x3_4) (lv' := [(3, .int x3_4), (2, .int x2_3), (0, .ref h), (1, .int x1)]) hx hb dX12_seenOf_33 hl (k := 3) rfl (by rw [ev]; rfl) (by decide) rfl (fun ls hl => ?_)
      have hf := lt_n ev hf; clear ev
      refine lv_goto (tgt := 5) hx hb dX12_seenOf_36 (by decide) ?_
      exact hrec _ _ _ _ _ hf  w (lv_sub hl [2, 3, 1, 0] rfl)
noncomputable def F_X12_seenOf (N : Nat)  (g : Nat → Int32) (x1 : Int32) : Option (Int32) :=
  L_X12_seenOf_5 N (fun x2 => some (x2)) x1 g N 15 0
set_option maxHeartbeats 4000000 in
set_option maxRecDepth 100000 in
theorem d_X12_seenOf (E : mE) (l : Launch) (N : Nat) (h : Nat) (a_g : Nat) (a_kept : Nat) (a_tape : Nat) (a_written : Nat) (a_asked : Nat) (a_there : Nat) (a_counts : Nat) (a_lasts : Nat) (a_cames : Nat)  (g : Nat → Int32) (kept : Nat → Int32) (isKept : Int32) (tape : Nat → Int32) (taped : Int32) (spot : Int32) (written : Nat → Int32) (writtenMany : Int32) (asked : Nat → Int32) (askedMany : Int32) (there : Nat → Int32) (counts : Nat → Int32) (lasts : Nat → Int32) (cames : Nat → Int32)  (x1 : Int32)  (o : Int32) (hf : F_X12_seenOf N g x1 = some o) : MX E l yX12_seenOf cX12_seenOf 4 (some .int) ({ frames := 4, cells := 0, slots := 0, locals := 89 } : Room) [.ref h, .int x1] [(h, .inr (11, [.ref a_g, .ref a_kept, .int isKept, .ref a_tape, .int taped, .int spot, .ref a_written, .int writtenMany, .ref a_asked, .int askedMany, .ref a_there, .ref a_counts, .ref a_lasts, .ref a_cames])), (a_g, .inl (E.2.1, 8787, .inl g)), (a_kept, .inl (E.2.1, 8787, .inl kept)), (a_tape, .inl (E.2.2.1, 60, .inl tape)), (a_written, .inl (E.2.1, 40, .inl written)), (a_asked, .inl (E.2.1, 60, .inl asked)), (a_there, .inl (E.2.1, 12, .inl there)), (a_counts, .inl (E.2.1, 12, .inl counts)), (a_lasts, .inl (E.2.1, 12, .inl lasts)), (a_cames, .inl (E.2.1, 12, .inl cames))] (po_X12_seenOf E h a_g a_kept a_tape a_written a_asked a_there a_counts a_lasts a_cames g kept isKept tape taped spot written writtenMany asked askedMany there counts lasts cames o) := by
  refine mx_intro (by decide +kernel) (Nat.le_of_ble_eq_true rfl) ?_
  intro p e s m args below meth c A Q ls B w hl
  obtain ⟨hx, hb, hml, hown, hts⟩ := id B.1
  unfold F_X12_seenOf at hf
  have hl : lv_has ls 4 [(0, .ref h), (1, .int x1)] := hl
  refine lv_bipush (v := 15) hx hb dX12_seenOf_0 (by decide) ?_
  refine lv_istore_n (lv' := [(2, .int 15), (0, .ref h), (1, .int x1)]) hx hb dX12_seenOf_2 rfl hl (by decide) rfl (fun ls hl => ?_)
  refine lv_iconst (v := 0) hx hb dX12_seenOf_3 (by decide) ?_
  refine lv_istore_n (lv' := [(3, .int 0), (2, .int 15), (0, .ref h), (1, .int x1)]) hx hb dX12_seenOf_4 rfl hl (by decide) rfl (fun ls hl => ?_)
  refine l_X12_seenOf_5 B _  ?_ N _ _ _ _ _ hf  w (lv_sub hl [2, 3, 1, 0] rfl)
  · intro x2 H locs ls hf w hl
    refine lv_iload_n hx hb dX12_seenOf_39 rfl (lv_at hl 0 rfl) ?_
    cases hf
    exact mx_iret B w ⟨rfl, rfl⟩ dX12_seenOf_40
-- X12_mayCome
def po_X12_mayCome (E : mE) (h : Nat) (a_g : Nat) (a_kept : Nat) (a_tape : Nat) (a_written : Nat) (a_asked : Nat) (a_there : Nat) (a_counts : Nat) (a_lasts : Nat) (a_cames : Nat)  (g : Nat → Int32) (kept : Nat → Int32) (isKept : Int32) (tape : Nat → Int32) (taped : Int32) (spot : Int32) (written : Nat → Int32) (writtenMany : Int32) (asked : Nat → Int32) (askedMany : Int32) (there : Nat → Int32) (counts : Nat → Int32) (lasts : Nat → Int32) (cames : Nat → Int32)  (o : Int32) : Option Value → va_W → Prop := (fun (v : Option Value) (w' : va_W) => v = some (.int o) ∧ w' = [(h, .inr (11, [.ref a_g, .ref a_kept, .int isKept, .ref a_tape, .int taped, .int spot, .ref a_written, .int writtenMany, .ref a_asked, .int askedMany, .ref a_there, .ref a_counts, .ref a_lasts, .ref a_cames])), (a_g, .inl (E.2.1, 8787, .inl g)), (a_kept, .inl (E.2.1, 8787, .inl kept)), (a_tape, .inl (E.2.2.1, 60, .inl tape)), (a_written, .inl (E.2.1, 40, .inl written)), (a_asked, .inl (E.2.1, 60, .inl asked)), (a_there, .inl (E.2.1, 12, .inl there)), (a_counts, .inl (E.2.1, 12, .inl counts)), (a_lasts, .inl (E.2.1, 12, .inl lasts)), (a_cames, .inl (E.2.1, 12, .inl cames))])
noncomputable def F_X12_mayCome (N : Nat)  (g : Nat → Int32) (x1 : Int32) (x2 : Int32) : Option (Int32) :=
  ld g 8787 0 (fun v_1 =>
  if (x2 ≤ v_1 : Prop) then
  ld g 8787 5 (fun v_2 =>
  if (v_2 = 0 : Prop) then
  some (1)
  else
  bd (F_X12_weight N g) (fun o_3 =>
  ld g 8787 0 (fun v_4 =>
  if (v_4 < (o_3 + x2) : Prop) then
  bd (F_X12_firstToGo N g 0) (fun o_5 =>
  bd (F_X12_isStale g o_5) (fun o_6 =>
  if (o_6 = 0 : Prop) then
  bd (F_X12_at g o_5 5) (fun o_7 =>
  bd (F_X12_seenOf N g x1) (fun o_8 =>
  if (o_8 ≤ o_7 : Prop) then
  some (0)
  else
  some (1)))
  else
  some (1)))
  else
  some (1))))
  else
  some (0))
set_option maxHeartbeats 4000000 in
set_option maxRecDepth 100000 in
theorem d_X12_mayCome (E : mE) (l : Launch) (N : Nat) (h : Nat) (a_g : Nat) (a_kept : Nat) (a_tape : Nat) (a_written : Nat) (a_asked : Nat) (a_there : Nat) (a_counts : Nat) (a_lasts : Nat) (a_cames : Nat)  (g : Nat → Int32) (kept : Nat → Int32) (isKept : Int32) (tape : Nat → Int32) (taped : Int32) (spot : Int32) (written : Nat → Int32) (writtenMany : Int32) (asked : Nat → Int32) (askedMany : Int32) (there : Nat → Int32) (counts : Nat → Int32) (lasts : Nat → Int32) (cames : Nat → Int32)  (x1 : Int32) (x2 : Int32)  (o : Int32) (hf : F_X12_mayCome N g x1 x2 = some o) : MX E l yX12_mayCome cX12_mayCome 4 (some .boolean) ({ frames := 5, cells := 0, slots := 0, locals := 112 } : Room) [.ref h, .int x1, .int x2] [(h, .inr (11, [.ref a_g, .ref a_kept, .int isKept, .ref a_tape, .int taped, .int spot, .ref a_written, .int writtenMany, .ref a_asked, .int askedMany, .ref a_there, .ref a_counts, .ref a_lasts, .ref a_cames])), (a_g, .inl (E.2.1, 8787, .inl g)), (a_kept, .inl (E.2.1, 8787, .inl kept)), (a_tape, .inl (E.2.2.1, 60, .inl tape)), (a_written, .inl (E.2.1, 40, .inl written)), (a_asked, .inl (E.2.1, 60, .inl asked)), (a_there, .inl (E.2.1, 12, .inl there)), (a_counts, .inl (E.2.1, 12, .inl counts)), (a_lasts, .inl (E.2.1, 12, .inl lasts)), (a_cames, .inl (E.2.1, 12, .inl cames))] (po_X12_mayCome E h a_g a_kept a_tape a_written a_asked a_there a_counts a_lasts a_cames g kept isKept tape taped spot written writtenMany asked askedMany there counts lasts cames o) := by
  refine mx_intro (by decide +kernel) (Nat.le_of_ble_eq_true rfl) ?_
  intro p e s m args below meth c A Q ls B w hl
  obtain ⟨hx, hb, hml, hown, hts⟩ := id B.1
  unfold F_X12_mayCome at hf
  have hl : lv_has ls 4 [(0, .ref h), (1, .int x1), (2, .int x2)] := hl
  refine lv_iload_n hx hb dX12_mayCome_0 rfl (lv_at hl 2 rfl) ?_
  refine lv_aload_n hx hb dX12_mayCome_1 rfl (lv_at hl 0 rfl) ?_
  refine mx_get B w 0 fl_X12_9 rfl rfl dX12_mayCome_2 ?_
  refine lv_iconst (v := 0) hx hb dX12_mayCome_5 (by decide) ?_
  obtain ⟨hin, hf⟩ := ld_e hf
  refine mx_iald B w 1 rfl hin dX12_mayCome_6 (fun v_1 ev => ?_)
  have hf := hf _ ev; clear ev
  refine lv_icmp_le (tgt := 12) hx hb dX12_mayCome_7 (by decide) (fun hc => ?_) (fun hc => ?_)
  · have hf := it_t hc hf
    refine lv_aload_n hx hb dX12_mayCome_12 rfl (lv_at hl 0 rfl) ?_
    refine mx_get B w 0 fl_X12_9 rfl rfl dX12_mayCome_13 ?_
    refine lv_iconst (v := 5) hx hb dX12_mayCome_16 (by decide) ?_
    obtain ⟨hin, hf⟩ := ld_e hf
    refine mx_iald B w 1 rfl hin dX12_mayCome_17 (fun v_2 ev => ?_)
    have hf := hf _ ev; clear ev
    refine lv_if_eq (tgt := 36) hx hb dX12_mayCome_18 (by decide) (fun hc => ?_) (fun hc => ?_)
    · have hf := it_t hc hf
      refine lv_iconst (v := 1) hx hb dX12_mayCome_36 (by decide) ?_
      cases hf
      exact mx_zret B w rfl ⟨rfl, rfl⟩ dX12_mayCome_37
    · have hf := it_f hc hf
      refine lv_aload_n hx hb dX12_mayCome_21 rfl (lv_at hl 0 rfl) ?_
      obtain ⟨o_3, hq, hf⟩ := bd_e hf
      refine mx_callV (As := []) (rest := []) (wr := []) (d_X12_weight E l N h a_g a_kept a_tape a_written a_asked a_there a_counts a_lasts a_cames g kept isKept tape taped spot written writtenMany asked askedMany there counts lasts cames   o_3 hq) B w [0, 1, 2, 3, 4, 5, 6, 7, 8, 9] [] rfl rfl (by decide) (by decide) (by decide) 0 rfl rfl cv_X12_weight kw_1321 0 (by decide +kernel) ⟨Nat.le_of_ble_eq_true rfl, Nat.le_of_ble_eq_true rfl⟩ rfl hl.1 rfl (Nat.le_of_ble_eq_true rfl) dX12_mayCome_22 rfl rfl ⟨Nat.zero_le _, Nat.zero_le _⟩ (fun v w' H locs hpo w => ?_)
      clear hq
      obtain ⟨rfl, rfl⟩ := hpo
      have w : mW E A s [(h, .inr (11, [.ref a_g, .ref a_kept, .int isKept, .ref a_tape, .int taped, .int spot, .ref a_written, .int writtenMany, .ref a_asked, .int askedMany, .ref a_there, .ref a_counts, .ref a_lasts, .ref a_cames])), (a_g, .inl (E.2.1, 8787, .inl g)), (a_kept, .inl (E.2.1, 8787, .inl kept)), (a_tape, .inl (E.2.2.1, 60, .inl tape)), (a_written, .inl (E.2.1, 40, .inl written)), (a_asked, .inl (E.2.1, 60, .inl asked)), (a_there, .inl (E.2.1, 12, .inl there)), (a_counts, .inl (E.2.1, 12, .inl counts)), (a_lasts, .inl (E.2.1, 12, .inl lasts)), (a_cames, .inl (E.2.1, 12, .inl cames))] H locs := w
      refine lv_iload_n hx hb dX12_mayCome_25 rfl (lv_at hl 2 rfl) ?_
      refine lv_iadd hx hb dX12_mayCome_26 ?_
      refine lv_aload_n hx hb dX12_mayCome_27 rfl (lv_at hl 0 rfl) ?_
      refine mx_get B w 0 fl_X12_9 rfl rfl dX12_mayCome_28 ?_
      refine lv_iconst (v := 0) hx hb dX12_mayCome_31 (by decide) ?_
      obtain ⟨hin, hf⟩ := ld_e hf
      refine mx_iald B w 1 rfl hin dX12_mayCome_32 (fun v_4 ev => ?_)
      have hf := hf _ ev; clear ev
      refine lv_icmp_gt (tgt := 38) hx hb dX12_mayCome_33 (by decide) (fun hc => ?_) (fun hc => ?_)
      · have hf := it_t hc hf
        refine lv_aload_n hx hb dX12_mayCome_38 rfl (lv_at hl 0 rfl) ?_
        refine lv_iconst (v := 0) hx hb dX12_mayCome_39 (by decide) ?_
        obtain ⟨o_5, hq, hf⟩ := bd_e hf
        refine mx_callV (As := [.int 0]) (rest := []) (wr := []) (d_X12_firstToGo E l N h a_g a_kept a_tape a_written a_asked a_there a_counts a_lasts a_cames g kept isKept tape taped spot written writtenMany asked askedMany there counts lasts cames 0  o_5 hq) B w [0, 1, 2, 3, 4, 5, 6, 7, 8, 9] [] rfl rfl (by decide) (by decide) (by decide) 0 rfl rfl cv_X12_firstToGo kw_1329 1 (by decide +kernel) ⟨Nat.le_of_ble_eq_true rfl, Nat.le_of_ble_eq_true rfl⟩ rfl hl.1 rfl (Nat.le_of_ble_eq_true rfl) dX12_mayCome_40 rfl rfl ⟨Nat.zero_le _, Nat.zero_le _⟩ (fun v w' H locs hpo w => ?_)
        clear hq
        obtain ⟨rfl, rfl⟩ := hpo
        have w : mW E A s [(h, .inr (11, [.ref a_g, .ref a_kept, .int isKept, .ref a_tape, .int taped, .int spot, .ref a_written, .int writtenMany, .ref a_asked, .int askedMany, .ref a_there, .ref a_counts, .ref a_lasts, .ref a_cames])), (a_g, .inl (E.2.1, 8787, .inl g)), (a_kept, .inl (E.2.1, 8787, .inl kept)), (a_tape, .inl (E.2.2.1, 60, .inl tape)), (a_written, .inl (E.2.1, 40, .inl written)), (a_asked, .inl (E.2.1, 60, .inl asked)), (a_there, .inl (E.2.1, 12, .inl there)), (a_counts, .inl (E.2.1, 12, .inl counts)), (a_lasts, .inl (E.2.1, 12, .inl lasts)), (a_cames, .inl (E.2.1, 12, .inl cames))] H locs := w
        refine lv_istore_n (lv' := [(3, .int o_5), (0, .ref h), (1, .int x1), (2, .int x2)]) hx hb dX12_mayCome_43 rfl hl (by decide) rfl (fun ls hl => ?_)
        refine lv_aload_n hx hb dX12_mayCome_44 rfl (lv_at hl 1 rfl) ?_
        refine lv_iload_n hx hb dX12_mayCome_45 rfl (lv_at hl 0 rfl) ?_
        obtain ⟨o_6, hq, hf⟩ := bd_e hf
        refine mx_callV (As := [.int o_5]) (rest := []) (wr := []) (d_X12_isStale E l  h a_g a_kept a_tape a_written a_asked a_there a_counts a_lasts a_cames g kept isKept tape taped spot written writtenMany asked askedMany there counts lasts cames o_5  o_6 hq) B w [0, 1, 2, 3, 4, 5, 6, 7, 8, 9] [] rfl rfl (by decide) (by decide) (by decide) 0 rfl rfl cv_X12_isStale kw_1337 1 (by decide +kernel) ⟨Nat.le_of_ble_eq_true rfl, Nat.le_of_ble_eq_true rfl⟩ rfl hl.1 rfl (Nat.le_of_ble_eq_true rfl) dX12_mayCome_46 rfl rfl ⟨Nat.zero_le _, Nat.zero_le _⟩ (fun v w' H locs hpo w => ?_)
        clear hq
        obtain ⟨rfl, rfl⟩ := hpo
        have w : mW E A s [(h, .inr (11, [.ref a_g, .ref a_kept, .int isKept, .ref a_tape, .int taped, .int spot, .ref a_written, .int writtenMany, .ref a_asked, .int askedMany, .ref a_there, .ref a_counts, .ref a_lasts, .ref a_cames])), (a_g, .inl (E.2.1, 8787, .inl g)), (a_kept, .inl (E.2.1, 8787, .inl kept)), (a_tape, .inl (E.2.2.1, 60, .inl tape)), (a_written, .inl (E.2.1, 40, .inl written)), (a_asked, .inl (E.2.1, 60, .inl asked)), (a_there, .inl (E.2.1, 12, .inl there)), (a_counts, .inl (E.2.1, 12, .inl counts)), (a_lasts, .inl (E.2.1, 12, .inl lasts)), (a_cames, .inl (E.2.1, 12, .inl cames))] H locs := w
        refine lv_if_ne (tgt := 66) hx hb dX12_mayCome_49 (by decide) (fun hc => ?_) (fun hc => ?_)
        · have hf := it_f hc hf
          refine lv_iconst (v := 1) hx hb dX12_mayCome_66 (by decide) ?_
          refine lv_goto (tgt := 71) hx hb dX12_mayCome_67 (by decide) ?_
          cases hf
          exact mx_zret B w rfl ⟨rfl, rfl⟩ dX12_mayCome_71
        · have hf := it_t hc hf
          refine lv_aload_n hx hb dX12_mayCome_52 rfl (lv_at hl 1 rfl) ?_
          refine lv_iload_n hx hb dX12_mayCome_53 rfl (lv_at hl 0 rfl) ?_
          refine lv_iconst (v := 5) hx hb dX12_mayCome_54 (by decide) ?_
          obtain ⟨o_7, hq, hf⟩ := bd_e hf
          refine mx_callV (As := [.int o_5, .int 5]) (rest := []) (wr := []) (d_X12_at E l  h a_g a_kept a_tape a_written a_asked a_there a_counts a_lasts a_cames g kept isKept tape taped spot written writtenMany asked askedMany there counts lasts cames o_5 5  o_7 hq) B w [0, 1, 2, 3, 4, 5, 6, 7, 8, 9] [] rfl rfl (by decide) (by decide) (by decide) 0 rfl rfl cv_X12_at kw_1325 2 (by decide +kernel) ⟨Nat.le_of_ble_eq_true rfl, Nat.le_of_ble_eq_true rfl⟩ rfl hl.1 rfl (Nat.le_of_ble_eq_true rfl) dX12_mayCome_55 rfl rfl ⟨Nat.zero_le _, Nat.zero_le _⟩ (fun v w' H locs hpo w => ?_)
          clear hq
          obtain ⟨rfl, rfl⟩ := hpo
          have w : mW E A s [(h, .inr (11, [.ref a_g, .ref a_kept, .int isKept, .ref a_tape, .int taped, .int spot, .ref a_written, .int writtenMany, .ref a_asked, .int askedMany, .ref a_there, .ref a_counts, .ref a_lasts, .ref a_cames])), (a_g, .inl (E.2.1, 8787, .inl g)), (a_kept, .inl (E.2.1, 8787, .inl kept)), (a_tape, .inl (E.2.2.1, 60, .inl tape)), (a_written, .inl (E.2.1, 40, .inl written)), (a_asked, .inl (E.2.1, 60, .inl asked)), (a_there, .inl (E.2.1, 12, .inl there)), (a_counts, .inl (E.2.1, 12, .inl counts)), (a_lasts, .inl (E.2.1, 12, .inl lasts)), (a_cames, .inl (E.2.1, 12, .inl cames))] H locs := w
          refine lv_aload_n hx hb dX12_mayCome_58 rfl (lv_at hl 1 rfl) ?_
          refine lv_iload_n hx hb dX12_mayCome_59 rfl (lv_at hl 2 rfl) ?_
          obtain ⟨o_8, hq, hf⟩ := bd_e hf
          refine mx_callV (As := [.int x1]) (rest := [.int o_7]) (wr := []) (d_X12_seenOf E l N h a_g a_kept a_tape a_written a_asked a_there a_counts a_lasts a_cames g kept isKept tape taped spot written writtenMany asked askedMany there counts lasts cames x1  o_8 hq) B w [0, 1, 2, 3, 4, 5, 6, 7, 8, 9] [] rfl rfl (by decide) (by decide) (by decide) 0 rfl rfl cv_X12_seenOf kw_1289 1 (by decide +kernel) ⟨Nat.le_of_ble_eq_true rfl, Nat.le_of_ble_eq_true rfl⟩ rfl hl.1 rfl (Nat.le_of_ble_eq_true rfl) dX12_mayCome_60 rfl rfl ⟨Nat.zero_le _, Nat.zero_le _⟩ (fun v w' H locs hpo w => ?_)
          clear hq
          obtain ⟨rfl, rfl⟩ := hpo
          have w : mW E A s [(h, .inr (11, [.ref a_g, .ref a_kept, .int isKept, .ref a_tape, .int taped, .int spot, .ref a_written, .int writtenMany, .ref a_asked, .int askedMany, .ref a_there, .ref a_counts, .ref a_lasts, .ref a_cames])), (a_g, .inl (E.2.1, 8787, .inl g)), (a_kept, .inl (E.2.1, 8787, .inl kept)), (a_tape, .inl (E.2.2.1, 60, .inl tape)), (a_written, .inl (E.2.1, 40, .inl written)), (a_asked, .inl (E.2.1, 60, .inl asked)), (a_there, .inl (E.2.1, 12, .inl there)), (a_counts, .inl (E.2.1, 12, .inl counts)), (a_lasts, .inl (E.2.1, 12, .inl lasts)), (a_cames, .inl (E.2.1, 12, .inl cames))] H locs := w
          refine lv_icmp_ge (tgt := 70) hx hb dX12_mayCome_63 (by decide) (fun hc => ?_) (fun hc => ?_)
          · have hf := it_t hc hf
            refine lv_iconst (v := 0) hx hb dX12_mayCome_70 (by decide) ?_
            cases hf
            exact mx_zret B w rfl ⟨rfl, rfl⟩ dX12_mayCome_71
          · have hf := it_f hc hf
            refine lv_iconst (v := 1) hx hb dX12_mayCome_66 (by decide) ?_
            refine lv_goto (tgt := 71) hx hb dX12_mayCome_67 (by decide) ?_
            cases hf
            exact mx_zret B w rfl ⟨rfl, rfl⟩ dX12_mayCome_71
      · have hf := it_f hc hf
        refine lv_iconst (v := 1) hx hb dX12_mayCome_36 (by decide) ?_
        cases hf
        exact mx_zret B w rfl ⟨rfl, rfl⟩ dX12_mayCome_37
  · have hf := it_f hc hf
    refine lv_iconst (v := 0) hx hb dX12_mayCome_10 (by decide) ?_
    cases hf
    exact mx_zret B w rfl ⟨rfl, rfl⟩ dX12_mayCome_11
-- X12_letsIn
def po_X12_letsIn (E : mE) (h : Nat) (a_g : Nat) (a_kept : Nat) (a_tape : Nat) (a_written : Nat) (a_asked : Nat) (a_there : Nat) (a_counts : Nat) (a_lasts : Nat) (a_cames : Nat)  (g : Nat → Int32) (kept : Nat → Int32) (isKept : Int32) (tape : Nat → Int32) (taped : Int32) (spot : Int32) (written : Nat → Int32) (writtenMany : Int32) (asked : Nat → Int32) (askedMany : Int32) (there : Nat → Int32) (counts : Nat → Int32) (lasts : Nat → Int32) (cames : Nat → Int32)  (o : Int32 × (Nat → Int32)) : Option Value → va_W → Prop := (fun (v : Option Value) (w' : va_W) => v = some (.int o.1) ∧ w' = [(h, .inr (11, [.ref a_g, .ref a_kept, .int isKept, .ref a_tape, .int taped, .int spot, .ref a_written, .int writtenMany, .ref a_asked, .int askedMany, .ref a_there, .ref a_counts, .ref a_lasts, .ref a_cames])), (a_g, .inl (E.2.1, 8787, .inl o.2)), (a_kept, .inl (E.2.1, 8787, .inl kept)), (a_tape, .inl (E.2.2.1, 60, .inl tape)), (a_written, .inl (E.2.1, 40, .inl written)), (a_asked, .inl (E.2.1, 60, .inl asked)), (a_there, .inl (E.2.1, 12, .inl there)), (a_counts, .inl (E.2.1, 12, .inl counts)), (a_lasts, .inl (E.2.1, 12, .inl lasts)), (a_cames, .inl (E.2.1, 12, .inl cames))])
noncomputable def F_X12_letsIn (N : Nat)  (g : Nat → Int32) (x1 : Int32) (x2 : Int32) (x3 : Int32) (x4 : Int32) (x5 : Int32) : Option (Int32 × (Nat → Int32)) :=
  bd (F_X12_mayCome N g x1 x3) (fun o_1 =>
  if (o_1 = 0 : Prop) then
  bd (F_X12_happens N g 5 x1) (fun o_21 =>
  some (0, o_21))
  else
  bd (F_X12_makesRoom N g x3 0) (fun o_2 =>
  ld o_2 8787 13 (fun v_3 =>
  ld o_2 8787 13 (fun v_4 =>
  sto o_2 8787 13 (v_4 + 1) (fun g_5 =>
  ld g_5 8787 10 (fun v_6 =>
  sto g_5 8787 10 (v_6 + 1) (fun g_7 =>
  bd (F_X12_sets g_7 v_3 0 x1) (fun o_8 =>
  bd (F_X12_sets o_8 v_3 1 x2) (fun o_9 =>
  bd (F_X12_sets o_9 v_3 2 x3) (fun o_10 =>
  bd (F_X12_sets o_10 v_3 3 x4) (fun o_11 =>
  bd (F_X12_sets o_11 v_3 4 x5) (fun o_12 =>
  bd (F_X12_seenOf N o_12 x1) (fun o_13 =>
  bd (F_X12_sets o_12 v_3 5 o_13) (fun o_14 =>
  ld o_14 8787 9 (fun v_15 =>
  bd (F_X12_sets o_14 v_3 6 v_15) (fun o_16 =>
  ld o_16 8787 10 (fun v_17 =>
  bd (F_X12_sets o_16 v_3 7 v_17) (fun o_18 =>
  bd (F_X12_sets o_18 v_3 8 0) (fun o_19 =>
  bd (F_X12_happens N o_19 4 x1) (fun o_20 =>
  some (1, o_20)))))))))))))))))))))
set_option maxHeartbeats 4000000 in
set_option maxRecDepth 100000 in
theorem d_X12_letsIn (E : mE) (l : Launch) (N : Nat) (h : Nat) (a_g : Nat) (a_kept : Nat) (a_tape : Nat) (a_written : Nat) (a_asked : Nat) (a_there : Nat) (a_counts : Nat) (a_lasts : Nat) (a_cames : Nat)  (g : Nat → Int32) (kept : Nat → Int32) (isKept : Int32) (tape : Nat → Int32) (taped : Int32) (spot : Int32) (written : Nat → Int32) (writtenMany : Int32) (asked : Nat → Int32) (askedMany : Int32) (there : Nat → Int32) (counts : Nat → Int32) (lasts : Nat → Int32) (cames : Nat → Int32)  (x1 : Int32) (x2 : Int32) (x3 : Int32) (x4 : Int32) (x5 : Int32)  (o : Int32 × (Nat → Int32)) (hf : F_X12_letsIn N g x1 x2 x3 x4 x5 = some o) : MX E l yX12_letsIn cX12_letsIn 7 (some .boolean) ({ frames := 8, cells := 0, slots := 0, locals := 181 } : Room) [.ref h, .int x1, .int x2, .int x3, .int x4, .int x5] [(h, .inr (11, [.ref a_g, .ref a_kept, .int isKept, .ref a_tape, .int taped, .int spot, .ref a_written, .int writtenMany, .ref a_asked, .int askedMany, .ref a_there, .ref a_counts, .ref a_lasts, .ref a_cames])), (a_g, .inl (E.2.1, 8787, .inl g)), (a_kept, .inl (E.2.1, 8787, .inl kept)), (a_tape, .inl (E.2.2.1, 60, .inl tape)), (a_written, .inl (E.2.1, 40, .inl written)), (a_asked, .inl (E.2.1, 60, .inl asked)), (a_there, .inl (E.2.1, 12, .inl there)), (a_counts, .inl (E.2.1, 12, .inl counts)), (a_lasts, .inl (E.2.1, 12, .inl lasts)), (a_cames, .inl (E.2.1, 12, .inl cames))] (po_X12_letsIn E h a_g a_kept a_tape a_written a_asked a_there a_counts a_lasts a_cames g kept isKept tape taped spot written writtenMany asked askedMany there counts lasts cames o) := by
  refine mx_intro (by decide +kernel) (Nat.le_of_ble_eq_true rfl) ?_
  intro p e s m args below meth c A Q ls B w hl
  obtain ⟨hx, hb, hml, hown, hts⟩ := id B.1
  unfold F_X12_letsIn at hf
  have hl : lv_has ls 7 [(0, .ref h), (1, .int x1), (2, .int x2), (3, .int x3), (4, .int x4), (5, .int x5)] := hl
  refine lv_aload_n hx hb dX12_letsIn_0 rfl (lv_at hl 0 rfl) ?_
  refine lv_iload_n hx hb dX12_letsIn_1 rfl (lv_at hl 1 rfl) ?_
  refine lv_iload_n hx hb dX12_letsIn_2 rfl (lv_at hl 3 rfl) ?_
  obtain ⟨o_1, hq, hf⟩ := bd_e hf
  refine mx_callV (As := [.int x1, .int x3]) (rest := []) (wr := []) (d_X12_mayCome E l N h a_g a_kept a_tape a_written a_asked a_there a_counts a_lasts a_cames g kept isKept tape taped spot written writtenMany asked askedMany there counts lasts cames x1 x3  o_1 hq) B w [0, 1, 2, 3, 4, 5, 6, 7, 8, 9] [] rfl rfl (by decide) (by decide) (by decide) 0 rfl rfl cv_X12_mayCome kw_1438 2 (by decide +kernel) ⟨Nat.le_of_ble_eq_true rfl, Nat.le_of_ble_eq_true rfl⟩ rfl hl.1 rfl (Nat.le_of_ble_eq_true rfl) dX12_letsIn_3 rfl rfl ⟨Nat.zero_le _, Nat.zero_le _⟩ (fun v w' H locs hpo w => ?_)
  clear hq
  obtain ⟨rfl, rfl⟩ := hpo
  have w : mW E A s [(h, .inr (11, [.ref a_g, .ref a_kept, .int isKept, .ref a_tape, .int taped, .int spot, .ref a_written, .int writtenMany, .ref a_asked, .int askedMany, .ref a_there, .ref a_counts, .ref a_lasts, .ref a_cames])), (a_g, .inl (E.2.1, 8787, .inl g)), (a_kept, .inl (E.2.1, 8787, .inl kept)), (a_tape, .inl (E.2.2.1, 60, .inl tape)), (a_written, .inl (E.2.1, 40, .inl written)), (a_asked, .inl (E.2.1, 60, .inl asked)), (a_there, .inl (E.2.1, 12, .inl there)), (a_counts, .inl (E.2.1, 12, .inl counts)), (a_lasts, .inl (E.2.1, 12, .inl lasts)), (a_cames, .inl (E.2.1, 12, .inl cames))] H locs := w
  refine lv_if_ne (tgt := 17) hx hb dX12_letsIn_6 (by decide) (fun hc => ?_) (fun hc => ?_)
  · have hf := it_f hc hf
    refine lv_aload_n hx hb dX12_letsIn_17 rfl (lv_at hl 0 rfl) ?_
    refine lv_iload_n hx hb dX12_letsIn_18 rfl (lv_at hl 3 rfl) ?_
    refine lv_iconst (v := 0) hx hb dX12_letsIn_19 (by decide) ?_
    obtain ⟨o_2, hq, hf⟩ := bd_e hf
    refine mx_callV (As := [.int x3, .int 0]) (rest := []) (wr := []) (d_X12_makesRoom E l N h a_g a_kept a_tape a_written a_asked a_there a_counts a_lasts a_cames g kept isKept tape taped spot written writtenMany asked askedMany there counts lasts cames x3 0  o_2 hq) B w [0, 1, 2, 3, 4, 5, 6, 7, 8, 9] [] rfl rfl (by decide) (by decide) (by decide) 0 rfl rfl cv_X12_makesRoom kw_1317 2 (by decide +kernel) ⟨Nat.le_of_ble_eq_true rfl, Nat.le_of_ble_eq_true rfl⟩ rfl hl.1 rfl (Nat.le_of_ble_eq_true rfl) dX12_letsIn_20 rfl rfl ⟨Nat.zero_le _, Nat.zero_le _⟩ (fun v w' H locs hpo w => ?_)
    clear hq
    obtain ⟨rfl, rfl⟩ := hpo
    have w : mW E A s [(h, .inr (11, [.ref a_g, .ref a_kept, .int isKept, .ref a_tape, .int taped, .int spot, .ref a_written, .int writtenMany, .ref a_asked, .int askedMany, .ref a_there, .ref a_counts, .ref a_lasts, .ref a_cames])), (a_g, .inl (E.2.1, 8787, .inl o_2)), (a_kept, .inl (E.2.1, 8787, .inl kept)), (a_tape, .inl (E.2.2.1, 60, .inl tape)), (a_written, .inl (E.2.1, 40, .inl written)), (a_asked, .inl (E.2.1, 60, .inl asked)), (a_there, .inl (E.2.1, 12, .inl there)), (a_counts, .inl (E.2.1, 12, .inl counts)), (a_lasts, .inl (E.2.1, 12, .inl lasts)), (a_cames, .inl (E.2.1, 12, .inl cames))] H locs := w
    refine lv_aload_n hx hb dX12_letsIn_23 rfl (lv_at hl 0 rfl) ?_
    refine mx_get B w 0 fl_X12_9 rfl rfl dX12_letsIn_24 ?_
    refine lv_bipush (v := 13) hx hb dX12_letsIn_27 (by decide) ?_
    obtain ⟨hin, hf⟩ := ld_e hf
    refine mx_iald B w 1 rfl hin dX12_letsIn_29 (fun v_3 ev => ?_)
    have hf := hf _ ev; clear ev
    refine lv_istore (lv' := [(6, .int v_3), (0, .ref h), (1, .int x1), (2, .int x2), (3, .int x3), (4, .int x4), (5, .int x5)]) hx hb dX12_letsIn_30 hl (by decide) rfl (fun ls hl => ?_)
    refine lv_aload_n hx hb dX12_letsIn_32 rfl (lv_at hl 1 rfl) ?_
    refine mx_get B w 0 fl_X12_9 rfl rfl dX12_letsIn_33 ?_
    refine lv_bipush (v := 13) hx hb dX12_letsIn_36 (by decide) ?_
    refine lv_dup2_11 hx hb dX12_letsIn_38 rfl rfl ?_
    obtain ⟨hin, hf⟩ := ld_e hf
    refine mx_iald B w 1 rfl hin dX12_letsIn_39 (fun v_4 ev => ?_)
    have hf := hf _ ev; clear ev
    refine lv_iconst (v := 1) hx hb dX12_letsIn_40 (by decide) ?_
    refine lv_iadd hx hb dX12_letsIn_41 ?_
    obtain ⟨hin, hf⟩ := sto_e hf
    refine mx_iast B w 1 rfl hin dX12_letsIn_42 (fun g_5 H locs ev w => ?_)
    have hf := hf _ ev; clear ev
    have w : mW E A s [(h, .inr (11, [.ref a_g, .ref a_kept, .int isKept, .ref a_tape, .int taped, .int spot, .ref a_written, .int writtenMany, .ref a_asked, .int askedMany, .ref a_there, .ref a_counts, .ref a_lasts, .ref a_cames])), (a_g, .inl (E.2.1, 8787, .inl g_5)), (a_kept, .inl (E.2.1, 8787, .inl kept)), (a_tape, .inl (E.2.2.1, 60, .inl tape)), (a_written, .inl (E.2.1, 40, .inl written)), (a_asked, .inl (E.2.1, 60, .inl asked)), (a_there, .inl (E.2.1, 12, .inl there)), (a_counts, .inl (E.2.1, 12, .inl counts)), (a_lasts, .inl (E.2.1, 12, .inl lasts)), (a_cames, .inl (E.2.1, 12, .inl cames))] H locs := w
    refine lv_aload_n hx hb dX12_letsIn_43 rfl (lv_at hl 1 rfl) ?_
    refine mx_get B w 0 fl_X12_9 rfl rfl dX12_letsIn_44 ?_
    refine lv_bipush (v := 10) hx hb dX12_letsIn_47 (by decide) ?_
    refine lv_dup2_11 hx hb dX12_letsIn_49 rfl rfl ?_
    obtain ⟨hin, hf⟩ := ld_e hf
    refine mx_iald B w 1 rfl hin dX12_letsIn_50 (fun v_6 ev => ?_)
    have hf := hf _ ev; clear ev
    refine lv_iconst (v := 1) hx hb dX12_letsIn_51 (by decide) ?_
    refine lv_iadd hx hb dX12_letsIn_52 ?_
    obtain ⟨hin, hf⟩ := sto_e hf
    refine mx_iast B w 1 rfl hin dX12_letsIn_53 (fun g_7 H locs ev w => ?_)
    have hf := hf _ ev; clear ev
    have w : mW E A s [(h, .inr (11, [.ref a_g, .ref a_kept, .int isKept, .ref a_tape, .int taped, .int spot, .ref a_written, .int writtenMany, .ref a_asked, .int askedMany, .ref a_there, .ref a_counts, .ref a_lasts, .ref a_cames])), (a_g, .inl (E.2.1, 8787, .inl g_7)), (a_kept, .inl (E.2.1, 8787, .inl kept)), (a_tape, .inl (E.2.2.1, 60, .inl tape)), (a_written, .inl (E.2.1, 40, .inl written)), (a_asked, .inl (E.2.1, 60, .inl asked)), (a_there, .inl (E.2.1, 12, .inl there)), (a_counts, .inl (E.2.1, 12, .inl counts)), (a_lasts, .inl (E.2.1, 12, .inl lasts)), (a_cames, .inl (E.2.1, 12, .inl cames))] H locs := w
    refine lv_aload_n hx hb dX12_letsIn_54 rfl (lv_at hl 1 rfl) ?_
    refine lv_iload hx hb dX12_letsIn_55 (lv_at hl 0 rfl) ?_
    refine lv_iconst (v := 0) hx hb dX12_letsIn_57 (by decide) ?_
    refine lv_iload_n hx hb dX12_letsIn_58 rfl (lv_at hl 2 rfl) ?_
    obtain ⟨o_8, hq, hf⟩ := bd_e hf
    refine mx_callV (As := [.int v_3, .int 0, .int x1]) (rest := []) (wr := []) (d_X12_sets E l  h a_g a_kept a_tape a_written a_asked a_there a_counts a_lasts a_cames g_7 kept isKept tape taped spot written writtenMany asked askedMany there counts lasts cames v_3 0 x1  o_8 hq) B w [0, 1, 2, 3, 4, 5, 6, 7, 8, 9] [] rfl rfl (by decide) (by decide) (by decide) 0 rfl rfl cv_X12_sets kw_1430 3 (by decide +kernel) ⟨Nat.le_of_ble_eq_true rfl, Nat.le_of_ble_eq_true rfl⟩ rfl hl.1 rfl (Nat.le_of_ble_eq_true rfl) dX12_letsIn_59 rfl rfl ⟨Nat.zero_le _, Nat.zero_le _⟩ (fun v w' H locs hpo w => ?_)
    clear hq
    obtain ⟨rfl, rfl⟩ := hpo
    have w : mW E A s [(h, .inr (11, [.ref a_g, .ref a_kept, .int isKept, .ref a_tape, .int taped, .int spot, .ref a_written, .int writtenMany, .ref a_asked, .int askedMany, .ref a_there, .ref a_counts, .ref a_lasts, .ref a_cames])), (a_g, .inl (E.2.1, 8787, .inl o_8)), (a_kept, .inl (E.2.1, 8787, .inl kept)), (a_tape, .inl (E.2.2.1, 60, .inl tape)), (a_written, .inl (E.2.1, 40, .inl written)), (a_asked, .inl (E.2.1, 60, .inl asked)), (a_there, .inl (E.2.1, 12, .inl there)), (a_counts, .inl (E.2.1, 12, .inl counts)), (a_lasts, .inl (E.2.1, 12, .inl lasts)), (a_cames, .inl (E.2.1, 12, .inl cames))] H locs := w
    refine lv_aload_n hx hb dX12_letsIn_62 rfl (lv_at hl 1 rfl) ?_
    refine lv_iload hx hb dX12_letsIn_63 (lv_at hl 0 rfl) ?_
    refine lv_iconst (v := 1) hx hb dX12_letsIn_65 (by decide) ?_
    refine lv_iload_n hx hb dX12_letsIn_66 rfl (lv_at hl 3 rfl) ?_
    obtain ⟨o_9, hq, hf⟩ := bd_e hf
    refine mx_callV (As := [.int v_3, .int 1, .int x2]) (rest := []) (wr := []) (d_X12_sets E l  h a_g a_kept a_tape a_written a_asked a_there a_counts a_lasts a_cames o_8 kept isKept tape taped spot written writtenMany asked askedMany there counts lasts cames v_3 1 x2  o_9 hq) B w [0, 1, 2, 3, 4, 5, 6, 7, 8, 9] [] rfl rfl (by decide) (by decide) (by decide) 0 rfl rfl cv_X12_sets kw_1430 3 (by decide +kernel) ⟨Nat.le_of_ble_eq_true rfl, Nat.le_of_ble_eq_true rfl⟩ rfl hl.1 rfl (Nat.le_of_ble_eq_true rfl) dX12_letsIn_67 rfl rfl ⟨Nat.zero_le _, Nat.zero_le _⟩ (fun v w' H locs hpo w => ?_)
    clear hq
    obtain ⟨rfl, rfl⟩ := hpo
    have w : mW E A s [(h, .inr (11, [.ref a_g, .ref a_kept, .int isKept, .ref a_tape, .int taped, .int spot, .ref a_written, .int writtenMany, .ref a_asked, .int askedMany, .ref a_there, .ref a_counts, .ref a_lasts, .ref a_cames])), (a_g, .inl (E.2.1, 8787, .inl o_9)), (a_kept, .inl (E.2.1, 8787, .inl kept)), (a_tape, .inl (E.2.2.1, 60, .inl tape)), (a_written, .inl (E.2.1, 40, .inl written)), (a_asked, .inl (E.2.1, 60, .inl asked)), (a_there, .inl (E.2.1, 12, .inl there)), (a_counts, .inl (E.2.1, 12, .inl counts)), (a_lasts, .inl (E.2.1, 12, .inl lasts)), (a_cames, .inl (E.2.1, 12, .inl cames))] H locs := w
    refine lv_aload_n hx hb dX12_letsIn_70 rfl (lv_at hl 1 rfl) ?_
    refine lv_iload hx hb dX12_letsIn_71 (lv_at hl 0 rfl) ?_
    refine lv_iconst (v := 2) hx hb dX12_letsIn_73 (by decide) ?_
    refine lv_iload_n hx hb dX12_letsIn_74 rfl (lv_at hl 4 rfl) ?_
    obtain ⟨o_10, hq, hf⟩ := bd_e hf
    refine mx_callV (As := [.int v_3, .int 2, .int x3]) (rest := []) (wr := []) (d_X12_sets E l  h a_g a_kept a_tape a_written a_asked a_there a_counts a_lasts a_cames o_9 kept isKept tape taped spot written writtenMany asked askedMany there counts lasts cames v_3 2 x3  o_10 hq) B w [0, 1, 2, 3, 4, 5, 6, 7, 8, 9] [] rfl rfl (by decide) (by decide) (by decide) 0 rfl rfl cv_X12_sets kw_1430 3 (by decide +kernel) ⟨Nat.le_of_ble_eq_true rfl, Nat.le_of_ble_eq_true rfl⟩ rfl hl.1 rfl (Nat.le_of_ble_eq_true rfl) dX12_letsIn_75 rfl rfl ⟨Nat.zero_le _, Nat.zero_le _⟩ (fun v w' H locs hpo w => ?_)
    clear hq
    obtain ⟨rfl, rfl⟩ := hpo
    have w : mW E A s [(h, .inr (11, [.ref a_g, .ref a_kept, .int isKept, .ref a_tape, .int taped, .int spot, .ref a_written, .int writtenMany, .ref a_asked, .int askedMany, .ref a_there, .ref a_counts, .ref a_lasts, .ref a_cames])), (a_g, .inl (E.2.1, 8787, .inl o_10)), (a_kept, .inl (E.2.1, 8787, .inl kept)), (a_tape, .inl (E.2.2.1, 60, .inl tape)), (a_written, .inl (E.2.1, 40, .inl written)), (a_asked, .inl (E.2.1, 60, .inl asked)), (a_there, .inl (E.2.1, 12, .inl there)), (a_counts, .inl (E.2.1, 12, .inl counts)), (a_lasts, .inl (E.2.1, 12, .inl lasts)), (a_cames, .inl (E.2.1, 12, .inl cames))] H locs := w
    refine lv_aload_n hx hb dX12_letsIn_78 rfl (lv_at hl 1 rfl) ?_
    refine lv_iload hx hb dX12_letsIn_79 (lv_at hl 0 rfl) ?_
    refine lv_iconst (v := 3) hx hb dX12_letsIn_81 (by decide) ?_
    refine lv_iload hx hb dX12_letsIn_82 (lv_at hl 5 rfl) ?_
    obtain ⟨o_11, hq, hf⟩ := bd_e hf
    refine mx_callV (As := [.int v_3, .int 3, .int x4]) (rest := []) (wr := []) (d_X12_sets E l  h a_g a_kept a_tape a_written a_asked a_there a_counts a_lasts a_cames o_10 kept isKept tape taped spot written writtenMany asked askedMany there counts lasts cames v_3 3 x4  o_11 hq) B w [0, 1, 2, 3, 4, 5, 6, 7, 8, 9] [] rfl rfl (by decide) (by decide) (by decide) 0 rfl rfl cv_X12_sets kw_1430 3 (by decide +kernel) ⟨Nat.le_of_ble_eq_true rfl, Nat.le_of_ble_eq_true rfl⟩ rfl hl.1 rfl (Nat.le_of_ble_eq_true rfl) dX12_letsIn_84 rfl rfl ⟨Nat.zero_le _, Nat.zero_le _⟩ (fun v w' H locs hpo w => ?_)
    clear hq
    obtain ⟨rfl, rfl⟩ := hpo
    have w : mW E A s [(h, .inr (11, [.ref a_g, .ref a_kept, .int isKept, .ref a_tape, .int taped, .int spot, .ref a_written, .int writtenMany, .ref a_asked, .int askedMany, .ref a_there, .ref a_counts, .ref a_lasts, .ref a_cames])), (a_g, .inl (E.2.1, 8787, .inl o_11)), (a_kept, .inl (E.2.1, 8787, .inl kept)), (a_tape, .inl (E.2.2.1, 60, .inl tape)), (a_written, .inl (E.2.1, 40, .inl written)), (a_asked, .inl (E.2.1, 60, .inl asked)), (a_there, .inl (E.2.1, 12, .inl there)), (a_counts, .inl (E.2.1, 12, .inl counts)), (a_lasts, .inl (E.2.1, 12, .inl lasts)), (a_cames, .inl (E.2.1, 12, .inl cames))] H locs := w
    refine lv_aload_n hx hb dX12_letsIn_87 rfl (lv_at hl 1 rfl) ?_
    refine lv_iload hx hb dX12_letsIn_88 (lv_at hl 0 rfl) ?_
    refine lv_iconst (v := 4) hx hb dX12_letsIn_90 (by decide) ?_
    refine lv_iload hx hb dX12_letsIn_91 (lv_at hl 6 rfl) ?_
    obtain ⟨o_12, hq, hf⟩ := bd_e hf
    refine mx_callV (As := [.int v_3, .int 4, .int x5]) (rest := []) (wr := []) (d_X12_sets E l  h a_g a_kept a_tape a_written a_asked a_there a_counts a_lasts a_cames o_11 kept isKept tape taped spot written writtenMany asked askedMany there counts lasts cames v_3 4 x5  o_12 hq) B w [0, 1, 2, 3, 4, 5, 6, 7, 8, 9] [] rfl rfl (by decide) (by decide) (by decide) 0 rfl rfl cv_X12_sets kw_1430 3 (by decide +kernel) ⟨Nat.le_of_ble_eq_true rfl, Nat.le_of_ble_eq_true rfl⟩ rfl hl.1 rfl (Nat.le_of_ble_eq_true rfl) dX12_letsIn_93 rfl rfl ⟨Nat.zero_le _, Nat.zero_le _⟩ (fun v w' H locs hpo w => ?_)
    clear hq
    obtain ⟨rfl, rfl⟩ := hpo
    have w : mW E A s [(h, .inr (11, [.ref a_g, .ref a_kept, .int isKept, .ref a_tape, .int taped, .int spot, .ref a_written, .int writtenMany, .ref a_asked, .int askedMany, .ref a_there, .ref a_counts, .ref a_lasts, .ref a_cames])), (a_g, .inl (E.2.1, 8787, .inl o_12)), (a_kept, .inl (E.2.1, 8787, .inl kept)), (a_tape, .inl (E.2.2.1, 60, .inl tape)), (a_written, .inl (E.2.1, 40, .inl written)), (a_asked, .inl (E.2.1, 60, .inl asked)), (a_there, .inl (E.2.1, 12, .inl there)), (a_counts, .inl (E.2.1, 12, .inl counts)), (a_lasts, .inl (E.2.1, 12, .inl lasts)), (a_cames, .inl (E.2.1, 12, .inl cames))] H locs := w
    refine lv_aload_n hx hb dX12_letsIn_96 rfl (lv_at hl 1 rfl) ?_
    refine lv_iload hx hb dX12_letsIn_97 (lv_at hl 0 rfl) ?_
    refine lv_iconst (v := 5) hx hb dX12_letsIn_99 (by decide) ?_
    refine lv_aload_n hx hb dX12_letsIn_100 rfl (lv_at hl 1 rfl) ?_
    refine lv_iload_n hx hb dX12_letsIn_101 rfl (lv_at hl 2 rfl) ?_
    obtain ⟨o_13, hq, hf⟩ := bd_e hf
    refine mx_callV (As := [.int x1]) (rest := [.int 5, .int v_3, .ref h]) (wr := []) (d_X12_seenOf E l N h a_g a_kept a_tape a_written a_asked a_there a_counts a_lasts a_cames o_12 kept isKept tape taped spot written writtenMany asked askedMany there counts lasts cames x1  o_13 hq) B w [0, 1, 2, 3, 4, 5, 6, 7, 8, 9] [] rfl rfl (by decide) (by decide) (by decide) 0 rfl rfl cv_X12_seenOf kw_1289 1 (by decide +kernel) ⟨Nat.le_of_ble_eq_true rfl, Nat.le_of_ble_eq_true rfl⟩ rfl hl.1 rfl (Nat.le_of_ble_eq_true rfl) dX12_letsIn_102 rfl rfl ⟨Nat.zero_le _, Nat.zero_le _⟩ (fun v w' H locs hpo w => ?_)
    clear hq
    obtain ⟨rfl, rfl⟩ := hpo
    have w : mW E A s [(h, .inr (11, [.ref a_g, .ref a_kept, .int isKept, .ref a_tape, .int taped, .int spot, .ref a_written, .int writtenMany, .ref a_asked, .int askedMany, .ref a_there, .ref a_counts, .ref a_lasts, .ref a_cames])), (a_g, .inl (E.2.1, 8787, .inl o_12)), (a_kept, .inl (E.2.1, 8787, .inl kept)), (a_tape, .inl (E.2.2.1, 60, .inl tape)), (a_written, .inl (E.2.1, 40, .inl written)), (a_asked, .inl (E.2.1, 60, .inl asked)), (a_there, .inl (E.2.1, 12, .inl there)), (a_counts, .inl (E.2.1, 12, .inl counts)), (a_lasts, .inl (E.2.1, 12, .inl lasts)), (a_cames, .inl (E.2.1, 12, .inl cames))] H locs := w
    obtain ⟨o_14, hq, hf⟩ := bd_e hf
    refine mx_callV (As := [.int v_3, .int 5, .int o_13]) (rest := []) (wr := []) (d_X12_sets E l  h a_g a_kept a_tape a_written a_asked a_there a_counts a_lasts a_cames o_12 kept isKept tape taped spot written writtenMany asked askedMany there counts lasts cames v_3 5 o_13  o_14 hq) B w [0, 1, 2, 3, 4, 5, 6, 7, 8, 9] [] rfl rfl (by decide) (by decide) (by decide) 0 rfl rfl cv_X12_sets kw_1430 3 (by decide +kernel) ⟨Nat.le_of_ble_eq_true rfl, Nat.le_of_ble_eq_true rfl⟩ rfl hl.1 rfl (Nat.le_of_ble_eq_true rfl) dX12_letsIn_105 rfl rfl ⟨Nat.zero_le _, Nat.zero_le _⟩ (fun v w' H locs hpo w => ?_)
    clear hq
    obtain ⟨rfl, rfl⟩ := hpo
    have w : mW E A s [(h, .inr (11, [.ref a_g, .ref a_kept, .int isKept, .ref a_tape, .int taped, .int spot, .ref a_written, .int writtenMany, .ref a_asked, .int askedMany, .ref a_there, .ref a_counts, .ref a_lasts, .ref a_cames])), (a_g, .inl (E.2.1, 8787, .inl o_14)), (a_kept, .inl (E.2.1, 8787, .inl kept)), (a_tape, .inl (E.2.2.1, 60, .inl tape)), (a_written, .inl (E.2.1, 40, .inl written)), (a_asked, .inl (E.2.1, 60, .inl asked)), (a_there, .inl (E.2.1, 12, .inl there)), (a_counts, .inl (E.2.1, 12, .inl counts)), (a_lasts, .inl (E.2.1, 12, .inl lasts)), (a_cames, .inl (E.2.1, 12, .inl cames))] H locs := w
    refine lv_aload_n hx hb dX12_letsIn_108 rfl (lv_at hl 1 rfl) ?_
    refine lv_iload hx hb dX12_letsIn_109 (lv_at hl 0 rfl) ?_
    refine lv_bipush (v := 6) hx hb dX12_letsIn_111 (by decide) ?_
    refine lv_aload_n hx hb dX12_letsIn_113 rfl (lv_at hl 1 rfl) ?_
    refine mx_get B w 0 fl_X12_9 rfl rfl dX12_letsIn_114 ?_
    refine lv_bipush (v := 9) hx hb dX12_letsIn_117 (by decide) ?_
    obtain ⟨hin, hf⟩ := ld_e hf
    refine mx_iald B w 1 rfl hin dX12_letsIn_119 (fun v_15 ev => ?_)
    have hf := hf _ ev; clear ev
    obtain ⟨o_16, hq, hf⟩ := bd_e hf
    refine mx_callV (As := [.int v_3, .int 6, .int v_15]) (rest := []) (wr := []) (d_X12_sets E l  h a_g a_kept a_tape a_written a_asked a_there a_counts a_lasts a_cames o_14 kept isKept tape taped spot written writtenMany asked askedMany there counts lasts cames v_3 6 v_15  o_16 hq) B w [0, 1, 2, 3, 4, 5, 6, 7, 8, 9] [] rfl rfl (by decide) (by decide) (by decide) 0 rfl rfl cv_X12_sets kw_1430 3 (by decide +kernel) ⟨Nat.le_of_ble_eq_true rfl, Nat.le_of_ble_eq_true rfl⟩ rfl hl.1 rfl (Nat.le_of_ble_eq_true rfl) dX12_letsIn_120 rfl rfl ⟨Nat.zero_le _, Nat.zero_le _⟩ (fun v w' H locs hpo w => ?_)
    clear hq
    obtain ⟨rfl, rfl⟩ := hpo
    have w : mW E A s [(h, .inr (11, [.ref a_g, .ref a_kept, .int isKept, .ref a_tape, .int taped, .int spot, .ref a_written, .int writtenMany, .ref a_asked, .int askedMany, .ref a_there, .ref a_counts, .ref a_lasts, .ref a_cames])), (a_g, .inl (E.2.1, 8787, .inl o_16)), (a_kept, .inl (E.2.1, 8787, .inl kept)), (a_tape, .inl (E.2.2.1, 60, .inl tape)), (a_written, .inl (E.2.1, 40, .inl written)), (a_asked, .inl (E.2.1, 60, .inl asked)), (a_there, .inl (E.2.1, 12, .inl there)), (a_counts, .inl (E.2.1, 12, .inl counts)), (a_lasts, .inl (E.2.1, 12, .inl lasts)), (a_cames, .inl (E.2.1, 12, .inl cames))] H locs := w
    refine lv_aload_n hx hb dX12_letsIn_123 rfl (lv_at hl 1 rfl) ?_
    refine lv_iload hx hb dX12_letsIn_124 (lv_at hl 0 rfl) ?_
    refine lv_bipush (v := 7) hx hb dX12_letsIn_126 (by decide) ?_
    refine lv_aload_n hx hb dX12_letsIn_128 rfl (lv_at hl 1 rfl) ?_
    refine mx_get B w 0 fl_X12_9 rfl rfl dX12_letsIn_129 ?_
    refine lv_bipush (v := 10) hx hb dX12_letsIn_132 (by decide) ?_
    obtain ⟨hin, hf⟩ := ld_e hf
    refine mx_iald B w 1 rfl hin dX12_letsIn_134 (fun v_17 ev => ?_)
    have hf := hf _ ev; clear ev
    obtain ⟨o_18, hq, hf⟩ := bd_e hf
    refine mx_callV (As := [.int v_3, .int 7, .int v_17]) (rest := []) (wr := []) (d_X12_sets E l  h a_g a_kept a_tape a_written a_asked a_there a_counts a_lasts a_cames o_16 kept isKept tape taped spot written writtenMany asked askedMany there counts lasts cames v_3 7 v_17  o_18 hq) B w [0, 1, 2, 3, 4, 5, 6, 7, 8, 9] [] rfl rfl (by decide) (by decide) (by decide) 0 rfl rfl cv_X12_sets kw_1430 3 (by decide +kernel) ⟨Nat.le_of_ble_eq_true rfl, Nat.le_of_ble_eq_true rfl⟩ rfl hl.1 rfl (Nat.le_of_ble_eq_true rfl) dX12_letsIn_135 rfl rfl ⟨Nat.zero_le _, Nat.zero_le _⟩ (fun v w' H locs hpo w => ?_)
    clear hq
    obtain ⟨rfl, rfl⟩ := hpo
    have w : mW E A s [(h, .inr (11, [.ref a_g, .ref a_kept, .int isKept, .ref a_tape, .int taped, .int spot, .ref a_written, .int writtenMany, .ref a_asked, .int askedMany, .ref a_there, .ref a_counts, .ref a_lasts, .ref a_cames])), (a_g, .inl (E.2.1, 8787, .inl o_18)), (a_kept, .inl (E.2.1, 8787, .inl kept)), (a_tape, .inl (E.2.2.1, 60, .inl tape)), (a_written, .inl (E.2.1, 40, .inl written)), (a_asked, .inl (E.2.1, 60, .inl asked)), (a_there, .inl (E.2.1, 12, .inl there)), (a_counts, .inl (E.2.1, 12, .inl counts)), (a_lasts, .inl (E.2.1, 12, .inl lasts)), (a_cames, .inl (E.2.1, 12, .inl cames))] H locs := w
    refine lv_aload_n hx hb dX12_letsIn_138 rfl (lv_at hl 1 rfl) ?_
    refine lv_iload hx hb dX12_letsIn_139 (lv_at hl 0 rfl) ?_
    refine lv_bipush (v := 8) hx hb dX12_letsIn_141 (by decide) ?_
    refine lv_iconst (v := 0) hx hb dX12_letsIn_143 (by decide) ?_
    obtain ⟨o_19, hq, hf⟩ := bd_e hf
    refine mx_callV (As := [.int v_3, .int 8, .int 0]) (rest := []) (wr := []) (d_X12_sets E l  h a_g a_kept a_tape a_written a_asked a_there a_counts a_lasts a_cames o_18 kept isKept tape taped spot written writtenMany asked askedMany there counts lasts cames v_3 8 0  o_19 hq) B w [0, 1, 2, 3, 4, 5, 6, 7, 8, 9] [] rfl rfl (by decide) (by decide) (by decide) 0 rfl rfl cv_X12_sets kw_1430 3 (by decide +kernel) ⟨Nat.le_of_ble_eq_true rfl, Nat.le_of_ble_eq_true rfl⟩ rfl hl.1 rfl (Nat.le_of_ble_eq_true rfl) dX12_letsIn_144 rfl rfl ⟨Nat.zero_le _, Nat.zero_le _⟩ (fun v w' H locs hpo w => ?_)
    clear hq
    obtain ⟨rfl, rfl⟩ := hpo
    have w : mW E A s [(h, .inr (11, [.ref a_g, .ref a_kept, .int isKept, .ref a_tape, .int taped, .int spot, .ref a_written, .int writtenMany, .ref a_asked, .int askedMany, .ref a_there, .ref a_counts, .ref a_lasts, .ref a_cames])), (a_g, .inl (E.2.1, 8787, .inl o_19)), (a_kept, .inl (E.2.1, 8787, .inl kept)), (a_tape, .inl (E.2.2.1, 60, .inl tape)), (a_written, .inl (E.2.1, 40, .inl written)), (a_asked, .inl (E.2.1, 60, .inl asked)), (a_there, .inl (E.2.1, 12, .inl there)), (a_counts, .inl (E.2.1, 12, .inl counts)), (a_lasts, .inl (E.2.1, 12, .inl lasts)), (a_cames, .inl (E.2.1, 12, .inl cames))] H locs := w
    refine lv_aload_n hx hb dX12_letsIn_147 rfl (lv_at hl 1 rfl) ?_
    refine lv_iconst (v := 4) hx hb dX12_letsIn_148 (by decide) ?_
    refine lv_iload_n hx hb dX12_letsIn_149 rfl (lv_at hl 2 rfl) ?_
    obtain ⟨o_20, hq, hf⟩ := bd_e hf
    refine mx_callV (As := [.int 4, .int x1]) (rest := []) (wr := []) (d_X12_happens E l N h a_g a_kept a_tape a_written a_asked a_there a_counts a_lasts a_cames o_19 kept isKept tape taped spot written writtenMany asked askedMany there counts lasts cames 4 x1  o_20 hq) B w [0, 1, 2, 3, 4, 5, 6, 7, 8, 9] [] rfl rfl (by decide) (by decide) (by decide) 0 rfl rfl cv_X12_happens kw_1373 2 (by decide +kernel) ⟨Nat.le_of_ble_eq_true rfl, Nat.le_of_ble_eq_true rfl⟩ rfl hl.1 rfl (Nat.le_of_ble_eq_true rfl) dX12_letsIn_150 rfl rfl ⟨Nat.zero_le _, Nat.zero_le _⟩ (fun v w' H locs hpo w => ?_)
    clear hq
    obtain ⟨rfl, rfl⟩ := hpo
    have w : mW E A s [(h, .inr (11, [.ref a_g, .ref a_kept, .int isKept, .ref a_tape, .int taped, .int spot, .ref a_written, .int writtenMany, .ref a_asked, .int askedMany, .ref a_there, .ref a_counts, .ref a_lasts, .ref a_cames])), (a_g, .inl (E.2.1, 8787, .inl o_20)), (a_kept, .inl (E.2.1, 8787, .inl kept)), (a_tape, .inl (E.2.2.1, 60, .inl tape)), (a_written, .inl (E.2.1, 40, .inl written)), (a_asked, .inl (E.2.1, 60, .inl asked)), (a_there, .inl (E.2.1, 12, .inl there)), (a_counts, .inl (E.2.1, 12, .inl counts)), (a_lasts, .inl (E.2.1, 12, .inl lasts)), (a_cames, .inl (E.2.1, 12, .inl cames))] H locs := w
    refine lv_iconst (v := 1) hx hb dX12_letsIn_153 (by decide) ?_
    cases hf
    exact mx_zret B w rfl ⟨rfl, rfl⟩ dX12_letsIn_154
  · have hf := it_t hc hf
    refine lv_aload_n hx hb dX12_letsIn_9 rfl (lv_at hl 0 rfl) ?_
    refine lv_iconst (v := 5) hx hb dX12_letsIn_10 (by decide) ?_
    refine lv_iload_n hx hb dX12_letsIn_11 rfl (lv_at hl 1 rfl) ?_
    obtain ⟨o_21, hq, hf⟩ := bd_e hf
    refine mx_callV (As := [.int 5, .int x1]) (rest := []) (wr := []) (d_X12_happens E l N h a_g a_kept a_tape a_written a_asked a_there a_counts a_lasts a_cames g kept isKept tape taped spot written writtenMany asked askedMany there counts lasts cames 5 x1  o_21 hq) B w [0, 1, 2, 3, 4, 5, 6, 7, 8, 9] [] rfl rfl (by decide) (by decide) (by decide) 0 rfl rfl cv_X12_happens kw_1373 2 (by decide +kernel) ⟨Nat.le_of_ble_eq_true rfl, Nat.le_of_ble_eq_true rfl⟩ rfl hl.1 rfl (Nat.le_of_ble_eq_true rfl) dX12_letsIn_12 rfl rfl ⟨Nat.zero_le _, Nat.zero_le _⟩ (fun v w' H locs hpo w => ?_)
    clear hq
    obtain ⟨rfl, rfl⟩ := hpo
    have w : mW E A s [(h, .inr (11, [.ref a_g, .ref a_kept, .int isKept, .ref a_tape, .int taped, .int spot, .ref a_written, .int writtenMany, .ref a_asked, .int askedMany, .ref a_there, .ref a_counts, .ref a_lasts, .ref a_cames])), (a_g, .inl (E.2.1, 8787, .inl o_21)), (a_kept, .inl (E.2.1, 8787, .inl kept)), (a_tape, .inl (E.2.2.1, 60, .inl tape)), (a_written, .inl (E.2.1, 40, .inl written)), (a_asked, .inl (E.2.1, 60, .inl asked)), (a_there, .inl (E.2.1, 12, .inl there)), (a_counts, .inl (E.2.1, 12, .inl counts)), (a_lasts, .inl (E.2.1, 12, .inl lasts)), (a_cames, .inl (E.2.1, 12, .inl cames))] H locs := w
    refine lv_iconst (v := 0) hx hb dX12_letsIn_15 (by decide) ?_
    cases hf
    exact mx_zret B w rfl ⟨rfl, rfl⟩ dX12_letsIn_16
-- X12_warms
def po_X12_warms (E : mE) (h : Nat) (a_g : Nat) (a_kept : Nat) (a_tape : Nat) (a_written : Nat) (a_asked : Nat) (a_there : Nat) (a_counts : Nat) (a_lasts : Nat) (a_cames : Nat)  (g : Nat → Int32) (kept : Nat → Int32) (isKept : Int32) (tape : Nat → Int32) (taped : Int32) (spot : Int32) (written : Nat → Int32) (writtenMany : Int32) (asked : Nat → Int32) (askedMany : Int32) (there : Nat → Int32) (counts : Nat → Int32) (lasts : Nat → Int32) (cames : Nat → Int32)  (o : Int32 × (Nat → Int32)) : Option Value → va_W → Prop := (fun (v : Option Value) (w' : va_W) => v = some (.int o.1) ∧ w' = [(h, .inr (11, [.ref a_g, .ref a_kept, .int isKept, .ref a_tape, .int taped, .int spot, .ref a_written, .int writtenMany, .ref a_asked, .int askedMany, .ref a_there, .ref a_counts, .ref a_lasts, .ref a_cames])), (a_g, .inl (E.2.1, 8787, .inl o.2)), (a_kept, .inl (E.2.1, 8787, .inl kept)), (a_tape, .inl (E.2.2.1, 60, .inl tape)), (a_written, .inl (E.2.1, 40, .inl written)), (a_asked, .inl (E.2.1, 60, .inl asked)), (a_there, .inl (E.2.1, 12, .inl there)), (a_counts, .inl (E.2.1, 12, .inl counts)), (a_lasts, .inl (E.2.1, 12, .inl lasts)), (a_cames, .inl (E.2.1, 12, .inl cames))])
noncomputable def F_X12_warms (N : Nat)  (g : Nat → Int32) (x1 : Int32) : Option (Int32 × (Nat → Int32)) :=
  bd (F_X12_coldAt g x1 0) (fun o_1 =>
  bd (F_X12_coldAt g x1 1) (fun o_2 =>
  bd (F_X12_coldAt g x1 2) (fun o_3 =>
  bd (F_X12_coldAt g x1 3) (fun o_4 =>
  bd (F_X12_coldAt g x1 4) (fun o_5 =>
  bd (F_X12_takesOut N g 14 1898 5 x1) (fun o_6 =>
  ld o_6 8787 32 (fun v_7 =>
  sto o_6 8787 32 (v_7 + 1) (fun g_8 =>
  bd (F_X12_happens N g_8 12 o_1) (fun o_9 =>
  bd (F_X12_letsIn N o_9 o_1 o_2 o_3 o_4 o_5) (fun o_10 =>
  if (o_10.1 = 0 : Prop) then
  bd (F_X12_cools N o_10.2 o_1 o_2 o_3 o_4 o_5) (fun o_11 =>
  some (o_2, o_11))
  else
  some (o_2, o_10.2)))))))))))
set_option maxHeartbeats 4000000 in
set_option maxRecDepth 100000 in
theorem d_X12_warms (E : mE) (l : Launch) (N : Nat) (h : Nat) (a_g : Nat) (a_kept : Nat) (a_tape : Nat) (a_written : Nat) (a_asked : Nat) (a_there : Nat) (a_counts : Nat) (a_lasts : Nat) (a_cames : Nat)  (g : Nat → Int32) (kept : Nat → Int32) (isKept : Int32) (tape : Nat → Int32) (taped : Int32) (spot : Int32) (written : Nat → Int32) (writtenMany : Int32) (asked : Nat → Int32) (askedMany : Int32) (there : Nat → Int32) (counts : Nat → Int32) (lasts : Nat → Int32) (cames : Nat → Int32)  (x1 : Int32)  (o : Int32 × (Nat → Int32)) (hf : F_X12_warms N g x1 = some o) : MX E l yX12_warms cX12_warms 7 (some .int) ({ frames := 9, cells := 0, slots := 0, locals := 207 } : Room) [.ref h, .int x1] [(h, .inr (11, [.ref a_g, .ref a_kept, .int isKept, .ref a_tape, .int taped, .int spot, .ref a_written, .int writtenMany, .ref a_asked, .int askedMany, .ref a_there, .ref a_counts, .ref a_lasts, .ref a_cames])), (a_g, .inl (E.2.1, 8787, .inl g)), (a_kept, .inl (E.2.1, 8787, .inl kept)), (a_tape, .inl (E.2.2.1, 60, .inl tape)), (a_written, .inl (E.2.1, 40, .inl written)), (a_asked, .inl (E.2.1, 60, .inl asked)), (a_there, .inl (E.2.1, 12, .inl there)), (a_counts, .inl (E.2.1, 12, .inl counts)), (a_lasts, .inl (E.2.1, 12, .inl lasts)), (a_cames, .inl (E.2.1, 12, .inl cames))] (po_X12_warms E h a_g a_kept a_tape a_written a_asked a_there a_counts a_lasts a_cames g kept isKept tape taped spot written writtenMany asked askedMany there counts lasts cames o) := by
  refine mx_intro (by decide +kernel) (Nat.le_of_ble_eq_true rfl) ?_
  intro p e s m args below meth c A Q ls B w hl
  obtain ⟨hx, hb, hml, hown, hts⟩ := id B.1
  unfold F_X12_warms at hf
  have hl : lv_has ls 7 [(0, .ref h), (1, .int x1)] := hl
  refine lv_aload_n hx hb dX12_warms_0 rfl (lv_at hl 0 rfl) ?_
  refine lv_iload_n hx hb dX12_warms_1 rfl (lv_at hl 1 rfl) ?_
  refine lv_iconst (v := 0) hx hb dX12_warms_2 (by decide) ?_
  obtain ⟨o_1, hq, hf⟩ := bd_e hf
  refine mx_callV (As := [.int x1, .int 0]) (rest := []) (wr := []) (d_X12_coldAt E l  h a_g a_kept a_tape a_written a_asked a_there a_counts a_lasts a_cames g kept isKept tape taped spot written writtenMany asked askedMany there counts lasts cames x1 0  o_1 hq) B w [0, 1, 2, 3, 4, 5, 6, 7, 8, 9] [] rfl rfl (by decide) (by decide) (by decide) 0 rfl rfl cv_X12_coldAt kw_1418 2 (by decide +kernel) ⟨Nat.le_of_ble_eq_true rfl, Nat.le_of_ble_eq_true rfl⟩ rfl hl.1 rfl (Nat.le_of_ble_eq_true rfl) dX12_warms_3 rfl rfl ⟨Nat.zero_le _, Nat.zero_le _⟩ (fun v w' H locs hpo w => ?_)
  clear hq
  obtain ⟨rfl, rfl⟩ := hpo
  have w : mW E A s [(h, .inr (11, [.ref a_g, .ref a_kept, .int isKept, .ref a_tape, .int taped, .int spot, .ref a_written, .int writtenMany, .ref a_asked, .int askedMany, .ref a_there, .ref a_counts, .ref a_lasts, .ref a_cames])), (a_g, .inl (E.2.1, 8787, .inl g)), (a_kept, .inl (E.2.1, 8787, .inl kept)), (a_tape, .inl (E.2.2.1, 60, .inl tape)), (a_written, .inl (E.2.1, 40, .inl written)), (a_asked, .inl (E.2.1, 60, .inl asked)), (a_there, .inl (E.2.1, 12, .inl there)), (a_counts, .inl (E.2.1, 12, .inl counts)), (a_lasts, .inl (E.2.1, 12, .inl lasts)), (a_cames, .inl (E.2.1, 12, .inl cames))] H locs := w
  refine lv_istore_n (lv' := [(2, .int o_1), (0, .ref h), (1, .int x1)]) hx hb dX12_warms_6 rfl hl (by decide) rfl (fun ls hl => ?_)
  refine lv_aload_n hx hb dX12_warms_7 rfl (lv_at hl 1 rfl) ?_
  refine lv_iload_n hx hb dX12_warms_8 rfl (lv_at hl 2 rfl) ?_
  refine lv_iconst (v := 1) hx hb dX12_warms_9 (by decide) ?_
  obtain ⟨o_2, hq, hf⟩ := bd_e hf
  refine mx_callV (As := [.int x1, .int 1]) (rest := []) (wr := []) (d_X12_coldAt E l  h a_g a_kept a_tape a_written a_asked a_there a_counts a_lasts a_cames g kept isKept tape taped spot written writtenMany asked askedMany there counts lasts cames x1 1  o_2 hq) B w [0, 1, 2, 3, 4, 5, 6, 7, 8, 9] [] rfl rfl (by decide) (by decide) (by decide) 0 rfl rfl cv_X12_coldAt kw_1418 2 (by decide +kernel) ⟨Nat.le_of_ble_eq_true rfl, Nat.le_of_ble_eq_true rfl⟩ rfl hl.1 rfl (Nat.le_of_ble_eq_true rfl) dX12_warms_10 rfl rfl ⟨Nat.zero_le _, Nat.zero_le _⟩ (fun v w' H locs hpo w => ?_)
  clear hq
  obtain ⟨rfl, rfl⟩ := hpo
  have w : mW E A s [(h, .inr (11, [.ref a_g, .ref a_kept, .int isKept, .ref a_tape, .int taped, .int spot, .ref a_written, .int writtenMany, .ref a_asked, .int askedMany, .ref a_there, .ref a_counts, .ref a_lasts, .ref a_cames])), (a_g, .inl (E.2.1, 8787, .inl g)), (a_kept, .inl (E.2.1, 8787, .inl kept)), (a_tape, .inl (E.2.2.1, 60, .inl tape)), (a_written, .inl (E.2.1, 40, .inl written)), (a_asked, .inl (E.2.1, 60, .inl asked)), (a_there, .inl (E.2.1, 12, .inl there)), (a_counts, .inl (E.2.1, 12, .inl counts)), (a_lasts, .inl (E.2.1, 12, .inl lasts)), (a_cames, .inl (E.2.1, 12, .inl cames))] H locs := w
  refine lv_istore_n (lv' := [(3, .int o_2), (2, .int o_1), (0, .ref h), (1, .int x1)]) hx hb dX12_warms_13 rfl hl (by decide) rfl (fun ls hl => ?_)
  refine lv_aload_n hx hb dX12_warms_14 rfl (lv_at hl 2 rfl) ?_
  refine lv_iload_n hx hb dX12_warms_15 rfl (lv_at hl 3 rfl) ?_
  refine lv_iconst (v := 2) hx hb dX12_warms_16 (by decide) ?_
  obtain ⟨o_3, hq, hf⟩ := bd_e hf
  refine mx_callV (As := [.int x1, .int 2]) (rest := []) (wr := []) (d_X12_coldAt E l  h a_g a_kept a_tape a_written a_asked a_there a_counts a_lasts a_cames g kept isKept tape taped spot written writtenMany asked askedMany there counts lasts cames x1 2  o_3 hq) B w [0, 1, 2, 3, 4, 5, 6, 7, 8, 9] [] rfl rfl (by decide) (by decide) (by decide) 0 rfl rfl cv_X12_coldAt kw_1418 2 (by decide +kernel) ⟨Nat.le_of_ble_eq_true rfl, Nat.le_of_ble_eq_true rfl⟩ rfl hl.1 rfl (Nat.le_of_ble_eq_true rfl) dX12_warms_17 rfl rfl ⟨Nat.zero_le _, Nat.zero_le _⟩ (fun v w' H locs hpo w => ?_)
  clear hq
  obtain ⟨rfl, rfl⟩ := hpo
  have w : mW E A s [(h, .inr (11, [.ref a_g, .ref a_kept, .int isKept, .ref a_tape, .int taped, .int spot, .ref a_written, .int writtenMany, .ref a_asked, .int askedMany, .ref a_there, .ref a_counts, .ref a_lasts, .ref a_cames])), (a_g, .inl (E.2.1, 8787, .inl g)), (a_kept, .inl (E.2.1, 8787, .inl kept)), (a_tape, .inl (E.2.2.1, 60, .inl tape)), (a_written, .inl (E.2.1, 40, .inl written)), (a_asked, .inl (E.2.1, 60, .inl asked)), (a_there, .inl (E.2.1, 12, .inl there)), (a_counts, .inl (E.2.1, 12, .inl counts)), (a_lasts, .inl (E.2.1, 12, .inl lasts)), (a_cames, .inl (E.2.1, 12, .inl cames))] H locs := w
  refine lv_istore (lv' := [(4, .int o_3), (3, .int o_2), (2, .int o_1), (0, .ref h), (1, .int x1)]) hx hb dX12_warms_20 hl (by decide) rfl (fun ls hl => ?_)
  refine lv_aload_n hx hb dX12_warms_22 rfl (lv_at hl 3 rfl) ?_
  refine lv_iload_n hx hb dX12_warms_23 rfl (lv_at hl 4 rfl) ?_
  refine lv_iconst (v := 3) hx hb dX12_warms_24 (by decide) ?_
  obtain ⟨o_4, hq, hf⟩ := bd_e hf
  refine mx_callV (As := [.int x1, .int 3]) (rest := []) (wr := []) (d_X12_coldAt E l  h a_g a_kept a_tape a_written a_asked a_there a_counts a_lasts a_cames g kept isKept tape taped spot written writtenMany asked askedMany there counts lasts cames x1 3  o_4 hq) B w [0, 1, 2, 3, 4, 5, 6, 7, 8, 9] [] rfl rfl (by decide) (by decide) (by decide) 0 rfl rfl cv_X12_coldAt kw_1418 2 (by decide +kernel) ⟨Nat.le_of_ble_eq_true rfl, Nat.le_of_ble_eq_true rfl⟩ rfl hl.1 rfl (Nat.le_of_ble_eq_true rfl) dX12_warms_25 rfl rfl ⟨Nat.zero_le _, Nat.zero_le _⟩ (fun v w' H locs hpo w => ?_)
  clear hq
  obtain ⟨rfl, rfl⟩ := hpo
  have w : mW E A s [(h, .inr (11, [.ref a_g, .ref a_kept, .int isKept, .ref a_tape, .int taped, .int spot, .ref a_written, .int writtenMany, .ref a_asked, .int askedMany, .ref a_there, .ref a_counts, .ref a_lasts, .ref a_cames])), (a_g, .inl (E.2.1, 8787, .inl g)), (a_kept, .inl (E.2.1, 8787, .inl kept)), (a_tape, .inl (E.2.2.1, 60, .inl tape)), (a_written, .inl (E.2.1, 40, .inl written)), (a_asked, .inl (E.2.1, 60, .inl asked)), (a_there, .inl (E.2.1, 12, .inl there)), (a_counts, .inl (E.2.1, 12, .inl counts)), (a_lasts, .inl (E.2.1, 12, .inl lasts)), (a_cames, .inl (E.2.1, 12, .inl cames))] H locs := w
  refine lv_istore (lv' := [(5, .int o_4), (4, .int o_3), (3, .int o_2), (2, .int o_1), (0, .ref h), (1, .int x1)]) hx hb dX12_warms_28 hl (by decide) rfl (fun ls hl => ?_)
  refine lv_aload_n hx hb dX12_warms_30 rfl (lv_at hl 4 rfl) ?_
  refine lv_iload_n hx hb dX12_warms_31 rfl (lv_at hl 5 rfl) ?_
  refine lv_iconst (v := 4) hx hb dX12_warms_32 (by decide) ?_
  obtain ⟨o_5, hq, hf⟩ := bd_e hf
  refine mx_callV (As := [.int x1, .int 4]) (rest := []) (wr := []) (d_X12_coldAt E l  h a_g a_kept a_tape a_written a_asked a_there a_counts a_lasts a_cames g kept isKept tape taped spot written writtenMany asked askedMany there counts lasts cames x1 4  o_5 hq) B w [0, 1, 2, 3, 4, 5, 6, 7, 8, 9] [] rfl rfl (by decide) (by decide) (by decide) 0 rfl rfl cv_X12_coldAt kw_1418 2 (by decide +kernel) ⟨Nat.le_of_ble_eq_true rfl, Nat.le_of_ble_eq_true rfl⟩ rfl hl.1 rfl (Nat.le_of_ble_eq_true rfl) dX12_warms_33 rfl rfl ⟨Nat.zero_le _, Nat.zero_le _⟩ (fun v w' H locs hpo w => ?_)
  clear hq
  obtain ⟨rfl, rfl⟩ := hpo
  have w : mW E A s [(h, .inr (11, [.ref a_g, .ref a_kept, .int isKept, .ref a_tape, .int taped, .int spot, .ref a_written, .int writtenMany, .ref a_asked, .int askedMany, .ref a_there, .ref a_counts, .ref a_lasts, .ref a_cames])), (a_g, .inl (E.2.1, 8787, .inl g)), (a_kept, .inl (E.2.1, 8787, .inl kept)), (a_tape, .inl (E.2.2.1, 60, .inl tape)), (a_written, .inl (E.2.1, 40, .inl written)), (a_asked, .inl (E.2.1, 60, .inl asked)), (a_there, .inl (E.2.1, 12, .inl there)), (a_counts, .inl (E.2.1, 12, .inl counts)), (a_lasts, .inl (E.2.1, 12, .inl lasts)), (a_cames, .inl (E.2.1, 12, .inl cames))] H locs := w
  refine lv_istore (lv' := [(6, .int o_5), (5, .int o_4), (4, .int o_3), (3, .int o_2), (2, .int o_1), (0, .ref h), (1, .int x1)]) hx hb dX12_warms_36 hl (by decide) rfl (fun ls hl => ?_)
  refine lv_aload_n hx hb dX12_warms_38 rfl (lv_at hl 5 rfl) ?_
  refine lv_bipush (v := 14) hx hb dX12_warms_39 (by decide) ?_
  refine lv_sipush (v := 1898) hx hb dX12_warms_41 (by decide) ?_
  refine lv_iconst (v := 5) hx hb dX12_warms_44 (by decide) ?_
  refine lv_iload_n hx hb dX12_warms_45 rfl (lv_at hl 6 rfl) ?_
  obtain ⟨o_6, hq, hf⟩ := bd_e hf
  refine mx_callV (As := [.int 14, .int 1898, .int 5, .int x1]) (rest := []) (wr := []) (d_X12_takesOut E l N h a_g a_kept a_tape a_written a_asked a_there a_counts a_lasts a_cames g kept isKept tape taped spot written writtenMany asked askedMany there counts lasts cames 14 1898 5 x1  o_6 hq) B w [0, 1, 2, 3, 4, 5, 6, 7, 8, 9] [] rfl rfl (by decide) (by decide) (by decide) 0 rfl rfl cv_X12_takesOut kw_1357 4 (by decide +kernel) ⟨Nat.le_of_ble_eq_true rfl, Nat.le_of_ble_eq_true rfl⟩ rfl hl.1 rfl (Nat.le_of_ble_eq_true rfl) dX12_warms_46 rfl rfl ⟨Nat.zero_le _, Nat.zero_le _⟩ (fun v w' H locs hpo w => ?_)
  clear hq
  obtain ⟨rfl, rfl⟩ := hpo
  have w : mW E A s [(h, .inr (11, [.ref a_g, .ref a_kept, .int isKept, .ref a_tape, .int taped, .int spot, .ref a_written, .int writtenMany, .ref a_asked, .int askedMany, .ref a_there, .ref a_counts, .ref a_lasts, .ref a_cames])), (a_g, .inl (E.2.1, 8787, .inl o_6)), (a_kept, .inl (E.2.1, 8787, .inl kept)), (a_tape, .inl (E.2.2.1, 60, .inl tape)), (a_written, .inl (E.2.1, 40, .inl written)), (a_asked, .inl (E.2.1, 60, .inl asked)), (a_there, .inl (E.2.1, 12, .inl there)), (a_counts, .inl (E.2.1, 12, .inl counts)), (a_lasts, .inl (E.2.1, 12, .inl lasts)), (a_cames, .inl (E.2.1, 12, .inl cames))] H locs := w
  refine lv_aload_n hx hb dX12_warms_49 rfl (lv_at hl 5 rfl) ?_
  refine mx_get B w 0 fl_X12_9 rfl rfl dX12_warms_50 ?_
  refine lv_bipush (v := 32) hx hb dX12_warms_53 (by decide) ?_
  refine lv_dup2_11 hx hb dX12_warms_55 rfl rfl ?_
  obtain ⟨hin, hf⟩ := ld_e hf
  refine mx_iald B w 1 rfl hin dX12_warms_56 (fun v_7 ev => ?_)
  have hf := hf _ ev; clear ev
  refine lv_iconst (v := 1) hx hb dX12_warms_57 (by decide) ?_
  refine lv_iadd hx hb dX12_warms_58 ?_
  obtain ⟨hin, hf⟩ := sto_e hf
  refine mx_iast B w 1 rfl hin dX12_warms_59 (fun g_8 H locs ev w => ?_)
  have hf := hf _ ev; clear ev
  have w : mW E A s [(h, .inr (11, [.ref a_g, .ref a_kept, .int isKept, .ref a_tape, .int taped, .int spot, .ref a_written, .int writtenMany, .ref a_asked, .int askedMany, .ref a_there, .ref a_counts, .ref a_lasts, .ref a_cames])), (a_g, .inl (E.2.1, 8787, .inl g_8)), (a_kept, .inl (E.2.1, 8787, .inl kept)), (a_tape, .inl (E.2.2.1, 60, .inl tape)), (a_written, .inl (E.2.1, 40, .inl written)), (a_asked, .inl (E.2.1, 60, .inl asked)), (a_there, .inl (E.2.1, 12, .inl there)), (a_counts, .inl (E.2.1, 12, .inl counts)), (a_lasts, .inl (E.2.1, 12, .inl lasts)), (a_cames, .inl (E.2.1, 12, .inl cames))] H locs := w
  refine lv_aload_n hx hb dX12_warms_60 rfl (lv_at hl 5 rfl) ?_
  refine lv_bipush (v := 12) hx hb dX12_warms_61 (by decide) ?_
  refine lv_iload_n hx hb dX12_warms_63 rfl (lv_at hl 4 rfl) ?_
  obtain ⟨o_9, hq, hf⟩ := bd_e hf
  refine mx_callV (As := [.int 12, .int o_1]) (rest := []) (wr := []) (d_X12_happens E l N h a_g a_kept a_tape a_written a_asked a_there a_counts a_lasts a_cames g_8 kept isKept tape taped spot written writtenMany asked askedMany there counts lasts cames 12 o_1  o_9 hq) B w [0, 1, 2, 3, 4, 5, 6, 7, 8, 9] [] rfl rfl (by decide) (by decide) (by decide) 0 rfl rfl cv_X12_happens kw_1373 2 (by decide +kernel) ⟨Nat.le_of_ble_eq_true rfl, Nat.le_of_ble_eq_true rfl⟩ rfl hl.1 rfl (Nat.le_of_ble_eq_true rfl) dX12_warms_64 rfl rfl ⟨Nat.zero_le _, Nat.zero_le _⟩ (fun v w' H locs hpo w => ?_)
  clear hq
  obtain ⟨rfl, rfl⟩ := hpo
  have w : mW E A s [(h, .inr (11, [.ref a_g, .ref a_kept, .int isKept, .ref a_tape, .int taped, .int spot, .ref a_written, .int writtenMany, .ref a_asked, .int askedMany, .ref a_there, .ref a_counts, .ref a_lasts, .ref a_cames])), (a_g, .inl (E.2.1, 8787, .inl o_9)), (a_kept, .inl (E.2.1, 8787, .inl kept)), (a_tape, .inl (E.2.2.1, 60, .inl tape)), (a_written, .inl (E.2.1, 40, .inl written)), (a_asked, .inl (E.2.1, 60, .inl asked)), (a_there, .inl (E.2.1, 12, .inl there)), (a_counts, .inl (E.2.1, 12, .inl counts)), (a_lasts, .inl (E.2.1, 12, .inl lasts)), (a_cames, .inl (E.2.1, 12, .inl cames))] H locs := w
  refine lv_aload_n hx hb dX12_warms_67 rfl (lv_at hl 5 rfl) ?_
  refine lv_iload_n hx hb dX12_warms_68 rfl (lv_at hl 4 rfl) ?_
  refine lv_iload_n hx hb dX12_warms_69 rfl (lv_at hl 3 rfl) ?_
  refine lv_iload hx hb dX12_warms_70 (lv_at hl 2 rfl) ?_
  refine lv_iload hx hb dX12_warms_72 (lv_at hl 1 rfl) ?_
  refine lv_iload hx hb dX12_warms_74 (lv_at hl 0 rfl) ?_
  obtain ⟨o_10, hq, hf⟩ := bd_e hf
  refine mx_callV (As := [.int o_1, .int o_2, .int o_3, .int o_4, .int o_5]) (rest := []) (wr := []) (d_X12_letsIn E l N h a_g a_kept a_tape a_written a_asked a_there a_counts a_lasts a_cames o_9 kept isKept tape taped spot written writtenMany asked askedMany there counts lasts cames o_1 o_2 o_3 o_4 o_5  o_10 hq) B w [0, 1, 2, 3, 4, 5, 6, 7, 8, 9] [] rfl rfl (by decide) (by decide) (by decide) 0 rfl rfl cv_X12_letsIn kw_1434 5 (by decide +kernel) ⟨Nat.le_of_ble_eq_true rfl, Nat.le_of_ble_eq_true rfl⟩ rfl hl.1 rfl (Nat.le_of_ble_eq_true rfl) dX12_warms_76 rfl rfl ⟨Nat.zero_le _, Nat.zero_le _⟩ (fun v w' H locs hpo w => ?_)
  clear hq
  obtain ⟨rfl, rfl⟩ := hpo
  have w : mW E A s [(h, .inr (11, [.ref a_g, .ref a_kept, .int isKept, .ref a_tape, .int taped, .int spot, .ref a_written, .int writtenMany, .ref a_asked, .int askedMany, .ref a_there, .ref a_counts, .ref a_lasts, .ref a_cames])), (a_g, .inl (E.2.1, 8787, .inl o_10.2)), (a_kept, .inl (E.2.1, 8787, .inl kept)), (a_tape, .inl (E.2.2.1, 60, .inl tape)), (a_written, .inl (E.2.1, 40, .inl written)), (a_asked, .inl (E.2.1, 60, .inl asked)), (a_there, .inl (E.2.1, 12, .inl there)), (a_counts, .inl (E.2.1, 12, .inl counts)), (a_lasts, .inl (E.2.1, 12, .inl lasts)), (a_cames, .inl (E.2.1, 12, .inl cames))] H locs := w
  refine lv_if_ne (tgt := 94) hx hb dX12_warms_79 (by decide) (fun hc => ?_) (fun hc => ?_)
  · have hf := it_f hc hf
    refine lv_iload_n hx hb dX12_warms_94 rfl (lv_at hl 3 rfl) ?_
    cases hf
    exact mx_iret B w ⟨rfl, rfl⟩ dX12_warms_95
  · have hf := it_t hc hf
    refine lv_aload_n hx hb dX12_warms_82 rfl (lv_at hl 5 rfl) ?_
    refine lv_iload_n hx hb dX12_warms_83 rfl (lv_at hl 4 rfl) ?_
    refine lv_iload_n hx hb dX12_warms_84 rfl (lv_at hl 3 rfl) ?_
    refine lv_iload hx hb dX12_warms_85 (lv_at hl 2 rfl) ?_
    refine lv_iload hx hb dX12_warms_87 (lv_at hl 1 rfl) ?_
    refine lv_iload hx hb dX12_warms_89 (lv_at hl 0 rfl) ?_
    obtain ⟨o_11, hq, hf⟩ := bd_e hf
    refine mx_callV (As := [.int o_1, .int o_2, .int o_3, .int o_4, .int o_5]) (rest := []) (wr := []) (d_X12_cools E l N h a_g a_kept a_tape a_written a_asked a_there a_counts a_lasts a_cames o_10.2 kept isKept tape taped spot written writtenMany asked askedMany there counts lasts cames o_1 o_2 o_3 o_4 o_5  o_11 hq) B w [0, 1, 2, 3, 4, 5, 6, 7, 8, 9] [] rfl rfl (by decide) (by decide) (by decide) 0 rfl rfl cv_X12_cools kw_1349 5 (by decide +kernel) ⟨Nat.le_of_ble_eq_true rfl, Nat.le_of_ble_eq_true rfl⟩ rfl hl.1 rfl (Nat.le_of_ble_eq_true rfl) dX12_warms_91 rfl rfl ⟨Nat.zero_le _, Nat.zero_le _⟩ (fun v w' H locs hpo w => ?_)
    clear hq
    obtain ⟨rfl, rfl⟩ := hpo
    have w : mW E A s [(h, .inr (11, [.ref a_g, .ref a_kept, .int isKept, .ref a_tape, .int taped, .int spot, .ref a_written, .int writtenMany, .ref a_asked, .int askedMany, .ref a_there, .ref a_counts, .ref a_lasts, .ref a_cames])), (a_g, .inl (E.2.1, 8787, .inl o_11)), (a_kept, .inl (E.2.1, 8787, .inl kept)), (a_tape, .inl (E.2.2.1, 60, .inl tape)), (a_written, .inl (E.2.1, 40, .inl written)), (a_asked, .inl (E.2.1, 60, .inl asked)), (a_there, .inl (E.2.1, 12, .inl there)), (a_counts, .inl (E.2.1, 12, .inl counts)), (a_lasts, .inl (E.2.1, 12, .inl lasts)), (a_cames, .inl (E.2.1, 12, .inl cames))] H locs := w
    refine lv_iload_n hx hb dX12_warms_94 rfl (lv_at hl 3 rfl) ?_
    cases hf
    exact mx_iret B w ⟨rfl, rfl⟩ dX12_warms_95
-- X12_waiterOf
def po_X12_waiterOf (E : mE) (h : Nat) (a_g : Nat) (a_kept : Nat) (a_tape : Nat) (a_written : Nat) (a_asked : Nat) (a_there : Nat) (a_counts : Nat) (a_lasts : Nat) (a_cames : Nat)  (g : Nat → Int32) (kept : Nat → Int32) (isKept : Int32) (tape : Nat → Int32) (taped : Int32) (spot : Int32) (written : Nat → Int32) (writtenMany : Int32) (asked : Nat → Int32) (askedMany : Int32) (there : Nat → Int32) (counts : Nat → Int32) (lasts : Nat → Int32) (cames : Nat → Int32)  (o : Int32) : Option Value → va_W → Prop := (fun (v : Option Value) (w' : va_W) => v = some (.int o) ∧ w' = [(h, .inr (11, [.ref a_g, .ref a_kept, .int isKept, .ref a_tape, .int taped, .int spot, .ref a_written, .int writtenMany, .ref a_asked, .int askedMany, .ref a_there, .ref a_counts, .ref a_lasts, .ref a_cames])), (a_g, .inl (E.2.1, 8787, .inl g)), (a_kept, .inl (E.2.1, 8787, .inl kept)), (a_tape, .inl (E.2.2.1, 60, .inl tape)), (a_written, .inl (E.2.1, 40, .inl written)), (a_asked, .inl (E.2.1, 60, .inl asked)), (a_there, .inl (E.2.1, 12, .inl there)), (a_counts, .inl (E.2.1, 12, .inl counts)), (a_lasts, .inl (E.2.1, 12, .inl lasts)), (a_cames, .inl (E.2.1, 12, .inl cames))])
noncomputable def K_X12_waiterOf_2 (N : Nat)  (rec : Int32 → Option (Int32)) (k32 : Unit → Option (Int32)) (k24 : Int32 → Option (Int32)) (x1 : Int32) (x2 : Int32) (g : Nat → Int32) (x3 : Int32)  : Option (Int32) :=
  bd (F_X12_loadAt g x1 3) (fun o_1 =>
  if (o_1 ≤ x3 : Prop) then
  k32 ()
  else
  bd (F_X12_loadAt g x1 (4 + x3)) (fun o_2 =>
  if (o_2 = x2 : Prop) then
  k24 x3
  else
  lt (x3 + 1) (fun x3_3 =>
  rec x3_3)))
noncomputable def L_X12_waiterOf_2 (N : Nat)  (k32 : Unit → Option (Int32)) (k24 : Int32 → Option (Int32)) (x1 : Int32) (x2 : Int32) (g : Nat → Int32) (n : Nat) : Int32 → Option (Int32) :=
  Nat.rec (motive := fun _ => Int32 → Option (Int32)) (fun _ => none) (fun _ rec => K_X12_waiterOf_2 N rec k32 k24 x1 x2 g) n
set_option maxHeartbeats 4000000 in
set_option maxRecDepth 100000 in
theorem l_X12_waiterOf_2 {E : mE} {l : Launch} {p : Program} {e : Env} {s : State} {m : MethodId} {args : Array Value} {below : List Frame} {meth : Method} {c : Code} {A : Nat → Prop} {Q : State → Prop} {N : Nat} {h : Nat} {a_g : Nat} {a_kept : Nat} {a_tape : Nat} {a_written : Nat} {a_asked : Nat} {a_there : Nat} {a_counts : Nat} {a_lasts : Nat} {a_cames : Nat}  {g : Nat → Int32} {kept : Nat → Int32} {isKept : Int32} {tape : Nat → Int32} {taped : Int32} {spot : Int32} {written : Nat → Int32} {writtenMany : Int32} {asked : Nat → Int32} {askedMany : Int32} {there : Nat → Int32} {counts : Nat → Int32} {lasts : Nat → Int32} {cames : Nat → Int32}  {o : Int32} (B : mB E yX12_waiterOf cX12_waiterOf 4 (some .int) 0 0 (po_X12_waiterOf E h a_g a_kept a_tape a_written a_asked a_there a_counts a_lasts a_cames g kept isKept tape taped spot written writtenMany asked askedMany there counts lasts cames o) p s m args below meth c A Q)   {x1 : Int32} {x2 : Int32} (k32 : Unit → Option (Int32)) (k24 : Int32 → Option (Int32))  (hk32 : ∀    (H : Heap) (locs : List Loc) (ls : Array Slot), k32 () = some o → mW E A s [(h, .inr (11, [.ref a_g, .ref a_kept, .int isKept, .ref a_tape, .int taped, .int spot, .ref a_written, .int writtenMany, .ref a_asked, .int askedMany, .ref a_there, .ref a_counts, .ref a_lasts, .ref a_cames])), (a_g, .inl (E.2.1, 8787, .inl g)), (a_kept, .inl (E.2.1, 8787, .inl kept)), (a_tape, .inl (E.2.2.1, 60, .inl tape)), (a_written, .inl (E.2.1, 40, .inl written)), (a_asked, .inl (E.2.1, 60, .inl asked)), (a_there, .inl (E.2.1, 12, .inl there)), (a_counts, .inl (E.2.1, 12, .inl counts)), (a_lasts, .inl (E.2.1, 12, .inl lasts)), (a_cames, .inl (E.2.1, 12, .inl cames))] H locs → lv_has ls 4 [] → W p l e ({ frames := 1, cells := 0, slots := 0, locals := 22 } : Room) s m args below meth c H locs 0 0 Q (F0 m 32 ls [])) (hk24 : ∀ (x3 : Int32)   (H : Heap) (locs : List Loc) (ls : Array Slot), k24 x3 = some o → mW E A s [(h, .inr (11, [.ref a_g, .ref a_kept, .int isKept, .ref a_tape, .int taped, .int spot, .ref a_written, .int writtenMany, .ref a_asked, .int askedMany, .ref a_there, .ref a_counts, .ref a_lasts, .ref a_cames])), (a_g, .inl (E.2.1, 8787, .inl g)), (a_kept, .inl (E.2.1, 8787, .inl kept)), (a_tape, .inl (E.2.2.1, 60, .inl tape)), (a_written, .inl (E.2.1, 40, .inl written)), (a_asked, .inl (E.2.1, 60, .inl asked)), (a_there, .inl (E.2.1, 12, .inl there)), (a_counts, .inl (E.2.1, 12, .inl counts)), (a_lasts, .inl (E.2.1, 12, .inl lasts)), (a_cames, .inl (E.2.1, 12, .inl cames))] H locs → lv_has ls 4 [(3, .int x3)] → W p l e ({ frames := 1, cells := 0, slots := 0, locals := 22 } : Room) s m args below meth c H locs 0 0 Q (F0 m 24 ls [])) : ∀ n : Nat, ∀ (x3 : Int32)   (H : Heap) (locs : List Loc) (ls : Array Slot), L_X12_waiterOf_2 N k32 k24 x1 x2 g n x3 = some o → mW E A s [(h, .inr (11, [.ref a_g, .ref a_kept, .int isKept, .ref a_tape, .int taped, .int spot, .ref a_written, .int writtenMany, .ref a_asked, .int askedMany, .ref a_there, .ref a_counts, .ref a_lasts, .ref a_cames])), (a_g, .inl (E.2.1, 8787, .inl g)), (a_kept, .inl (E.2.1, 8787, .inl kept)), (a_tape, .inl (E.2.2.1, 60, .inl tape)), (a_written, .inl (E.2.1, 40, .inl written)), (a_asked, .inl (E.2.1, 60, .inl asked)), (a_there, .inl (E.2.1, 12, .inl there)), (a_counts, .inl (E.2.1, 12, .inl counts)), (a_lasts, .inl (E.2.1, 12, .inl lasts)), (a_cames, .inl (E.2.1, 12, .inl cames))] H locs → lv_has ls 4 [(0, .ref h), (1, .int x1), (2, .int x2), (3, .int x3)] → W p l e ({ frames := 1, cells := 0, slots := 0, locals := 22 } : Room) s m args below meth c H locs 0 0 Q (F0 m 2 ls []) := by
  obtain ⟨hx, hb, hml, hown, hts⟩ := id B.1
  intro n
  induction n with
  | zero =>
    intro x3 H locs ls hf w hl
    exact nomatch hf
  | succ n hrec =>
    intro x3 H locs ls hf w hl
    have hf : K_X12_waiterOf_2 N (L_X12_waiterOf_2 N k32 k24 x1 x2 g n) k32 k24 x1 x2 g x3 = some o := hf
    unfold K_X12_waiterOf_2 at hf
    refine lv_iload_n hx hb dX12_waiterOf_2 rfl (lv_at hl 3 rfl) ?_
    refine lv_aload_n hx hb dX12_waiterOf_3 rfl (lv_at hl 0 rfl) ?_
    refine lv_iload_n hx hb dX12_waiterOf_4 rfl (lv_at hl 1 rfl) ?_
    refine lv_iconst (v := 3) hx hb dX12_waiterOf_5 (by decide) ?_
    obtain ⟨o_1, hq, hf⟩ := bd_e hf
    refine mx_callV (As := [.int x1, .int 3]) (rest := [.int x3]) (wr := []) (d_X12_loadAt E l  h a_g a_kept a_tape a_written a_asked a_there a_counts a_lasts a_cames g kept isKept tape taped spot written writtenMany asked askedMany there counts lasts cames x1 3  o_1 hq) B w [0, 1, 2, 3, 4, 5, 6, 7, 8, 9] [] rfl rfl (by decide) (by decide) (by decide) 0 rfl rfl cv_X12_loadAt kw_1385 2 (by decide +kernel) ⟨Nat.le_of_ble_eq_true rfl, Nat.le_of_ble_eq_true rfl⟩ rfl hl.1 rfl (Nat.le_of_ble_eq_true rfl) dX12_waiterOf_6 rfl rfl ⟨Nat.zero_le _, Nat.zero_le _⟩ (fun v w' H locs hpo w => ?_)
    clear hq
    obtain ⟨rfl, rfl⟩ := hpo
    have w : mW E A s [(h, .inr (11, [.ref a_g, .ref a_kept, .int isKept, .ref a_tape, .int taped, .int spot, .ref a_written, .int writtenMany, .ref a_asked, .int askedMany, .ref a_there, .ref a_counts, .ref a_lasts, .ref a_cames])), (a_g, .inl (E.2.1, 8787, .inl g)), (a_kept, .inl (E.2.1, 8787, .inl kept)), (a_tape, .inl (E.2.2.1, 60, .inl tape)), (a_written, .inl (E.2.1, 40, .inl written)), (a_asked, .inl (E.2.1, 60, .inl asked)), (a_there, .inl (E.2.1, 12, .inl there)), (a_counts, .inl (E.2.1, 12, .inl counts)), (a_lasts, .inl (E.2.1, 12, .inl lasts)), (a_cames, .inl (E.2.1, 12, .inl cames))] H locs := w
    refine lv_icmp_ge (tgt := 32) hx hb dX12_waiterOf_9 (by decide) (fun hc => ?_) (fun hc => ?_)
    · have hf := it_t hc hf
      exact hk32 _ _ _ hf  w (lv_sub hl [] rfl)
    · have hf := it_f hc hf
      refine lv_aload_n hx hb dX12_waiterOf_12 rfl (lv_at hl 0 rfl) ?_
      refine lv_iload_n hx hb dX12_waiterOf_13 rfl (lv_at hl 1 rfl) ?_
      refine lv_iconst (v := 4) hx hb dX12_waiterOf_14 (by decide) ?_
      refine lv_iload_n hx hb dX12_waiterOf_15 rfl (lv_at hl 3 rfl) ?_
      refine lv_iadd hx hb dX12_waiterOf_16 ?_
      obtain ⟨o_2, hq, hf⟩ := bd_e hf
      refine mx_callV (As := [.int x1, .int (4 + x3)]) (rest := []) (wr := []) (d_X12_loadAt E l  h a_g a_kept a_tape a_written a_asked a_there a_counts a_lasts a_cames g kept isKept tape taped spot written writtenMany asked askedMany there counts lasts cames x1 (4 + x3)  o_2 hq) B w [0, 1, 2, 3, 4, 5, 6, 7, 8, 9] [] rfl rfl (by decide) (by decide) (by decide) 0 rfl rfl cv_X12_loadAt kw_1385 2 (by decide +kernel) ⟨Nat.le_of_ble_eq_true rfl, Nat.le_of_ble_eq_true rfl⟩ rfl hl.1 rfl (Nat.le_of_ble_eq_true rfl) dX12_waiterOf_17 rfl rfl ⟨Nat.zero_le _, Nat.zero_le _⟩ (fun v w' H locs hpo w => ?_)
      clear hq
      obtain ⟨rfl, rfl⟩ := hpo
      have w : mW E A s [(h, .inr (11, [.ref a_g, .ref a_kept, .int isKept, .ref a_tape, .int taped, .int spot, .ref a_written, .int writtenMany, .ref a_asked, .int askedMany, .ref a_there, .ref a_counts, .ref a_lasts, .ref a_cames])), (a_g, .inl (E.2.1, 8787, .inl g)), (a_kept, .inl (E.2.1, 8787, .inl kept)), (a_tape, .inl (E.2.2.1, 60, .inl tape)), (a_written, .inl (E.2.1, 40, .inl written)), (a_asked, .inl (E.2.1, 60, .inl asked)), (a_there, .inl (E.2.1, 12, .inl there)), (a_counts, .inl (E.2.1, 12, .inl counts)), (a_lasts, .inl (E.2.1, 12, .inl lasts)), (a_cames, .inl (E.2.1, 12, .inl cames))] H locs := w
      refine lv_iload_n hx hb dX12_waiterOf_20 rfl (lv_at hl 2 rfl) ?_
      refine lv_icmp_ne (tgt := 26) hx hb dX12_waiterOf_21 (by decide) (fun hc => ?_) (fun hc => ?_)
      · have hf := it_f hc hf
        obtain ⟨x3_3, ev⟩ : ∃ y : Int32, y = x3 + 1 := ⟨_, rfl⟩
        refine lv_iinc (v := x3_3) (lv' := [(3, .int x3_3), (0, .ref h), (1, .int x1), (2, .int x2)]) hx hb dX12_waiterOf_26 hl (k := 3) rfl (by rw [ev]; rfl) (by decide) rfl (fun ls hl => ?_)
        have hf := lt_n ev hf; clear ev
        refine lv_goto (tgt := 2) hx hb dX12_waiterOf_29 (by decide) ?_
        exact hrec _ _ _ _ hf  w (lv_sub hl [1, 2, 3, 0] rfl)
      · have hf := it_t hc hf
        exact hk24 _ _ _ _ hf  w (lv_sub hl [3] rfl)
noncomputable def F_X12_waiterOf (N : Nat)  (g : Nat → Int32) (x1 : Int32) (x2 : Int32) : Option (Int32) :=
  L_X12_waiterOf_2 N (fun _ => some ((-1))) (fun x3 => some (x3)) x1 x2 g N 0
set_option maxHeartbeats 4000000 in
set_option maxRecDepth 100000 in
theorem d_X12_waiterOf (E : mE) (l : Launch) (N : Nat) (h : Nat) (a_g : Nat) (a_kept : Nat) (a_tape : Nat) (a_written : Nat) (a_asked : Nat) (a_there : Nat) (a_counts : Nat) (a_lasts : Nat) (a_cames : Nat)  (g : Nat → Int32) (kept : Nat → Int32) (isKept : Int32) (tape : Nat → Int32) (taped : Int32) (spot : Int32) (written : Nat → Int32) (writtenMany : Int32) (asked : Nat → Int32) (askedMany : Int32) (there : Nat → Int32) (counts : Nat → Int32) (lasts : Nat → Int32) (cames : Nat → Int32)  (x1 : Int32) (x2 : Int32)  (o : Int32) (hf : F_X12_waiterOf N g x1 x2 = some o) : MX E l yX12_waiterOf cX12_waiterOf 4 (some .int) ({ frames := 1, cells := 0, slots := 0, locals := 22 } : Room) [.ref h, .int x1, .int x2] [(h, .inr (11, [.ref a_g, .ref a_kept, .int isKept, .ref a_tape, .int taped, .int spot, .ref a_written, .int writtenMany, .ref a_asked, .int askedMany, .ref a_there, .ref a_counts, .ref a_lasts, .ref a_cames])), (a_g, .inl (E.2.1, 8787, .inl g)), (a_kept, .inl (E.2.1, 8787, .inl kept)), (a_tape, .inl (E.2.2.1, 60, .inl tape)), (a_written, .inl (E.2.1, 40, .inl written)), (a_asked, .inl (E.2.1, 60, .inl asked)), (a_there, .inl (E.2.1, 12, .inl there)), (a_counts, .inl (E.2.1, 12, .inl counts)), (a_lasts, .inl (E.2.1, 12, .inl lasts)), (a_cames, .inl (E.2.1, 12, .inl cames))] (po_X12_waiterOf E h a_g a_kept a_tape a_written a_asked a_there a_counts a_lasts a_cames g kept isKept tape taped spot written writtenMany asked askedMany there counts lasts cames o) := by
  refine mx_intro (by decide +kernel) (Nat.le_of_ble_eq_true rfl) ?_
  intro p e s m args below meth c A Q ls B w hl
  obtain ⟨hx, hb, hml, hown, hts⟩ := id B.1
  unfold F_X12_waiterOf at hf
  have hl : lv_has ls 4 [(0, .ref h), (1, .int x1), (2, .int x2)] := hl
  refine lv_iconst (v := 0) hx hb dX12_waiterOf_0 (by decide) ?_
  refine lv_istore_n (lv' := [(3, .int 0), (0, .ref h), (1, .int x1), (2, .int x2)]) hx hb dX12_waiterOf_1 rfl hl (by decide) rfl (fun ls hl => ?_)
  refine l_X12_waiterOf_2 B _ _  ?_ ?_ N _ _ _ _ hf  w (lv_sub hl [1, 2, 3, 0] rfl)
  · intro H locs ls hf w hl
    refine lv_iconst (v := (-1)) hx hb dX12_waiterOf_32 (by decide) ?_
    cases hf
    exact mx_iret B w ⟨rfl, rfl⟩ dX12_waiterOf_33
  · intro x3 H locs ls hf w hl
    refine lv_iload_n hx hb dX12_waiterOf_24 rfl (lv_at hl 0 rfl) ?_
    cases hf
    exact mx_iret B w ⟨rfl, rfl⟩ dX12_waiterOf_25
-- X12_joins
def po_X12_joins (E : mE) (h : Nat) (a_g : Nat) (a_kept : Nat) (a_tape : Nat) (a_written : Nat) (a_asked : Nat) (a_there : Nat) (a_counts : Nat) (a_lasts : Nat) (a_cames : Nat)  (g : Nat → Int32) (kept : Nat → Int32) (isKept : Int32) (tape : Nat → Int32) (taped : Int32) (spot : Int32) (written : Nat → Int32) (writtenMany : Int32) (asked : Nat → Int32) (askedMany : Int32) (there : Nat → Int32) (counts : Nat → Int32) (lasts : Nat → Int32) (cames : Nat → Int32)  (o : (Nat → Int32)) : Option Value → va_W → Prop := (fun (v : Option Value) (w' : va_W) => v = none ∧ w' = [(h, .inr (11, [.ref a_g, .ref a_kept, .int isKept, .ref a_tape, .int taped, .int spot, .ref a_written, .int writtenMany, .ref a_asked, .int askedMany, .ref a_there, .ref a_counts, .ref a_lasts, .ref a_cames])), (a_g, .inl (E.2.1, 8787, .inl o)), (a_kept, .inl (E.2.1, 8787, .inl kept)), (a_tape, .inl (E.2.2.1, 60, .inl tape)), (a_written, .inl (E.2.1, 40, .inl written)), (a_asked, .inl (E.2.1, 60, .inl asked)), (a_there, .inl (E.2.1, 12, .inl there)), (a_counts, .inl (E.2.1, 12, .inl counts)), (a_lasts, .inl (E.2.1, 12, .inl lasts)), (a_cames, .inl (E.2.1, 12, .inl cames))])
noncomputable def F_X12_joins (N : Nat)  (g : Nat → Int32) (x1 : Int32) (x2 : Int32) : Option ((Nat → Int32)) :=
  bd (F_X12_waiterOf N g x1 x2) (fun o_1 =>
  if (0 ≤ o_1 : Prop) then
  some (g)
  else
  lt (2003 + (x1 * 20)) (fun x3_2 =>
  ld g 8787 (x3_2 + 3) (fun v_3 =>
  sto g 8787 ((x3_2 + 4) + v_3) x2 (fun g_4 =>
  ld g_4 8787 (x3_2 + 3) (fun v_5 =>
  sto g_4 8787 (x3_2 + 3) (v_5 + 1) (fun g_6 =>
  ld g_6 8787 23 (fun v_7 =>
  sto g_6 8787 23 (v_7 + 1) (fun g_8 =>
  ld g_8 8787 (x3_2 + 0) (fun v_9 =>
  bd (F_X12_happens N g_8 2 v_9) (fun o_10 =>
  some (o_10)))))))))))
set_option maxHeartbeats 4000000 in
set_option maxRecDepth 100000 in
theorem d_X12_joins (E : mE) (l : Launch) (N : Nat) (h : Nat) (a_g : Nat) (a_kept : Nat) (a_tape : Nat) (a_written : Nat) (a_asked : Nat) (a_there : Nat) (a_counts : Nat) (a_lasts : Nat) (a_cames : Nat)  (g : Nat → Int32) (kept : Nat → Int32) (isKept : Int32) (tape : Nat → Int32) (taped : Int32) (spot : Int32) (written : Nat → Int32) (writtenMany : Int32) (asked : Nat → Int32) (askedMany : Int32) (there : Nat → Int32) (counts : Nat → Int32) (lasts : Nat → Int32) (cames : Nat → Int32)  (x1 : Int32) (x2 : Int32)  (o : (Nat → Int32)) (hf : F_X12_joins N g x1 x2 = some o) : MX E l yX12_joins cX12_joins 4 none ({ frames := 4, cells := 0, slots := 0, locals := 91 } : Room) [.ref h, .int x1, .int x2] [(h, .inr (11, [.ref a_g, .ref a_kept, .int isKept, .ref a_tape, .int taped, .int spot, .ref a_written, .int writtenMany, .ref a_asked, .int askedMany, .ref a_there, .ref a_counts, .ref a_lasts, .ref a_cames])), (a_g, .inl (E.2.1, 8787, .inl g)), (a_kept, .inl (E.2.1, 8787, .inl kept)), (a_tape, .inl (E.2.2.1, 60, .inl tape)), (a_written, .inl (E.2.1, 40, .inl written)), (a_asked, .inl (E.2.1, 60, .inl asked)), (a_there, .inl (E.2.1, 12, .inl there)), (a_counts, .inl (E.2.1, 12, .inl counts)), (a_lasts, .inl (E.2.1, 12, .inl lasts)), (a_cames, .inl (E.2.1, 12, .inl cames))] (po_X12_joins E h a_g a_kept a_tape a_written a_asked a_there a_counts a_lasts a_cames g kept isKept tape taped spot written writtenMany asked askedMany there counts lasts cames o) := by
  refine mx_intro (by decide +kernel) (Nat.le_of_ble_eq_true rfl) ?_
  intro p e s m args below meth c A Q ls B w hl
  obtain ⟨hx, hb, hml, hown, hts⟩ := id B.1
  unfold F_X12_joins at hf
  have hl : lv_has ls 4 [(0, .ref h), (1, .int x1), (2, .int x2)] := hl
  refine lv_aload_n hx hb dX12_joins_0 rfl (lv_at hl 0 rfl) ?_
  refine lv_iload_n hx hb dX12_joins_1 rfl (lv_at hl 1 rfl) ?_
  refine lv_iload_n hx hb dX12_joins_2 rfl (lv_at hl 2 rfl) ?_
  obtain ⟨o_1, hq, hf⟩ := bd_e hf
  refine mx_callV (As := [.int x1, .int x2]) (rest := []) (wr := []) (d_X12_waiterOf E l N h a_g a_kept a_tape a_written a_asked a_there a_counts a_lasts a_cames g kept isKept tape taped spot written writtenMany asked askedMany there counts lasts cames x1 x2  o_1 hq) B w [0, 1, 2, 3, 4, 5, 6, 7, 8, 9] [] rfl rfl (by decide) (by decide) (by decide) 0 rfl rfl cv_X12_waiterOf kw_1492 2 (by decide +kernel) ⟨Nat.le_of_ble_eq_true rfl, Nat.le_of_ble_eq_true rfl⟩ rfl hl.1 rfl (Nat.le_of_ble_eq_true rfl) dX12_joins_3 rfl rfl ⟨Nat.zero_le _, Nat.zero_le _⟩ (fun v w' H locs hpo w => ?_)
  clear hq
  obtain ⟨rfl, rfl⟩ := hpo
  have w : mW E A s [(h, .inr (11, [.ref a_g, .ref a_kept, .int isKept, .ref a_tape, .int taped, .int spot, .ref a_written, .int writtenMany, .ref a_asked, .int askedMany, .ref a_there, .ref a_counts, .ref a_lasts, .ref a_cames])), (a_g, .inl (E.2.1, 8787, .inl g)), (a_kept, .inl (E.2.1, 8787, .inl kept)), (a_tape, .inl (E.2.2.1, 60, .inl tape)), (a_written, .inl (E.2.1, 40, .inl written)), (a_asked, .inl (E.2.1, 60, .inl asked)), (a_there, .inl (E.2.1, 12, .inl there)), (a_counts, .inl (E.2.1, 12, .inl counts)), (a_lasts, .inl (E.2.1, 12, .inl lasts)), (a_cames, .inl (E.2.1, 12, .inl cames))] H locs := w
  refine lv_if_ge (tgt := 72) hx hb dX12_joins_6 (by decide) (fun hc => ?_) (fun hc => ?_)
  · have hf := it_t hc hf
    cases hf
    exact mx_vret B w ⟨rfl, rfl⟩ dX12_joins_72
  · have hf := it_f hc hf
    refine lv_sipush (v := 2003) hx hb dX12_joins_9 (by decide) ?_
    refine lv_iload_n hx hb dX12_joins_12 rfl (lv_at hl 1 rfl) ?_
    refine lv_bipush (v := 20) hx hb dX12_joins_13 (by decide) ?_
    refine lv_imul hx hb dX12_joins_15 ?_
    refine lv_iadd hx hb dX12_joins_16 ?_
    refine lv_topi (fun x3_2 ev => ?_)
    have hf := lt_n ev hf; clear ev
    refine lv_istore_n (lv' := [(3, .int x3_2), (0, .ref h), (1, .int x1), (2, .int x2)]) hx hb dX12_joins_17 rfl hl (by decide) rfl (fun ls hl => ?_)
    refine lv_aload_n hx hb dX12_joins_18 rfl (lv_at hl 1 rfl) ?_
    refine mx_get B w 0 fl_X12_9 rfl rfl dX12_joins_19 ?_
    refine lv_iload_n hx hb dX12_joins_22 rfl (lv_at hl 0 rfl) ?_
    refine lv_iconst (v := 4) hx hb dX12_joins_23 (by decide) ?_
    refine lv_iadd hx hb dX12_joins_24 ?_
    refine lv_aload_n hx hb dX12_joins_25 rfl (lv_at hl 1 rfl) ?_
    refine mx_get B w 0 fl_X12_9 rfl rfl dX12_joins_26 ?_
    refine lv_iload_n hx hb dX12_joins_29 rfl (lv_at hl 0 rfl) ?_
    refine lv_iconst (v := 3) hx hb dX12_joins_30 (by decide) ?_
    refine lv_iadd hx hb dX12_joins_31 ?_
    obtain ⟨hin, hf⟩ := ld_e hf
    refine mx_iald B w 1 rfl hin dX12_joins_32 (fun v_3 ev => ?_)
    have hf := hf _ ev; clear ev
    refine lv_iadd hx hb dX12_joins_33 ?_
    refine lv_iload_n hx hb dX12_joins_34 rfl (lv_at hl 3 rfl) ?_
    obtain ⟨hin, hf⟩ := sto_e hf
    refine mx_iast B w 1 rfl hin dX12_joins_35 (fun g_4 H locs ev w => ?_)
    have hf := hf _ ev; clear ev
    have w : mW E A s [(h, .inr (11, [.ref a_g, .ref a_kept, .int isKept, .ref a_tape, .int taped, .int spot, .ref a_written, .int writtenMany, .ref a_asked, .int askedMany, .ref a_there, .ref a_counts, .ref a_lasts, .ref a_cames])), (a_g, .inl (E.2.1, 8787, .inl g_4)), (a_kept, .inl (E.2.1, 8787, .inl kept)), (a_tape, .inl (E.2.2.1, 60, .inl tape)), (a_written, .inl (E.2.1, 40, .inl written)), (a_asked, .inl (E.2.1, 60, .inl asked)), (a_there, .inl (E.2.1, 12, .inl there)), (a_counts, .inl (E.2.1, 12, .inl counts)), (a_lasts, .inl (E.2.1, 12, .inl lasts)), (a_cames, .inl (E.2.1, 12, .inl cames))] H locs := w
    refine lv_aload_n hx hb dX12_joins_36 rfl (lv_at hl 1 rfl) ?_
    refine mx_get B w 0 fl_X12_9 rfl rfl dX12_joins_37 ?_
    refine lv_iload_n hx hb dX12_joins_40 rfl (lv_at hl 0 rfl) ?_
    refine lv_iconst (v := 3) hx hb dX12_joins_41 (by decide) ?_
    refine lv_iadd hx hb dX12_joins_42 ?_
    refine lv_dup2_11 hx hb dX12_joins_43 rfl rfl ?_
    obtain ⟨hin, hf⟩ := ld_e hf
    refine mx_iald B w 1 rfl hin dX12_joins_44 (fun v_5 ev => ?_)
    have hf := hf _ ev; clear ev
    refine lv_iconst (v := 1) hx hb dX12_joins_45 (by decide) ?_
    refine lv_iadd hx hb dX12_joins_46 ?_
    obtain ⟨hin, hf⟩ := sto_e hf
    refine mx_iast B w 1 rfl hin dX12_joins_47 (fun g_6 H locs ev w => ?_)
    have hf := hf _ ev; clear ev
    have w : mW E A s [(h, .inr (11, [.ref a_g, .ref a_kept, .int isKept, .ref a_tape, .int taped, .int spot, .ref a_written, .int writtenMany, .ref a_asked, .int askedMany, .ref a_there, .ref a_counts, .ref a_lasts, .ref a_cames])), (a_g, .inl (E.2.1, 8787, .inl g_6)), (a_kept, .inl (E.2.1, 8787, .inl kept)), (a_tape, .inl (E.2.2.1, 60, .inl tape)), (a_written, .inl (E.2.1, 40, .inl written)), (a_asked, .inl (E.2.1, 60, .inl asked)), (a_there, .inl (E.2.1, 12, .inl there)), (a_counts, .inl (E.2.1, 12, .inl counts)), (a_lasts, .inl (E.2.1, 12, .inl lasts)), (a_cames, .inl (E.2.1, 12, .inl cames))] H locs := w
    refine lv_aload_n hx hb dX12_joins_48 rfl (lv_at hl 1 rfl) ?_
    refine mx_get B w 0 fl_X12_9 rfl rfl dX12_joins_49 ?_
    refine lv_bipush (v := 23) hx hb dX12_joins_52 (by decide) ?_
    refine lv_dup2_11 hx hb dX12_joins_54 rfl rfl ?_
    obtain ⟨hin, hf⟩ := ld_e hf
    refine mx_iald B w 1 rfl hin dX12_joins_55 (fun v_7 ev => ?_)
    have hf := hf _ ev; clear ev
    refine lv_iconst (v := 1) hx hb dX12_joins_56 (by decide) ?_
    refine lv_iadd hx hb dX12_joins_57 ?_
    obtain ⟨hin, hf⟩ := sto_e hf
    refine mx_iast B w 1 rfl hin dX12_joins_58 (fun g_8 H locs ev w => ?_)
    have hf := hf _ ev; clear ev
    have w : mW E A s [(h, .inr (11, [.ref a_g, .ref a_kept, .int isKept, .ref a_tape, .int taped, .int spot, .ref a_written, .int writtenMany, .ref a_asked, .int askedMany, .ref a_there, .ref a_counts, .ref a_lasts, .ref a_cames])), (a_g, .inl (E.2.1, 8787, .inl g_8)), (a_kept, .inl (E.2.1, 8787, .inl kept)), (a_tape, .inl (E.2.2.1, 60, .inl tape)), (a_written, .inl (E.2.1, 40, .inl written)), (a_asked, .inl (E.2.1, 60, .inl asked)), (a_there, .inl (E.2.1, 12, .inl there)), (a_counts, .inl (E.2.1, 12, .inl counts)), (a_lasts, .inl (E.2.1, 12, .inl lasts)), (a_cames, .inl (E.2.1, 12, .inl cames))] H locs := w
    refine lv_aload_n hx hb dX12_joins_59 rfl (lv_at hl 1 rfl) ?_
    refine lv_iconst (v := 2) hx hb dX12_joins_60 (by decide) ?_
    refine lv_aload_n hx hb dX12_joins_61 rfl (lv_at hl 1 rfl) ?_
    refine mx_get B w 0 fl_X12_9 rfl rfl dX12_joins_62 ?_
    refine lv_iload_n hx hb dX12_joins_65 rfl (lv_at hl 0 rfl) ?_
    refine lv_iconst (v := 0) hx hb dX12_joins_66 (by decide) ?_
    refine lv_iadd hx hb dX12_joins_67 ?_
    obtain ⟨hin, hf⟩ := ld_e hf
    refine mx_iald B w 1 rfl hin dX12_joins_68 (fun v_9 ev => ?_)
    have hf := hf _ ev; clear ev
    obtain ⟨o_10, hq, hf⟩ := bd_e hf
    refine mx_callV (As := [.int 2, .int v_9]) (rest := []) (wr := []) (d_X12_happens E l N h a_g a_kept a_tape a_written a_asked a_there a_counts a_lasts a_cames g_8 kept isKept tape taped spot written writtenMany asked askedMany there counts lasts cames 2 v_9  o_10 hq) B w [0, 1, 2, 3, 4, 5, 6, 7, 8, 9] [] rfl rfl (by decide) (by decide) (by decide) 0 rfl rfl cv_X12_happens kw_1373 2 (by decide +kernel) ⟨Nat.le_of_ble_eq_true rfl, Nat.le_of_ble_eq_true rfl⟩ rfl hl.1 rfl (Nat.le_of_ble_eq_true rfl) dX12_joins_69 rfl rfl ⟨Nat.zero_le _, Nat.zero_le _⟩ (fun v w' H locs hpo w => ?_)
    clear hq
    obtain ⟨rfl, rfl⟩ := hpo
    have w : mW E A s [(h, .inr (11, [.ref a_g, .ref a_kept, .int isKept, .ref a_tape, .int taped, .int spot, .ref a_written, .int writtenMany, .ref a_asked, .int askedMany, .ref a_there, .ref a_counts, .ref a_lasts, .ref a_cames])), (a_g, .inl (E.2.1, 8787, .inl o_10)), (a_kept, .inl (E.2.1, 8787, .inl kept)), (a_tape, .inl (E.2.2.1, 60, .inl tape)), (a_written, .inl (E.2.1, 40, .inl written)), (a_asked, .inl (E.2.1, 60, .inl asked)), (a_there, .inl (E.2.1, 12, .inl there)), (a_counts, .inl (E.2.1, 12, .inl counts)), (a_lasts, .inl (E.2.1, 12, .inl lasts)), (a_cames, .inl (E.2.1, 12, .inl cames))] H locs := w
    cases hf
    exact mx_vret B w ⟨rfl, rfl⟩ dX12_joins_72
-- X12_asks
def po_X12_asks (E : mE) (h : Nat) (a_g : Nat) (a_kept : Nat) (a_tape : Nat) (a_written : Nat) (a_asked : Nat) (a_there : Nat) (a_counts : Nat) (a_lasts : Nat) (a_cames : Nat)  (g : Nat → Int32) (kept : Nat → Int32) (isKept : Int32) (tape : Nat → Int32) (taped : Int32) (spot : Int32) (written : Nat → Int32) (writtenMany : Int32) (asked : Nat → Int32) (askedMany : Int32) (there : Nat → Int32) (counts : Nat → Int32) (lasts : Nat → Int32) (cames : Nat → Int32)  (o : Int32 × (Nat → Int32)) : Option Value → va_W → Prop := (fun (v : Option Value) (w' : va_W) => v = some (.int o.1) ∧ w' = [(h, .inr (11, [.ref a_g, .ref a_kept, .int isKept, .ref a_tape, .int taped, .int spot, .ref a_written, .int writtenMany, .ref a_asked, .int askedMany, .ref a_there, .ref a_counts, .ref a_lasts, .ref a_cames])), (a_g, .inl (E.2.1, 8787, .inl o.2)), (a_kept, .inl (E.2.1, 8787, .inl kept)), (a_tape, .inl (E.2.2.1, 60, .inl tape)), (a_written, .inl (E.2.1, 40, .inl written)), (a_asked, .inl (E.2.1, 60, .inl asked)), (a_there, .inl (E.2.1, 12, .inl there)), (a_counts, .inl (E.2.1, 12, .inl counts)), (a_lasts, .inl (E.2.1, 12, .inl lasts)), (a_cames, .inl (E.2.1, 12, .inl cames))])
noncomputable def J_X12_asks_86 (N : Nat)   (x1 : Int32) (x2 : Int32) (g : Nat → Int32) : Option (Int32 × (Nat → Int32)) :=
  bd (F_X12_loadOf N g x1) (fun o_3 =>
  if (o_3 < 0 : Prop) then
  bd (F_X12_lines N g x1 x2) (fun o_4 =>
  some ((-1006), o_4))
  else
  bd (F_X12_joins N g o_3 x2) (fun o_5 =>
  some ((-1006), o_5)))
set_option maxHeartbeats 4000000 in
set_option maxRecDepth 100000 in
theorem j_X12_asks_86 {E : mE} {l : Launch} {p : Program} {e : Env} {s : State} {m : MethodId} {args : Array Value} {below : List Frame} {meth : Method} {c : Code} {A : Nat → Prop} {Q : State → Prop} {N : Nat} {h : Nat} {a_g : Nat} {a_kept : Nat} {a_tape : Nat} {a_written : Nat} {a_asked : Nat} {a_there : Nat} {a_counts : Nat} {a_lasts : Nat} {a_cames : Nat}  {g0 : Nat → Int32} {kept : Nat → Int32} {isKept : Int32} {tape : Nat → Int32} {taped : Int32} {spot : Int32} {written : Nat → Int32} {writtenMany : Int32} {asked : Nat → Int32} {askedMany : Int32} {there : Nat → Int32} {counts : Nat → Int32} {lasts : Nat → Int32} {cames : Nat → Int32}  {o : Int32 × (Nat → Int32)} (B : mB E yX12_asks cX12_asks 6 (some .int) 0 0 (po_X12_asks E h a_g a_kept a_tape a_written a_asked a_there a_counts a_lasts a_cames g0 kept isKept tape taped spot written writtenMany asked askedMany there counts lasts cames o) p s m args below meth c A Q) {x1 : Int32} {x2 : Int32} {g : Nat → Int32}    {H : Heap} {locs : List Loc} {ls : Array Slot} (hf : J_X12_asks_86 N x1 x2 g = some o)  (w : mW E A s [(h, .inr (11, [.ref a_g, .ref a_kept, .int isKept, .ref a_tape, .int taped, .int spot, .ref a_written, .int writtenMany, .ref a_asked, .int askedMany, .ref a_there, .ref a_counts, .ref a_lasts, .ref a_cames])), (a_g, .inl (E.2.1, 8787, .inl g)), (a_kept, .inl (E.2.1, 8787, .inl kept)), (a_tape, .inl (E.2.2.1, 60, .inl tape)), (a_written, .inl (E.2.1, 40, .inl written)), (a_asked, .inl (E.2.1, 60, .inl asked)), (a_there, .inl (E.2.1, 12, .inl there)), (a_counts, .inl (E.2.1, 12, .inl counts)), (a_lasts, .inl (E.2.1, 12, .inl lasts)), (a_cames, .inl (E.2.1, 12, .inl cames))] H locs) (hl : lv_has ls 6 [(0, .ref h), (1, .int x1), (2, .int x2)]) : W p l e ({ frames := 10, cells := 0, slots := 0, locals := 233 } : Room) s m args below meth c H locs 0 0 Q (F0 m 86 ls []) := by
  obtain ⟨hx, hb, hml, hown, hts⟩ := id B.1
  unfold J_X12_asks_86 at hf
  refine lv_aload_n hx hb dX12_asks_86 rfl (lv_at hl 0 rfl) ?_
  refine lv_iload_n hx hb dX12_asks_87 rfl (lv_at hl 1 rfl) ?_
  obtain ⟨o_3, hq, hf⟩ := bd_e hf
  refine mx_callV (As := [.int x1]) (rest := []) (wr := []) (d_X12_loadOf E l N h a_g a_kept a_tape a_written a_asked a_there a_counts a_lasts a_cames g kept isKept tape taped spot written writtenMany asked askedMany there counts lasts cames x1  o_3 hq) B w [0, 1, 2, 3, 4, 5, 6, 7, 8, 9] [] rfl rfl (by decide) (by decide) (by decide) 0 rfl rfl cv_X12_loadOf kw_1410 1 (by decide +kernel) ⟨Nat.le_of_ble_eq_true rfl, Nat.le_of_ble_eq_true rfl⟩ rfl hl.1 rfl (Nat.le_of_ble_eq_true rfl) dX12_asks_88 rfl rfl ⟨Nat.zero_le _, Nat.zero_le _⟩ (fun v w' H locs hpo w => ?_)
  clear hq
  obtain ⟨rfl, rfl⟩ := hpo
  have w : mW E A s [(h, .inr (11, [.ref a_g, .ref a_kept, .int isKept, .ref a_tape, .int taped, .int spot, .ref a_written, .int writtenMany, .ref a_asked, .int askedMany, .ref a_there, .ref a_counts, .ref a_lasts, .ref a_cames])), (a_g, .inl (E.2.1, 8787, .inl g)), (a_kept, .inl (E.2.1, 8787, .inl kept)), (a_tape, .inl (E.2.2.1, 60, .inl tape)), (a_written, .inl (E.2.1, 40, .inl written)), (a_asked, .inl (E.2.1, 60, .inl asked)), (a_there, .inl (E.2.1, 12, .inl there)), (a_counts, .inl (E.2.1, 12, .inl counts)), (a_lasts, .inl (E.2.1, 12, .inl lasts)), (a_cames, .inl (E.2.1, 12, .inl cames))] H locs := w
  refine lv_istore (lv' := [(5, .int o_3), (0, .ref h), (1, .int x1), (2, .int x2)]) hx hb dX12_asks_91 hl (by decide) rfl (fun ls hl => ?_)
  refine lv_iload hx hb dX12_asks_93 (lv_at hl 0 rfl) ?_
  refine lv_if_lt (tgt := 108) hx hb dX12_asks_95 (by decide) (fun hc => ?_) (fun hc => ?_)
  · have hf := it_t hc hf
    refine lv_aload_n hx hb dX12_asks_108 rfl (lv_at hl 1 rfl) ?_
    refine lv_iload_n hx hb dX12_asks_109 rfl (lv_at hl 2 rfl) ?_
    refine lv_iload_n hx hb dX12_asks_110 rfl (lv_at hl 3 rfl) ?_
    obtain ⟨o_4, hq, hf⟩ := bd_e hf
    refine mx_callV (As := [.int x1, .int x2]) (rest := []) (wr := []) (d_X12_lines E l N h a_g a_kept a_tape a_written a_asked a_there a_counts a_lasts a_cames g kept isKept tape taped spot written writtenMany asked askedMany there counts lasts cames x1 x2  o_4 hq) B w [0, 1, 2, 3, 4, 5, 6, 7, 8, 9] [] rfl rfl (by decide) (by decide) (by decide) 0 rfl rfl cv_X12_lines kw_1480 2 (by decide +kernel) ⟨Nat.le_of_ble_eq_true rfl, Nat.le_of_ble_eq_true rfl⟩ rfl hl.1 rfl (Nat.le_of_ble_eq_true rfl) dX12_asks_111 rfl rfl ⟨Nat.zero_le _, Nat.zero_le _⟩ (fun v w' H locs hpo w => ?_)
    clear hq
    obtain ⟨rfl, rfl⟩ := hpo
    have w : mW E A s [(h, .inr (11, [.ref a_g, .ref a_kept, .int isKept, .ref a_tape, .int taped, .int spot, .ref a_written, .int writtenMany, .ref a_asked, .int askedMany, .ref a_there, .ref a_counts, .ref a_lasts, .ref a_cames])), (a_g, .inl (E.2.1, 8787, .inl o_4)), (a_kept, .inl (E.2.1, 8787, .inl kept)), (a_tape, .inl (E.2.2.1, 60, .inl tape)), (a_written, .inl (E.2.1, 40, .inl written)), (a_asked, .inl (E.2.1, 60, .inl asked)), (a_there, .inl (E.2.1, 12, .inl there)), (a_counts, .inl (E.2.1, 12, .inl counts)), (a_lasts, .inl (E.2.1, 12, .inl lasts)), (a_cames, .inl (E.2.1, 12, .inl cames))] H locs := w
    refine lv_sipush (v := (-1006)) hx hb dX12_asks_114 (by decide) ?_
    cases hf
    exact mx_iret B w ⟨rfl, rfl⟩ dX12_asks_117
  · have hf := it_f hc hf
    refine lv_aload_n hx hb dX12_asks_98 rfl (lv_at hl 1 rfl) ?_
    refine lv_iload hx hb dX12_asks_99 (lv_at hl 0 rfl) ?_
    refine lv_iload_n hx hb dX12_asks_101 rfl (lv_at hl 3 rfl) ?_
    obtain ⟨o_5, hq, hf⟩ := bd_e hf
    refine mx_callV (As := [.int o_3, .int x2]) (rest := []) (wr := []) (d_X12_joins E l N h a_g a_kept a_tape a_written a_asked a_there a_counts a_lasts a_cames g kept isKept tape taped spot written writtenMany asked askedMany there counts lasts cames o_3 x2  o_5 hq) B w [0, 1, 2, 3, 4, 5, 6, 7, 8, 9] [] rfl rfl (by decide) (by decide) (by decide) 0 rfl rfl cv_X12_joins kw_1488 2 (by decide +kernel) ⟨Nat.le_of_ble_eq_true rfl, Nat.le_of_ble_eq_true rfl⟩ rfl hl.1 rfl (Nat.le_of_ble_eq_true rfl) dX12_asks_102 rfl rfl ⟨Nat.zero_le _, Nat.zero_le _⟩ (fun v w' H locs hpo w => ?_)
    clear hq
    obtain ⟨rfl, rfl⟩ := hpo
    have w : mW E A s [(h, .inr (11, [.ref a_g, .ref a_kept, .int isKept, .ref a_tape, .int taped, .int spot, .ref a_written, .int writtenMany, .ref a_asked, .int askedMany, .ref a_there, .ref a_counts, .ref a_lasts, .ref a_cames])), (a_g, .inl (E.2.1, 8787, .inl o_5)), (a_kept, .inl (E.2.1, 8787, .inl kept)), (a_tape, .inl (E.2.2.1, 60, .inl tape)), (a_written, .inl (E.2.1, 40, .inl written)), (a_asked, .inl (E.2.1, 60, .inl asked)), (a_there, .inl (E.2.1, 12, .inl there)), (a_counts, .inl (E.2.1, 12, .inl counts)), (a_lasts, .inl (E.2.1, 12, .inl lasts)), (a_cames, .inl (E.2.1, 12, .inl cames))] H locs := w
    refine lv_goto (tgt := 114) hx hb dX12_asks_105 (by decide) ?_
    refine lv_sipush (v := (-1006)) hx hb dX12_asks_114 (by decide) ?_
    cases hf
    exact mx_iret B w ⟨rfl, rfl⟩ dX12_asks_117
noncomputable def J_X12_asks_69 (N : Nat)   (x1 : Int32) (x2 : Int32) (x4 : Int32) (g : Nat → Int32) : Option (Int32 × (Nat → Int32)) :=
  if (x4 < 0 : Prop) then
  J_X12_asks_86 N x1 x2 g
  else
  bd (F_X12_takesOut N g 14 1898 5 x4) (fun o_6 =>
  J_X12_asks_86 N x1 x2 o_6)
set_option maxHeartbeats 4000000 in
set_option maxRecDepth 100000 in
theorem j_X12_asks_69 {E : mE} {l : Launch} {p : Program} {e : Env} {s : State} {m : MethodId} {args : Array Value} {below : List Frame} {meth : Method} {c : Code} {A : Nat → Prop} {Q : State → Prop} {N : Nat} {h : Nat} {a_g : Nat} {a_kept : Nat} {a_tape : Nat} {a_written : Nat} {a_asked : Nat} {a_there : Nat} {a_counts : Nat} {a_lasts : Nat} {a_cames : Nat}  {g0 : Nat → Int32} {kept : Nat → Int32} {isKept : Int32} {tape : Nat → Int32} {taped : Int32} {spot : Int32} {written : Nat → Int32} {writtenMany : Int32} {asked : Nat → Int32} {askedMany : Int32} {there : Nat → Int32} {counts : Nat → Int32} {lasts : Nat → Int32} {cames : Nat → Int32}  {o : Int32 × (Nat → Int32)} (B : mB E yX12_asks cX12_asks 6 (some .int) 0 0 (po_X12_asks E h a_g a_kept a_tape a_written a_asked a_there a_counts a_lasts a_cames g0 kept isKept tape taped spot written writtenMany asked askedMany there counts lasts cames o) p s m args below meth c A Q) {x1 : Int32} {x2 : Int32} {x4 : Int32} {g : Nat → Int32}    {H : Heap} {locs : List Loc} {ls : Array Slot} (hf : J_X12_asks_69 N x1 x2 x4 g = some o)  (w : mW E A s [(h, .inr (11, [.ref a_g, .ref a_kept, .int isKept, .ref a_tape, .int taped, .int spot, .ref a_written, .int writtenMany, .ref a_asked, .int askedMany, .ref a_there, .ref a_counts, .ref a_lasts, .ref a_cames])), (a_g, .inl (E.2.1, 8787, .inl g)), (a_kept, .inl (E.2.1, 8787, .inl kept)), (a_tape, .inl (E.2.2.1, 60, .inl tape)), (a_written, .inl (E.2.1, 40, .inl written)), (a_asked, .inl (E.2.1, 60, .inl asked)), (a_there, .inl (E.2.1, 12, .inl there)), (a_counts, .inl (E.2.1, 12, .inl counts)), (a_lasts, .inl (E.2.1, 12, .inl lasts)), (a_cames, .inl (E.2.1, 12, .inl cames))] H locs) (hl : lv_has ls 6 [(0, .ref h), (1, .int x1), (2, .int x2), (4, .int x4)]) : W p l e ({ frames := 10, cells := 0, slots := 0, locals := 233 } : Room) s m args below meth c H locs 0 0 Q (F0 m 69 ls []) := by
  obtain ⟨hx, hb, hml, hown, hts⟩ := id B.1
  unfold J_X12_asks_69 at hf
  refine lv_iload hx hb dX12_asks_69 (lv_at hl 3 rfl) ?_
  refine lv_if_lt (tgt := 86) hx hb dX12_asks_71 (by decide) (fun hc => ?_) (fun hc => ?_)
  · have hf := it_t hc hf
    exact j_X12_asks_86 B   hf  w (lv_sub hl [0, 1, 2] rfl)
  · have hf := it_f hc hf
    refine lv_aload_n hx hb dX12_asks_74 rfl (lv_at hl 0 rfl) ?_
    refine lv_bipush (v := 14) hx hb dX12_asks_75 (by decide) ?_
    refine lv_sipush (v := 1898) hx hb dX12_asks_77 (by decide) ?_
    refine lv_iconst (v := 5) hx hb dX12_asks_80 (by decide) ?_
    refine lv_iload hx hb dX12_asks_81 (lv_at hl 3 rfl) ?_
    obtain ⟨o_6, hq, hf⟩ := bd_e hf
    refine mx_callV (As := [.int 14, .int 1898, .int 5, .int x4]) (rest := []) (wr := []) (d_X12_takesOut E l N h a_g a_kept a_tape a_written a_asked a_there a_counts a_lasts a_cames g kept isKept tape taped spot written writtenMany asked askedMany there counts lasts cames 14 1898 5 x4  o_6 hq) B w [0, 1, 2, 3, 4, 5, 6, 7, 8, 9] [] rfl rfl (by decide) (by decide) (by decide) 0 rfl rfl cv_X12_takesOut kw_1357 4 (by decide +kernel) ⟨Nat.le_of_ble_eq_true rfl, Nat.le_of_ble_eq_true rfl⟩ rfl hl.1 rfl (Nat.le_of_ble_eq_true rfl) dX12_asks_83 rfl rfl ⟨Nat.zero_le _, Nat.zero_le _⟩ (fun v w' H locs hpo w => ?_)
    clear hq
    obtain ⟨rfl, rfl⟩ := hpo
    have w : mW E A s [(h, .inr (11, [.ref a_g, .ref a_kept, .int isKept, .ref a_tape, .int taped, .int spot, .ref a_written, .int writtenMany, .ref a_asked, .int askedMany, .ref a_there, .ref a_counts, .ref a_lasts, .ref a_cames])), (a_g, .inl (E.2.1, 8787, .inl o_6)), (a_kept, .inl (E.2.1, 8787, .inl kept)), (a_tape, .inl (E.2.2.1, 60, .inl tape)), (a_written, .inl (E.2.1, 40, .inl written)), (a_asked, .inl (E.2.1, 60, .inl asked)), (a_there, .inl (E.2.1, 12, .inl there)), (a_counts, .inl (E.2.1, 12, .inl counts)), (a_lasts, .inl (E.2.1, 12, .inl lasts)), (a_cames, .inl (E.2.1, 12, .inl cames))] H locs := w
    exact j_X12_asks_86 B   hf  w (lv_sub hl [0, 1, 2] rfl)
noncomputable def J_X12_asks_36 (N : Nat)   (x1 : Int32) (x2 : Int32) (g : Nat → Int32) : Option (Int32 × (Nat → Int32)) :=
  bd (F_X12_coldOf N g x1) (fun o_2 =>
  if (o_2 < 0 : Prop) then
  J_X12_asks_69 N x1 x2 o_2 g
  else
  bd (F_X12_coldAt g o_2 4) (fun o_7 =>
  bd (F_X12_isOver g o_7) (fun o_8 =>
  if (o_8 = 0 : Prop) then
  bd (F_X12_warms N g o_2) (fun o_9 =>
  some (o_9.1, o_9.2))
  else
  J_X12_asks_69 N x1 x2 o_2 g)))
set_option maxHeartbeats 4000000 in
set_option maxRecDepth 100000 in
theorem j_X12_asks_36 {E : mE} {l : Launch} {p : Program} {e : Env} {s : State} {m : MethodId} {args : Array Value} {below : List Frame} {meth : Method} {c : Code} {A : Nat → Prop} {Q : State → Prop} {N : Nat} {h : Nat} {a_g : Nat} {a_kept : Nat} {a_tape : Nat} {a_written : Nat} {a_asked : Nat} {a_there : Nat} {a_counts : Nat} {a_lasts : Nat} {a_cames : Nat}  {g0 : Nat → Int32} {kept : Nat → Int32} {isKept : Int32} {tape : Nat → Int32} {taped : Int32} {spot : Int32} {written : Nat → Int32} {writtenMany : Int32} {asked : Nat → Int32} {askedMany : Int32} {there : Nat → Int32} {counts : Nat → Int32} {lasts : Nat → Int32} {cames : Nat → Int32}  {o : Int32 × (Nat → Int32)} (B : mB E yX12_asks cX12_asks 6 (some .int) 0 0 (po_X12_asks E h a_g a_kept a_tape a_written a_asked a_there a_counts a_lasts a_cames g0 kept isKept tape taped spot written writtenMany asked askedMany there counts lasts cames o) p s m args below meth c A Q) {x1 : Int32} {x2 : Int32} {g : Nat → Int32}    {H : Heap} {locs : List Loc} {ls : Array Slot} (hf : J_X12_asks_36 N x1 x2 g = some o)  (w : mW E A s [(h, .inr (11, [.ref a_g, .ref a_kept, .int isKept, .ref a_tape, .int taped, .int spot, .ref a_written, .int writtenMany, .ref a_asked, .int askedMany, .ref a_there, .ref a_counts, .ref a_lasts, .ref a_cames])), (a_g, .inl (E.2.1, 8787, .inl g)), (a_kept, .inl (E.2.1, 8787, .inl kept)), (a_tape, .inl (E.2.2.1, 60, .inl tape)), (a_written, .inl (E.2.1, 40, .inl written)), (a_asked, .inl (E.2.1, 60, .inl asked)), (a_there, .inl (E.2.1, 12, .inl there)), (a_counts, .inl (E.2.1, 12, .inl counts)), (a_lasts, .inl (E.2.1, 12, .inl lasts)), (a_cames, .inl (E.2.1, 12, .inl cames))] H locs) (hl : lv_has ls 6 [(0, .ref h), (1, .int x1), (2, .int x2)]) : W p l e ({ frames := 10, cells := 0, slots := 0, locals := 233 } : Room) s m args below meth c H locs 0 0 Q (F0 m 36 ls []) := by
  obtain ⟨hx, hb, hml, hown, hts⟩ := id B.1
  unfold J_X12_asks_36 at hf
  refine lv_aload_n hx hb dX12_asks_36 rfl (lv_at hl 0 rfl) ?_
  refine lv_iload_n hx hb dX12_asks_37 rfl (lv_at hl 1 rfl) ?_
  obtain ⟨o_2, hq, hf⟩ := bd_e hf
  refine mx_callV (As := [.int x1]) (rest := []) (wr := []) (d_X12_coldOf E l N h a_g a_kept a_tape a_written a_asked a_there a_counts a_lasts a_cames g kept isKept tape taped spot written writtenMany asked askedMany there counts lasts cames x1  o_2 hq) B w [0, 1, 2, 3, 4, 5, 6, 7, 8, 9] [] rfl rfl (by decide) (by decide) (by decide) 0 rfl rfl cv_X12_coldOf kw_1414 1 (by decide +kernel) ⟨Nat.le_of_ble_eq_true rfl, Nat.le_of_ble_eq_true rfl⟩ rfl hl.1 rfl (Nat.le_of_ble_eq_true rfl) dX12_asks_38 rfl rfl ⟨Nat.zero_le _, Nat.zero_le _⟩ (fun v w' H locs hpo w => ?_)
  clear hq
  obtain ⟨rfl, rfl⟩ := hpo
  have w : mW E A s [(h, .inr (11, [.ref a_g, .ref a_kept, .int isKept, .ref a_tape, .int taped, .int spot, .ref a_written, .int writtenMany, .ref a_asked, .int askedMany, .ref a_there, .ref a_counts, .ref a_lasts, .ref a_cames])), (a_g, .inl (E.2.1, 8787, .inl g)), (a_kept, .inl (E.2.1, 8787, .inl kept)), (a_tape, .inl (E.2.2.1, 60, .inl tape)), (a_written, .inl (E.2.1, 40, .inl written)), (a_asked, .inl (E.2.1, 60, .inl asked)), (a_there, .inl (E.2.1, 12, .inl there)), (a_counts, .inl (E.2.1, 12, .inl counts)), (a_lasts, .inl (E.2.1, 12, .inl lasts)), (a_cames, .inl (E.2.1, 12, .inl cames))] H locs := w
  refine lv_istore (lv' := [(4, .int o_2), (0, .ref h), (1, .int x1), (2, .int x2)]) hx hb dX12_asks_41 hl (by decide) rfl (fun ls hl => ?_)
  refine lv_iload hx hb dX12_asks_43 (lv_at hl 0 rfl) ?_
  refine lv_if_lt (tgt := 69) hx hb dX12_asks_45 (by decide) (fun hc => ?_) (fun hc => ?_)
  · have hf := it_t hc hf
    exact j_X12_asks_69 B   hf  w (lv_sub hl [1, 2, 3, 0] rfl)
  · have hf := it_f hc hf
    refine lv_aload_n hx hb dX12_asks_48 rfl (lv_at hl 1 rfl) ?_
    refine lv_aload_n hx hb dX12_asks_49 rfl (lv_at hl 1 rfl) ?_
    refine lv_iload hx hb dX12_asks_50 (lv_at hl 0 rfl) ?_
    refine lv_iconst (v := 4) hx hb dX12_asks_52 (by decide) ?_
    obtain ⟨o_7, hq, hf⟩ := bd_e hf
    refine mx_callV (As := [.int o_2, .int 4]) (rest := [.ref h]) (wr := []) (d_X12_coldAt E l  h a_g a_kept a_tape a_written a_asked a_there a_counts a_lasts a_cames g kept isKept tape taped spot written writtenMany asked askedMany there counts lasts cames o_2 4  o_7 hq) B w [0, 1, 2, 3, 4, 5, 6, 7, 8, 9] [] rfl rfl (by decide) (by decide) (by decide) 0 rfl rfl cv_X12_coldAt kw_1418 2 (by decide +kernel) ⟨Nat.le_of_ble_eq_true rfl, Nat.le_of_ble_eq_true rfl⟩ rfl hl.1 rfl (Nat.le_of_ble_eq_true rfl) dX12_asks_53 rfl rfl ⟨Nat.zero_le _, Nat.zero_le _⟩ (fun v w' H locs hpo w => ?_)
    clear hq
    obtain ⟨rfl, rfl⟩ := hpo
    have w : mW E A s [(h, .inr (11, [.ref a_g, .ref a_kept, .int isKept, .ref a_tape, .int taped, .int spot, .ref a_written, .int writtenMany, .ref a_asked, .int askedMany, .ref a_there, .ref a_counts, .ref a_lasts, .ref a_cames])), (a_g, .inl (E.2.1, 8787, .inl g)), (a_kept, .inl (E.2.1, 8787, .inl kept)), (a_tape, .inl (E.2.2.1, 60, .inl tape)), (a_written, .inl (E.2.1, 40, .inl written)), (a_asked, .inl (E.2.1, 60, .inl asked)), (a_there, .inl (E.2.1, 12, .inl there)), (a_counts, .inl (E.2.1, 12, .inl counts)), (a_lasts, .inl (E.2.1, 12, .inl lasts)), (a_cames, .inl (E.2.1, 12, .inl cames))] H locs := w
    obtain ⟨o_8, hq, hf⟩ := bd_e hf
    refine mx_callV (As := [.int o_7]) (rest := []) (wr := []) (d_X12_isOver E l  h a_g a_kept a_tape a_written a_asked a_there a_counts a_lasts a_cames g kept isKept tape taped spot written writtenMany asked askedMany there counts lasts cames o_7  o_8 hq) B w [0, 1, 2, 3, 4, 5, 6, 7, 8, 9] [] rfl rfl (by decide) (by decide) (by decide) 0 rfl rfl cv_X12_isOver kw_1341 1 (by decide +kernel) ⟨Nat.le_of_ble_eq_true rfl, Nat.le_of_ble_eq_true rfl⟩ rfl hl.1 rfl (Nat.le_of_ble_eq_true rfl) dX12_asks_56 rfl rfl ⟨Nat.zero_le _, Nat.zero_le _⟩ (fun v w' H locs hpo w => ?_)
    clear hq
    obtain ⟨rfl, rfl⟩ := hpo
    have w : mW E A s [(h, .inr (11, [.ref a_g, .ref a_kept, .int isKept, .ref a_tape, .int taped, .int spot, .ref a_written, .int writtenMany, .ref a_asked, .int askedMany, .ref a_there, .ref a_counts, .ref a_lasts, .ref a_cames])), (a_g, .inl (E.2.1, 8787, .inl g)), (a_kept, .inl (E.2.1, 8787, .inl kept)), (a_tape, .inl (E.2.2.1, 60, .inl tape)), (a_written, .inl (E.2.1, 40, .inl written)), (a_asked, .inl (E.2.1, 60, .inl asked)), (a_there, .inl (E.2.1, 12, .inl there)), (a_counts, .inl (E.2.1, 12, .inl counts)), (a_lasts, .inl (E.2.1, 12, .inl lasts)), (a_cames, .inl (E.2.1, 12, .inl cames))] H locs := w
    refine lv_if_ne (tgt := 69) hx hb dX12_asks_59 (by decide) (fun hc => ?_) (fun hc => ?_)
    · have hf := it_f hc hf
      exact j_X12_asks_69 B   hf  w (lv_sub hl [1, 2, 3, 0] rfl)
    · have hf := it_t hc hf
      refine lv_aload_n hx hb dX12_asks_62 rfl (lv_at hl 1 rfl) ?_
      refine lv_iload hx hb dX12_asks_63 (lv_at hl 0 rfl) ?_
      obtain ⟨o_9, hq, hf⟩ := bd_e hf
      refine mx_callV (As := [.int o_2]) (rest := []) (wr := []) (d_X12_warms E l N h a_g a_kept a_tape a_written a_asked a_there a_counts a_lasts a_cames g kept isKept tape taped spot written writtenMany asked askedMany there counts lasts cames o_2  o_9 hq) B w [0, 1, 2, 3, 4, 5, 6, 7, 8, 9] [] rfl rfl (by decide) (by decide) (by decide) 0 rfl rfl cv_X12_warms kw_1484 1 (by decide +kernel) ⟨Nat.le_of_ble_eq_true rfl, Nat.le_of_ble_eq_true rfl⟩ rfl hl.1 rfl (Nat.le_of_ble_eq_true rfl) dX12_asks_65 rfl rfl ⟨Nat.zero_le _, Nat.zero_le _⟩ (fun v w' H locs hpo w => ?_)
      clear hq
      obtain ⟨rfl, rfl⟩ := hpo
      have w : mW E A s [(h, .inr (11, [.ref a_g, .ref a_kept, .int isKept, .ref a_tape, .int taped, .int spot, .ref a_written, .int writtenMany, .ref a_asked, .int askedMany, .ref a_there, .ref a_counts, .ref a_lasts, .ref a_cames])), (a_g, .inl (E.2.1, 8787, .inl o_9.2)), (a_kept, .inl (E.2.1, 8787, .inl kept)), (a_tape, .inl (E.2.2.1, 60, .inl tape)), (a_written, .inl (E.2.1, 40, .inl written)), (a_asked, .inl (E.2.1, 60, .inl asked)), (a_there, .inl (E.2.1, 12, .inl there)), (a_counts, .inl (E.2.1, 12, .inl counts)), (a_lasts, .inl (E.2.1, 12, .inl lasts)), (a_cames, .inl (E.2.1, 12, .inl cames))] H locs := w
      cases hf
      exact mx_iret B w ⟨rfl, rfl⟩ dX12_asks_68
noncomputable def J_X12_asks_25 (N : Nat)   (x1 : Int32) (x2 : Int32) (x3 : Int32) (g : Nat → Int32) : Option (Int32 × (Nat → Int32)) :=
  if (x3 < 0 : Prop) then
  J_X12_asks_36 N x1 x2 g
  else
  bd (F_X12_leaves N g x3 8) (fun o_10 =>
  J_X12_asks_36 N x1 x2 o_10)
set_option maxHeartbeats 4000000 in
set_option maxRecDepth 100000 in
theorem j_X12_asks_25 {E : mE} {l : Launch} {p : Program} {e : Env} {s : State} {m : MethodId} {args : Array Value} {below : List Frame} {meth : Method} {c : Code} {A : Nat → Prop} {Q : State → Prop} {N : Nat} {h : Nat} {a_g : Nat} {a_kept : Nat} {a_tape : Nat} {a_written : Nat} {a_asked : Nat} {a_there : Nat} {a_counts : Nat} {a_lasts : Nat} {a_cames : Nat}  {g0 : Nat → Int32} {kept : Nat → Int32} {isKept : Int32} {tape : Nat → Int32} {taped : Int32} {spot : Int32} {written : Nat → Int32} {writtenMany : Int32} {asked : Nat → Int32} {askedMany : Int32} {there : Nat → Int32} {counts : Nat → Int32} {lasts : Nat → Int32} {cames : Nat → Int32}  {o : Int32 × (Nat → Int32)} (B : mB E yX12_asks cX12_asks 6 (some .int) 0 0 (po_X12_asks E h a_g a_kept a_tape a_written a_asked a_there a_counts a_lasts a_cames g0 kept isKept tape taped spot written writtenMany asked askedMany there counts lasts cames o) p s m args below meth c A Q) {x1 : Int32} {x2 : Int32} {x3 : Int32} {g : Nat → Int32}    {H : Heap} {locs : List Loc} {ls : Array Slot} (hf : J_X12_asks_25 N x1 x2 x3 g = some o)  (w : mW E A s [(h, .inr (11, [.ref a_g, .ref a_kept, .int isKept, .ref a_tape, .int taped, .int spot, .ref a_written, .int writtenMany, .ref a_asked, .int askedMany, .ref a_there, .ref a_counts, .ref a_lasts, .ref a_cames])), (a_g, .inl (E.2.1, 8787, .inl g)), (a_kept, .inl (E.2.1, 8787, .inl kept)), (a_tape, .inl (E.2.2.1, 60, .inl tape)), (a_written, .inl (E.2.1, 40, .inl written)), (a_asked, .inl (E.2.1, 60, .inl asked)), (a_there, .inl (E.2.1, 12, .inl there)), (a_counts, .inl (E.2.1, 12, .inl counts)), (a_lasts, .inl (E.2.1, 12, .inl lasts)), (a_cames, .inl (E.2.1, 12, .inl cames))] H locs) (hl : lv_has ls 6 [(0, .ref h), (1, .int x1), (2, .int x2), (3, .int x3)]) : W p l e ({ frames := 10, cells := 0, slots := 0, locals := 233 } : Room) s m args below meth c H locs 0 0 Q (F0 m 25 ls []) := by
  obtain ⟨hx, hb, hml, hown, hts⟩ := id B.1
  unfold J_X12_asks_25 at hf
  refine lv_iload_n hx hb dX12_asks_25 rfl (lv_at hl 3 rfl) ?_
  refine lv_if_lt (tgt := 36) hx hb dX12_asks_26 (by decide) (fun hc => ?_) (fun hc => ?_)
  · have hf := it_t hc hf
    exact j_X12_asks_36 B   hf  w (lv_sub hl [0, 1, 2] rfl)
  · have hf := it_f hc hf
    refine lv_aload_n hx hb dX12_asks_29 rfl (lv_at hl 0 rfl) ?_
    refine lv_iload_n hx hb dX12_asks_30 rfl (lv_at hl 3 rfl) ?_
    refine lv_bipush (v := 8) hx hb dX12_asks_31 (by decide) ?_
    obtain ⟨o_10, hq, hf⟩ := bd_e hf
    refine mx_callV (As := [.int x3, .int 8]) (rest := []) (wr := []) (d_X12_leaves E l N h a_g a_kept a_tape a_written a_asked a_there a_counts a_lasts a_cames g kept isKept tape taped spot written writtenMany asked askedMany there counts lasts cames x3 8  o_10 hq) B w [0, 1, 2, 3, 4, 5, 6, 7, 8, 9] [] rfl rfl (by decide) (by decide) (by decide) 0 rfl rfl cv_X12_leaves kw_1361 2 (by decide +kernel) ⟨Nat.le_of_ble_eq_true rfl, Nat.le_of_ble_eq_true rfl⟩ rfl hl.1 rfl (Nat.le_of_ble_eq_true rfl) dX12_asks_33 rfl rfl ⟨Nat.zero_le _, Nat.zero_le _⟩ (fun v w' H locs hpo w => ?_)
    clear hq
    obtain ⟨rfl, rfl⟩ := hpo
    have w : mW E A s [(h, .inr (11, [.ref a_g, .ref a_kept, .int isKept, .ref a_tape, .int taped, .int spot, .ref a_written, .int writtenMany, .ref a_asked, .int askedMany, .ref a_there, .ref a_counts, .ref a_lasts, .ref a_cames])), (a_g, .inl (E.2.1, 8787, .inl o_10)), (a_kept, .inl (E.2.1, 8787, .inl kept)), (a_tape, .inl (E.2.2.1, 60, .inl tape)), (a_written, .inl (E.2.1, 40, .inl written)), (a_asked, .inl (E.2.1, 60, .inl asked)), (a_there, .inl (E.2.1, 12, .inl there)), (a_counts, .inl (E.2.1, 12, .inl counts)), (a_lasts, .inl (E.2.1, 12, .inl lasts)), (a_cames, .inl (E.2.1, 12, .inl cames))] H locs := w
    exact j_X12_asks_36 B   hf  w (lv_sub hl [0, 1, 2] rfl)
noncomputable def F_X12_asks (N : Nat)  (g : Nat → Int32) (x1 : Int32) (x2 : Int32) : Option (Int32 × (Nat → Int32)) :=
  bd (F_X12_entryOf N g x1) (fun o_1 =>
  if (o_1 < 0 : Prop) then
  J_X12_asks_25 N x1 x2 o_1 g
  else
  bd (F_X12_isStale g o_1) (fun o_11 =>
  if (o_11 = 0 : Prop) then
  bd (F_X12_hits N g o_1 x2) (fun o_12 =>
  some (o_12.1, o_12.2))
  else
  J_X12_asks_25 N x1 x2 o_1 g))
set_option maxHeartbeats 4000000 in
set_option maxRecDepth 100000 in
theorem d_X12_asks (E : mE) (l : Launch) (N : Nat) (h : Nat) (a_g : Nat) (a_kept : Nat) (a_tape : Nat) (a_written : Nat) (a_asked : Nat) (a_there : Nat) (a_counts : Nat) (a_lasts : Nat) (a_cames : Nat)  (g : Nat → Int32) (kept : Nat → Int32) (isKept : Int32) (tape : Nat → Int32) (taped : Int32) (spot : Int32) (written : Nat → Int32) (writtenMany : Int32) (asked : Nat → Int32) (askedMany : Int32) (there : Nat → Int32) (counts : Nat → Int32) (lasts : Nat → Int32) (cames : Nat → Int32)  (x1 : Int32) (x2 : Int32)  (o : Int32 × (Nat → Int32)) (hf : F_X12_asks N g x1 x2 = some o) : MX E l yX12_asks cX12_asks 6 (some .int) ({ frames := 10, cells := 0, slots := 0, locals := 233 } : Room) [.ref h, .int x1, .int x2] [(h, .inr (11, [.ref a_g, .ref a_kept, .int isKept, .ref a_tape, .int taped, .int spot, .ref a_written, .int writtenMany, .ref a_asked, .int askedMany, .ref a_there, .ref a_counts, .ref a_lasts, .ref a_cames])), (a_g, .inl (E.2.1, 8787, .inl g)), (a_kept, .inl (E.2.1, 8787, .inl kept)), (a_tape, .inl (E.2.2.1, 60, .inl tape)), (a_written, .inl (E.2.1, 40, .inl written)), (a_asked, .inl (E.2.1, 60, .inl asked)), (a_there, .inl (E.2.1, 12, .inl there)), (a_counts, .inl (E.2.1, 12, .inl counts)), (a_lasts, .inl (E.2.1, 12, .inl lasts)), (a_cames, .inl (E.2.1, 12, .inl cames))] (po_X12_asks E h a_g a_kept a_tape a_written a_asked a_there a_counts a_lasts a_cames g kept isKept tape taped spot written writtenMany asked askedMany there counts lasts cames o) := by
  refine mx_intro (by decide +kernel) (Nat.le_of_ble_eq_true rfl) ?_
  intro p e s m args below meth c A Q ls B w hl
  obtain ⟨hx, hb, hml, hown, hts⟩ := id B.1
  unfold F_X12_asks at hf
  have hl : lv_has ls 6 [(0, .ref h), (1, .int x1), (2, .int x2)] := hl
  refine lv_aload_n hx hb dX12_asks_0 rfl (lv_at hl 0 rfl) ?_
  refine lv_iload_n hx hb dX12_asks_1 rfl (lv_at hl 1 rfl) ?_
  obtain ⟨o_1, hq, hf⟩ := bd_e hf
  refine mx_callV (As := [.int x1]) (rest := []) (wr := []) (d_X12_entryOf E l N h a_g a_kept a_tape a_written a_asked a_there a_counts a_lasts a_cames g kept isKept tape taped spot written writtenMany asked askedMany there counts lasts cames x1  o_1 hq) B w [0, 1, 2, 3, 4, 5, 6, 7, 8, 9] [] rfl rfl (by decide) (by decide) (by decide) 0 rfl rfl cv_X12_entryOf kw_1422 1 (by decide +kernel) ⟨Nat.le_of_ble_eq_true rfl, Nat.le_of_ble_eq_true rfl⟩ rfl hl.1 rfl (Nat.le_of_ble_eq_true rfl) dX12_asks_2 rfl rfl ⟨Nat.zero_le _, Nat.zero_le _⟩ (fun v w' H locs hpo w => ?_)
  clear hq
  obtain ⟨rfl, rfl⟩ := hpo
  have w : mW E A s [(h, .inr (11, [.ref a_g, .ref a_kept, .int isKept, .ref a_tape, .int taped, .int spot, .ref a_written, .int writtenMany, .ref a_asked, .int askedMany, .ref a_there, .ref a_counts, .ref a_lasts, .ref a_cames])), (a_g, .inl (E.2.1, 8787, .inl g)), (a_kept, .inl (E.2.1, 8787, .inl kept)), (a_tape, .inl (E.2.2.1, 60, .inl tape)), (a_written, .inl (E.2.1, 40, .inl written)), (a_asked, .inl (E.2.1, 60, .inl asked)), (a_there, .inl (E.2.1, 12, .inl there)), (a_counts, .inl (E.2.1, 12, .inl counts)), (a_lasts, .inl (E.2.1, 12, .inl lasts)), (a_cames, .inl (E.2.1, 12, .inl cames))] H locs := w
  refine lv_istore_n (lv' := [(3, .int o_1), (0, .ref h), (1, .int x1), (2, .int x2)]) hx hb dX12_asks_5 rfl hl (by decide) rfl (fun ls hl => ?_)
  refine lv_iload_n hx hb dX12_asks_6 rfl (lv_at hl 0 rfl) ?_
  refine lv_if_lt (tgt := 25) hx hb dX12_asks_7 (by decide) (fun hc => ?_) (fun hc => ?_)
  · have hf := it_t hc hf
    exact j_X12_asks_25 B   hf  w (lv_sub hl [1, 2, 3, 0] rfl)
  · have hf := it_f hc hf
    refine lv_aload_n hx hb dX12_asks_10 rfl (lv_at hl 1 rfl) ?_
    refine lv_iload_n hx hb dX12_asks_11 rfl (lv_at hl 0 rfl) ?_
    obtain ⟨o_11, hq, hf⟩ := bd_e hf
    refine mx_callV (As := [.int o_1]) (rest := []) (wr := []) (d_X12_isStale E l  h a_g a_kept a_tape a_written a_asked a_there a_counts a_lasts a_cames g kept isKept tape taped spot written writtenMany asked askedMany there counts lasts cames o_1  o_11 hq) B w [0, 1, 2, 3, 4, 5, 6, 7, 8, 9] [] rfl rfl (by decide) (by decide) (by decide) 0 rfl rfl cv_X12_isStale kw_1337 1 (by decide +kernel) ⟨Nat.le_of_ble_eq_true rfl, Nat.le_of_ble_eq_true rfl⟩ rfl hl.1 rfl (Nat.le_of_ble_eq_true rfl) dX12_asks_12 rfl rfl ⟨Nat.zero_le _, Nat.zero_le _⟩ (fun v w' H locs hpo w => ?_)
    clear hq
    obtain ⟨rfl, rfl⟩ := hpo
    have w : mW E A s [(h, .inr (11, [.ref a_g, .ref a_kept, .int isKept, .ref a_tape, .int taped, .int spot, .ref a_written, .int writtenMany, .ref a_asked, .int askedMany, .ref a_there, .ref a_counts, .ref a_lasts, .ref a_cames])), (a_g, .inl (E.2.1, 8787, .inl g)), (a_kept, .inl (E.2.1, 8787, .inl kept)), (a_tape, .inl (E.2.2.1, 60, .inl tape)), (a_written, .inl (E.2.1, 40, .inl written)), (a_asked, .inl (E.2.1, 60, .inl asked)), (a_there, .inl (E.2.1, 12, .inl there)), (a_counts, .inl (E.2.1, 12, .inl counts)), (a_lasts, .inl (E.2.1, 12, .inl lasts)), (a_cames, .inl (E.2.1, 12, .inl cames))] H locs := w
    refine lv_if_ne (tgt := 25) hx hb dX12_asks_15 (by decide) (fun hc => ?_) (fun hc => ?_)
    · have hf := it_f hc hf
      exact j_X12_asks_25 B   hf  w (lv_sub hl [1, 2, 3, 0] rfl)
    · have hf := it_t hc hf
      refine lv_aload_n hx hb dX12_asks_18 rfl (lv_at hl 1 rfl) ?_
      refine lv_iload_n hx hb dX12_asks_19 rfl (lv_at hl 0 rfl) ?_
      refine lv_iload_n hx hb dX12_asks_20 rfl (lv_at hl 3 rfl) ?_
      obtain ⟨o_12, hq, hf⟩ := bd_e hf
      refine mx_callV (As := [.int o_1, .int x2]) (rest := []) (wr := []) (d_X12_hits E l N h a_g a_kept a_tape a_written a_asked a_there a_counts a_lasts a_cames g kept isKept tape taped spot written writtenMany asked askedMany there counts lasts cames o_1 x2  o_12 hq) B w [0, 1, 2, 3, 4, 5, 6, 7, 8, 9] [] rfl rfl (by decide) (by decide) (by decide) 0 rfl rfl cv_X12_hits kw_1472 2 (by decide +kernel) ⟨Nat.le_of_ble_eq_true rfl, Nat.le_of_ble_eq_true rfl⟩ rfl hl.1 rfl (Nat.le_of_ble_eq_true rfl) dX12_asks_21 rfl rfl ⟨Nat.zero_le _, Nat.zero_le _⟩ (fun v w' H locs hpo w => ?_)
      clear hq
      obtain ⟨rfl, rfl⟩ := hpo
      have w : mW E A s [(h, .inr (11, [.ref a_g, .ref a_kept, .int isKept, .ref a_tape, .int taped, .int spot, .ref a_written, .int writtenMany, .ref a_asked, .int askedMany, .ref a_there, .ref a_counts, .ref a_lasts, .ref a_cames])), (a_g, .inl (E.2.1, 8787, .inl o_12.2)), (a_kept, .inl (E.2.1, 8787, .inl kept)), (a_tape, .inl (E.2.2.1, 60, .inl tape)), (a_written, .inl (E.2.1, 40, .inl written)), (a_asked, .inl (E.2.1, 60, .inl asked)), (a_there, .inl (E.2.1, 12, .inl there)), (a_counts, .inl (E.2.1, 12, .inl counts)), (a_lasts, .inl (E.2.1, 12, .inl lasts)), (a_cames, .inl (E.2.1, 12, .inl cames))] H locs := w
      cases hf
      exact mx_iret B w ⟨rfl, rfl⟩ dX12_asks_24
-- X12_halves
def po_X12_halves (E : mE) (h : Nat) (a_g : Nat) (a_kept : Nat) (a_tape : Nat) (a_written : Nat) (a_asked : Nat) (a_there : Nat) (a_counts : Nat) (a_lasts : Nat) (a_cames : Nat)  (g : Nat → Int32) (kept : Nat → Int32) (isKept : Int32) (tape : Nat → Int32) (taped : Int32) (spot : Int32) (written : Nat → Int32) (writtenMany : Int32) (asked : Nat → Int32) (askedMany : Int32) (there : Nat → Int32) (counts : Nat → Int32) (lasts : Nat → Int32) (cames : Nat → Int32)  (o : (Nat → Int32)) : Option Value → va_W → Prop := (fun (v : Option Value) (w' : va_W) => v = none ∧ w' = [(h, .inr (11, [.ref a_g, .ref a_kept, .int isKept, .ref a_tape, .int taped, .int spot, .ref a_written, .int writtenMany, .ref a_asked, .int askedMany, .ref a_there, .ref a_counts, .ref a_lasts, .ref a_cames])), (a_g, .inl (E.2.1, 8787, .inl o)), (a_kept, .inl (E.2.1, 8787, .inl kept)), (a_tape, .inl (E.2.2.1, 60, .inl tape)), (a_written, .inl (E.2.1, 40, .inl written)), (a_asked, .inl (E.2.1, 60, .inl asked)), (a_there, .inl (E.2.1, 12, .inl there)), (a_counts, .inl (E.2.1, 12, .inl counts)), (a_lasts, .inl (E.2.1, 12, .inl lasts)), (a_cames, .inl (E.2.1, 12, .inl cames))])
noncomputable def K_X12_halves_31 (N : Nat)  (rec : Int32 → (Nat → Int32) → (Option ((Nat → Int32)))) (k62 : (Nat → Int32) → (Option ((Nat → Int32))))   (x1 : Int32) (g : Nat → Int32) : Option ((Nat → Int32)) :=
  ld g 8787 13 (fun v_5 =>
  if (v_5 ≤ x1 : Prop) then
  k62 g
  else
  bd (F_X12_at g x1 5) (fun o_6 =>
  bd (F_X12_sets g x1 5 (o_6 / 2)) (fun o_7 =>
  lt (x1 + 1) (fun x1_8 =>
  rec x1_8 o_7))))
noncomputable def L_X12_halves_31 (N : Nat)  (k62 : (Nat → Int32) → (Option ((Nat → Int32))))   (n : Nat) : Int32 → (Nat → Int32) → (Option ((Nat → Int32))) :=
  Nat.rec (motive := fun _ => Int32 → (Nat → Int32) → (Option ((Nat → Int32)))) (fun _ _ => none) (fun _ rec => K_X12_halves_31 N rec k62) n
set_option maxHeartbeats 4000000 in
set_option maxRecDepth 100000 in
theorem l_X12_halves_31 {E : mE} {l : Launch} {p : Program} {e : Env} {s : State} {m : MethodId} {args : Array Value} {below : List Frame} {meth : Method} {c : Code} {A : Nat → Prop} {Q : State → Prop} {N : Nat} {h : Nat} {a_g : Nat} {a_kept : Nat} {a_tape : Nat} {a_written : Nat} {a_asked : Nat} {a_there : Nat} {a_counts : Nat} {a_lasts : Nat} {a_cames : Nat}  {g0 : Nat → Int32} {kept : Nat → Int32} {isKept : Int32} {tape : Nat → Int32} {taped : Int32} {spot : Int32} {written : Nat → Int32} {writtenMany : Int32} {asked : Nat → Int32} {askedMany : Int32} {there : Nat → Int32} {counts : Nat → Int32} {lasts : Nat → Int32} {cames : Nat → Int32}  {o : (Nat → Int32)} (B : mB E yX12_halves cX12_halves 2 none 0 0 (po_X12_halves E h a_g a_kept a_tape a_written a_asked a_there a_counts a_lasts a_cames g0 kept isKept tape taped spot written writtenMany asked askedMany there counts lasts cames o) p s m args below meth c A Q)    (k62 : (Nat → Int32) → (Option ((Nat → Int32))))  (hk62 : ∀  (g : Nat → Int32)  (H : Heap) (locs : List Loc) (ls : Array Slot), k62 g = some o → mW E A s [(h, .inr (11, [.ref a_g, .ref a_kept, .int isKept, .ref a_tape, .int taped, .int spot, .ref a_written, .int writtenMany, .ref a_asked, .int askedMany, .ref a_there, .ref a_counts, .ref a_lasts, .ref a_cames])), (a_g, .inl (E.2.1, 8787, .inl g)), (a_kept, .inl (E.2.1, 8787, .inl kept)), (a_tape, .inl (E.2.2.1, 60, .inl tape)), (a_written, .inl (E.2.1, 40, .inl written)), (a_asked, .inl (E.2.1, 60, .inl asked)), (a_there, .inl (E.2.1, 12, .inl there)), (a_counts, .inl (E.2.1, 12, .inl counts)), (a_lasts, .inl (E.2.1, 12, .inl lasts)), (a_cames, .inl (E.2.1, 12, .inl cames))] H locs → lv_has ls 2 [(0, .ref h)] → W p l e ({ frames := 4, cells := 0, slots := 0, locals := 91 } : Room) s m args below meth c H locs 0 0 Q (F0 m 62 ls [])) : ∀ n : Nat, ∀ (x1 : Int32) (g : Nat → Int32)  (H : Heap) (locs : List Loc) (ls : Array Slot), L_X12_halves_31 N k62 n x1 g = some o → mW E A s [(h, .inr (11, [.ref a_g, .ref a_kept, .int isKept, .ref a_tape, .int taped, .int spot, .ref a_written, .int writtenMany, .ref a_asked, .int askedMany, .ref a_there, .ref a_counts, .ref a_lasts, .ref a_cames])), (a_g, .inl (E.2.1, 8787, .inl g)), (a_kept, .inl (E.2.1, 8787, .inl kept)), (a_tape, .inl (E.2.2.1, 60, .inl tape)), (a_written, .inl (E.2.1, 40, .inl written)), (a_asked, .inl (E.2.1, 60, .inl asked)), (a_there, .inl (E.2.1, 12, .inl there)), (a_counts, .inl (E.2.1, 12, .inl counts)), (a_lasts, .inl (E.2.1, 12, .inl lasts)), (a_cames, .inl (E.2.1, 12, .inl cames))] H locs → lv_has ls 2 [(0, .ref h), (1, .int x1)] → W p l e ({ frames := 4, cells := 0, slots := 0, locals := 91 } : Room) s m args below meth c H locs 0 0 Q (F0 m 31 ls []) := by
  obtain ⟨hx, hb, hml, hown, hts⟩ := id B.1
  intro n
  induction n with
  | zero =>
    intro x1 g H locs ls hf w hl
    exact nomatch hf
  | succ n hrec =>
    intro x1 g H locs ls hf w hl
    have hf : K_X12_halves_31 N (L_X12_halves_31 N k62 n) k62 x1 g = some o := hf
    unfold K_X12_halves_31 at hf
    refine lv_iload_n hx hb dX12_halves_31 rfl (lv_at hl 1 rfl) ?_
    refine lv_aload_n hx hb dX12_halves_32 rfl (lv_at hl 0 rfl) ?_
    refine mx_get B w 0 fl_X12_9 rfl rfl dX12_halves_33 ?_
    refine lv_bipush (v := 13) hx hb dX12_halves_36 (by decide) ?_
    obtain ⟨hin, hf⟩ := ld_e hf
    refine mx_iald B w 1 rfl hin dX12_halves_38 (fun v_5 ev => ?_)
    have hf := hf _ ev; clear ev
    refine lv_icmp_ge (tgt := 62) hx hb dX12_halves_39 (by decide) (fun hc => ?_) (fun hc => ?_)
    · have hf := it_t hc hf
      exact hk62 _ _ _ _ hf  w (lv_sub hl [0] rfl)
    · have hf := it_f hc hf
      refine lv_aload_n hx hb dX12_halves_42 rfl (lv_at hl 0 rfl) ?_
      refine lv_iload_n hx hb dX12_halves_43 rfl (lv_at hl 1 rfl) ?_
      refine lv_iconst (v := 5) hx hb dX12_halves_44 (by decide) ?_
      refine lv_aload_n hx hb dX12_halves_45 rfl (lv_at hl 0 rfl) ?_
      refine lv_iload_n hx hb dX12_halves_46 rfl (lv_at hl 1 rfl) ?_
      refine lv_iconst (v := 5) hx hb dX12_halves_47 (by decide) ?_
      obtain ⟨o_6, hq, hf⟩ := bd_e hf
      refine mx_callV (As := [.int x1, .int 5]) (rest := [.int 5, .int x1, .ref h]) (wr := []) (d_X12_at E l  h a_g a_kept a_tape a_written a_asked a_there a_counts a_lasts a_cames g kept isKept tape taped spot written writtenMany asked askedMany there counts lasts cames x1 5  o_6 hq) B w [0, 1, 2, 3, 4, 5, 6, 7, 8, 9] [] rfl rfl (by decide) (by decide) (by decide) 0 rfl rfl cv_X12_at kw_1325 2 (by decide +kernel) ⟨Nat.le_of_ble_eq_true rfl, Nat.le_of_ble_eq_true rfl⟩ rfl hl.1 rfl (Nat.le_of_ble_eq_true rfl) dX12_halves_48 rfl rfl ⟨Nat.zero_le _, Nat.zero_le _⟩ (fun v w' H locs hpo w => ?_)
      clear hq
      obtain ⟨rfl, rfl⟩ := hpo
      have w : mW E A s [(h, .inr (11, [.ref a_g, .ref a_kept, .int isKept, .ref a_tape, .int taped, .int spot, .ref a_written, .int writtenMany, .ref a_asked, .int askedMany, .ref a_there, .ref a_counts, .ref a_lasts, .ref a_cames])), (a_g, .inl (E.2.1, 8787, .inl g)), (a_kept, .inl (E.2.1, 8787, .inl kept)), (a_tape, .inl (E.2.2.1, 60, .inl tape)), (a_written, .inl (E.2.1, 40, .inl written)), (a_asked, .inl (E.2.1, 60, .inl asked)), (a_there, .inl (E.2.1, 12, .inl there)), (a_counts, .inl (E.2.1, 12, .inl counts)), (a_lasts, .inl (E.2.1, 12, .inl lasts)), (a_cames, .inl (E.2.1, 12, .inl cames))] H locs := w
      refine lv_iconst (v := 2) hx hb dX12_halves_51 (by decide) ?_
      refine lv_idiv hx hb dX12_halves_52 (by decide) ?_
      obtain ⟨o_7, hq, hf⟩ := bd_e hf
      refine mx_callV (As := [.int x1, .int 5, .int (o_6 / 2)]) (rest := []) (wr := []) (d_X12_sets E l  h a_g a_kept a_tape a_written a_asked a_there a_counts a_lasts a_cames g kept isKept tape taped spot written writtenMany asked askedMany there counts lasts cames x1 5 (o_6 / 2)  o_7 hq) B w [0, 1, 2, 3, 4, 5, 6, 7, 8, 9] [] rfl rfl (by decide) (by decide) (by decide) 0 rfl rfl cv_X12_sets kw_1430 3 (by decide +kernel) ⟨Nat.le_of_ble_eq_true rfl, Nat.le_of_ble_eq_true rfl⟩ rfl hl.1 rfl (Nat.le_of_ble_eq_true rfl) dX12_halves_53 rfl rfl ⟨Nat.zero_le _, Nat.zero_le _⟩ (fun v w' H locs hpo w => ?_)
      clear hq
      obtain ⟨rfl, rfl⟩ := hpo
      have w : mW E A s [(h, .inr (11, [.ref a_g, .ref a_kept, .int isKept, .ref a_tape, .int taped, .int spot, .ref a_written, .int writtenMany, .ref a_asked, .int askedMany, .ref a_there, .ref a_counts, .ref a_lasts, .ref a_cames])), (a_g, .inl (E.2.1, 8787, .inl o_7)), (a_kept, .inl (E.2.1, 8787, .inl kept)), (a_tape, .inl (E.2.2.1, 60, .inl tape)), (a_written, .inl (E.2.1, 40, .inl written)), (a_asked, .inl (E.2.1, 60, .inl asked)), (a_there, .inl (E.2.1, 12, .inl there)), (a_counts, .inl (E.2.1, 12, .inl counts)), (a_lasts, .inl (E.2.1, 12, .inl lasts)), (a_cames, .inl (E.2.1, 12, .inl cames))] H locs := w
      obtain ⟨x1_8, ev⟩ : ∃ y : Int32, y = x1 + 1 := ⟨_, rfl⟩
      refine lv_iinc (v := x1_8) (lv' := [(1, .int x1_8), (0, .ref h)]) hx hb dX12_halves_56 hl (k := 1) rfl (by rw [ev]; rfl) (by decide) rfl (fun ls hl => ?_)
      have hf := lt_n ev hf; clear ev
      refine lv_goto (tgt := 31) hx hb dX12_halves_59 (by decide) ?_
      exact hrec _ _ _ _ _ hf  w (lv_sub hl [1, 0] rfl)
noncomputable def K_X12_halves_64 (N : Nat)  (rec : Int32 → (Nat → Int32) → (Option ((Nat → Int32)))) (k89 : (Nat → Int32) → (Option ((Nat → Int32))))   (x1 : Int32) (g : Nat → Int32) : Option ((Nat → Int32)) :=
  if (64 ≤ x1 : Prop) then
  k89 g
  else
  ld g 8787 (34 + x1) (fun v_9 =>
  sto g 8787 (34 + x1) (v_9 / 2) (fun g_10 =>
  lt (x1 + 1) (fun x1_11 =>
  rec x1_11 g_10)))
noncomputable def L_X12_halves_64 (N : Nat)  (k89 : (Nat → Int32) → (Option ((Nat → Int32))))   (n : Nat) : Int32 → (Nat → Int32) → (Option ((Nat → Int32))) :=
  Nat.rec (motive := fun _ => Int32 → (Nat → Int32) → (Option ((Nat → Int32)))) (fun _ _ => none) (fun _ rec => K_X12_halves_64 N rec k89) n
set_option maxHeartbeats 4000000 in
set_option maxRecDepth 100000 in
theorem l_X12_halves_64 {E : mE} {l : Launch} {p : Program} {e : Env} {s : State} {m : MethodId} {args : Array Value} {below : List Frame} {meth : Method} {c : Code} {A : Nat → Prop} {Q : State → Prop} {N : Nat} {h : Nat} {a_g : Nat} {a_kept : Nat} {a_tape : Nat} {a_written : Nat} {a_asked : Nat} {a_there : Nat} {a_counts : Nat} {a_lasts : Nat} {a_cames : Nat}  {g0 : Nat → Int32} {kept : Nat → Int32} {isKept : Int32} {tape : Nat → Int32} {taped : Int32} {spot : Int32} {written : Nat → Int32} {writtenMany : Int32} {asked : Nat → Int32} {askedMany : Int32} {there : Nat → Int32} {counts : Nat → Int32} {lasts : Nat → Int32} {cames : Nat → Int32}  {o : (Nat → Int32)} (B : mB E yX12_halves cX12_halves 2 none 0 0 (po_X12_halves E h a_g a_kept a_tape a_written a_asked a_there a_counts a_lasts a_cames g0 kept isKept tape taped spot written writtenMany asked askedMany there counts lasts cames o) p s m args below meth c A Q)    (k89 : (Nat → Int32) → (Option ((Nat → Int32))))  (hk89 : ∀  (g : Nat → Int32)  (H : Heap) (locs : List Loc) (ls : Array Slot), k89 g = some o → mW E A s [(h, .inr (11, [.ref a_g, .ref a_kept, .int isKept, .ref a_tape, .int taped, .int spot, .ref a_written, .int writtenMany, .ref a_asked, .int askedMany, .ref a_there, .ref a_counts, .ref a_lasts, .ref a_cames])), (a_g, .inl (E.2.1, 8787, .inl g)), (a_kept, .inl (E.2.1, 8787, .inl kept)), (a_tape, .inl (E.2.2.1, 60, .inl tape)), (a_written, .inl (E.2.1, 40, .inl written)), (a_asked, .inl (E.2.1, 60, .inl asked)), (a_there, .inl (E.2.1, 12, .inl there)), (a_counts, .inl (E.2.1, 12, .inl counts)), (a_lasts, .inl (E.2.1, 12, .inl lasts)), (a_cames, .inl (E.2.1, 12, .inl cames))] H locs → lv_has ls 2 [(0, .ref h)] → W p l e ({ frames := 4, cells := 0, slots := 0, locals := 91 } : Room) s m args below meth c H locs 0 0 Q (F0 m 89 ls [])) : ∀ n : Nat, ∀ (x1 : Int32) (g : Nat → Int32)  (H : Heap) (locs : List Loc) (ls : Array Slot), L_X12_halves_64 N k89 n x1 g = some o → mW E A s [(h, .inr (11, [.ref a_g, .ref a_kept, .int isKept, .ref a_tape, .int taped, .int spot, .ref a_written, .int writtenMany, .ref a_asked, .int askedMany, .ref a_there, .ref a_counts, .ref a_lasts, .ref a_cames])), (a_g, .inl (E.2.1, 8787, .inl g)), (a_kept, .inl (E.2.1, 8787, .inl kept)), (a_tape, .inl (E.2.2.1, 60, .inl tape)), (a_written, .inl (E.2.1, 40, .inl written)), (a_asked, .inl (E.2.1, 60, .inl asked)), (a_there, .inl (E.2.1, 12, .inl there)), (a_counts, .inl (E.2.1, 12, .inl counts)), (a_lasts, .inl (E.2.1, 12, .inl lasts)), (a_cames, .inl (E.2.1, 12, .inl cames))] H locs → lv_has ls 2 [(0, .ref h), (1, .int x1)] → W p l e ({ frames := 4, cells := 0, slots := 0, locals := 91 } : Room) s m args below meth c H locs 0 0 Q (F0 m 64 ls []) := by
  obtain ⟨hx, hb, hml, hown, hts⟩ := id B.1
  intro n
  induction n with
  | zero =>
    intro x1 g H locs ls hf w hl
    exact nomatch hf
  | succ n hrec =>
    intro x1 g H locs ls hf w hl
    have hf : K_X12_halves_64 N (L_X12_halves_64 N k89 n) k89 x1 g = some o := hf
    unfold K_X12_halves_64 at hf
    refine lv_iload_n hx hb dX12_halves_64 rfl (lv_at hl 1 rfl) ?_
    refine lv_bipush (v := 64) hx hb dX12_halves_65 (by decide) ?_
    refine lv_icmp_ge (tgt := 89) hx hb dX12_halves_67 (by decide) (fun hc => ?_) (fun hc => ?_)
    · have hf := it_t hc hf
      exact hk89 _ _ _ _ hf  w (lv_sub hl [0] rfl)
    · have hf := it_f hc hf
      refine lv_aload_n hx hb dX12_halves_70 rfl (lv_at hl 0 rfl) ?_
      refine mx_get B w 0 fl_X12_9 rfl rfl dX12_halves_71 ?_
      refine lv_bipush (v := 34) hx hb dX12_halves_74 (by decide) ?_
      refine lv_iload_n hx hb dX12_halves_76 rfl (lv_at hl 1 rfl) ?_
      refine lv_iadd hx hb dX12_halves_77 ?_
      refine lv_dup2_11 hx hb dX12_halves_78 rfl rfl ?_
      obtain ⟨hin, hf⟩ := ld_e hf
      refine mx_iald B w 1 rfl hin dX12_halves_79 (fun v_9 ev => ?_)
      have hf := hf _ ev; clear ev
      refine lv_iconst (v := 2) hx hb dX12_halves_80 (by decide) ?_
      refine lv_idiv hx hb dX12_halves_81 (by decide) ?_
      obtain ⟨hin, hf⟩ := sto_e hf
      refine mx_iast B w 1 rfl hin dX12_halves_82 (fun g_10 H locs ev w => ?_)
      have hf := hf _ ev; clear ev
      have w : mW E A s [(h, .inr (11, [.ref a_g, .ref a_kept, .int isKept, .ref a_tape, .int taped, .int spot, .ref a_written, .int writtenMany, .ref a_asked, .int askedMany, .ref a_there, .ref a_counts, .ref a_lasts, .ref a_cames])), (a_g, .inl (E.2.1, 8787, .inl g_10)), (a_kept, .inl (E.2.1, 8787, .inl kept)), (a_tape, .inl (E.2.2.1, 60, .inl tape)), (a_written, .inl (E.2.1, 40, .inl written)), (a_asked, .inl (E.2.1, 60, .inl asked)), (a_there, .inl (E.2.1, 12, .inl there)), (a_counts, .inl (E.2.1, 12, .inl counts)), (a_lasts, .inl (E.2.1, 12, .inl lasts)), (a_cames, .inl (E.2.1, 12, .inl cames))] H locs := w
      obtain ⟨x1_11, ev⟩ : ∃ y : Int32, y = x1 + 1 := ⟨_, rfl⟩
      refine lv_iinc (v := x1_11) (lv' := [(1, .int x1_11), (0, .ref h)]) hx hb dX12_halves_83 hl (k := 1) rfl (by rw [ev]; rfl) (by decide) rfl (fun ls hl => ?_)
      have hf := lt_n ev hf; clear ev
      refine lv_goto (tgt := 64) hx hb dX12_halves_86 (by decide) ?_
      exact hrec _ _ _ _ _ hf  w (lv_sub hl [1, 0] rfl)
noncomputable def F_X12_halves (N : Nat)  (g : Nat → Int32)  : Option ((Nat → Int32)) :=
  ld g 8787 11 (fun v_1 =>
  sto g 8787 11 (v_1 + 1) (fun g_2 =>
  ld g_2 8787 11 (fun v_3 =>
  ld g_2 8787 1 (fun v_4 =>
  ck (¬ v_4 = 0) (if ((irm v_3 v_4) = 0 : Prop) then
  L_X12_halves_31 N (fun g => L_X12_halves_64 N (fun g => ld g 8787 30 (fun v_12 =>
  sto g 8787 30 (v_12 + 1) (fun g_13 =>
  bd (F_X12_happens N g_13 10 0) (fun o_14 =>
  some (o_14))))) N 0 g) N 0 g_2
  else
  some (g_2))))))
set_option maxHeartbeats 4000000 in
set_option maxRecDepth 100000 in
theorem d_X12_halves (E : mE) (l : Launch) (N : Nat) (h : Nat) (a_g : Nat) (a_kept : Nat) (a_tape : Nat) (a_written : Nat) (a_asked : Nat) (a_there : Nat) (a_counts : Nat) (a_lasts : Nat) (a_cames : Nat)  (g : Nat → Int32) (kept : Nat → Int32) (isKept : Int32) (tape : Nat → Int32) (taped : Int32) (spot : Int32) (written : Nat → Int32) (writtenMany : Int32) (asked : Nat → Int32) (askedMany : Int32) (there : Nat → Int32) (counts : Nat → Int32) (lasts : Nat → Int32) (cames : Nat → Int32)    (o : (Nat → Int32)) (hf : F_X12_halves N g = some o) : MX E l yX12_halves cX12_halves 2 none ({ frames := 4, cells := 0, slots := 0, locals := 91 } : Room) [.ref h] [(h, .inr (11, [.ref a_g, .ref a_kept, .int isKept, .ref a_tape, .int taped, .int spot, .ref a_written, .int writtenMany, .ref a_asked, .int askedMany, .ref a_there, .ref a_counts, .ref a_lasts, .ref a_cames])), (a_g, .inl (E.2.1, 8787, .inl g)), (a_kept, .inl (E.2.1, 8787, .inl kept)), (a_tape, .inl (E.2.2.1, 60, .inl tape)), (a_written, .inl (E.2.1, 40, .inl written)), (a_asked, .inl (E.2.1, 60, .inl asked)), (a_there, .inl (E.2.1, 12, .inl there)), (a_counts, .inl (E.2.1, 12, .inl counts)), (a_lasts, .inl (E.2.1, 12, .inl lasts)), (a_cames, .inl (E.2.1, 12, .inl cames))] (po_X12_halves E h a_g a_kept a_tape a_written a_asked a_there a_counts a_lasts a_cames g kept isKept tape taped spot written writtenMany asked askedMany there counts lasts cames o) := by
  refine mx_intro (by decide +kernel) (Nat.le_of_ble_eq_true rfl) ?_
  intro p e s m args below meth c A Q ls B w hl
  obtain ⟨hx, hb, hml, hown, hts⟩ := id B.1
  unfold F_X12_halves at hf
  have hl : lv_has ls 2 [(0, .ref h)] := hl
  refine lv_aload_n hx hb dX12_halves_0 rfl (lv_at hl 0 rfl) ?_
  refine mx_get B w 0 fl_X12_9 rfl rfl dX12_halves_1 ?_
  refine lv_bipush (v := 11) hx hb dX12_halves_4 (by decide) ?_
  refine lv_dup2_11 hx hb dX12_halves_6 rfl rfl ?_
  obtain ⟨hin, hf⟩ := ld_e hf
  refine mx_iald B w 1 rfl hin dX12_halves_7 (fun v_1 ev => ?_)
  have hf := hf _ ev; clear ev
  refine lv_iconst (v := 1) hx hb dX12_halves_8 (by decide) ?_
  refine lv_iadd hx hb dX12_halves_9 ?_
  obtain ⟨hin, hf⟩ := sto_e hf
  refine mx_iast B w 1 rfl hin dX12_halves_10 (fun g_2 H locs ev w => ?_)
  have hf := hf _ ev; clear ev
  have w : mW E A s [(h, .inr (11, [.ref a_g, .ref a_kept, .int isKept, .ref a_tape, .int taped, .int spot, .ref a_written, .int writtenMany, .ref a_asked, .int askedMany, .ref a_there, .ref a_counts, .ref a_lasts, .ref a_cames])), (a_g, .inl (E.2.1, 8787, .inl g_2)), (a_kept, .inl (E.2.1, 8787, .inl kept)), (a_tape, .inl (E.2.2.1, 60, .inl tape)), (a_written, .inl (E.2.1, 40, .inl written)), (a_asked, .inl (E.2.1, 60, .inl asked)), (a_there, .inl (E.2.1, 12, .inl there)), (a_counts, .inl (E.2.1, 12, .inl counts)), (a_lasts, .inl (E.2.1, 12, .inl lasts)), (a_cames, .inl (E.2.1, 12, .inl cames))] H locs := w
  refine lv_aload_n hx hb dX12_halves_11 rfl (lv_at hl 0 rfl) ?_
  refine mx_get B w 0 fl_X12_9 rfl rfl dX12_halves_12 ?_
  refine lv_bipush (v := 11) hx hb dX12_halves_15 (by decide) ?_
  obtain ⟨hin, hf⟩ := ld_e hf
  refine mx_iald B w 1 rfl hin dX12_halves_17 (fun v_3 ev => ?_)
  have hf := hf _ ev; clear ev
  refine lv_aload_n hx hb dX12_halves_18 rfl (lv_at hl 0 rfl) ?_
  refine mx_get B w 0 fl_X12_9 rfl rfl dX12_halves_19 ?_
  refine lv_iconst (v := 1) hx hb dX12_halves_22 (by decide) ?_
  obtain ⟨hin, hf⟩ := ld_e hf
  refine mx_iald B w 1 rfl hin dX12_halves_23 (fun v_4 ev => ?_)
  have hf := hf _ ev; clear ev
  obtain ⟨hne, hf⟩ := ck_e hf
  refine lv_irem hx hb dX12_halves_24 hne ?_
  refine lv_if_eq (tgt := 29) hx hb dX12_halves_25 (by decide) (fun hc => ?_) (fun hc => ?_)
  · have hf := it_t hc hf
    refine lv_iconst (v := 0) hx hb dX12_halves_29 (by decide) ?_
    refine lv_istore_n (lv' := [(1, .int 0), (0, .ref h)]) hx hb dX12_halves_30 rfl hl (by decide) rfl (fun ls hl => ?_)
    refine l_X12_halves_31 B _  ?_ N _ _ _ _ _ hf  w (lv_sub hl [1, 0] rfl)
    · intro g H locs ls hf w hl
      refine lv_iconst (v := 0) hx hb dX12_halves_62 (by decide) ?_
      refine lv_istore_n (lv' := [(1, .int 0), (0, .ref h)]) hx hb dX12_halves_63 rfl hl (by decide) rfl (fun ls hl => ?_)
      refine l_X12_halves_64 B _  ?_ N _ _ _ _ _ hf  w (lv_sub hl [1, 0] rfl)
      · intro g H locs ls hf w hl
        refine lv_aload_n hx hb dX12_halves_89 rfl (lv_at hl 0 rfl) ?_
        refine mx_get B w 0 fl_X12_9 rfl rfl dX12_halves_90 ?_
        refine lv_bipush (v := 30) hx hb dX12_halves_93 (by decide) ?_
        refine lv_dup2_11 hx hb dX12_halves_95 rfl rfl ?_
        obtain ⟨hin, hf⟩ := ld_e hf
        refine mx_iald B w 1 rfl hin dX12_halves_96 (fun v_12 ev => ?_)
        have hf := hf _ ev; clear ev
        refine lv_iconst (v := 1) hx hb dX12_halves_97 (by decide) ?_
        refine lv_iadd hx hb dX12_halves_98 ?_
        obtain ⟨hin, hf⟩ := sto_e hf
        refine mx_iast B w 1 rfl hin dX12_halves_99 (fun g_13 H locs ev w => ?_)
        have hf := hf _ ev; clear ev
        have w : mW E A s [(h, .inr (11, [.ref a_g, .ref a_kept, .int isKept, .ref a_tape, .int taped, .int spot, .ref a_written, .int writtenMany, .ref a_asked, .int askedMany, .ref a_there, .ref a_counts, .ref a_lasts, .ref a_cames])), (a_g, .inl (E.2.1, 8787, .inl g_13)), (a_kept, .inl (E.2.1, 8787, .inl kept)), (a_tape, .inl (E.2.2.1, 60, .inl tape)), (a_written, .inl (E.2.1, 40, .inl written)), (a_asked, .inl (E.2.1, 60, .inl asked)), (a_there, .inl (E.2.1, 12, .inl there)), (a_counts, .inl (E.2.1, 12, .inl counts)), (a_lasts, .inl (E.2.1, 12, .inl lasts)), (a_cames, .inl (E.2.1, 12, .inl cames))] H locs := w
        refine lv_aload_n hx hb dX12_halves_100 rfl (lv_at hl 0 rfl) ?_
        refine lv_bipush (v := 10) hx hb dX12_halves_101 (by decide) ?_
        refine lv_iconst (v := 0) hx hb dX12_halves_103 (by decide) ?_
        obtain ⟨o_14, hq, hf⟩ := bd_e hf
        refine mx_callV (As := [.int 10, .int 0]) (rest := []) (wr := []) (d_X12_happens E l N h a_g a_kept a_tape a_written a_asked a_there a_counts a_lasts a_cames g_13 kept isKept tape taped spot written writtenMany asked askedMany there counts lasts cames 10 0  o_14 hq) B w [0, 1, 2, 3, 4, 5, 6, 7, 8, 9] [] rfl rfl (by decide) (by decide) (by decide) 0 rfl rfl cv_X12_happens kw_1373 2 (by decide +kernel) ⟨Nat.le_of_ble_eq_true rfl, Nat.le_of_ble_eq_true rfl⟩ rfl hl.1 rfl (Nat.le_of_ble_eq_true rfl) dX12_halves_104 rfl rfl ⟨Nat.zero_le _, Nat.zero_le _⟩ (fun v w' H locs hpo w => ?_)
        clear hq
        obtain ⟨rfl, rfl⟩ := hpo
        have w : mW E A s [(h, .inr (11, [.ref a_g, .ref a_kept, .int isKept, .ref a_tape, .int taped, .int spot, .ref a_written, .int writtenMany, .ref a_asked, .int askedMany, .ref a_there, .ref a_counts, .ref a_lasts, .ref a_cames])), (a_g, .inl (E.2.1, 8787, .inl o_14)), (a_kept, .inl (E.2.1, 8787, .inl kept)), (a_tape, .inl (E.2.2.1, 60, .inl tape)), (a_written, .inl (E.2.1, 40, .inl written)), (a_asked, .inl (E.2.1, 60, .inl asked)), (a_there, .inl (E.2.1, 12, .inl there)), (a_counts, .inl (E.2.1, 12, .inl counts)), (a_lasts, .inl (E.2.1, 12, .inl lasts)), (a_cames, .inl (E.2.1, 12, .inl cames))] H locs := w
        cases hf
        exact mx_vret B w ⟨rfl, rfl⟩ dX12_halves_107
  · have hf := it_f hc hf
    cases hf
    exact mx_vret B w ⟨rfl, rfl⟩ dX12_halves_28
-- X12_ask
def po_X12_ask (E : mE) (h : Nat) (a_g : Nat) (a_kept : Nat) (a_tape : Nat) (a_written : Nat) (a_asked : Nat) (a_there : Nat) (a_counts : Nat) (a_lasts : Nat) (a_cames : Nat)  (g : Nat → Int32) (kept : Nat → Int32) (isKept : Int32) (tape : Nat → Int32) (taped : Int32) (spot : Int32) (written : Nat → Int32) (writtenMany : Int32) (asked : Nat → Int32) (askedMany : Int32) (there : Nat → Int32) (counts : Nat → Int32) (lasts : Nat → Int32) (cames : Nat → Int32)  (o : Int32 × (Nat → Int32) × Int32 × Int32) : Option Value → va_W → Prop := (fun (v : Option Value) (w' : va_W) => v = some (.int o.1) ∧ w' = [(h, .inr (11, [.ref a_g, .ref a_kept, .int isKept, .ref a_tape, .int o.2.2.1, .int o.2.2.2, .ref a_written, .int writtenMany, .ref a_asked, .int askedMany, .ref a_there, .ref a_counts, .ref a_lasts, .ref a_cames])), (a_g, .inl (E.2.1, 8787, .inl o.2.1)), (a_kept, .inl (E.2.1, 8787, .inl kept)), (a_tape, .inl (E.2.2.1, 60, .inl tape)), (a_written, .inl (E.2.1, 40, .inl written)), (a_asked, .inl (E.2.1, 60, .inl asked)), (a_there, .inl (E.2.1, 12, .inl there)), (a_counts, .inl (E.2.1, 12, .inl counts)), (a_lasts, .inl (E.2.1, 12, .inl lasts)), (a_cames, .inl (E.2.1, 12, .inl cames))])
noncomputable def F_X12_ask (N : Nat)  (g : Nat → Int32) (tape : Nat → Int32) (taped : Int32) (spot : Int32) (x1 : Int32) : Option (Int32 × (Nat → Int32) × Int32 × Int32) :=
  bd (F_X12_isAsker x1) (fun o_1 =>
  if (o_1 = 0 : Prop) then
  some ((-1001), g, taped, spot)
  else
  bd (F_X12_takesKey N tape taped spot) (fun o_2 =>
  if (o_2.1 = 0 : Prop) then
  some ((-1002), g, o_2.2.1, o_2.2.2)
  else
  bd (F_X12_uses N g o_2.1 x1) (fun o_3 =>
  bd (F_X12_asks N o_3 o_2.1 x1) (fun o_4 =>
  bd (F_X12_halves N o_4.2) (fun o_5 =>
  some (o_4.1, o_5, o_2.2.1, o_2.2.2))))))
set_option maxHeartbeats 4000000 in
set_option maxRecDepth 100000 in
theorem d_X12_ask (E : mE) (l : Launch) (N : Nat) (h : Nat) (a_g : Nat) (a_kept : Nat) (a_tape : Nat) (a_written : Nat) (a_asked : Nat) (a_there : Nat) (a_counts : Nat) (a_lasts : Nat) (a_cames : Nat)  (g : Nat → Int32) (kept : Nat → Int32) (isKept : Int32) (tape : Nat → Int32) (taped : Int32) (spot : Int32) (written : Nat → Int32) (writtenMany : Int32) (asked : Nat → Int32) (askedMany : Int32) (there : Nat → Int32) (counts : Nat → Int32) (lasts : Nat → Int32) (cames : Nat → Int32)  (x1 : Int32)  (o : Int32 × (Nat → Int32) × Int32 × Int32) (hf : F_X12_ask N g tape taped spot x1 = some o) : MX E l yX12_ask cX12_ask 4 (some .int) ({ frames := 11, cells := 0, slots := 0, locals := 258 } : Room) [.ref h, .int x1] [(h, .inr (11, [.ref a_g, .ref a_kept, .int isKept, .ref a_tape, .int taped, .int spot, .ref a_written, .int writtenMany, .ref a_asked, .int askedMany, .ref a_there, .ref a_counts, .ref a_lasts, .ref a_cames])), (a_g, .inl (E.2.1, 8787, .inl g)), (a_kept, .inl (E.2.1, 8787, .inl kept)), (a_tape, .inl (E.2.2.1, 60, .inl tape)), (a_written, .inl (E.2.1, 40, .inl written)), (a_asked, .inl (E.2.1, 60, .inl asked)), (a_there, .inl (E.2.1, 12, .inl there)), (a_counts, .inl (E.2.1, 12, .inl counts)), (a_lasts, .inl (E.2.1, 12, .inl lasts)), (a_cames, .inl (E.2.1, 12, .inl cames))] (po_X12_ask E h a_g a_kept a_tape a_written a_asked a_there a_counts a_lasts a_cames g kept isKept tape taped spot written writtenMany asked askedMany there counts lasts cames o) := by
  refine mx_intro (by decide +kernel) (Nat.le_of_ble_eq_true rfl) ?_
  intro p e s m args below meth c A Q ls B w hl
  obtain ⟨hx, hb, hml, hown, hts⟩ := id B.1
  unfold F_X12_ask at hf
  have hl : lv_has ls 4 [(0, .ref h), (1, .int x1)] := hl
  refine lv_iload_n hx hb dX12_ask_0 rfl (lv_at hl 1 rfl) ?_
  obtain ⟨o_1, hq, hf⟩ := bd_e hf
  refine mx_callS (As := [.int x1]) (rest := []) (wr := [(h, .inr (11, [.ref a_g, .ref a_kept, .int isKept, .ref a_tape, .int taped, .int spot, .ref a_written, .int writtenMany, .ref a_asked, .int askedMany, .ref a_there, .ref a_counts, .ref a_lasts, .ref a_cames])), (a_g, .inl (E.2.1, 8787, .inl g)), (a_kept, .inl (E.2.1, 8787, .inl kept)), (a_tape, .inl (E.2.2.1, 60, .inl tape)), (a_written, .inl (E.2.1, 40, .inl written)), (a_asked, .inl (E.2.1, 60, .inl asked)), (a_there, .inl (E.2.1, 12, .inl there)), (a_counts, .inl (E.2.1, 12, .inl counts)), (a_lasts, .inl (E.2.1, 12, .inl lasts)), (a_cames, .inl (E.2.1, 12, .inl cames))]) (d_X12_isAsker E l   x1  o_1 hq) B w [] [0, 1, 2, 3, 4, 5, 6, 7, 8, 9] rfl rfl (by decide) (by decide) (by decide) cs_X12_isAsker kw_1461 1 (by decide +kernel) ⟨Nat.le_of_ble_eq_true rfl, Nat.le_of_ble_eq_true rfl⟩ rfl hl.1 rfl (Nat.le_of_ble_eq_true rfl) dX12_ask_1 rfl rfl ⟨Nat.zero_le _, Nat.zero_le _⟩ (fun v w' H locs hpo w => ?_)
  clear hq
  obtain ⟨rfl, rfl⟩ := hpo
  have w : mW E A s [(h, .inr (11, [.ref a_g, .ref a_kept, .int isKept, .ref a_tape, .int taped, .int spot, .ref a_written, .int writtenMany, .ref a_asked, .int askedMany, .ref a_there, .ref a_counts, .ref a_lasts, .ref a_cames])), (a_g, .inl (E.2.1, 8787, .inl g)), (a_kept, .inl (E.2.1, 8787, .inl kept)), (a_tape, .inl (E.2.2.1, 60, .inl tape)), (a_written, .inl (E.2.1, 40, .inl written)), (a_asked, .inl (E.2.1, 60, .inl asked)), (a_there, .inl (E.2.1, 12, .inl there)), (a_counts, .inl (E.2.1, 12, .inl counts)), (a_lasts, .inl (E.2.1, 12, .inl lasts)), (a_cames, .inl (E.2.1, 12, .inl cames))] H locs := w
  refine lv_if_ne (tgt := 11) hx hb dX12_ask_4 (by decide) (fun hc => ?_) (fun hc => ?_)
  · have hf := it_f hc hf
    refine lv_aload_n hx hb dX12_ask_11 rfl (lv_at hl 0 rfl) ?_
    obtain ⟨o_2, hq, hf⟩ := bd_e hf
    refine mx_callV (As := []) (rest := []) (wr := []) (d_X12_takesKey E l N h a_g a_kept a_tape a_written a_asked a_there a_counts a_lasts a_cames g kept isKept tape taped spot written writtenMany asked askedMany there counts lasts cames   o_2 hq) B w [0, 1, 2, 3, 4, 5, 6, 7, 8, 9] [] rfl rfl (by decide) (by decide) (by decide) 0 rfl rfl cv_X12_takesKey kw_1281 0 (by decide +kernel) ⟨Nat.le_of_ble_eq_true rfl, Nat.le_of_ble_eq_true rfl⟩ rfl hl.1 rfl (Nat.le_of_ble_eq_true rfl) dX12_ask_12 rfl rfl ⟨Nat.zero_le _, Nat.zero_le _⟩ (fun v w' H locs hpo w => ?_)
    clear hq
    obtain ⟨rfl, rfl⟩ := hpo
    have w : mW E A s [(h, .inr (11, [.ref a_g, .ref a_kept, .int isKept, .ref a_tape, .int o_2.2.1, .int o_2.2.2, .ref a_written, .int writtenMany, .ref a_asked, .int askedMany, .ref a_there, .ref a_counts, .ref a_lasts, .ref a_cames])), (a_g, .inl (E.2.1, 8787, .inl g)), (a_kept, .inl (E.2.1, 8787, .inl kept)), (a_tape, .inl (E.2.2.1, 60, .inl tape)), (a_written, .inl (E.2.1, 40, .inl written)), (a_asked, .inl (E.2.1, 60, .inl asked)), (a_there, .inl (E.2.1, 12, .inl there)), (a_counts, .inl (E.2.1, 12, .inl counts)), (a_lasts, .inl (E.2.1, 12, .inl lasts)), (a_cames, .inl (E.2.1, 12, .inl cames))] H locs := w
    refine lv_istore_n (lv' := [(2, .int o_2.1), (0, .ref h), (1, .int x1)]) hx hb dX12_ask_15 rfl hl (by decide) rfl (fun ls hl => ?_)
    refine lv_iload_n hx hb dX12_ask_16 rfl (lv_at hl 0 rfl) ?_
    refine lv_if_ne (tgt := 24) hx hb dX12_ask_17 (by decide) (fun hc => ?_) (fun hc => ?_)
    · have hf := it_f hc hf
      refine lv_aload_n hx hb dX12_ask_24 rfl (lv_at hl 1 rfl) ?_
      refine lv_iload_n hx hb dX12_ask_25 rfl (lv_at hl 0 rfl) ?_
      refine lv_iload_n hx hb dX12_ask_26 rfl (lv_at hl 2 rfl) ?_
      obtain ⟨o_3, hq, hf⟩ := bd_e hf
      refine mx_callV (As := [.int o_2.1, .int x1]) (rest := []) (wr := []) (d_X12_uses E l N h a_g a_kept a_tape a_written a_asked a_there a_counts a_lasts a_cames g kept isKept tape o_2.2.1 o_2.2.2 written writtenMany asked askedMany there counts lasts cames o_2.1 x1  o_3 hq) B w [0, 1, 2, 3, 4, 5, 6, 7, 8, 9] [] rfl rfl (by decide) (by decide) (by decide) 0 rfl rfl cv_X12_uses kw_1464 2 (by decide +kernel) ⟨Nat.le_of_ble_eq_true rfl, Nat.le_of_ble_eq_true rfl⟩ rfl hl.1 rfl (Nat.le_of_ble_eq_true rfl) dX12_ask_27 rfl rfl ⟨Nat.zero_le _, Nat.zero_le _⟩ (fun v w' H locs hpo w => ?_)
      clear hq
      obtain ⟨rfl, rfl⟩ := hpo
      have w : mW E A s [(h, .inr (11, [.ref a_g, .ref a_kept, .int isKept, .ref a_tape, .int o_2.2.1, .int o_2.2.2, .ref a_written, .int writtenMany, .ref a_asked, .int askedMany, .ref a_there, .ref a_counts, .ref a_lasts, .ref a_cames])), (a_g, .inl (E.2.1, 8787, .inl o_3)), (a_kept, .inl (E.2.1, 8787, .inl kept)), (a_tape, .inl (E.2.2.1, 60, .inl tape)), (a_written, .inl (E.2.1, 40, .inl written)), (a_asked, .inl (E.2.1, 60, .inl asked)), (a_there, .inl (E.2.1, 12, .inl there)), (a_counts, .inl (E.2.1, 12, .inl counts)), (a_lasts, .inl (E.2.1, 12, .inl lasts)), (a_cames, .inl (E.2.1, 12, .inl cames))] H locs := w
      refine lv_aload_n hx hb dX12_ask_30 rfl (lv_at hl 1 rfl) ?_
      refine lv_iload_n hx hb dX12_ask_31 rfl (lv_at hl 0 rfl) ?_
      refine lv_iload_n hx hb dX12_ask_32 rfl (lv_at hl 2 rfl) ?_
      obtain ⟨o_4, hq, hf⟩ := bd_e hf
      refine mx_callV (As := [.int o_2.1, .int x1]) (rest := []) (wr := []) (d_X12_asks E l N h a_g a_kept a_tape a_written a_asked a_there a_counts a_lasts a_cames o_3 kept isKept tape o_2.2.1 o_2.2.2 written writtenMany asked askedMany there counts lasts cames o_2.1 x1  o_4 hq) B w [0, 1, 2, 3, 4, 5, 6, 7, 8, 9] [] rfl rfl (by decide) (by decide) (by decide) 0 rfl rfl cv_X12_asks kw_1468 2 (by decide +kernel) ⟨Nat.le_of_ble_eq_true rfl, Nat.le_of_ble_eq_true rfl⟩ rfl hl.1 rfl (Nat.le_of_ble_eq_true rfl) dX12_ask_33 rfl rfl ⟨Nat.zero_le _, Nat.zero_le _⟩ (fun v w' H locs hpo w => ?_)
      clear hq
      obtain ⟨rfl, rfl⟩ := hpo
      have w : mW E A s [(h, .inr (11, [.ref a_g, .ref a_kept, .int isKept, .ref a_tape, .int o_2.2.1, .int o_2.2.2, .ref a_written, .int writtenMany, .ref a_asked, .int askedMany, .ref a_there, .ref a_counts, .ref a_lasts, .ref a_cames])), (a_g, .inl (E.2.1, 8787, .inl o_4.2)), (a_kept, .inl (E.2.1, 8787, .inl kept)), (a_tape, .inl (E.2.2.1, 60, .inl tape)), (a_written, .inl (E.2.1, 40, .inl written)), (a_asked, .inl (E.2.1, 60, .inl asked)), (a_there, .inl (E.2.1, 12, .inl there)), (a_counts, .inl (E.2.1, 12, .inl counts)), (a_lasts, .inl (E.2.1, 12, .inl lasts)), (a_cames, .inl (E.2.1, 12, .inl cames))] H locs := w
      refine lv_istore_n (lv' := [(3, .int o_4.1), (2, .int o_2.1), (0, .ref h), (1, .int x1)]) hx hb dX12_ask_36 rfl hl (by decide) rfl (fun ls hl => ?_)
      refine lv_aload_n hx hb dX12_ask_37 rfl (lv_at hl 2 rfl) ?_
      obtain ⟨o_5, hq, hf⟩ := bd_e hf
      refine mx_callV (As := []) (rest := []) (wr := []) (d_X12_halves E l N h a_g a_kept a_tape a_written a_asked a_there a_counts a_lasts a_cames o_4.2 kept isKept tape o_2.2.1 o_2.2.2 written writtenMany asked askedMany there counts lasts cames   o_5 hq) B w [0, 1, 2, 3, 4, 5, 6, 7, 8, 9] [] rfl rfl (by decide) (by decide) (by decide) 0 rfl rfl cv_X12_halves kw_1496 0 (by decide +kernel) ⟨Nat.le_of_ble_eq_true rfl, Nat.le_of_ble_eq_true rfl⟩ rfl hl.1 rfl (Nat.le_of_ble_eq_true rfl) dX12_ask_38 rfl rfl ⟨Nat.zero_le _, Nat.zero_le _⟩ (fun v w' H locs hpo w => ?_)
      clear hq
      obtain ⟨rfl, rfl⟩ := hpo
      have w : mW E A s [(h, .inr (11, [.ref a_g, .ref a_kept, .int isKept, .ref a_tape, .int o_2.2.1, .int o_2.2.2, .ref a_written, .int writtenMany, .ref a_asked, .int askedMany, .ref a_there, .ref a_counts, .ref a_lasts, .ref a_cames])), (a_g, .inl (E.2.1, 8787, .inl o_5)), (a_kept, .inl (E.2.1, 8787, .inl kept)), (a_tape, .inl (E.2.2.1, 60, .inl tape)), (a_written, .inl (E.2.1, 40, .inl written)), (a_asked, .inl (E.2.1, 60, .inl asked)), (a_there, .inl (E.2.1, 12, .inl there)), (a_counts, .inl (E.2.1, 12, .inl counts)), (a_lasts, .inl (E.2.1, 12, .inl lasts)), (a_cames, .inl (E.2.1, 12, .inl cames))] H locs := w
      refine lv_iload_n hx hb dX12_ask_41 rfl (lv_at hl 0 rfl) ?_
      cases hf
      exact mx_iret B w ⟨rfl, rfl⟩ dX12_ask_42
    · have hf := it_t hc hf
      refine lv_sipush (v := (-1002)) hx hb dX12_ask_20 (by decide) ?_
      cases hf
      exact mx_iret B w ⟨rfl, rfl⟩ dX12_ask_23
  · have hf := it_t hc hf
    refine lv_sipush (v := (-1001)) hx hb dX12_ask_7 (by decide) ?_
    cases hf
    exact mx_iret B w ⟨rfl, rfl⟩ dX12_ask_10
-- X12_giveUp
def po_X12_giveUp (E : mE) (h : Nat) (a_g : Nat) (a_kept : Nat) (a_tape : Nat) (a_written : Nat) (a_asked : Nat) (a_there : Nat) (a_counts : Nat) (a_lasts : Nat) (a_cames : Nat)  (g : Nat → Int32) (kept : Nat → Int32) (isKept : Int32) (tape : Nat → Int32) (taped : Int32) (spot : Int32) (written : Nat → Int32) (writtenMany : Int32) (asked : Nat → Int32) (askedMany : Int32) (there : Nat → Int32) (counts : Nat → Int32) (lasts : Nat → Int32) (cames : Nat → Int32)  (o : Int32 × (Nat → Int32) × Int32 × Int32) : Option Value → va_W → Prop := (fun (v : Option Value) (w' : va_W) => v = some (.int o.1) ∧ w' = [(h, .inr (11, [.ref a_g, .ref a_kept, .int isKept, .ref a_tape, .int o.2.2.1, .int o.2.2.2, .ref a_written, .int writtenMany, .ref a_asked, .int askedMany, .ref a_there, .ref a_counts, .ref a_lasts, .ref a_cames])), (a_g, .inl (E.2.1, 8787, .inl o.2.1)), (a_kept, .inl (E.2.1, 8787, .inl kept)), (a_tape, .inl (E.2.2.1, 60, .inl tape)), (a_written, .inl (E.2.1, 40, .inl written)), (a_asked, .inl (E.2.1, 60, .inl asked)), (a_there, .inl (E.2.1, 12, .inl there)), (a_counts, .inl (E.2.1, 12, .inl counts)), (a_lasts, .inl (E.2.1, 12, .inl lasts)), (a_cames, .inl (E.2.1, 12, .inl cames))])
noncomputable def K_X12_giveUp_76 (N : Nat)  (rec : Int32 → (Nat → Int32) → (Option (Int32 × (Nat → Int32) × Int32 × Int32))) (k122 : (Nat → Int32) → (Option (Int32 × (Nat → Int32) × Int32 × Int32))) (x3 : Int32) (x5 : Int32) (tape : Nat → Int32) (taped : Int32) (spot : Int32) (x4 : Int32) (g : Nat → Int32) : Option (Int32 × (Nat → Int32) × Int32 × Int32) :=
  ld g 8787 (x5 + 3) (fun v_8 =>
  if (v_8 ≤ x4 : Prop) then
  k122 g
  else
  ld g 8787 (((x5 + 4) + x4) + 1) (fun v_9 =>
  sto g 8787 ((x5 + 4) + x4) v_9 (fun g_10 =>
  lt (x4 + 1) (fun x4_11 =>
  rec x4_11 g_10))))
noncomputable def L_X12_giveUp_76 (N : Nat)  (k122 : (Nat → Int32) → (Option (Int32 × (Nat → Int32) × Int32 × Int32))) (x3 : Int32) (x5 : Int32) (tape : Nat → Int32) (taped : Int32) (spot : Int32) (n : Nat) : Int32 → (Nat → Int32) → (Option (Int32 × (Nat → Int32) × Int32 × Int32)) :=
  Nat.rec (motive := fun _ => Int32 → (Nat → Int32) → (Option (Int32 × (Nat → Int32) × Int32 × Int32))) (fun _ _ => none) (fun _ rec => K_X12_giveUp_76 N rec k122 x3 x5 tape taped spot) n
set_option maxHeartbeats 4000000 in
set_option maxRecDepth 100000 in
theorem l_X12_giveUp_76 {E : mE} {l : Launch} {p : Program} {e : Env} {s : State} {m : MethodId} {args : Array Value} {below : List Frame} {meth : Method} {c : Code} {A : Nat → Prop} {Q : State → Prop} {N : Nat} {h : Nat} {a_g : Nat} {a_kept : Nat} {a_tape : Nat} {a_written : Nat} {a_asked : Nat} {a_there : Nat} {a_counts : Nat} {a_lasts : Nat} {a_cames : Nat}  {g0 : Nat → Int32} {kept : Nat → Int32} {isKept : Int32} {tape : Nat → Int32} {taped0 : Int32} {spot0 : Int32} {written : Nat → Int32} {writtenMany : Int32} {asked : Nat → Int32} {askedMany : Int32} {there : Nat → Int32} {counts : Nat → Int32} {lasts : Nat → Int32} {cames : Nat → Int32}  {o : Int32 × (Nat → Int32) × Int32 × Int32} (B : mB E yX12_giveUp cX12_giveUp 6 (some .int) 0 0 (po_X12_giveUp E h a_g a_kept a_tape a_written a_asked a_there a_counts a_lasts a_cames g0 kept isKept tape taped0 spot0 written writtenMany asked askedMany there counts lasts cames o) p s m args below meth c A Q) {taped : Int32} {spot : Int32}  {x3 : Int32} {x5 : Int32} (k122 : (Nat → Int32) → (Option (Int32 × (Nat → Int32) × Int32 × Int32)))  (hk122 : ∀  (g : Nat → Int32)  (H : Heap) (locs : List Loc) (ls : Array Slot), k122 g = some o → mW E A s [(h, .inr (11, [.ref a_g, .ref a_kept, .int isKept, .ref a_tape, .int taped, .int spot, .ref a_written, .int writtenMany, .ref a_asked, .int askedMany, .ref a_there, .ref a_counts, .ref a_lasts, .ref a_cames])), (a_g, .inl (E.2.1, 8787, .inl g)), (a_kept, .inl (E.2.1, 8787, .inl kept)), (a_tape, .inl (E.2.2.1, 60, .inl tape)), (a_written, .inl (E.2.1, 40, .inl written)), (a_asked, .inl (E.2.1, 60, .inl asked)), (a_there, .inl (E.2.1, 12, .inl there)), (a_counts, .inl (E.2.1, 12, .inl counts)), (a_lasts, .inl (E.2.1, 12, .inl lasts)), (a_cames, .inl (E.2.1, 12, .inl cames))] H locs → lv_has ls 6 [(0, .ref h), (3, .int x3), (5, .int x5)] → W p l e ({ frames := 3, cells := 0, slots := 0, locals := 66 } : Room) s m args below meth c H locs 0 0 Q (F0 m 122 ls [])) : ∀ n : Nat, ∀ (x4 : Int32) (g : Nat → Int32)  (H : Heap) (locs : List Loc) (ls : Array Slot), L_X12_giveUp_76 N k122 x3 x5 tape taped spot n x4 g = some o → mW E A s [(h, .inr (11, [.ref a_g, .ref a_kept, .int isKept, .ref a_tape, .int taped, .int spot, .ref a_written, .int writtenMany, .ref a_asked, .int askedMany, .ref a_there, .ref a_counts, .ref a_lasts, .ref a_cames])), (a_g, .inl (E.2.1, 8787, .inl g)), (a_kept, .inl (E.2.1, 8787, .inl kept)), (a_tape, .inl (E.2.2.1, 60, .inl tape)), (a_written, .inl (E.2.1, 40, .inl written)), (a_asked, .inl (E.2.1, 60, .inl asked)), (a_there, .inl (E.2.1, 12, .inl there)), (a_counts, .inl (E.2.1, 12, .inl counts)), (a_lasts, .inl (E.2.1, 12, .inl lasts)), (a_cames, .inl (E.2.1, 12, .inl cames))] H locs → lv_has ls 6 [(0, .ref h), (3, .int x3), (4, .int x4), (5, .int x5)] → W p l e ({ frames := 3, cells := 0, slots := 0, locals := 66 } : Room) s m args below meth c H locs 0 0 Q (F0 m 76 ls []) := by
  obtain ⟨hx, hb, hml, hown, hts⟩ := id B.1
  intro n
  induction n with
  | zero =>
    intro x4 g H locs ls hf w hl
    exact nomatch hf
  | succ n hrec =>
    intro x4 g H locs ls hf w hl
    have hf : K_X12_giveUp_76 N (L_X12_giveUp_76 N k122 x3 x5 tape taped spot n) k122 x3 x5 tape taped spot x4 g = some o := hf
    unfold K_X12_giveUp_76 at hf
    refine lv_iload hx hb dX12_giveUp_76 (lv_at hl 2 rfl) ?_
    refine lv_aload_n hx hb dX12_giveUp_78 rfl (lv_at hl 0 rfl) ?_
    refine mx_get B w 0 fl_X12_9 rfl rfl dX12_giveUp_79 ?_
    refine lv_iload hx hb dX12_giveUp_82 (lv_at hl 3 rfl) ?_
    refine lv_iconst (v := 3) hx hb dX12_giveUp_84 (by decide) ?_
    refine lv_iadd hx hb dX12_giveUp_85 ?_
    obtain ⟨hin, hf⟩ := ld_e hf
    refine mx_iald B w 1 rfl hin dX12_giveUp_86 (fun v_8 ev => ?_)
    have hf := hf _ ev; clear ev
    refine lv_icmp_ge (tgt := 122) hx hb dX12_giveUp_87 (by decide) (fun hc => ?_) (fun hc => ?_)
    · have hf := it_t hc hf
      exact hk122 _ _ _ _ hf  w (lv_sub hl [0, 1, 3] rfl)
    · have hf := it_f hc hf
      refine lv_aload_n hx hb dX12_giveUp_90 rfl (lv_at hl 0 rfl) ?_
      refine mx_get B w 0 fl_X12_9 rfl rfl dX12_giveUp_91 ?_
      refine lv_iload hx hb dX12_giveUp_94 (lv_at hl 3 rfl) ?_
      refine lv_iconst (v := 4) hx hb dX12_giveUp_96 (by decide) ?_
      refine lv_iadd hx hb dX12_giveUp_97 ?_
      refine lv_iload hx hb dX12_giveUp_98 (lv_at hl 2 rfl) ?_
      refine lv_iadd hx hb dX12_giveUp_100 ?_
      refine lv_aload_n hx hb dX12_giveUp_101 rfl (lv_at hl 0 rfl) ?_
      refine mx_get B w 0 fl_X12_9 rfl rfl dX12_giveUp_102 ?_
      refine lv_iload hx hb dX12_giveUp_105 (lv_at hl 3 rfl) ?_
      refine lv_iconst (v := 4) hx hb dX12_giveUp_107 (by decide) ?_
      refine lv_iadd hx hb dX12_giveUp_108 ?_
      refine lv_iload hx hb dX12_giveUp_109 (lv_at hl 2 rfl) ?_
      refine lv_iadd hx hb dX12_giveUp_111 ?_
      refine lv_iconst (v := 1) hx hb dX12_giveUp_112 (by decide) ?_
      refine lv_iadd hx hb dX12_giveUp_113 ?_
      obtain ⟨hin, hf⟩ := ld_e hf
      refine mx_iald B w 1 rfl hin dX12_giveUp_114 (fun v_9 ev => ?_)
      have hf := hf _ ev; clear ev
      obtain ⟨hin, hf⟩ := sto_e hf
      refine mx_iast B w 1 rfl hin dX12_giveUp_115 (fun g_10 H locs ev w => ?_)
      have hf := hf _ ev; clear ev
      have w : mW E A s [(h, .inr (11, [.ref a_g, .ref a_kept, .int isKept, .ref a_tape, .int taped, .int spot, .ref a_written, .int writtenMany, .ref a_asked, .int askedMany, .ref a_there, .ref a_counts, .ref a_lasts, .ref a_cames])), (a_g, .inl (E.2.1, 8787, .inl g_10)), (a_kept, .inl (E.2.1, 8787, .inl kept)), (a_tape, .inl (E.2.2.1, 60, .inl tape)), (a_written, .inl (E.2.1, 40, .inl written)), (a_asked, .inl (E.2.1, 60, .inl asked)), (a_there, .inl (E.2.1, 12, .inl there)), (a_counts, .inl (E.2.1, 12, .inl counts)), (a_lasts, .inl (E.2.1, 12, .inl lasts)), (a_cames, .inl (E.2.1, 12, .inl cames))] H locs := w
      obtain ⟨x4_11, ev⟩ : ∃ y : Int32, y = x4 + 1 := ⟨_, rfl⟩
      refine lv_iinc (v := x4_11) (lv' := [(4, .int x4_11), (0, .ref h), (3, .int x3), (5, .int x5)]) hx hb dX12_giveUp_116 hl (k := 2) rfl (by rw [ev]; rfl) (by decide) rfl (fun ls hl => ?_)
      have hf := lt_n ev hf; clear ev
      refine lv_goto (tgt := 76) hx hb dX12_giveUp_119 (by decide) ?_
      exact hrec _ _ _ _ _ hf  w (lv_sub hl [1, 2, 0, 3] rfl)
noncomputable def J_X12_giveUp_44 (N : Nat)   (t0 : Int32) (x3 : Int32) (g : Nat → Int32) (tape : Nat → Int32) (taped : Int32) (spot : Int32) : Option (Int32 × (Nat → Int32) × Int32 × Int32) :=
  if (0 ≤ t0 : Prop) then
  lt (2003 + (x3 * 20)) (fun x5_5 =>
  ld g 8787 (x5_5 + 3) (fun v_6 =>
  sto g 8787 (x5_5 + 3) (v_6 - 1) (fun g_7 =>
  L_X12_giveUp_76 N (fun g => ld g 8787 (x5_5 + 3) (fun v_12 =>
  if (v_12 = 0 : Prop) then
  ld g 8787 (x5_5 + 1) (fun v_13 =>
  if (v_13 = 1 : Prop) then
  bd (F_X12_takesOut N g 15 2003 20 x3) (fun o_14 =>
  some (1, o_14, taped, spot))
  else
  some (1, g, taped, spot))
  else
  some (1, g, taped, spot))) x3 x5_5 tape taped spot N t0 g_7)))
  else
  some (0, g, taped, spot)
set_option maxHeartbeats 4000000 in
set_option maxRecDepth 100000 in
theorem j_X12_giveUp_44 {E : mE} {l : Launch} {p : Program} {e : Env} {s : State} {m : MethodId} {args : Array Value} {below : List Frame} {meth : Method} {c : Code} {A : Nat → Prop} {Q : State → Prop} {N : Nat} {h : Nat} {a_g : Nat} {a_kept : Nat} {a_tape : Nat} {a_written : Nat} {a_asked : Nat} {a_there : Nat} {a_counts : Nat} {a_lasts : Nat} {a_cames : Nat}  {g0 : Nat → Int32} {kept : Nat → Int32} {isKept : Int32} {tape : Nat → Int32} {taped0 : Int32} {spot0 : Int32} {written : Nat → Int32} {writtenMany : Int32} {asked : Nat → Int32} {askedMany : Int32} {there : Nat → Int32} {counts : Nat → Int32} {lasts : Nat → Int32} {cames : Nat → Int32}  {o : Int32 × (Nat → Int32) × Int32 × Int32} (B : mB E yX12_giveUp cX12_giveUp 6 (some .int) 0 0 (po_X12_giveUp E h a_g a_kept a_tape a_written a_asked a_there a_counts a_lasts a_cames g0 kept isKept tape taped0 spot0 written writtenMany asked askedMany there counts lasts cames o) p s m args below meth c A Q) {t0 : Int32} {x3 : Int32} {g : Nat → Int32} {taped : Int32} {spot : Int32}    {H : Heap} {locs : List Loc} {ls : Array Slot} (hf : J_X12_giveUp_44 N t0 x3 g tape taped spot = some o)  (w : mW E A s [(h, .inr (11, [.ref a_g, .ref a_kept, .int isKept, .ref a_tape, .int taped, .int spot, .ref a_written, .int writtenMany, .ref a_asked, .int askedMany, .ref a_there, .ref a_counts, .ref a_lasts, .ref a_cames])), (a_g, .inl (E.2.1, 8787, .inl g)), (a_kept, .inl (E.2.1, 8787, .inl kept)), (a_tape, .inl (E.2.2.1, 60, .inl tape)), (a_written, .inl (E.2.1, 40, .inl written)), (a_asked, .inl (E.2.1, 60, .inl asked)), (a_there, .inl (E.2.1, 12, .inl there)), (a_counts, .inl (E.2.1, 12, .inl counts)), (a_lasts, .inl (E.2.1, 12, .inl lasts)), (a_cames, .inl (E.2.1, 12, .inl cames))] H locs) (hl : lv_has ls 6 [(0, .ref h), (3, .int x3)]) : W p l e ({ frames := 3, cells := 0, slots := 0, locals := 66 } : Room) s m args below meth c H locs 0 0 Q (F0 m 44 ls [.int t0]) := by
  obtain ⟨hx, hb, hml, hown, hts⟩ := id B.1
  unfold J_X12_giveUp_44 at hf
  refine lv_istore (lv' := [(4, .int t0), (0, .ref h), (3, .int x3)]) hx hb dX12_giveUp_44 hl (by decide) rfl (fun ls hl => ?_)
  refine lv_iload hx hb dX12_giveUp_46 (lv_at hl 0 rfl) ?_
  refine lv_if_ge (tgt := 53) hx hb dX12_giveUp_48 (by decide) (fun hc => ?_) (fun hc => ?_)
  · have hf := it_t hc hf
    refine lv_sipush (v := 2003) hx hb dX12_giveUp_53 (by decide) ?_
    refine lv_iload_n hx hb dX12_giveUp_56 rfl (lv_at hl 2 rfl) ?_
    refine lv_bipush (v := 20) hx hb dX12_giveUp_57 (by decide) ?_
    refine lv_imul hx hb dX12_giveUp_59 ?_
    refine lv_iadd hx hb dX12_giveUp_60 ?_
    refine lv_topi (fun x5_5 ev => ?_)
    have hf := lt_n ev hf; clear ev
    refine lv_istore (lv' := [(5, .int x5_5), (4, .int t0), (0, .ref h), (3, .int x3)]) hx hb dX12_giveUp_61 hl (by decide) rfl (fun ls hl => ?_)
    refine lv_aload_n hx hb dX12_giveUp_63 rfl (lv_at hl 2 rfl) ?_
    refine mx_get B w 0 fl_X12_9 rfl rfl dX12_giveUp_64 ?_
    refine lv_iload hx hb dX12_giveUp_67 (lv_at hl 0 rfl) ?_
    refine lv_iconst (v := 3) hx hb dX12_giveUp_69 (by decide) ?_
    refine lv_iadd hx hb dX12_giveUp_70 ?_
    refine lv_dup2_11 hx hb dX12_giveUp_71 rfl rfl ?_
    obtain ⟨hin, hf⟩ := ld_e hf
    refine mx_iald B w 1 rfl hin dX12_giveUp_72 (fun v_6 ev => ?_)
    have hf := hf _ ev; clear ev
    refine lv_iconst (v := 1) hx hb dX12_giveUp_73 (by decide) ?_
    refine lv_isub hx hb dX12_giveUp_74 ?_
    obtain ⟨hin, hf⟩ := sto_e hf
    refine mx_iast B w 1 rfl hin dX12_giveUp_75 (fun g_7 H locs ev w => ?_)
    have hf := hf _ ev; clear ev
    have w : mW E A s [(h, .inr (11, [.ref a_g, .ref a_kept, .int isKept, .ref a_tape, .int taped, .int spot, .ref a_written, .int writtenMany, .ref a_asked, .int askedMany, .ref a_there, .ref a_counts, .ref a_lasts, .ref a_cames])), (a_g, .inl (E.2.1, 8787, .inl g_7)), (a_kept, .inl (E.2.1, 8787, .inl kept)), (a_tape, .inl (E.2.2.1, 60, .inl tape)), (a_written, .inl (E.2.1, 40, .inl written)), (a_asked, .inl (E.2.1, 60, .inl asked)), (a_there, .inl (E.2.1, 12, .inl there)), (a_counts, .inl (E.2.1, 12, .inl counts)), (a_lasts, .inl (E.2.1, 12, .inl lasts)), (a_cames, .inl (E.2.1, 12, .inl cames))] H locs := w
    refine l_X12_giveUp_76 B _  ?_ N _ _ _ _ _ hf  w (lv_sub hl [2, 3, 1, 0] rfl)
    · intro g H locs ls hf w hl
      refine lv_aload_n hx hb dX12_giveUp_122 rfl (lv_at hl 0 rfl) ?_
      refine mx_get B w 0 fl_X12_9 rfl rfl dX12_giveUp_123 ?_
      refine lv_iload hx hb dX12_giveUp_126 (lv_at hl 2 rfl) ?_
      refine lv_iconst (v := 3) hx hb dX12_giveUp_128 (by decide) ?_
      refine lv_iadd hx hb dX12_giveUp_129 ?_
      obtain ⟨hin, hf⟩ := ld_e hf
      refine mx_iald B w 1 rfl hin dX12_giveUp_130 (fun v_12 ev => ?_)
      have hf := hf _ ev; clear ev
      refine lv_if_ne (tgt := 159) hx hb dX12_giveUp_131 (by decide) (fun hc => ?_) (fun hc => ?_)
      · have hf := it_f hc hf
        refine lv_iconst (v := 1) hx hb dX12_giveUp_159 (by decide) ?_
        cases hf
        exact mx_iret B w ⟨rfl, rfl⟩ dX12_giveUp_160
      · have hf := it_t hc hf
        refine lv_aload_n hx hb dX12_giveUp_134 rfl (lv_at hl 0 rfl) ?_
        refine mx_get B w 0 fl_X12_9 rfl rfl dX12_giveUp_135 ?_
        refine lv_iload hx hb dX12_giveUp_138 (lv_at hl 2 rfl) ?_
        refine lv_iconst (v := 1) hx hb dX12_giveUp_140 (by decide) ?_
        refine lv_iadd hx hb dX12_giveUp_141 ?_
        obtain ⟨hin, hf⟩ := ld_e hf
        refine mx_iald B w 1 rfl hin dX12_giveUp_142 (fun v_13 ev => ?_)
        have hf := hf _ ev; clear ev
        refine lv_iconst (v := 1) hx hb dX12_giveUp_143 (by decide) ?_
        refine lv_icmp_ne (tgt := 159) hx hb dX12_giveUp_144 (by decide) (fun hc => ?_) (fun hc => ?_)
        · have hf := it_f hc hf
          refine lv_iconst (v := 1) hx hb dX12_giveUp_159 (by decide) ?_
          cases hf
          exact mx_iret B w ⟨rfl, rfl⟩ dX12_giveUp_160
        · have hf := it_t hc hf
          refine lv_aload_n hx hb dX12_giveUp_147 rfl (lv_at hl 0 rfl) ?_
          refine lv_bipush (v := 15) hx hb dX12_giveUp_148 (by decide) ?_
          refine lv_sipush (v := 2003) hx hb dX12_giveUp_150 (by decide) ?_
          refine lv_bipush (v := 20) hx hb dX12_giveUp_153 (by decide) ?_
          refine lv_iload_n hx hb dX12_giveUp_155 rfl (lv_at hl 1 rfl) ?_
          obtain ⟨o_14, hq, hf⟩ := bd_e hf
          refine mx_callV (As := [.int 15, .int 2003, .int 20, .int x3]) (rest := []) (wr := []) (d_X12_takesOut E l N h a_g a_kept a_tape a_written a_asked a_there a_counts a_lasts a_cames g kept isKept tape taped spot written writtenMany asked askedMany there counts lasts cames 15 2003 20 x3  o_14 hq) B w [0, 1, 2, 3, 4, 5, 6, 7, 8, 9] [] rfl rfl (by decide) (by decide) (by decide) 0 rfl rfl cv_X12_takesOut kw_1357 4 (by decide +kernel) ⟨Nat.le_of_ble_eq_true rfl, Nat.le_of_ble_eq_true rfl⟩ rfl hl.1 rfl (Nat.le_of_ble_eq_true rfl) dX12_giveUp_156 rfl rfl ⟨Nat.zero_le _, Nat.zero_le _⟩ (fun v w' H locs hpo w => ?_)
          clear hq
          obtain ⟨rfl, rfl⟩ := hpo
          have w : mW E A s [(h, .inr (11, [.ref a_g, .ref a_kept, .int isKept, .ref a_tape, .int taped, .int spot, .ref a_written, .int writtenMany, .ref a_asked, .int askedMany, .ref a_there, .ref a_counts, .ref a_lasts, .ref a_cames])), (a_g, .inl (E.2.1, 8787, .inl o_14)), (a_kept, .inl (E.2.1, 8787, .inl kept)), (a_tape, .inl (E.2.2.1, 60, .inl tape)), (a_written, .inl (E.2.1, 40, .inl written)), (a_asked, .inl (E.2.1, 60, .inl asked)), (a_there, .inl (E.2.1, 12, .inl there)), (a_counts, .inl (E.2.1, 12, .inl counts)), (a_lasts, .inl (E.2.1, 12, .inl lasts)), (a_cames, .inl (E.2.1, 12, .inl cames))] H locs := w
          refine lv_iconst (v := 1) hx hb dX12_giveUp_159 (by decide) ?_
          cases hf
          exact mx_iret B w ⟨rfl, rfl⟩ dX12_giveUp_160
  · have hf := it_f hc hf
    refine lv_iconst (v := 0) hx hb dX12_giveUp_51 (by decide) ?_
    cases hf
    exact mx_iret B w ⟨rfl, rfl⟩ dX12_giveUp_52
noncomputable def F_X12_giveUp (N : Nat)  (g : Nat → Int32) (tape : Nat → Int32) (taped : Int32) (spot : Int32) (x1 : Int32) : Option (Int32 × (Nat → Int32) × Int32 × Int32) :=
  bd (F_X12_isAsker x1) (fun o_1 =>
  if (o_1 = 0 : Prop) then
  some ((-1001), g, taped, spot)
  else
  bd (F_X12_takesKey N tape taped spot) (fun o_2 =>
  if (o_2.1 = 0 : Prop) then
  some ((-1002), g, o_2.2.1, o_2.2.2)
  else
  bd (F_X12_loadOf N g o_2.1) (fun o_3 =>
  if (0 ≤ o_3 : Prop) then
  bd (F_X12_waiterOf N g o_3 x1) (fun o_4 =>
  J_X12_giveUp_44 N o_4 o_3 g tape o_2.2.1 o_2.2.2)
  else
  J_X12_giveUp_44 N ((-1)) o_3 g tape o_2.2.1 o_2.2.2)))
set_option maxHeartbeats 4000000 in
set_option maxRecDepth 100000 in
theorem d_X12_giveUp (E : mE) (l : Launch) (N : Nat) (h : Nat) (a_g : Nat) (a_kept : Nat) (a_tape : Nat) (a_written : Nat) (a_asked : Nat) (a_there : Nat) (a_counts : Nat) (a_lasts : Nat) (a_cames : Nat)  (g : Nat → Int32) (kept : Nat → Int32) (isKept : Int32) (tape : Nat → Int32) (taped : Int32) (spot : Int32) (written : Nat → Int32) (writtenMany : Int32) (asked : Nat → Int32) (askedMany : Int32) (there : Nat → Int32) (counts : Nat → Int32) (lasts : Nat → Int32) (cames : Nat → Int32)  (x1 : Int32)  (o : Int32 × (Nat → Int32) × Int32 × Int32) (hf : F_X12_giveUp N g tape taped spot x1 = some o) : MX E l yX12_giveUp cX12_giveUp 6 (some .int) ({ frames := 3, cells := 0, slots := 0, locals := 66 } : Room) [.ref h, .int x1] [(h, .inr (11, [.ref a_g, .ref a_kept, .int isKept, .ref a_tape, .int taped, .int spot, .ref a_written, .int writtenMany, .ref a_asked, .int askedMany, .ref a_there, .ref a_counts, .ref a_lasts, .ref a_cames])), (a_g, .inl (E.2.1, 8787, .inl g)), (a_kept, .inl (E.2.1, 8787, .inl kept)), (a_tape, .inl (E.2.2.1, 60, .inl tape)), (a_written, .inl (E.2.1, 40, .inl written)), (a_asked, .inl (E.2.1, 60, .inl asked)), (a_there, .inl (E.2.1, 12, .inl there)), (a_counts, .inl (E.2.1, 12, .inl counts)), (a_lasts, .inl (E.2.1, 12, .inl lasts)), (a_cames, .inl (E.2.1, 12, .inl cames))] (po_X12_giveUp E h a_g a_kept a_tape a_written a_asked a_there a_counts a_lasts a_cames g kept isKept tape taped spot written writtenMany asked askedMany there counts lasts cames o) := by
  refine mx_intro (by decide +kernel) (Nat.le_of_ble_eq_true rfl) ?_
  intro p e s m args below meth c A Q ls B w hl
  obtain ⟨hx, hb, hml, hown, hts⟩ := id B.1
  unfold F_X12_giveUp at hf
  have hl : lv_has ls 6 [(0, .ref h), (1, .int x1)] := hl
  refine lv_iload_n hx hb dX12_giveUp_0 rfl (lv_at hl 1 rfl) ?_
  obtain ⟨o_1, hq, hf⟩ := bd_e hf
  refine mx_callS (As := [.int x1]) (rest := []) (wr := [(h, .inr (11, [.ref a_g, .ref a_kept, .int isKept, .ref a_tape, .int taped, .int spot, .ref a_written, .int writtenMany, .ref a_asked, .int askedMany, .ref a_there, .ref a_counts, .ref a_lasts, .ref a_cames])), (a_g, .inl (E.2.1, 8787, .inl g)), (a_kept, .inl (E.2.1, 8787, .inl kept)), (a_tape, .inl (E.2.2.1, 60, .inl tape)), (a_written, .inl (E.2.1, 40, .inl written)), (a_asked, .inl (E.2.1, 60, .inl asked)), (a_there, .inl (E.2.1, 12, .inl there)), (a_counts, .inl (E.2.1, 12, .inl counts)), (a_lasts, .inl (E.2.1, 12, .inl lasts)), (a_cames, .inl (E.2.1, 12, .inl cames))]) (d_X12_isAsker E l   x1  o_1 hq) B w [] [0, 1, 2, 3, 4, 5, 6, 7, 8, 9] rfl rfl (by decide) (by decide) (by decide) cs_X12_isAsker kw_1461 1 (by decide +kernel) ⟨Nat.le_of_ble_eq_true rfl, Nat.le_of_ble_eq_true rfl⟩ rfl hl.1 rfl (Nat.le_of_ble_eq_true rfl) dX12_giveUp_1 rfl rfl ⟨Nat.zero_le _, Nat.zero_le _⟩ (fun v w' H locs hpo w => ?_)
  clear hq
  obtain ⟨rfl, rfl⟩ := hpo
  have w : mW E A s [(h, .inr (11, [.ref a_g, .ref a_kept, .int isKept, .ref a_tape, .int taped, .int spot, .ref a_written, .int writtenMany, .ref a_asked, .int askedMany, .ref a_there, .ref a_counts, .ref a_lasts, .ref a_cames])), (a_g, .inl (E.2.1, 8787, .inl g)), (a_kept, .inl (E.2.1, 8787, .inl kept)), (a_tape, .inl (E.2.2.1, 60, .inl tape)), (a_written, .inl (E.2.1, 40, .inl written)), (a_asked, .inl (E.2.1, 60, .inl asked)), (a_there, .inl (E.2.1, 12, .inl there)), (a_counts, .inl (E.2.1, 12, .inl counts)), (a_lasts, .inl (E.2.1, 12, .inl lasts)), (a_cames, .inl (E.2.1, 12, .inl cames))] H locs := w
  refine lv_if_ne (tgt := 11) hx hb dX12_giveUp_4 (by decide) (fun hc => ?_) (fun hc => ?_)
  · have hf := it_f hc hf
    refine lv_aload_n hx hb dX12_giveUp_11 rfl (lv_at hl 0 rfl) ?_
    obtain ⟨o_2, hq, hf⟩ := bd_e hf
    refine mx_callV (As := []) (rest := []) (wr := []) (d_X12_takesKey E l N h a_g a_kept a_tape a_written a_asked a_there a_counts a_lasts a_cames g kept isKept tape taped spot written writtenMany asked askedMany there counts lasts cames   o_2 hq) B w [0, 1, 2, 3, 4, 5, 6, 7, 8, 9] [] rfl rfl (by decide) (by decide) (by decide) 0 rfl rfl cv_X12_takesKey kw_1281 0 (by decide +kernel) ⟨Nat.le_of_ble_eq_true rfl, Nat.le_of_ble_eq_true rfl⟩ rfl hl.1 rfl (Nat.le_of_ble_eq_true rfl) dX12_giveUp_12 rfl rfl ⟨Nat.zero_le _, Nat.zero_le _⟩ (fun v w' H locs hpo w => ?_)
    clear hq
    obtain ⟨rfl, rfl⟩ := hpo
    have w : mW E A s [(h, .inr (11, [.ref a_g, .ref a_kept, .int isKept, .ref a_tape, .int o_2.2.1, .int o_2.2.2, .ref a_written, .int writtenMany, .ref a_asked, .int askedMany, .ref a_there, .ref a_counts, .ref a_lasts, .ref a_cames])), (a_g, .inl (E.2.1, 8787, .inl g)), (a_kept, .inl (E.2.1, 8787, .inl kept)), (a_tape, .inl (E.2.2.1, 60, .inl tape)), (a_written, .inl (E.2.1, 40, .inl written)), (a_asked, .inl (E.2.1, 60, .inl asked)), (a_there, .inl (E.2.1, 12, .inl there)), (a_counts, .inl (E.2.1, 12, .inl counts)), (a_lasts, .inl (E.2.1, 12, .inl lasts)), (a_cames, .inl (E.2.1, 12, .inl cames))] H locs := w
    refine lv_istore_n (lv' := [(2, .int o_2.1), (0, .ref h), (1, .int x1)]) hx hb dX12_giveUp_15 rfl hl (by decide) rfl (fun ls hl => ?_)
    refine lv_iload_n hx hb dX12_giveUp_16 rfl (lv_at hl 0 rfl) ?_
    refine lv_if_ne (tgt := 24) hx hb dX12_giveUp_17 (by decide) (fun hc => ?_) (fun hc => ?_)
    · have hf := it_f hc hf
      refine lv_aload_n hx hb dX12_giveUp_24 rfl (lv_at hl 1 rfl) ?_
      refine lv_iload_n hx hb dX12_giveUp_25 rfl (lv_at hl 0 rfl) ?_
      obtain ⟨o_3, hq, hf⟩ := bd_e hf
      refine mx_callV (As := [.int o_2.1]) (rest := []) (wr := []) (d_X12_loadOf E l N h a_g a_kept a_tape a_written a_asked a_there a_counts a_lasts a_cames g kept isKept tape o_2.2.1 o_2.2.2 written writtenMany asked askedMany there counts lasts cames o_2.1  o_3 hq) B w [0, 1, 2, 3, 4, 5, 6, 7, 8, 9] [] rfl rfl (by decide) (by decide) (by decide) 0 rfl rfl cv_X12_loadOf kw_1410 1 (by decide +kernel) ⟨Nat.le_of_ble_eq_true rfl, Nat.le_of_ble_eq_true rfl⟩ rfl hl.1 rfl (Nat.le_of_ble_eq_true rfl) dX12_giveUp_26 rfl rfl ⟨Nat.zero_le _, Nat.zero_le _⟩ (fun v w' H locs hpo w => ?_)
      clear hq
      obtain ⟨rfl, rfl⟩ := hpo
      have w : mW E A s [(h, .inr (11, [.ref a_g, .ref a_kept, .int isKept, .ref a_tape, .int o_2.2.1, .int o_2.2.2, .ref a_written, .int writtenMany, .ref a_asked, .int askedMany, .ref a_there, .ref a_counts, .ref a_lasts, .ref a_cames])), (a_g, .inl (E.2.1, 8787, .inl g)), (a_kept, .inl (E.2.1, 8787, .inl kept)), (a_tape, .inl (E.2.2.1, 60, .inl tape)), (a_written, .inl (E.2.1, 40, .inl written)), (a_asked, .inl (E.2.1, 60, .inl asked)), (a_there, .inl (E.2.1, 12, .inl there)), (a_counts, .inl (E.2.1, 12, .inl counts)), (a_lasts, .inl (E.2.1, 12, .inl lasts)), (a_cames, .inl (E.2.1, 12, .inl cames))] H locs := w
      refine lv_istore_n (lv' := [(3, .int o_3), (2, .int o_2.1), (0, .ref h), (1, .int x1)]) hx hb dX12_giveUp_29 rfl hl (by decide) rfl (fun ls hl => ?_)
      refine lv_iload_n hx hb dX12_giveUp_30 rfl (lv_at hl 0 rfl) ?_
      refine lv_if_ge (tgt := 38) hx hb dX12_giveUp_31 (by decide) (fun hc => ?_) (fun hc => ?_)
      · have hf := it_t hc hf
        refine lv_aload_n hx hb dX12_giveUp_38 rfl (lv_at hl 2 rfl) ?_
        refine lv_iload_n hx hb dX12_giveUp_39 rfl (lv_at hl 0 rfl) ?_
        refine lv_iload_n hx hb dX12_giveUp_40 rfl (lv_at hl 3 rfl) ?_
        obtain ⟨o_4, hq, hf⟩ := bd_e hf
        refine mx_callV (As := [.int o_3, .int x1]) (rest := []) (wr := []) (d_X12_waiterOf E l N h a_g a_kept a_tape a_written a_asked a_there a_counts a_lasts a_cames g kept isKept tape o_2.2.1 o_2.2.2 written writtenMany asked askedMany there counts lasts cames o_3 x1  o_4 hq) B w [0, 1, 2, 3, 4, 5, 6, 7, 8, 9] [] rfl rfl (by decide) (by decide) (by decide) 0 rfl rfl cv_X12_waiterOf kw_1492 2 (by decide +kernel) ⟨Nat.le_of_ble_eq_true rfl, Nat.le_of_ble_eq_true rfl⟩ rfl hl.1 rfl (Nat.le_of_ble_eq_true rfl) dX12_giveUp_41 rfl rfl ⟨Nat.zero_le _, Nat.zero_le _⟩ (fun v w' H locs hpo w => ?_)
        clear hq
        obtain ⟨rfl, rfl⟩ := hpo
        have w : mW E A s [(h, .inr (11, [.ref a_g, .ref a_kept, .int isKept, .ref a_tape, .int o_2.2.1, .int o_2.2.2, .ref a_written, .int writtenMany, .ref a_asked, .int askedMany, .ref a_there, .ref a_counts, .ref a_lasts, .ref a_cames])), (a_g, .inl (E.2.1, 8787, .inl g)), (a_kept, .inl (E.2.1, 8787, .inl kept)), (a_tape, .inl (E.2.2.1, 60, .inl tape)), (a_written, .inl (E.2.1, 40, .inl written)), (a_asked, .inl (E.2.1, 60, .inl asked)), (a_there, .inl (E.2.1, 12, .inl there)), (a_counts, .inl (E.2.1, 12, .inl counts)), (a_lasts, .inl (E.2.1, 12, .inl lasts)), (a_cames, .inl (E.2.1, 12, .inl cames))] H locs := w
        exact j_X12_giveUp_44 B   hf  w (lv_sub hl [2, 0] rfl)
      · have hf := it_f hc hf
        refine lv_iconst (v := (-1)) hx hb dX12_giveUp_34 (by decide) ?_
        refine lv_goto (tgt := 44) hx hb dX12_giveUp_35 (by decide) ?_
        exact j_X12_giveUp_44 B   hf  w (lv_sub hl [2, 0] rfl)
    · have hf := it_t hc hf
      refine lv_sipush (v := (-1002)) hx hb dX12_giveUp_20 (by decide) ?_
      cases hf
      exact mx_iret B w ⟨rfl, rfl⟩ dX12_giveUp_23
  · have hf := it_t hc hf
    refine lv_sipush (v := (-1001)) hx hb dX12_giveUp_7 (by decide) ?_
    cases hf
    exact mx_iret B w ⟨rfl, rfl⟩ dX12_giveUp_10
-- X12_take
def po_X12_take (E : mE) (h : Nat) (a_g : Nat) (a_kept : Nat) (a_tape : Nat) (a_written : Nat) (a_asked : Nat) (a_there : Nat) (a_counts : Nat) (a_lasts : Nat) (a_cames : Nat)  (g : Nat → Int32) (kept : Nat → Int32) (isKept : Int32) (tape : Nat → Int32) (taped : Int32) (spot : Int32) (written : Nat → Int32) (writtenMany : Int32) (asked : Nat → Int32) (askedMany : Int32) (there : Nat → Int32) (counts : Nat → Int32) (lasts : Nat → Int32) (cames : Nat → Int32)  (o : Int32 × (Nat → Int32)) : Option Value → va_W → Prop := (fun (v : Option Value) (w' : va_W) => v = some (.int o.1) ∧ w' = [(h, .inr (11, [.ref a_g, .ref a_kept, .int isKept, .ref a_tape, .int taped, .int spot, .ref a_written, .int writtenMany, .ref a_asked, .int askedMany, .ref a_there, .ref a_counts, .ref a_lasts, .ref a_cames])), (a_g, .inl (E.2.1, 8787, .inl o.2)), (a_kept, .inl (E.2.1, 8787, .inl kept)), (a_tape, .inl (E.2.2.1, 60, .inl tape)), (a_written, .inl (E.2.1, 40, .inl written)), (a_asked, .inl (E.2.1, 60, .inl asked)), (a_there, .inl (E.2.1, 12, .inl there)), (a_counts, .inl (E.2.1, 12, .inl counts)), (a_lasts, .inl (E.2.1, 12, .inl lasts)), (a_cames, .inl (E.2.1, 12, .inl cames))])
noncomputable def F_X12_take (N : Nat)  (g : Nat → Int32) (x1 : Int32) : Option (Int32 × (Nat → Int32)) :=
  bd (F_X12_isAsker x1) (fun o_1 =>
  if (o_1 = 0 : Prop) then
  some ((-1001), g)
  else
  ld g 8787 (8003 + x1) (fun v_2 =>
  if (v_2 = 0 : Prop) then
  some ((-1003), g)
  else
  ld g 8787 ((8019 + (24 * x1)) + 1) (fun v_3 =>
  bd (F_X12_takesOut N g (8003 + x1) (8019 + (24 * x1)) 2 0) (fun o_4 =>
  ld o_4 8787 ((8403 + (4 * x1)) + 3) (fun v_5 =>
  sto o_4 8787 ((8403 + (4 * x1)) + 3) (v_5 + 1) (fun g_6 =>
  some (v_3, g_6)))))))
set_option maxHeartbeats 4000000 in
set_option maxRecDepth 100000 in
theorem d_X12_take (E : mE) (l : Launch) (N : Nat) (h : Nat) (a_g : Nat) (a_kept : Nat) (a_tape : Nat) (a_written : Nat) (a_asked : Nat) (a_there : Nat) (a_counts : Nat) (a_lasts : Nat) (a_cames : Nat)  (g : Nat → Int32) (kept : Nat → Int32) (isKept : Int32) (tape : Nat → Int32) (taped : Int32) (spot : Int32) (written : Nat → Int32) (writtenMany : Int32) (asked : Nat → Int32) (askedMany : Int32) (there : Nat → Int32) (counts : Nat → Int32) (lasts : Nat → Int32) (cames : Nat → Int32)  (x1 : Int32)  (o : Int32 × (Nat → Int32)) (hf : F_X12_take N g x1 = some o) : MX E l yX12_take cX12_take 3 (some .int) ({ frames := 2, cells := 0, slots := 0, locals := 42 } : Room) [.ref h, .int x1] [(h, .inr (11, [.ref a_g, .ref a_kept, .int isKept, .ref a_tape, .int taped, .int spot, .ref a_written, .int writtenMany, .ref a_asked, .int askedMany, .ref a_there, .ref a_counts, .ref a_lasts, .ref a_cames])), (a_g, .inl (E.2.1, 8787, .inl g)), (a_kept, .inl (E.2.1, 8787, .inl kept)), (a_tape, .inl (E.2.2.1, 60, .inl tape)), (a_written, .inl (E.2.1, 40, .inl written)), (a_asked, .inl (E.2.1, 60, .inl asked)), (a_there, .inl (E.2.1, 12, .inl there)), (a_counts, .inl (E.2.1, 12, .inl counts)), (a_lasts, .inl (E.2.1, 12, .inl lasts)), (a_cames, .inl (E.2.1, 12, .inl cames))] (po_X12_take E h a_g a_kept a_tape a_written a_asked a_there a_counts a_lasts a_cames g kept isKept tape taped spot written writtenMany asked askedMany there counts lasts cames o) := by
  refine mx_intro (by decide +kernel) (Nat.le_of_ble_eq_true rfl) ?_
  intro p e s m args below meth c A Q ls B w hl
  obtain ⟨hx, hb, hml, hown, hts⟩ := id B.1
  unfold F_X12_take at hf
  have hl : lv_has ls 3 [(0, .ref h), (1, .int x1)] := hl
  refine lv_iload_n hx hb dX12_take_0 rfl (lv_at hl 1 rfl) ?_
  obtain ⟨o_1, hq, hf⟩ := bd_e hf
  refine mx_callS (As := [.int x1]) (rest := []) (wr := [(h, .inr (11, [.ref a_g, .ref a_kept, .int isKept, .ref a_tape, .int taped, .int spot, .ref a_written, .int writtenMany, .ref a_asked, .int askedMany, .ref a_there, .ref a_counts, .ref a_lasts, .ref a_cames])), (a_g, .inl (E.2.1, 8787, .inl g)), (a_kept, .inl (E.2.1, 8787, .inl kept)), (a_tape, .inl (E.2.2.1, 60, .inl tape)), (a_written, .inl (E.2.1, 40, .inl written)), (a_asked, .inl (E.2.1, 60, .inl asked)), (a_there, .inl (E.2.1, 12, .inl there)), (a_counts, .inl (E.2.1, 12, .inl counts)), (a_lasts, .inl (E.2.1, 12, .inl lasts)), (a_cames, .inl (E.2.1, 12, .inl cames))]) (d_X12_isAsker E l   x1  o_1 hq) B w [] [0, 1, 2, 3, 4, 5, 6, 7, 8, 9] rfl rfl (by decide) (by decide) (by decide) cs_X12_isAsker kw_1461 1 (by decide +kernel) ⟨Nat.le_of_ble_eq_true rfl, Nat.le_of_ble_eq_true rfl⟩ rfl hl.1 rfl (Nat.le_of_ble_eq_true rfl) dX12_take_1 rfl rfl ⟨Nat.zero_le _, Nat.zero_le _⟩ (fun v w' H locs hpo w => ?_)
  clear hq
  obtain ⟨rfl, rfl⟩ := hpo
  have w : mW E A s [(h, .inr (11, [.ref a_g, .ref a_kept, .int isKept, .ref a_tape, .int taped, .int spot, .ref a_written, .int writtenMany, .ref a_asked, .int askedMany, .ref a_there, .ref a_counts, .ref a_lasts, .ref a_cames])), (a_g, .inl (E.2.1, 8787, .inl g)), (a_kept, .inl (E.2.1, 8787, .inl kept)), (a_tape, .inl (E.2.2.1, 60, .inl tape)), (a_written, .inl (E.2.1, 40, .inl written)), (a_asked, .inl (E.2.1, 60, .inl asked)), (a_there, .inl (E.2.1, 12, .inl there)), (a_counts, .inl (E.2.1, 12, .inl counts)), (a_lasts, .inl (E.2.1, 12, .inl lasts)), (a_cames, .inl (E.2.1, 12, .inl cames))] H locs := w
  refine lv_if_ne (tgt := 11) hx hb dX12_take_4 (by decide) (fun hc => ?_) (fun hc => ?_)
  · have hf := it_f hc hf
    refine lv_aload_n hx hb dX12_take_11 rfl (lv_at hl 0 rfl) ?_
    refine mx_get B w 0 fl_X12_9 rfl rfl dX12_take_12 ?_
    refine lv_sipush (v := 8003) hx hb dX12_take_15 (by decide) ?_
    refine lv_iload_n hx hb dX12_take_18 rfl (lv_at hl 1 rfl) ?_
    refine lv_iadd hx hb dX12_take_19 ?_
    obtain ⟨hin, hf⟩ := ld_e hf
    refine mx_iald B w 1 rfl hin dX12_take_20 (fun v_2 ev => ?_)
    have hf := hf _ ev; clear ev
    refine lv_if_ne (tgt := 28) hx hb dX12_take_21 (by decide) (fun hc => ?_) (fun hc => ?_)
    · have hf := it_f hc hf
      refine lv_aload_n hx hb dX12_take_28 rfl (lv_at hl 0 rfl) ?_
      refine mx_get B w 0 fl_X12_9 rfl rfl dX12_take_29 ?_
      refine lv_sipush (v := 8019) hx hb dX12_take_32 (by decide) ?_
      refine lv_bipush (v := 24) hx hb dX12_take_35 (by decide) ?_
      refine lv_iload_n hx hb dX12_take_37 rfl (lv_at hl 1 rfl) ?_
      refine lv_imul hx hb dX12_take_38 ?_
      refine lv_iadd hx hb dX12_take_39 ?_
      refine lv_iconst (v := 1) hx hb dX12_take_40 (by decide) ?_
      refine lv_iadd hx hb dX12_take_41 ?_
      obtain ⟨hin, hf⟩ := ld_e hf
      refine mx_iald B w 1 rfl hin dX12_take_42 (fun v_3 ev => ?_)
      have hf := hf _ ev; clear ev
      refine lv_istore_n (lv' := [(2, .int v_3), (0, .ref h), (1, .int x1)]) hx hb dX12_take_43 rfl hl (by decide) rfl (fun ls hl => ?_)
      refine lv_aload_n hx hb dX12_take_44 rfl (lv_at hl 1 rfl) ?_
      refine lv_sipush (v := 8003) hx hb dX12_take_45 (by decide) ?_
      refine lv_iload_n hx hb dX12_take_48 rfl (lv_at hl 2 rfl) ?_
      refine lv_iadd hx hb dX12_take_49 ?_
      refine lv_sipush (v := 8019) hx hb dX12_take_50 (by decide) ?_
      refine lv_bipush (v := 24) hx hb dX12_take_53 (by decide) ?_
      refine lv_iload_n hx hb dX12_take_55 rfl (lv_at hl 2 rfl) ?_
      refine lv_imul hx hb dX12_take_56 ?_
      refine lv_iadd hx hb dX12_take_57 ?_
      refine lv_iconst (v := 2) hx hb dX12_take_58 (by decide) ?_
      refine lv_iconst (v := 0) hx hb dX12_take_59 (by decide) ?_
      obtain ⟨o_4, hq, hf⟩ := bd_e hf
      refine mx_callV (As := [.int (8003 + x1), .int (8019 + (24 * x1)), .int 2, .int 0]) (rest := []) (wr := []) (d_X12_takesOut E l N h a_g a_kept a_tape a_written a_asked a_there a_counts a_lasts a_cames g kept isKept tape taped spot written writtenMany asked askedMany there counts lasts cames (8003 + x1) (8019 + (24 * x1)) 2 0  o_4 hq) B w [0, 1, 2, 3, 4, 5, 6, 7, 8, 9] [] rfl rfl (by decide) (by decide) (by decide) 0 rfl rfl cv_X12_takesOut kw_1357 4 (by decide +kernel) ⟨Nat.le_of_ble_eq_true rfl, Nat.le_of_ble_eq_true rfl⟩ rfl hl.1 rfl (Nat.le_of_ble_eq_true rfl) dX12_take_60 rfl rfl ⟨Nat.zero_le _, Nat.zero_le _⟩ (fun v w' H locs hpo w => ?_)
      clear hq
      obtain ⟨rfl, rfl⟩ := hpo
      have w : mW E A s [(h, .inr (11, [.ref a_g, .ref a_kept, .int isKept, .ref a_tape, .int taped, .int spot, .ref a_written, .int writtenMany, .ref a_asked, .int askedMany, .ref a_there, .ref a_counts, .ref a_lasts, .ref a_cames])), (a_g, .inl (E.2.1, 8787, .inl o_4)), (a_kept, .inl (E.2.1, 8787, .inl kept)), (a_tape, .inl (E.2.2.1, 60, .inl tape)), (a_written, .inl (E.2.1, 40, .inl written)), (a_asked, .inl (E.2.1, 60, .inl asked)), (a_there, .inl (E.2.1, 12, .inl there)), (a_counts, .inl (E.2.1, 12, .inl counts)), (a_lasts, .inl (E.2.1, 12, .inl lasts)), (a_cames, .inl (E.2.1, 12, .inl cames))] H locs := w
      refine lv_aload_n hx hb dX12_take_63 rfl (lv_at hl 1 rfl) ?_
      refine mx_get B w 0 fl_X12_9 rfl rfl dX12_take_64 ?_
      refine lv_sipush (v := 8403) hx hb dX12_take_67 (by decide) ?_
      refine lv_iconst (v := 4) hx hb dX12_take_70 (by decide) ?_
      refine lv_iload_n hx hb dX12_take_71 rfl (lv_at hl 2 rfl) ?_
      refine lv_imul hx hb dX12_take_72 ?_
      refine lv_iadd hx hb dX12_take_73 ?_
      refine lv_iconst (v := 3) hx hb dX12_take_74 (by decide) ?_
      refine lv_iadd hx hb dX12_take_75 ?_
      refine lv_dup2_11 hx hb dX12_take_76 rfl rfl ?_
      obtain ⟨hin, hf⟩ := ld_e hf
      refine mx_iald B w 1 rfl hin dX12_take_77 (fun v_5 ev => ?_)
      have hf := hf _ ev; clear ev
      refine lv_iconst (v := 1) hx hb dX12_take_78 (by decide) ?_
      refine lv_iadd hx hb dX12_take_79 ?_
      obtain ⟨hin, hf⟩ := sto_e hf
      refine mx_iast B w 1 rfl hin dX12_take_80 (fun g_6 H locs ev w => ?_)
      have hf := hf _ ev; clear ev
      have w : mW E A s [(h, .inr (11, [.ref a_g, .ref a_kept, .int isKept, .ref a_tape, .int taped, .int spot, .ref a_written, .int writtenMany, .ref a_asked, .int askedMany, .ref a_there, .ref a_counts, .ref a_lasts, .ref a_cames])), (a_g, .inl (E.2.1, 8787, .inl g_6)), (a_kept, .inl (E.2.1, 8787, .inl kept)), (a_tape, .inl (E.2.2.1, 60, .inl tape)), (a_written, .inl (E.2.1, 40, .inl written)), (a_asked, .inl (E.2.1, 60, .inl asked)), (a_there, .inl (E.2.1, 12, .inl there)), (a_counts, .inl (E.2.1, 12, .inl counts)), (a_lasts, .inl (E.2.1, 12, .inl lasts)), (a_cames, .inl (E.2.1, 12, .inl cames))] H locs := w
      refine lv_iload_n hx hb dX12_take_81 rfl (lv_at hl 0 rfl) ?_
      cases hf
      exact mx_iret B w ⟨rfl, rfl⟩ dX12_take_82
    · have hf := it_t hc hf
      refine lv_sipush (v := (-1003)) hx hb dX12_take_24 (by decide) ?_
      cases hf
      exact mx_iret B w ⟨rfl, rfl⟩ dX12_take_27
  · have hf := it_t hc hf
    refine lv_sipush (v := (-1001)) hx hb dX12_take_7 (by decide) ?_
    cases hf
    exact mx_iret B w ⟨rfl, rfl⟩ dX12_take_10
-- X12_keyTells
def po_X12_keyTells (E : mE)     (o : Int32) : Option Value → va_W → Prop := (fun (v : Option Value) (w' : va_W) => v = some (.int o) ∧ w' = [])
noncomputable def F_X12_keyTells (N : Nat)   (x0 : Int32) (x1 : Int32) : Option (Int32) :=
  bd (F_X12_sizeOf N x0) (fun o_1 =>
  if (x1 = ((-1)) : Prop) then
  some (o_1)
  else
  if (o_1 ≤ x1 : Prop) then
  some ((-1003))
  else
  bd (F_X12_byteOf N x0 x1) (fun o_2 =>
  some (o_2)))
set_option maxHeartbeats 4000000 in
set_option maxRecDepth 100000 in
theorem d_X12_keyTells (E : mE) (l : Launch) (N : Nat)     (x0 : Int32) (x1 : Int32)  (o : Int32) (hf : F_X12_keyTells N x0 x1 = some o) : MX E l yX12_keyTells cX12_keyTells 3 (some .int) ({ frames := 2, cells := 0, slots := 0, locals := 45 } : Room) [.int x0, .int x1] [] (po_X12_keyTells E o) := by
  refine mx_intro (by decide +kernel) (Nat.le_of_ble_eq_true rfl) ?_
  intro p e s m args below meth c A Q ls B w hl
  obtain ⟨hx, hb, hml, hown, hts⟩ := id B.1
  unfold F_X12_keyTells at hf
  have hl : lv_has ls 3 [(0, .int x0), (1, .int x1)] := hl
  refine lv_iload_n hx hb dX12_keyTells_0 rfl (lv_at hl 0 rfl) ?_
  obtain ⟨o_1, hq, hf⟩ := bd_e hf
  refine mx_callS (As := [.int x0]) (rest := []) (wr := []) (d_X12_sizeOf E l N  x0  o_1 hq) B w [] [] rfl rfl (by decide) (by decide) (by decide) cs_X12_sizeOf kw_1299 1 (by decide +kernel) ⟨Nat.le_of_ble_eq_true rfl, Nat.le_of_ble_eq_true rfl⟩ rfl hl.1 rfl (Nat.le_of_ble_eq_true rfl) dX12_keyTells_1 rfl rfl ⟨Nat.zero_le _, Nat.zero_le _⟩ (fun v w' H locs hpo w => ?_)
  clear hq
  obtain ⟨rfl, rfl⟩ := hpo
  refine lv_istore_n (lv' := [(2, .int o_1), (0, .int x0), (1, .int x1)]) hx hb dX12_keyTells_4 rfl hl (by decide) rfl (fun ls hl => ?_)
  refine lv_iload_n hx hb dX12_keyTells_5 rfl (lv_at hl 2 rfl) ?_
  refine lv_iconst (v := (-1)) hx hb dX12_keyTells_6 (by decide) ?_
  refine lv_icmp_ne (tgt := 14) hx hb dX12_keyTells_7 (by decide) (fun hc => ?_) (fun hc => ?_)
  · have hf := it_f hc hf
    refine lv_iload_n hx hb dX12_keyTells_14 rfl (lv_at hl 2 rfl) ?_
    refine lv_iload_n hx hb dX12_keyTells_15 rfl (lv_at hl 0 rfl) ?_
    refine lv_icmp_ge (tgt := 27) hx hb dX12_keyTells_16 (by decide) (fun hc => ?_) (fun hc => ?_)
    · have hf := it_t hc hf
      refine lv_sipush (v := (-1003)) hx hb dX12_keyTells_27 (by decide) ?_
      cases hf
      exact mx_iret B w ⟨rfl, rfl⟩ dX12_keyTells_30
    · have hf := it_f hc hf
      refine lv_iload_n hx hb dX12_keyTells_19 rfl (lv_at hl 1 rfl) ?_
      refine lv_iload_n hx hb dX12_keyTells_20 rfl (lv_at hl 2 rfl) ?_
      obtain ⟨o_2, hq, hf⟩ := bd_e hf
      refine mx_callS (As := [.int x0, .int x1]) (rest := []) (wr := []) (d_X12_byteOf E l N  x0 x1  o_2 hq) B w [] [] rfl rfl (by decide) (by decide) (by decide) cs_X12_byteOf kw_1302 2 (by decide +kernel) ⟨Nat.le_of_ble_eq_true rfl, Nat.le_of_ble_eq_true rfl⟩ rfl hl.1 rfl (Nat.le_of_ble_eq_true rfl) dX12_keyTells_21 rfl rfl ⟨Nat.zero_le _, Nat.zero_le _⟩ (fun v w' H locs hpo w => ?_)
      clear hq
      obtain ⟨rfl, rfl⟩ := hpo
      refine lv_goto (tgt := 30) hx hb dX12_keyTells_24 (by decide) ?_
      cases hf
      exact mx_iret B w ⟨rfl, rfl⟩ dX12_keyTells_30
  · have hf := it_t hc hf
    refine lv_iload_n hx hb dX12_keyTells_10 rfl (lv_at hl 0 rfl) ?_
    refine lv_goto (tgt := 30) hx hb dX12_keyTells_11 (by decide) ?_
    cases hf
    exact mx_iret B w ⟨rfl, rfl⟩ dX12_keyTells_30
-- X12_first
def po_X12_first (E : mE) (h : Nat) (a_g : Nat) (a_kept : Nat) (a_tape : Nat) (a_written : Nat) (a_asked : Nat) (a_there : Nat) (a_counts : Nat) (a_lasts : Nat) (a_cames : Nat)  (g : Nat → Int32) (kept : Nat → Int32) (isKept : Int32) (tape : Nat → Int32) (taped : Int32) (spot : Int32) (written : Nat → Int32) (writtenMany : Int32) (asked : Nat → Int32) (askedMany : Int32) (there : Nat → Int32) (counts : Nat → Int32) (lasts : Nat → Int32) (cames : Nat → Int32)  (o : Int32) : Option Value → va_W → Prop := (fun (v : Option Value) (w' : va_W) => v = some (.int o) ∧ w' = [(h, .inr (11, [.ref a_g, .ref a_kept, .int isKept, .ref a_tape, .int taped, .int spot, .ref a_written, .int writtenMany, .ref a_asked, .int askedMany, .ref a_there, .ref a_counts, .ref a_lasts, .ref a_cames])), (a_g, .inl (E.2.1, 8787, .inl g)), (a_kept, .inl (E.2.1, 8787, .inl kept)), (a_tape, .inl (E.2.2.1, 60, .inl tape)), (a_written, .inl (E.2.1, 40, .inl written)), (a_asked, .inl (E.2.1, 60, .inl asked)), (a_there, .inl (E.2.1, 12, .inl there)), (a_counts, .inl (E.2.1, 12, .inl counts)), (a_lasts, .inl (E.2.1, 12, .inl lasts)), (a_cames, .inl (E.2.1, 12, .inl cames))])
noncomputable def F_X12_first (N : Nat)  (g : Nat → Int32) (x1 : Int32) (x2 : Int32) : Option (Int32) :=
  bd (F_X12_isAsker x1) (fun o_1 =>
  if (o_1 = 0 : Prop) then
  some ((-1001))
  else
  if (((-1)) ≤ x2 : Prop) then
  ld g 8787 (8003 + x1) (fun v_2 =>
  if (v_2 = 0 : Prop) then
  some ((-1005))
  else
  ld g 8787 (8019 + (24 * x1)) (fun v_3 =>
  bd (F_X12_keyTells N v_3 x2) (fun o_4 =>
  some (o_4))))
  else
  some ((-1001)))
set_option maxHeartbeats 4000000 in
set_option maxRecDepth 100000 in
theorem d_X12_first (E : mE) (l : Launch) (N : Nat) (h : Nat) (a_g : Nat) (a_kept : Nat) (a_tape : Nat) (a_written : Nat) (a_asked : Nat) (a_there : Nat) (a_counts : Nat) (a_lasts : Nat) (a_cames : Nat)  (g : Nat → Int32) (kept : Nat → Int32) (isKept : Int32) (tape : Nat → Int32) (taped : Int32) (spot : Int32) (written : Nat → Int32) (writtenMany : Int32) (asked : Nat → Int32) (askedMany : Int32) (there : Nat → Int32) (counts : Nat → Int32) (lasts : Nat → Int32) (cames : Nat → Int32)  (x1 : Int32) (x2 : Int32)  (o : Int32) (hf : F_X12_first N g x1 x2 = some o) : MX E l yX12_first cX12_first 3 (some .int) ({ frames := 3, cells := 0, slots := 0, locals := 67 } : Room) [.ref h, .int x1, .int x2] [(h, .inr (11, [.ref a_g, .ref a_kept, .int isKept, .ref a_tape, .int taped, .int spot, .ref a_written, .int writtenMany, .ref a_asked, .int askedMany, .ref a_there, .ref a_counts, .ref a_lasts, .ref a_cames])), (a_g, .inl (E.2.1, 8787, .inl g)), (a_kept, .inl (E.2.1, 8787, .inl kept)), (a_tape, .inl (E.2.2.1, 60, .inl tape)), (a_written, .inl (E.2.1, 40, .inl written)), (a_asked, .inl (E.2.1, 60, .inl asked)), (a_there, .inl (E.2.1, 12, .inl there)), (a_counts, .inl (E.2.1, 12, .inl counts)), (a_lasts, .inl (E.2.1, 12, .inl lasts)), (a_cames, .inl (E.2.1, 12, .inl cames))] (po_X12_first E h a_g a_kept a_tape a_written a_asked a_there a_counts a_lasts a_cames g kept isKept tape taped spot written writtenMany asked askedMany there counts lasts cames o) := by
  refine mx_intro (by decide +kernel) (Nat.le_of_ble_eq_true rfl) ?_
  intro p e s m args below meth c A Q ls B w hl
  obtain ⟨hx, hb, hml, hown, hts⟩ := id B.1
  unfold F_X12_first at hf
  have hl : lv_has ls 3 [(0, .ref h), (1, .int x1), (2, .int x2)] := hl
  refine lv_iload_n hx hb dX12_first_0 rfl (lv_at hl 1 rfl) ?_
  obtain ⟨o_1, hq, hf⟩ := bd_e hf
  refine mx_callS (As := [.int x1]) (rest := []) (wr := [(h, .inr (11, [.ref a_g, .ref a_kept, .int isKept, .ref a_tape, .int taped, .int spot, .ref a_written, .int writtenMany, .ref a_asked, .int askedMany, .ref a_there, .ref a_counts, .ref a_lasts, .ref a_cames])), (a_g, .inl (E.2.1, 8787, .inl g)), (a_kept, .inl (E.2.1, 8787, .inl kept)), (a_tape, .inl (E.2.2.1, 60, .inl tape)), (a_written, .inl (E.2.1, 40, .inl written)), (a_asked, .inl (E.2.1, 60, .inl asked)), (a_there, .inl (E.2.1, 12, .inl there)), (a_counts, .inl (E.2.1, 12, .inl counts)), (a_lasts, .inl (E.2.1, 12, .inl lasts)), (a_cames, .inl (E.2.1, 12, .inl cames))]) (d_X12_isAsker E l   x1  o_1 hq) B w [] [0, 1, 2, 3, 4, 5, 6, 7, 8, 9] rfl rfl (by decide) (by decide) (by decide) cs_X12_isAsker kw_1461 1 (by decide +kernel) ⟨Nat.le_of_ble_eq_true rfl, Nat.le_of_ble_eq_true rfl⟩ rfl hl.1 rfl (Nat.le_of_ble_eq_true rfl) dX12_first_1 rfl rfl ⟨Nat.zero_le _, Nat.zero_le _⟩ (fun v w' H locs hpo w => ?_)
  clear hq
  obtain ⟨rfl, rfl⟩ := hpo
  have w : mW E A s [(h, .inr (11, [.ref a_g, .ref a_kept, .int isKept, .ref a_tape, .int taped, .int spot, .ref a_written, .int writtenMany, .ref a_asked, .int askedMany, .ref a_there, .ref a_counts, .ref a_lasts, .ref a_cames])), (a_g, .inl (E.2.1, 8787, .inl g)), (a_kept, .inl (E.2.1, 8787, .inl kept)), (a_tape, .inl (E.2.2.1, 60, .inl tape)), (a_written, .inl (E.2.1, 40, .inl written)), (a_asked, .inl (E.2.1, 60, .inl asked)), (a_there, .inl (E.2.1, 12, .inl there)), (a_counts, .inl (E.2.1, 12, .inl counts)), (a_lasts, .inl (E.2.1, 12, .inl lasts)), (a_cames, .inl (E.2.1, 12, .inl cames))] H locs := w
  refine lv_if_eq (tgt := 12) hx hb dX12_first_4 (by decide) (fun hc => ?_) (fun hc => ?_)
  · have hf := it_t hc hf
    refine lv_sipush (v := (-1001)) hx hb dX12_first_12 (by decide) ?_
    cases hf
    exact mx_iret B w ⟨rfl, rfl⟩ dX12_first_15
  · have hf := it_f hc hf
    refine lv_iload_n hx hb dX12_first_7 rfl (lv_at hl 2 rfl) ?_
    refine lv_iconst (v := (-1)) hx hb dX12_first_8 (by decide) ?_
    refine lv_icmp_ge (tgt := 16) hx hb dX12_first_9 (by decide) (fun hc => ?_) (fun hc => ?_)
    · have hf := it_t hc hf
      refine lv_aload_n hx hb dX12_first_16 rfl (lv_at hl 0 rfl) ?_
      refine mx_get B w 0 fl_X12_9 rfl rfl dX12_first_17 ?_
      refine lv_sipush (v := 8003) hx hb dX12_first_20 (by decide) ?_
      refine lv_iload_n hx hb dX12_first_23 rfl (lv_at hl 1 rfl) ?_
      refine lv_iadd hx hb dX12_first_24 ?_
      obtain ⟨hin, hf⟩ := ld_e hf
      refine mx_iald B w 1 rfl hin dX12_first_25 (fun v_2 ev => ?_)
      have hf := hf _ ev; clear ev
      refine lv_if_ne (tgt := 35) hx hb dX12_first_26 (by decide) (fun hc => ?_) (fun hc => ?_)
      · have hf := it_f hc hf
        refine lv_aload_n hx hb dX12_first_35 rfl (lv_at hl 0 rfl) ?_
        refine mx_get B w 0 fl_X12_9 rfl rfl dX12_first_36 ?_
        refine lv_sipush (v := 8019) hx hb dX12_first_39 (by decide) ?_
        refine lv_bipush (v := 24) hx hb dX12_first_42 (by decide) ?_
        refine lv_iload_n hx hb dX12_first_44 rfl (lv_at hl 1 rfl) ?_
        refine lv_imul hx hb dX12_first_45 ?_
        refine lv_iadd hx hb dX12_first_46 ?_
        obtain ⟨hin, hf⟩ := ld_e hf
        refine mx_iald B w 1 rfl hin dX12_first_47 (fun v_3 ev => ?_)
        have hf := hf _ ev; clear ev
        refine lv_iload_n hx hb dX12_first_48 rfl (lv_at hl 2 rfl) ?_
        obtain ⟨o_4, hq, hf⟩ := bd_e hf
        refine mx_callS (As := [.int v_3, .int x2]) (rest := []) (wr := [(h, .inr (11, [.ref a_g, .ref a_kept, .int isKept, .ref a_tape, .int taped, .int spot, .ref a_written, .int writtenMany, .ref a_asked, .int askedMany, .ref a_there, .ref a_counts, .ref a_lasts, .ref a_cames])), (a_g, .inl (E.2.1, 8787, .inl g)), (a_kept, .inl (E.2.1, 8787, .inl kept)), (a_tape, .inl (E.2.2.1, 60, .inl tape)), (a_written, .inl (E.2.1, 40, .inl written)), (a_asked, .inl (E.2.1, 60, .inl asked)), (a_there, .inl (E.2.1, 12, .inl there)), (a_counts, .inl (E.2.1, 12, .inl counts)), (a_lasts, .inl (E.2.1, 12, .inl lasts)), (a_cames, .inl (E.2.1, 12, .inl cames))]) (d_X12_keyTells E l N  v_3 x2  o_4 hq) B w [] [0, 1, 2, 3, 4, 5, 6, 7, 8, 9] rfl rfl (by decide) (by decide) (by decide) cs_X12_keyTells kw_1450 2 (by decide +kernel) ⟨Nat.le_of_ble_eq_true rfl, Nat.le_of_ble_eq_true rfl⟩ rfl hl.1 rfl (Nat.le_of_ble_eq_true rfl) dX12_first_49 rfl rfl ⟨Nat.zero_le _, Nat.zero_le _⟩ (fun v w' H locs hpo w => ?_)
        clear hq
        obtain ⟨rfl, rfl⟩ := hpo
        have w : mW E A s [(h, .inr (11, [.ref a_g, .ref a_kept, .int isKept, .ref a_tape, .int taped, .int spot, .ref a_written, .int writtenMany, .ref a_asked, .int askedMany, .ref a_there, .ref a_counts, .ref a_lasts, .ref a_cames])), (a_g, .inl (E.2.1, 8787, .inl g)), (a_kept, .inl (E.2.1, 8787, .inl kept)), (a_tape, .inl (E.2.2.1, 60, .inl tape)), (a_written, .inl (E.2.1, 40, .inl written)), (a_asked, .inl (E.2.1, 60, .inl asked)), (a_there, .inl (E.2.1, 12, .inl there)), (a_counts, .inl (E.2.1, 12, .inl counts)), (a_lasts, .inl (E.2.1, 12, .inl lasts)), (a_cames, .inl (E.2.1, 12, .inl cames))] H locs := w
        cases hf
        exact mx_iret B w ⟨rfl, rfl⟩ dX12_first_52
      · have hf := it_t hc hf
        refine lv_sipush (v := (-1005)) hx hb dX12_first_29 (by decide) ?_
        refine lv_goto (tgt := 52) hx hb dX12_first_32 (by decide) ?_
        cases hf
        exact mx_iret B w ⟨rfl, rfl⟩ dX12_first_52
    · have hf := it_f hc hf
      refine lv_sipush (v := (-1001)) hx hb dX12_first_12 (by decide) ?_
      cases hf
      exact mx_iret B w ⟨rfl, rfl⟩ dX12_first_15
-- X12_box
def po_X12_box (E : mE) (h : Nat) (a_g : Nat) (a_kept : Nat) (a_tape : Nat) (a_written : Nat) (a_asked : Nat) (a_there : Nat) (a_counts : Nat) (a_lasts : Nat) (a_cames : Nat)  (g : Nat → Int32) (kept : Nat → Int32) (isKept : Int32) (tape : Nat → Int32) (taped : Int32) (spot : Int32) (written : Nat → Int32) (writtenMany : Int32) (asked : Nat → Int32) (askedMany : Int32) (there : Nat → Int32) (counts : Nat → Int32) (lasts : Nat → Int32) (cames : Nat → Int32)  (o : Int32) : Option Value → va_W → Prop := (fun (v : Option Value) (w' : va_W) => v = some (.int o) ∧ w' = [(h, .inr (11, [.ref a_g, .ref a_kept, .int isKept, .ref a_tape, .int taped, .int spot, .ref a_written, .int writtenMany, .ref a_asked, .int askedMany, .ref a_there, .ref a_counts, .ref a_lasts, .ref a_cames])), (a_g, .inl (E.2.1, 8787, .inl g)), (a_kept, .inl (E.2.1, 8787, .inl kept)), (a_tape, .inl (E.2.2.1, 60, .inl tape)), (a_written, .inl (E.2.1, 40, .inl written)), (a_asked, .inl (E.2.1, 60, .inl asked)), (a_there, .inl (E.2.1, 12, .inl there)), (a_counts, .inl (E.2.1, 12, .inl counts)), (a_lasts, .inl (E.2.1, 12, .inl lasts)), (a_cames, .inl (E.2.1, 12, .inl cames))])
noncomputable def J_X12_box_68 (N : Nat)  (rec : Int32 → Int32 → Option (Int32)) (k76 : Int32 → Option (Int32)) (t0 : Int32) (t1 : Int32) (x1 : Int32) (x4 : Int32) (g : Nat → Int32) : Option (Int32) :=
  lt (t0 + t1) (fun x3_5 =>
  lt (x4 + 1) (fun x4_6 =>
  rec x3_5 x4_6))
set_option maxHeartbeats 4000000 in
set_option maxRecDepth 100000 in
theorem j_X12_box_68 {E : mE} {l : Launch} {p : Program} {e : Env} {s : State} {m : MethodId} {args : Array Value} {below : List Frame} {meth : Method} {c : Code} {A : Nat → Prop} {Q : State → Prop} {N : Nat} {h : Nat} {a_g : Nat} {a_kept : Nat} {a_tape : Nat} {a_written : Nat} {a_asked : Nat} {a_there : Nat} {a_counts : Nat} {a_lasts : Nat} {a_cames : Nat}  {g : Nat → Int32} {kept : Nat → Int32} {isKept : Int32} {tape : Nat → Int32} {taped : Int32} {spot : Int32} {written : Nat → Int32} {writtenMany : Int32} {asked : Nat → Int32} {askedMany : Int32} {there : Nat → Int32} {counts : Nat → Int32} {lasts : Nat → Int32} {cames : Nat → Int32}  {o : Int32} (B : mB E yX12_box cX12_box 5 (some .int) 0 0 (po_X12_box E h a_g a_kept a_tape a_written a_asked a_there a_counts a_lasts a_cames g kept isKept tape taped spot written writtenMany asked askedMany there counts lasts cames o) p s m args below meth c A Q) {t0 : Int32} {t1 : Int32} {x1 : Int32} {x4 : Int32}   (rec : Int32 → Int32 → Option (Int32)) (k76 : Int32 → Option (Int32)) (hrec : ∀ (x3 : Int32) (x4 : Int32)   (H : Heap) (locs : List Loc) (ls : Array Slot), rec x3 x4 = some o → mW E A s [(h, .inr (11, [.ref a_g, .ref a_kept, .int isKept, .ref a_tape, .int taped, .int spot, .ref a_written, .int writtenMany, .ref a_asked, .int askedMany, .ref a_there, .ref a_counts, .ref a_lasts, .ref a_cames])), (a_g, .inl (E.2.1, 8787, .inl g)), (a_kept, .inl (E.2.1, 8787, .inl kept)), (a_tape, .inl (E.2.2.1, 60, .inl tape)), (a_written, .inl (E.2.1, 40, .inl written)), (a_asked, .inl (E.2.1, 60, .inl asked)), (a_there, .inl (E.2.1, 12, .inl there)), (a_counts, .inl (E.2.1, 12, .inl counts)), (a_lasts, .inl (E.2.1, 12, .inl lasts)), (a_cames, .inl (E.2.1, 12, .inl cames))] H locs → lv_has ls 5 [(0, .ref h), (1, .int x1), (3, .int x3), (4, .int x4)] → W p l e ({ frames := 2, cells := 0, slots := 0, locals := 45 } : Room) s m args below meth c H locs 0 0 Q (F0 m 40 ls [])) (hk76 : ∀ (x3 : Int32)   (H : Heap) (locs : List Loc) (ls : Array Slot), k76 x3 = some o → mW E A s [(h, .inr (11, [.ref a_g, .ref a_kept, .int isKept, .ref a_tape, .int taped, .int spot, .ref a_written, .int writtenMany, .ref a_asked, .int askedMany, .ref a_there, .ref a_counts, .ref a_lasts, .ref a_cames])), (a_g, .inl (E.2.1, 8787, .inl g)), (a_kept, .inl (E.2.1, 8787, .inl kept)), (a_tape, .inl (E.2.2.1, 60, .inl tape)), (a_written, .inl (E.2.1, 40, .inl written)), (a_asked, .inl (E.2.1, 60, .inl asked)), (a_there, .inl (E.2.1, 12, .inl there)), (a_counts, .inl (E.2.1, 12, .inl counts)), (a_lasts, .inl (E.2.1, 12, .inl lasts)), (a_cames, .inl (E.2.1, 12, .inl cames))] H locs → lv_has ls 5 [(3, .int x3)] → W p l e ({ frames := 2, cells := 0, slots := 0, locals := 45 } : Room) s m args below meth c H locs 0 0 Q (F0 m 76 ls [])) {H : Heap} {locs : List Loc} {ls : Array Slot} (hf : J_X12_box_68 N rec k76 t0 t1 x1 x4 g = some o)  (w : mW E A s [(h, .inr (11, [.ref a_g, .ref a_kept, .int isKept, .ref a_tape, .int taped, .int spot, .ref a_written, .int writtenMany, .ref a_asked, .int askedMany, .ref a_there, .ref a_counts, .ref a_lasts, .ref a_cames])), (a_g, .inl (E.2.1, 8787, .inl g)), (a_kept, .inl (E.2.1, 8787, .inl kept)), (a_tape, .inl (E.2.2.1, 60, .inl tape)), (a_written, .inl (E.2.1, 40, .inl written)), (a_asked, .inl (E.2.1, 60, .inl asked)), (a_there, .inl (E.2.1, 12, .inl there)), (a_counts, .inl (E.2.1, 12, .inl counts)), (a_lasts, .inl (E.2.1, 12, .inl lasts)), (a_cames, .inl (E.2.1, 12, .inl cames))] H locs) (hl : lv_has ls 5 [(0, .ref h), (1, .int x1), (4, .int x4)]) : W p l e ({ frames := 2, cells := 0, slots := 0, locals := 45 } : Room) s m args below meth c H locs 0 0 Q (F0 m 68 ls [.int t1, .int t0]) := by
  obtain ⟨hx, hb, hml, hown, hts⟩ := id B.1
  unfold J_X12_box_68 at hf
  refine lv_iadd hx hb dX12_box_68 ?_
  refine lv_topi (fun x3_5 ev => ?_)
  have hf := lt_n ev hf; clear ev
  refine lv_istore_n (lv' := [(3, .int x3_5), (0, .ref h), (1, .int x1), (4, .int x4)]) hx hb dX12_box_69 rfl hl (by decide) rfl (fun ls hl => ?_)
  obtain ⟨x4_6, ev⟩ : ∃ y : Int32, y = x4 + 1 := ⟨_, rfl⟩
  refine lv_iinc (v := x4_6) (lv' := [(4, .int x4_6), (3, .int x3_5), (0, .ref h), (1, .int x1)]) hx hb dX12_box_70 hl (k := 3) rfl (by rw [ev]; rfl) (by decide) rfl (fun ls hl => ?_)
  have hf := lt_n ev hf; clear ev
  refine lv_goto (tgt := 40) hx hb dX12_box_73 (by decide) ?_
  exact hrec _ _ _ _ _ hf  w (lv_sub hl [2, 3, 1, 0] rfl)
noncomputable def K_X12_box_40 (N : Nat)  (rec : Int32 → Int32 → Option (Int32)) (k76 : Int32 → Option (Int32)) (x1 : Int32) (g : Nat → Int32) (x3 : Int32) (x4 : Int32)  : Option (Int32) :=
  ld g 8787 15 (fun v_3 =>
  if (v_3 ≤ x4 : Prop) then
  k76 x3
  else
  bd (F_X12_waiterOf N g x4 x1) (fun o_4 =>
  if (o_4 < 0 : Prop) then
  J_X12_box_68 N rec k76 x3 0 x1 x4 g
  else
  J_X12_box_68 N rec k76 x3 1 x1 x4 g))
noncomputable def L_X12_box_40 (N : Nat)  (k76 : Int32 → Option (Int32)) (x1 : Int32) (g : Nat → Int32) (n : Nat) : Int32 → Int32 → Option (Int32) :=
  Nat.rec (motive := fun _ => Int32 → Int32 → Option (Int32)) (fun _ _ => none) (fun _ rec => K_X12_box_40 N rec k76 x1 g) n
set_option maxHeartbeats 4000000 in
set_option maxRecDepth 100000 in
theorem l_X12_box_40 {E : mE} {l : Launch} {p : Program} {e : Env} {s : State} {m : MethodId} {args : Array Value} {below : List Frame} {meth : Method} {c : Code} {A : Nat → Prop} {Q : State → Prop} {N : Nat} {h : Nat} {a_g : Nat} {a_kept : Nat} {a_tape : Nat} {a_written : Nat} {a_asked : Nat} {a_there : Nat} {a_counts : Nat} {a_lasts : Nat} {a_cames : Nat}  {g : Nat → Int32} {kept : Nat → Int32} {isKept : Int32} {tape : Nat → Int32} {taped : Int32} {spot : Int32} {written : Nat → Int32} {writtenMany : Int32} {asked : Nat → Int32} {askedMany : Int32} {there : Nat → Int32} {counts : Nat → Int32} {lasts : Nat → Int32} {cames : Nat → Int32}  {o : Int32} (B : mB E yX12_box cX12_box 5 (some .int) 0 0 (po_X12_box E h a_g a_kept a_tape a_written a_asked a_there a_counts a_lasts a_cames g kept isKept tape taped spot written writtenMany asked askedMany there counts lasts cames o) p s m args below meth c A Q)   {x1 : Int32} (k76 : Int32 → Option (Int32))  (hk76 : ∀ (x3 : Int32)   (H : Heap) (locs : List Loc) (ls : Array Slot), k76 x3 = some o → mW E A s [(h, .inr (11, [.ref a_g, .ref a_kept, .int isKept, .ref a_tape, .int taped, .int spot, .ref a_written, .int writtenMany, .ref a_asked, .int askedMany, .ref a_there, .ref a_counts, .ref a_lasts, .ref a_cames])), (a_g, .inl (E.2.1, 8787, .inl g)), (a_kept, .inl (E.2.1, 8787, .inl kept)), (a_tape, .inl (E.2.2.1, 60, .inl tape)), (a_written, .inl (E.2.1, 40, .inl written)), (a_asked, .inl (E.2.1, 60, .inl asked)), (a_there, .inl (E.2.1, 12, .inl there)), (a_counts, .inl (E.2.1, 12, .inl counts)), (a_lasts, .inl (E.2.1, 12, .inl lasts)), (a_cames, .inl (E.2.1, 12, .inl cames))] H locs → lv_has ls 5 [(3, .int x3)] → W p l e ({ frames := 2, cells := 0, slots := 0, locals := 45 } : Room) s m args below meth c H locs 0 0 Q (F0 m 76 ls [])) : ∀ n : Nat, ∀ (x3 : Int32) (x4 : Int32)   (H : Heap) (locs : List Loc) (ls : Array Slot), L_X12_box_40 N k76 x1 g n x3 x4 = some o → mW E A s [(h, .inr (11, [.ref a_g, .ref a_kept, .int isKept, .ref a_tape, .int taped, .int spot, .ref a_written, .int writtenMany, .ref a_asked, .int askedMany, .ref a_there, .ref a_counts, .ref a_lasts, .ref a_cames])), (a_g, .inl (E.2.1, 8787, .inl g)), (a_kept, .inl (E.2.1, 8787, .inl kept)), (a_tape, .inl (E.2.2.1, 60, .inl tape)), (a_written, .inl (E.2.1, 40, .inl written)), (a_asked, .inl (E.2.1, 60, .inl asked)), (a_there, .inl (E.2.1, 12, .inl there)), (a_counts, .inl (E.2.1, 12, .inl counts)), (a_lasts, .inl (E.2.1, 12, .inl lasts)), (a_cames, .inl (E.2.1, 12, .inl cames))] H locs → lv_has ls 5 [(0, .ref h), (1, .int x1), (3, .int x3), (4, .int x4)] → W p l e ({ frames := 2, cells := 0, slots := 0, locals := 45 } : Room) s m args below meth c H locs 0 0 Q (F0 m 40 ls []) := by
  obtain ⟨hx, hb, hml, hown, hts⟩ := id B.1
  intro n
  induction n with
  | zero =>
    intro x3 x4 H locs ls hf w hl
    exact nomatch hf
  | succ n hrec =>
    intro x3 x4 H locs ls hf w hl
    have hf : K_X12_box_40 N (L_X12_box_40 N k76 x1 g n) k76 x1 g x3 x4 = some o := hf
    unfold K_X12_box_40 at hf
    refine lv_iload hx hb dX12_box_40 (lv_at hl 3 rfl) ?_
    refine lv_aload_n hx hb dX12_box_42 rfl (lv_at hl 0 rfl) ?_
    refine mx_get B w 0 fl_X12_9 rfl rfl dX12_box_43 ?_
    refine lv_bipush (v := 15) hx hb dX12_box_46 (by decide) ?_
    obtain ⟨hin, hf⟩ := ld_e hf
    refine mx_iald B w 1 rfl hin dX12_box_48 (fun v_3 ev => ?_)
    have hf := hf _ ev; clear ev
    refine lv_icmp_ge (tgt := 76) hx hb dX12_box_49 (by decide) (fun hc => ?_) (fun hc => ?_)
    · have hf := it_t hc hf
      exact hk76 _ _ _ _ hf  w (lv_sub hl [2] rfl)
    · have hf := it_f hc hf
      refine lv_iload_n hx hb dX12_box_52 rfl (lv_at hl 2 rfl) ?_
      refine lv_aload_n hx hb dX12_box_53 rfl (lv_at hl 0 rfl) ?_
      refine lv_iload hx hb dX12_box_54 (lv_at hl 3 rfl) ?_
      refine lv_iload_n hx hb dX12_box_56 rfl (lv_at hl 1 rfl) ?_
      obtain ⟨o_4, hq, hf⟩ := bd_e hf
      refine mx_callV (As := [.int x4, .int x1]) (rest := [.int x3]) (wr := []) (d_X12_waiterOf E l N h a_g a_kept a_tape a_written a_asked a_there a_counts a_lasts a_cames g kept isKept tape taped spot written writtenMany asked askedMany there counts lasts cames x4 x1  o_4 hq) B w [0, 1, 2, 3, 4, 5, 6, 7, 8, 9] [] rfl rfl (by decide) (by decide) (by decide) 0 rfl rfl cv_X12_waiterOf kw_1492 2 (by decide +kernel) ⟨Nat.le_of_ble_eq_true rfl, Nat.le_of_ble_eq_true rfl⟩ rfl hl.1 rfl (Nat.le_of_ble_eq_true rfl) dX12_box_57 rfl rfl ⟨Nat.zero_le _, Nat.zero_le _⟩ (fun v w' H locs hpo w => ?_)
      clear hq
      obtain ⟨rfl, rfl⟩ := hpo
      have w : mW E A s [(h, .inr (11, [.ref a_g, .ref a_kept, .int isKept, .ref a_tape, .int taped, .int spot, .ref a_written, .int writtenMany, .ref a_asked, .int askedMany, .ref a_there, .ref a_counts, .ref a_lasts, .ref a_cames])), (a_g, .inl (E.2.1, 8787, .inl g)), (a_kept, .inl (E.2.1, 8787, .inl kept)), (a_tape, .inl (E.2.2.1, 60, .inl tape)), (a_written, .inl (E.2.1, 40, .inl written)), (a_asked, .inl (E.2.1, 60, .inl asked)), (a_there, .inl (E.2.1, 12, .inl there)), (a_counts, .inl (E.2.1, 12, .inl counts)), (a_lasts, .inl (E.2.1, 12, .inl lasts)), (a_cames, .inl (E.2.1, 12, .inl cames))] H locs := w
      refine lv_if_lt (tgt := 67) hx hb dX12_box_60 (by decide) (fun hc => ?_) (fun hc => ?_)
      · have hf := it_t hc hf
        refine lv_iconst (v := 0) hx hb dX12_box_67 (by decide) ?_
        exact j_X12_box_68 B _ _ hrec hk76 hf  w (lv_sub hl [0, 1, 3] rfl)
      · have hf := it_f hc hf
        refine lv_iconst (v := 1) hx hb dX12_box_63 (by decide) ?_
        refine lv_goto (tgt := 68) hx hb dX12_box_64 (by decide) ?_
        exact j_X12_box_68 B _ _ hrec hk76 hf  w (lv_sub hl [0, 1, 3] rfl)
noncomputable def F_X12_box (N : Nat)  (g : Nat → Int32) (x1 : Int32) (x2 : Int32) : Option (Int32) :=
  bd (F_X12_isAsker x1) (fun o_1 =>
  if (o_1 = 0 : Prop) then
  some ((-1001))
  else
  bd (F_X12_in x2 0 1) (fun o_2 =>
  if (o_2 = 0 : Prop) then
  some ((-1001))
  else
  if (x2 = 0 : Prop) then
  ld g 8787 (8003 + x1) (fun v_7 =>
  some (v_7))
  else
  L_X12_box_40 N (fun x3 => some (x3)) x1 g N 0 0))
set_option maxHeartbeats 4000000 in
set_option maxRecDepth 100000 in
theorem d_X12_box (E : mE) (l : Launch) (N : Nat) (h : Nat) (a_g : Nat) (a_kept : Nat) (a_tape : Nat) (a_written : Nat) (a_asked : Nat) (a_there : Nat) (a_counts : Nat) (a_lasts : Nat) (a_cames : Nat)  (g : Nat → Int32) (kept : Nat → Int32) (isKept : Int32) (tape : Nat → Int32) (taped : Int32) (spot : Int32) (written : Nat → Int32) (writtenMany : Int32) (asked : Nat → Int32) (askedMany : Int32) (there : Nat → Int32) (counts : Nat → Int32) (lasts : Nat → Int32) (cames : Nat → Int32)  (x1 : Int32) (x2 : Int32)  (o : Int32) (hf : F_X12_box N g x1 x2 = some o) : MX E l yX12_box cX12_box 5 (some .int) ({ frames := 2, cells := 0, slots := 0, locals := 45 } : Room) [.ref h, .int x1, .int x2] [(h, .inr (11, [.ref a_g, .ref a_kept, .int isKept, .ref a_tape, .int taped, .int spot, .ref a_written, .int writtenMany, .ref a_asked, .int askedMany, .ref a_there, .ref a_counts, .ref a_lasts, .ref a_cames])), (a_g, .inl (E.2.1, 8787, .inl g)), (a_kept, .inl (E.2.1, 8787, .inl kept)), (a_tape, .inl (E.2.2.1, 60, .inl tape)), (a_written, .inl (E.2.1, 40, .inl written)), (a_asked, .inl (E.2.1, 60, .inl asked)), (a_there, .inl (E.2.1, 12, .inl there)), (a_counts, .inl (E.2.1, 12, .inl counts)), (a_lasts, .inl (E.2.1, 12, .inl lasts)), (a_cames, .inl (E.2.1, 12, .inl cames))] (po_X12_box E h a_g a_kept a_tape a_written a_asked a_there a_counts a_lasts a_cames g kept isKept tape taped spot written writtenMany asked askedMany there counts lasts cames o) := by
  refine mx_intro (by decide +kernel) (Nat.le_of_ble_eq_true rfl) ?_
  intro p e s m args below meth c A Q ls B w hl
  obtain ⟨hx, hb, hml, hown, hts⟩ := id B.1
  unfold F_X12_box at hf
  have hl : lv_has ls 5 [(0, .ref h), (1, .int x1), (2, .int x2)] := hl
  refine lv_iload_n hx hb dX12_box_0 rfl (lv_at hl 1 rfl) ?_
  obtain ⟨o_1, hq, hf⟩ := bd_e hf
  refine mx_callS (As := [.int x1]) (rest := []) (wr := [(h, .inr (11, [.ref a_g, .ref a_kept, .int isKept, .ref a_tape, .int taped, .int spot, .ref a_written, .int writtenMany, .ref a_asked, .int askedMany, .ref a_there, .ref a_counts, .ref a_lasts, .ref a_cames])), (a_g, .inl (E.2.1, 8787, .inl g)), (a_kept, .inl (E.2.1, 8787, .inl kept)), (a_tape, .inl (E.2.2.1, 60, .inl tape)), (a_written, .inl (E.2.1, 40, .inl written)), (a_asked, .inl (E.2.1, 60, .inl asked)), (a_there, .inl (E.2.1, 12, .inl there)), (a_counts, .inl (E.2.1, 12, .inl counts)), (a_lasts, .inl (E.2.1, 12, .inl lasts)), (a_cames, .inl (E.2.1, 12, .inl cames))]) (d_X12_isAsker E l   x1  o_1 hq) B w [] [0, 1, 2, 3, 4, 5, 6, 7, 8, 9] rfl rfl (by decide) (by decide) (by decide) cs_X12_isAsker kw_1461 1 (by decide +kernel) ⟨Nat.le_of_ble_eq_true rfl, Nat.le_of_ble_eq_true rfl⟩ rfl hl.1 rfl (Nat.le_of_ble_eq_true rfl) dX12_box_1 rfl rfl ⟨Nat.zero_le _, Nat.zero_le _⟩ (fun v w' H locs hpo w => ?_)
  clear hq
  obtain ⟨rfl, rfl⟩ := hpo
  have w : mW E A s [(h, .inr (11, [.ref a_g, .ref a_kept, .int isKept, .ref a_tape, .int taped, .int spot, .ref a_written, .int writtenMany, .ref a_asked, .int askedMany, .ref a_there, .ref a_counts, .ref a_lasts, .ref a_cames])), (a_g, .inl (E.2.1, 8787, .inl g)), (a_kept, .inl (E.2.1, 8787, .inl kept)), (a_tape, .inl (E.2.2.1, 60, .inl tape)), (a_written, .inl (E.2.1, 40, .inl written)), (a_asked, .inl (E.2.1, 60, .inl asked)), (a_there, .inl (E.2.1, 12, .inl there)), (a_counts, .inl (E.2.1, 12, .inl counts)), (a_lasts, .inl (E.2.1, 12, .inl lasts)), (a_cames, .inl (E.2.1, 12, .inl cames))] H locs := w
  refine lv_if_eq (tgt := 16) hx hb dX12_box_4 (by decide) (fun hc => ?_) (fun hc => ?_)
  · have hf := it_t hc hf
    refine lv_sipush (v := (-1001)) hx hb dX12_box_16 (by decide) ?_
    cases hf
    exact mx_iret B w ⟨rfl, rfl⟩ dX12_box_19
  · have hf := it_f hc hf
    refine lv_iload_n hx hb dX12_box_7 rfl (lv_at hl 2 rfl) ?_
    refine lv_iconst (v := 0) hx hb dX12_box_8 (by decide) ?_
    refine lv_iconst (v := 1) hx hb dX12_box_9 (by decide) ?_
    obtain ⟨o_2, hq, hf⟩ := bd_e hf
    refine mx_callS (As := [.int x2, .int 0, .int 1]) (rest := []) (wr := [(h, .inr (11, [.ref a_g, .ref a_kept, .int isKept, .ref a_tape, .int taped, .int spot, .ref a_written, .int writtenMany, .ref a_asked, .int askedMany, .ref a_there, .ref a_counts, .ref a_lasts, .ref a_cames])), (a_g, .inl (E.2.1, 8787, .inl g)), (a_kept, .inl (E.2.1, 8787, .inl kept)), (a_tape, .inl (E.2.2.1, 60, .inl tape)), (a_written, .inl (E.2.1, 40, .inl written)), (a_asked, .inl (E.2.1, 60, .inl asked)), (a_there, .inl (E.2.1, 12, .inl there)), (a_counts, .inl (E.2.1, 12, .inl counts)), (a_lasts, .inl (E.2.1, 12, .inl lasts)), (a_cames, .inl (E.2.1, 12, .inl cames))]) (d_X12_in E l   x2 0 1  o_2 hq) B w [] [0, 1, 2, 3, 4, 5, 6, 7, 8, 9] rfl rfl (by decide) (by decide) (by decide) cs_X12_in kw_1274 3 (by decide +kernel) ⟨Nat.le_of_ble_eq_true rfl, Nat.le_of_ble_eq_true rfl⟩ rfl hl.1 rfl (Nat.le_of_ble_eq_true rfl) dX12_box_10 rfl rfl ⟨Nat.zero_le _, Nat.zero_le _⟩ (fun v w' H locs hpo w => ?_)
    clear hq
    obtain ⟨rfl, rfl⟩ := hpo
    have w : mW E A s [(h, .inr (11, [.ref a_g, .ref a_kept, .int isKept, .ref a_tape, .int taped, .int spot, .ref a_written, .int writtenMany, .ref a_asked, .int askedMany, .ref a_there, .ref a_counts, .ref a_lasts, .ref a_cames])), (a_g, .inl (E.2.1, 8787, .inl g)), (a_kept, .inl (E.2.1, 8787, .inl kept)), (a_tape, .inl (E.2.2.1, 60, .inl tape)), (a_written, .inl (E.2.1, 40, .inl written)), (a_asked, .inl (E.2.1, 60, .inl asked)), (a_there, .inl (E.2.1, 12, .inl there)), (a_counts, .inl (E.2.1, 12, .inl counts)), (a_lasts, .inl (E.2.1, 12, .inl lasts)), (a_cames, .inl (E.2.1, 12, .inl cames))] H locs := w
    refine lv_if_ne (tgt := 20) hx hb dX12_box_13 (by decide) (fun hc => ?_) (fun hc => ?_)
    · have hf := it_f hc hf
      refine lv_iload_n hx hb dX12_box_20 rfl (lv_at hl 2 rfl) ?_
      refine lv_if_ne (tgt := 35) hx hb dX12_box_21 (by decide) (fun hc => ?_) (fun hc => ?_)
      · have hf := it_f hc hf
        refine lv_iconst (v := 0) hx hb dX12_box_35 (by decide) ?_
        refine lv_istore_n (lv' := [(3, .int 0), (0, .ref h), (1, .int x1), (2, .int x2)]) hx hb dX12_box_36 rfl hl (by decide) rfl (fun ls hl => ?_)
        refine lv_iconst (v := 0) hx hb dX12_box_37 (by decide) ?_
        refine lv_istore (lv' := [(4, .int 0), (3, .int 0), (0, .ref h), (1, .int x1), (2, .int x2)]) hx hb dX12_box_38 hl (by decide) rfl (fun ls hl => ?_)
        refine l_X12_box_40 B _  ?_ N _ _ _ _ _ hf  w (lv_sub hl [2, 3, 1, 0] rfl)
        · intro x3 H locs ls hf w hl
          refine lv_iload_n hx hb dX12_box_76 rfl (lv_at hl 0 rfl) ?_
          cases hf
          exact mx_iret B w ⟨rfl, rfl⟩ dX12_box_77
      · have hf := it_t hc hf
        refine lv_aload_n hx hb dX12_box_24 rfl (lv_at hl 0 rfl) ?_
        refine mx_get B w 0 fl_X12_9 rfl rfl dX12_box_25 ?_
        refine lv_sipush (v := 8003) hx hb dX12_box_28 (by decide) ?_
        refine lv_iload_n hx hb dX12_box_31 rfl (lv_at hl 1 rfl) ?_
        refine lv_iadd hx hb dX12_box_32 ?_
        obtain ⟨hin, hf⟩ := ld_e hf
        refine mx_iald B w 1 rfl hin dX12_box_33 (fun v_7 ev => ?_)
        have hf := hf _ ev; clear ev
        cases hf
        exact mx_iret B w ⟨rfl, rfl⟩ dX12_box_34
    · have hf := it_t hc hf
      refine lv_sipush (v := (-1001)) hx hb dX12_box_16 (by decide) ?_
      cases hf
      exact mx_iret B w ⟨rfl, rfl⟩ dX12_box_19
-- X12_write
def po_X12_write (E : mE) (h : Nat) (a_g : Nat) (a_kept : Nat) (a_tape : Nat) (a_written : Nat) (a_asked : Nat) (a_there : Nat) (a_counts : Nat) (a_lasts : Nat) (a_cames : Nat)  (g : Nat → Int32) (kept : Nat → Int32) (isKept : Int32) (tape : Nat → Int32) (taped : Int32) (spot : Int32) (written : Nat → Int32) (writtenMany : Int32) (asked : Nat → Int32) (askedMany : Int32) (there : Nat → Int32) (counts : Nat → Int32) (lasts : Nat → Int32) (cames : Nat → Int32)  (o : Int32 × (Nat → Int32) × Int32 × Int32) : Option Value → va_W → Prop := (fun (v : Option Value) (w' : va_W) => v = some (.int o.1) ∧ w' = [(h, .inr (11, [.ref a_g, .ref a_kept, .int isKept, .ref a_tape, .int o.2.2.1, .int o.2.2.2, .ref a_written, .int writtenMany, .ref a_asked, .int askedMany, .ref a_there, .ref a_counts, .ref a_lasts, .ref a_cames])), (a_g, .inl (E.2.1, 8787, .inl o.2.1)), (a_kept, .inl (E.2.1, 8787, .inl kept)), (a_tape, .inl (E.2.2.1, 60, .inl tape)), (a_written, .inl (E.2.1, 40, .inl written)), (a_asked, .inl (E.2.1, 60, .inl asked)), (a_there, .inl (E.2.1, 12, .inl there)), (a_counts, .inl (E.2.1, 12, .inl counts)), (a_lasts, .inl (E.2.1, 12, .inl lasts)), (a_cames, .inl (E.2.1, 12, .inl cames))])
noncomputable def J_X12_write_45 (N : Nat)   (x1 : Int32) (x2 : Int32) (g : Nat → Int32) (tape : Nat → Int32) (taped : Int32) (spot : Int32) : Option (Int32 × (Nat → Int32) × Int32 × Int32) :=
  bd (F_X12_writes N g x2 x1) (fun o_4 =>
  some (0, o_4, taped, spot))
set_option maxHeartbeats 4000000 in
set_option maxRecDepth 100000 in
theorem j_X12_write_45 {E : mE} {l : Launch} {p : Program} {e : Env} {s : State} {m : MethodId} {args : Array Value} {below : List Frame} {meth : Method} {c : Code} {A : Nat → Prop} {Q : State → Prop} {N : Nat} {h : Nat} {a_g : Nat} {a_kept : Nat} {a_tape : Nat} {a_written : Nat} {a_asked : Nat} {a_there : Nat} {a_counts : Nat} {a_lasts : Nat} {a_cames : Nat}  {g0 : Nat → Int32} {kept : Nat → Int32} {isKept : Int32} {tape : Nat → Int32} {taped0 : Int32} {spot0 : Int32} {written : Nat → Int32} {writtenMany : Int32} {asked : Nat → Int32} {askedMany : Int32} {there : Nat → Int32} {counts : Nat → Int32} {lasts : Nat → Int32} {cames : Nat → Int32}  {o : Int32 × (Nat → Int32) × Int32 × Int32} (B : mB E yX12_write cX12_write 4 (some .int) 0 0 (po_X12_write E h a_g a_kept a_tape a_written a_asked a_there a_counts a_lasts a_cames g0 kept isKept tape taped0 spot0 written writtenMany asked askedMany there counts lasts cames o) p s m args below meth c A Q) {x1 : Int32} {x2 : Int32} {g : Nat → Int32} {taped : Int32} {spot : Int32}    {H : Heap} {locs : List Loc} {ls : Array Slot} (hf : J_X12_write_45 N x1 x2 g tape taped spot = some o)  (w : mW E A s [(h, .inr (11, [.ref a_g, .ref a_kept, .int isKept, .ref a_tape, .int taped, .int spot, .ref a_written, .int writtenMany, .ref a_asked, .int askedMany, .ref a_there, .ref a_counts, .ref a_lasts, .ref a_cames])), (a_g, .inl (E.2.1, 8787, .inl g)), (a_kept, .inl (E.2.1, 8787, .inl kept)), (a_tape, .inl (E.2.2.1, 60, .inl tape)), (a_written, .inl (E.2.1, 40, .inl written)), (a_asked, .inl (E.2.1, 60, .inl asked)), (a_there, .inl (E.2.1, 12, .inl there)), (a_counts, .inl (E.2.1, 12, .inl counts)), (a_lasts, .inl (E.2.1, 12, .inl lasts)), (a_cames, .inl (E.2.1, 12, .inl cames))] H locs) (hl : lv_has ls 4 [(0, .ref h), (1, .int x1), (2, .int x2)]) : W p l e ({ frames := 5, cells := 0, slots := 0, locals := 114 } : Room) s m args below meth c H locs 0 0 Q (F0 m 45 ls []) := by
  obtain ⟨hx, hb, hml, hown, hts⟩ := id B.1
  unfold J_X12_write_45 at hf
  refine lv_aload_n hx hb dX12_write_45 rfl (lv_at hl 0 rfl) ?_
  refine lv_iload_n hx hb dX12_write_46 rfl (lv_at hl 2 rfl) ?_
  refine lv_iload_n hx hb dX12_write_47 rfl (lv_at hl 1 rfl) ?_
  obtain ⟨o_4, hq, hf⟩ := bd_e hf
  refine mx_callV (As := [.int x2, .int x1]) (rest := []) (wr := []) (d_X12_writes E l N h a_g a_kept a_tape a_written a_asked a_there a_counts a_lasts a_cames g kept isKept tape taped spot written writtenMany asked askedMany there counts lasts cames x2 x1  o_4 hq) B w [0, 1, 2, 3, 4, 5, 6, 7, 8, 9] [] rfl rfl (by decide) (by decide) (by decide) 0 rfl rfl cv_X12_writes kw_1365 2 (by decide +kernel) ⟨Nat.le_of_ble_eq_true rfl, Nat.le_of_ble_eq_true rfl⟩ rfl hl.1 rfl (Nat.le_of_ble_eq_true rfl) dX12_write_48 rfl rfl ⟨Nat.zero_le _, Nat.zero_le _⟩ (fun v w' H locs hpo w => ?_)
  clear hq
  obtain ⟨rfl, rfl⟩ := hpo
  have w : mW E A s [(h, .inr (11, [.ref a_g, .ref a_kept, .int isKept, .ref a_tape, .int taped, .int spot, .ref a_written, .int writtenMany, .ref a_asked, .int askedMany, .ref a_there, .ref a_counts, .ref a_lasts, .ref a_cames])), (a_g, .inl (E.2.1, 8787, .inl o_4)), (a_kept, .inl (E.2.1, 8787, .inl kept)), (a_tape, .inl (E.2.2.1, 60, .inl tape)), (a_written, .inl (E.2.1, 40, .inl written)), (a_asked, .inl (E.2.1, 60, .inl asked)), (a_there, .inl (E.2.1, 12, .inl there)), (a_counts, .inl (E.2.1, 12, .inl counts)), (a_lasts, .inl (E.2.1, 12, .inl lasts)), (a_cames, .inl (E.2.1, 12, .inl cames))] H locs := w
  refine lv_iconst (v := 0) hx hb dX12_write_51 (by decide) ?_
  cases hf
  exact mx_iret B w ⟨rfl, rfl⟩ dX12_write_52
noncomputable def F_X12_write (N : Nat)  (g : Nat → Int32) (tape : Nat → Int32) (taped : Int32) (spot : Int32) (x1 : Int32) : Option (Int32 × (Nat → Int32) × Int32 × Int32) :=
  bd (F_X12_in x1 0 99999) (fun o_1 =>
  if (o_1 = 0 : Prop) then
  some ((-1001), g, taped, spot)
  else
  bd (F_X12_takesKey N tape taped spot) (fun o_2 =>
  if (o_2.1 = 0 : Prop) then
  some ((-1002), g, o_2.2.1, o_2.2.2)
  else
  bd (F_X12_entryOf N g o_2.1) (fun o_3 =>
  if (o_3 < 0 : Prop) then
  J_X12_write_45 N x1 o_2.1 g tape o_2.2.1 o_2.2.2
  else
  bd (F_X12_isStale g o_3) (fun o_5 =>
  if (o_5 = 0 : Prop) then
  ld g 8787 12 (fun v_6 =>
  sto g 8787 12 (v_6 + 1) (fun g_7 =>
  bd (F_X12_sets g_7 o_3 1 x1) (fun o_8 =>
  ld o_8 8787 8 (fun v_9 =>
  bd (F_X12_sets o_8 o_3 4 v_9) (fun o_10 =>
  ld o_10 8787 12 (fun v_11 =>
  bd (F_X12_sets o_10 o_3 8 v_11) (fun o_12 =>
  some (1, o_12, o_2.2.1, o_2.2.2))))))))
  else
  J_X12_write_45 N x1 o_2.1 g tape o_2.2.1 o_2.2.2))))
set_option maxHeartbeats 4000000 in
set_option maxRecDepth 100000 in
theorem d_X12_write (E : mE) (l : Launch) (N : Nat) (h : Nat) (a_g : Nat) (a_kept : Nat) (a_tape : Nat) (a_written : Nat) (a_asked : Nat) (a_there : Nat) (a_counts : Nat) (a_lasts : Nat) (a_cames : Nat)  (g : Nat → Int32) (kept : Nat → Int32) (isKept : Int32) (tape : Nat → Int32) (taped : Int32) (spot : Int32) (written : Nat → Int32) (writtenMany : Int32) (asked : Nat → Int32) (askedMany : Int32) (there : Nat → Int32) (counts : Nat → Int32) (lasts : Nat → Int32) (cames : Nat → Int32)  (x1 : Int32)  (o : Int32 × (Nat → Int32) × Int32 × Int32) (hf : F_X12_write N g tape taped spot x1 = some o) : MX E l yX12_write cX12_write 4 (some .int) ({ frames := 5, cells := 0, slots := 0, locals := 114 } : Room) [.ref h, .int x1] [(h, .inr (11, [.ref a_g, .ref a_kept, .int isKept, .ref a_tape, .int taped, .int spot, .ref a_written, .int writtenMany, .ref a_asked, .int askedMany, .ref a_there, .ref a_counts, .ref a_lasts, .ref a_cames])), (a_g, .inl (E.2.1, 8787, .inl g)), (a_kept, .inl (E.2.1, 8787, .inl kept)), (a_tape, .inl (E.2.2.1, 60, .inl tape)), (a_written, .inl (E.2.1, 40, .inl written)), (a_asked, .inl (E.2.1, 60, .inl asked)), (a_there, .inl (E.2.1, 12, .inl there)), (a_counts, .inl (E.2.1, 12, .inl counts)), (a_lasts, .inl (E.2.1, 12, .inl lasts)), (a_cames, .inl (E.2.1, 12, .inl cames))] (po_X12_write E h a_g a_kept a_tape a_written a_asked a_there a_counts a_lasts a_cames g kept isKept tape taped spot written writtenMany asked askedMany there counts lasts cames o) := by
  refine mx_intro (by decide +kernel) (Nat.le_of_ble_eq_true rfl) ?_
  intro p e s m args below meth c A Q ls B w hl
  obtain ⟨hx, hb, hml, hown, hts⟩ := id B.1
  unfold F_X12_write at hf
  have hl : lv_has ls 4 [(0, .ref h), (1, .int x1)] := hl
  refine lv_iload_n hx hb dX12_write_0 rfl (lv_at hl 1 rfl) ?_
  refine lv_iconst (v := 0) hx hb dX12_write_1 (by decide) ?_
  refine lv_ldc hx hb hown (hts _ kw_1393) dX12_write_2 ?_
  obtain ⟨o_1, hq, hf⟩ := bd_e hf
  refine mx_callS (As := [.int x1, .int 0, .int 99999]) (rest := []) (wr := [(h, .inr (11, [.ref a_g, .ref a_kept, .int isKept, .ref a_tape, .int taped, .int spot, .ref a_written, .int writtenMany, .ref a_asked, .int askedMany, .ref a_there, .ref a_counts, .ref a_lasts, .ref a_cames])), (a_g, .inl (E.2.1, 8787, .inl g)), (a_kept, .inl (E.2.1, 8787, .inl kept)), (a_tape, .inl (E.2.2.1, 60, .inl tape)), (a_written, .inl (E.2.1, 40, .inl written)), (a_asked, .inl (E.2.1, 60, .inl asked)), (a_there, .inl (E.2.1, 12, .inl there)), (a_counts, .inl (E.2.1, 12, .inl counts)), (a_lasts, .inl (E.2.1, 12, .inl lasts)), (a_cames, .inl (E.2.1, 12, .inl cames))]) (d_X12_in E l   x1 0 99999  o_1 hq) B w [] [0, 1, 2, 3, 4, 5, 6, 7, 8, 9] rfl rfl (by decide) (by decide) (by decide) cs_X12_in kw_1274 3 (by decide +kernel) ⟨Nat.le_of_ble_eq_true rfl, Nat.le_of_ble_eq_true rfl⟩ rfl hl.1 rfl (Nat.le_of_ble_eq_true rfl) dX12_write_4 rfl rfl ⟨Nat.zero_le _, Nat.zero_le _⟩ (fun v w' H locs hpo w => ?_)
  clear hq
  obtain ⟨rfl, rfl⟩ := hpo
  have w : mW E A s [(h, .inr (11, [.ref a_g, .ref a_kept, .int isKept, .ref a_tape, .int taped, .int spot, .ref a_written, .int writtenMany, .ref a_asked, .int askedMany, .ref a_there, .ref a_counts, .ref a_lasts, .ref a_cames])), (a_g, .inl (E.2.1, 8787, .inl g)), (a_kept, .inl (E.2.1, 8787, .inl kept)), (a_tape, .inl (E.2.2.1, 60, .inl tape)), (a_written, .inl (E.2.1, 40, .inl written)), (a_asked, .inl (E.2.1, 60, .inl asked)), (a_there, .inl (E.2.1, 12, .inl there)), (a_counts, .inl (E.2.1, 12, .inl counts)), (a_lasts, .inl (E.2.1, 12, .inl lasts)), (a_cames, .inl (E.2.1, 12, .inl cames))] H locs := w
  refine lv_if_ne (tgt := 14) hx hb dX12_write_7 (by decide) (fun hc => ?_) (fun hc => ?_)
  · have hf := it_f hc hf
    refine lv_aload_n hx hb dX12_write_14 rfl (lv_at hl 0 rfl) ?_
    obtain ⟨o_2, hq, hf⟩ := bd_e hf
    refine mx_callV (As := []) (rest := []) (wr := []) (d_X12_takesKey E l N h a_g a_kept a_tape a_written a_asked a_there a_counts a_lasts a_cames g kept isKept tape taped spot written writtenMany asked askedMany there counts lasts cames   o_2 hq) B w [0, 1, 2, 3, 4, 5, 6, 7, 8, 9] [] rfl rfl (by decide) (by decide) (by decide) 0 rfl rfl cv_X12_takesKey kw_1281 0 (by decide +kernel) ⟨Nat.le_of_ble_eq_true rfl, Nat.le_of_ble_eq_true rfl⟩ rfl hl.1 rfl (Nat.le_of_ble_eq_true rfl) dX12_write_15 rfl rfl ⟨Nat.zero_le _, Nat.zero_le _⟩ (fun v w' H locs hpo w => ?_)
    clear hq
    obtain ⟨rfl, rfl⟩ := hpo
    have w : mW E A s [(h, .inr (11, [.ref a_g, .ref a_kept, .int isKept, .ref a_tape, .int o_2.2.1, .int o_2.2.2, .ref a_written, .int writtenMany, .ref a_asked, .int askedMany, .ref a_there, .ref a_counts, .ref a_lasts, .ref a_cames])), (a_g, .inl (E.2.1, 8787, .inl g)), (a_kept, .inl (E.2.1, 8787, .inl kept)), (a_tape, .inl (E.2.2.1, 60, .inl tape)), (a_written, .inl (E.2.1, 40, .inl written)), (a_asked, .inl (E.2.1, 60, .inl asked)), (a_there, .inl (E.2.1, 12, .inl there)), (a_counts, .inl (E.2.1, 12, .inl counts)), (a_lasts, .inl (E.2.1, 12, .inl lasts)), (a_cames, .inl (E.2.1, 12, .inl cames))] H locs := w
    refine lv_istore_n (lv' := [(2, .int o_2.1), (0, .ref h), (1, .int x1)]) hx hb dX12_write_18 rfl hl (by decide) rfl (fun ls hl => ?_)
    refine lv_iload_n hx hb dX12_write_19 rfl (lv_at hl 0 rfl) ?_
    refine lv_if_ne (tgt := 27) hx hb dX12_write_20 (by decide) (fun hc => ?_) (fun hc => ?_)
    · have hf := it_f hc hf
      refine lv_aload_n hx hb dX12_write_27 rfl (lv_at hl 1 rfl) ?_
      refine lv_iload_n hx hb dX12_write_28 rfl (lv_at hl 0 rfl) ?_
      obtain ⟨o_3, hq, hf⟩ := bd_e hf
      refine mx_callV (As := [.int o_2.1]) (rest := []) (wr := []) (d_X12_entryOf E l N h a_g a_kept a_tape a_written a_asked a_there a_counts a_lasts a_cames g kept isKept tape o_2.2.1 o_2.2.2 written writtenMany asked askedMany there counts lasts cames o_2.1  o_3 hq) B w [0, 1, 2, 3, 4, 5, 6, 7, 8, 9] [] rfl rfl (by decide) (by decide) (by decide) 0 rfl rfl cv_X12_entryOf kw_1422 1 (by decide +kernel) ⟨Nat.le_of_ble_eq_true rfl, Nat.le_of_ble_eq_true rfl⟩ rfl hl.1 rfl (Nat.le_of_ble_eq_true rfl) dX12_write_29 rfl rfl ⟨Nat.zero_le _, Nat.zero_le _⟩ (fun v w' H locs hpo w => ?_)
      clear hq
      obtain ⟨rfl, rfl⟩ := hpo
      have w : mW E A s [(h, .inr (11, [.ref a_g, .ref a_kept, .int isKept, .ref a_tape, .int o_2.2.1, .int o_2.2.2, .ref a_written, .int writtenMany, .ref a_asked, .int askedMany, .ref a_there, .ref a_counts, .ref a_lasts, .ref a_cames])), (a_g, .inl (E.2.1, 8787, .inl g)), (a_kept, .inl (E.2.1, 8787, .inl kept)), (a_tape, .inl (E.2.2.1, 60, .inl tape)), (a_written, .inl (E.2.1, 40, .inl written)), (a_asked, .inl (E.2.1, 60, .inl asked)), (a_there, .inl (E.2.1, 12, .inl there)), (a_counts, .inl (E.2.1, 12, .inl counts)), (a_lasts, .inl (E.2.1, 12, .inl lasts)), (a_cames, .inl (E.2.1, 12, .inl cames))] H locs := w
      refine lv_istore_n (lv' := [(3, .int o_3), (2, .int o_2.1), (0, .ref h), (1, .int x1)]) hx hb dX12_write_32 rfl hl (by decide) rfl (fun ls hl => ?_)
      refine lv_iload_n hx hb dX12_write_33 rfl (lv_at hl 0 rfl) ?_
      refine lv_if_lt (tgt := 45) hx hb dX12_write_34 (by decide) (fun hc => ?_) (fun hc => ?_)
      · have hf := it_t hc hf
        exact j_X12_write_45 B   hf  w (lv_sub hl [2, 3, 1] rfl)
      · have hf := it_f hc hf
        refine lv_aload_n hx hb dX12_write_37 rfl (lv_at hl 2 rfl) ?_
        refine lv_iload_n hx hb dX12_write_38 rfl (lv_at hl 0 rfl) ?_
        obtain ⟨o_5, hq, hf⟩ := bd_e hf
        refine mx_callV (As := [.int o_3]) (rest := []) (wr := []) (d_X12_isStale E l  h a_g a_kept a_tape a_written a_asked a_there a_counts a_lasts a_cames g kept isKept tape o_2.2.1 o_2.2.2 written writtenMany asked askedMany there counts lasts cames o_3  o_5 hq) B w [0, 1, 2, 3, 4, 5, 6, 7, 8, 9] [] rfl rfl (by decide) (by decide) (by decide) 0 rfl rfl cv_X12_isStale kw_1337 1 (by decide +kernel) ⟨Nat.le_of_ble_eq_true rfl, Nat.le_of_ble_eq_true rfl⟩ rfl hl.1 rfl (Nat.le_of_ble_eq_true rfl) dX12_write_39 rfl rfl ⟨Nat.zero_le _, Nat.zero_le _⟩ (fun v w' H locs hpo w => ?_)
        clear hq
        obtain ⟨rfl, rfl⟩ := hpo
        have w : mW E A s [(h, .inr (11, [.ref a_g, .ref a_kept, .int isKept, .ref a_tape, .int o_2.2.1, .int o_2.2.2, .ref a_written, .int writtenMany, .ref a_asked, .int askedMany, .ref a_there, .ref a_counts, .ref a_lasts, .ref a_cames])), (a_g, .inl (E.2.1, 8787, .inl g)), (a_kept, .inl (E.2.1, 8787, .inl kept)), (a_tape, .inl (E.2.2.1, 60, .inl tape)), (a_written, .inl (E.2.1, 40, .inl written)), (a_asked, .inl (E.2.1, 60, .inl asked)), (a_there, .inl (E.2.1, 12, .inl there)), (a_counts, .inl (E.2.1, 12, .inl counts)), (a_lasts, .inl (E.2.1, 12, .inl lasts)), (a_cames, .inl (E.2.1, 12, .inl cames))] H locs := w
        refine lv_if_eq (tgt := 53) hx hb dX12_write_42 (by decide) (fun hc => ?_) (fun hc => ?_)
        · have hf := it_t hc hf
          refine lv_aload_n hx hb dX12_write_53 rfl (lv_at hl 2 rfl) ?_
          refine mx_get B w 0 fl_X12_9 rfl rfl dX12_write_54 ?_
          refine lv_bipush (v := 12) hx hb dX12_write_57 (by decide) ?_
          refine lv_dup2_11 hx hb dX12_write_59 rfl rfl ?_
          obtain ⟨hin, hf⟩ := ld_e hf
          refine mx_iald B w 1 rfl hin dX12_write_60 (fun v_6 ev => ?_)
          have hf := hf _ ev; clear ev
          refine lv_iconst (v := 1) hx hb dX12_write_61 (by decide) ?_
          refine lv_iadd hx hb dX12_write_62 ?_
          obtain ⟨hin, hf⟩ := sto_e hf
          refine mx_iast B w 1 rfl hin dX12_write_63 (fun g_7 H locs ev w => ?_)
          have hf := hf _ ev; clear ev
          have w : mW E A s [(h, .inr (11, [.ref a_g, .ref a_kept, .int isKept, .ref a_tape, .int o_2.2.1, .int o_2.2.2, .ref a_written, .int writtenMany, .ref a_asked, .int askedMany, .ref a_there, .ref a_counts, .ref a_lasts, .ref a_cames])), (a_g, .inl (E.2.1, 8787, .inl g_7)), (a_kept, .inl (E.2.1, 8787, .inl kept)), (a_tape, .inl (E.2.2.1, 60, .inl tape)), (a_written, .inl (E.2.1, 40, .inl written)), (a_asked, .inl (E.2.1, 60, .inl asked)), (a_there, .inl (E.2.1, 12, .inl there)), (a_counts, .inl (E.2.1, 12, .inl counts)), (a_lasts, .inl (E.2.1, 12, .inl lasts)), (a_cames, .inl (E.2.1, 12, .inl cames))] H locs := w
          refine lv_aload_n hx hb dX12_write_64 rfl (lv_at hl 2 rfl) ?_
          refine lv_iload_n hx hb dX12_write_65 rfl (lv_at hl 0 rfl) ?_
          refine lv_iconst (v := 1) hx hb dX12_write_66 (by decide) ?_
          refine lv_iload_n hx hb dX12_write_67 rfl (lv_at hl 3 rfl) ?_
          obtain ⟨o_8, hq, hf⟩ := bd_e hf
          refine mx_callV (As := [.int o_3, .int 1, .int x1]) (rest := []) (wr := []) (d_X12_sets E l  h a_g a_kept a_tape a_written a_asked a_there a_counts a_lasts a_cames g_7 kept isKept tape o_2.2.1 o_2.2.2 written writtenMany asked askedMany there counts lasts cames o_3 1 x1  o_8 hq) B w [0, 1, 2, 3, 4, 5, 6, 7, 8, 9] [] rfl rfl (by decide) (by decide) (by decide) 0 rfl rfl cv_X12_sets kw_1430 3 (by decide +kernel) ⟨Nat.le_of_ble_eq_true rfl, Nat.le_of_ble_eq_true rfl⟩ rfl hl.1 rfl (Nat.le_of_ble_eq_true rfl) dX12_write_68 rfl rfl ⟨Nat.zero_le _, Nat.zero_le _⟩ (fun v w' H locs hpo w => ?_)
          clear hq
          obtain ⟨rfl, rfl⟩ := hpo
          have w : mW E A s [(h, .inr (11, [.ref a_g, .ref a_kept, .int isKept, .ref a_tape, .int o_2.2.1, .int o_2.2.2, .ref a_written, .int writtenMany, .ref a_asked, .int askedMany, .ref a_there, .ref a_counts, .ref a_lasts, .ref a_cames])), (a_g, .inl (E.2.1, 8787, .inl o_8)), (a_kept, .inl (E.2.1, 8787, .inl kept)), (a_tape, .inl (E.2.2.1, 60, .inl tape)), (a_written, .inl (E.2.1, 40, .inl written)), (a_asked, .inl (E.2.1, 60, .inl asked)), (a_there, .inl (E.2.1, 12, .inl there)), (a_counts, .inl (E.2.1, 12, .inl counts)), (a_lasts, .inl (E.2.1, 12, .inl lasts)), (a_cames, .inl (E.2.1, 12, .inl cames))] H locs := w
          refine lv_aload_n hx hb dX12_write_71 rfl (lv_at hl 2 rfl) ?_
          refine lv_iload_n hx hb dX12_write_72 rfl (lv_at hl 0 rfl) ?_
          refine lv_iconst (v := 4) hx hb dX12_write_73 (by decide) ?_
          refine lv_aload_n hx hb dX12_write_74 rfl (lv_at hl 2 rfl) ?_
          refine mx_get B w 0 fl_X12_9 rfl rfl dX12_write_75 ?_
          refine lv_bipush (v := 8) hx hb dX12_write_78 (by decide) ?_
          obtain ⟨hin, hf⟩ := ld_e hf
          refine mx_iald B w 1 rfl hin dX12_write_80 (fun v_9 ev => ?_)
          have hf := hf _ ev; clear ev
          obtain ⟨o_10, hq, hf⟩ := bd_e hf
          refine mx_callV (As := [.int o_3, .int 4, .int v_9]) (rest := []) (wr := []) (d_X12_sets E l  h a_g a_kept a_tape a_written a_asked a_there a_counts a_lasts a_cames o_8 kept isKept tape o_2.2.1 o_2.2.2 written writtenMany asked askedMany there counts lasts cames o_3 4 v_9  o_10 hq) B w [0, 1, 2, 3, 4, 5, 6, 7, 8, 9] [] rfl rfl (by decide) (by decide) (by decide) 0 rfl rfl cv_X12_sets kw_1430 3 (by decide +kernel) ⟨Nat.le_of_ble_eq_true rfl, Nat.le_of_ble_eq_true rfl⟩ rfl hl.1 rfl (Nat.le_of_ble_eq_true rfl) dX12_write_81 rfl rfl ⟨Nat.zero_le _, Nat.zero_le _⟩ (fun v w' H locs hpo w => ?_)
          clear hq
          obtain ⟨rfl, rfl⟩ := hpo
          have w : mW E A s [(h, .inr (11, [.ref a_g, .ref a_kept, .int isKept, .ref a_tape, .int o_2.2.1, .int o_2.2.2, .ref a_written, .int writtenMany, .ref a_asked, .int askedMany, .ref a_there, .ref a_counts, .ref a_lasts, .ref a_cames])), (a_g, .inl (E.2.1, 8787, .inl o_10)), (a_kept, .inl (E.2.1, 8787, .inl kept)), (a_tape, .inl (E.2.2.1, 60, .inl tape)), (a_written, .inl (E.2.1, 40, .inl written)), (a_asked, .inl (E.2.1, 60, .inl asked)), (a_there, .inl (E.2.1, 12, .inl there)), (a_counts, .inl (E.2.1, 12, .inl counts)), (a_lasts, .inl (E.2.1, 12, .inl lasts)), (a_cames, .inl (E.2.1, 12, .inl cames))] H locs := w
          refine lv_aload_n hx hb dX12_write_84 rfl (lv_at hl 2 rfl) ?_
          refine lv_iload_n hx hb dX12_write_85 rfl (lv_at hl 0 rfl) ?_
          refine lv_bipush (v := 8) hx hb dX12_write_86 (by decide) ?_
          refine lv_aload_n hx hb dX12_write_88 rfl (lv_at hl 2 rfl) ?_
          refine mx_get B w 0 fl_X12_9 rfl rfl dX12_write_89 ?_
          refine lv_bipush (v := 12) hx hb dX12_write_92 (by decide) ?_
          obtain ⟨hin, hf⟩ := ld_e hf
          refine mx_iald B w 1 rfl hin dX12_write_94 (fun v_11 ev => ?_)
          have hf := hf _ ev; clear ev
          obtain ⟨o_12, hq, hf⟩ := bd_e hf
          refine mx_callV (As := [.int o_3, .int 8, .int v_11]) (rest := []) (wr := []) (d_X12_sets E l  h a_g a_kept a_tape a_written a_asked a_there a_counts a_lasts a_cames o_10 kept isKept tape o_2.2.1 o_2.2.2 written writtenMany asked askedMany there counts lasts cames o_3 8 v_11  o_12 hq) B w [0, 1, 2, 3, 4, 5, 6, 7, 8, 9] [] rfl rfl (by decide) (by decide) (by decide) 0 rfl rfl cv_X12_sets kw_1430 3 (by decide +kernel) ⟨Nat.le_of_ble_eq_true rfl, Nat.le_of_ble_eq_true rfl⟩ rfl hl.1 rfl (Nat.le_of_ble_eq_true rfl) dX12_write_95 rfl rfl ⟨Nat.zero_le _, Nat.zero_le _⟩ (fun v w' H locs hpo w => ?_)
          clear hq
          obtain ⟨rfl, rfl⟩ := hpo
          have w : mW E A s [(h, .inr (11, [.ref a_g, .ref a_kept, .int isKept, .ref a_tape, .int o_2.2.1, .int o_2.2.2, .ref a_written, .int writtenMany, .ref a_asked, .int askedMany, .ref a_there, .ref a_counts, .ref a_lasts, .ref a_cames])), (a_g, .inl (E.2.1, 8787, .inl o_12)), (a_kept, .inl (E.2.1, 8787, .inl kept)), (a_tape, .inl (E.2.2.1, 60, .inl tape)), (a_written, .inl (E.2.1, 40, .inl written)), (a_asked, .inl (E.2.1, 60, .inl asked)), (a_there, .inl (E.2.1, 12, .inl there)), (a_counts, .inl (E.2.1, 12, .inl counts)), (a_lasts, .inl (E.2.1, 12, .inl lasts)), (a_cames, .inl (E.2.1, 12, .inl cames))] H locs := w
          refine lv_iconst (v := 1) hx hb dX12_write_98 (by decide) ?_
          cases hf
          exact mx_iret B w ⟨rfl, rfl⟩ dX12_write_99
        · have hf := it_f hc hf
          exact j_X12_write_45 B   hf  w (lv_sub hl [2, 3, 1] rfl)
    · have hf := it_t hc hf
      refine lv_sipush (v := (-1002)) hx hb dX12_write_23 (by decide) ?_
      cases hf
      exact mx_iret B w ⟨rfl, rfl⟩ dX12_write_26
  · have hf := it_t hc hf
    refine lv_sipush (v := (-1001)) hx hb dX12_write_10 (by decide) ?_
    cases hf
    exact mx_iret B w ⟨rfl, rfl⟩ dX12_write_13
-- X12_firstDirty
def po_X12_firstDirty (E : mE) (h : Nat) (a_g : Nat) (a_kept : Nat) (a_tape : Nat) (a_written : Nat) (a_asked : Nat) (a_there : Nat) (a_counts : Nat) (a_lasts : Nat) (a_cames : Nat)  (g : Nat → Int32) (kept : Nat → Int32) (isKept : Int32) (tape : Nat → Int32) (taped : Int32) (spot : Int32) (written : Nat → Int32) (writtenMany : Int32) (asked : Nat → Int32) (askedMany : Int32) (there : Nat → Int32) (counts : Nat → Int32) (lasts : Nat → Int32) (cames : Nat → Int32)  (o : Int32) : Option Value → va_W → Prop := (fun (v : Option Value) (w' : va_W) => v = some (.int o) ∧ w' = [(h, .inr (11, [.ref a_g, .ref a_kept, .int isKept, .ref a_tape, .int taped, .int spot, .ref a_written, .int writtenMany, .ref a_asked, .int askedMany, .ref a_there, .ref a_counts, .ref a_lasts, .ref a_cames])), (a_g, .inl (E.2.1, 8787, .inl g)), (a_kept, .inl (E.2.1, 8787, .inl kept)), (a_tape, .inl (E.2.2.1, 60, .inl tape)), (a_written, .inl (E.2.1, 40, .inl written)), (a_asked, .inl (E.2.1, 60, .inl asked)), (a_there, .inl (E.2.1, 12, .inl there)), (a_counts, .inl (E.2.1, 12, .inl counts)), (a_lasts, .inl (E.2.1, 12, .inl lasts)), (a_cames, .inl (E.2.1, 12, .inl cames))])
noncomputable def J_X12_firstDirty_48 (N : Nat)  (rec : Int32 → Int32 → Option (Int32)) (k54 : Int32 → Option (Int32)) (x1 : Int32) (x2 : Int32) (g : Nat → Int32) : Option (Int32) :=
  lt (x2 + 1) (fun x2_3 =>
  rec x1 x2_3)
set_option maxHeartbeats 4000000 in
set_option maxRecDepth 100000 in
theorem j_X12_firstDirty_48 {E : mE} {l : Launch} {p : Program} {e : Env} {s : State} {m : MethodId} {args : Array Value} {below : List Frame} {meth : Method} {c : Code} {A : Nat → Prop} {Q : State → Prop} {N : Nat} {h : Nat} {a_g : Nat} {a_kept : Nat} {a_tape : Nat} {a_written : Nat} {a_asked : Nat} {a_there : Nat} {a_counts : Nat} {a_lasts : Nat} {a_cames : Nat}  {g : Nat → Int32} {kept : Nat → Int32} {isKept : Int32} {tape : Nat → Int32} {taped : Int32} {spot : Int32} {written : Nat → Int32} {writtenMany : Int32} {asked : Nat → Int32} {askedMany : Int32} {there : Nat → Int32} {counts : Nat → Int32} {lasts : Nat → Int32} {cames : Nat → Int32}  {o : Int32} (B : mB E yX12_firstDirty cX12_firstDirty 3 (some .int) 0 0 (po_X12_firstDirty E h a_g a_kept a_tape a_written a_asked a_there a_counts a_lasts a_cames g kept isKept tape taped spot written writtenMany asked askedMany there counts lasts cames o) p s m args below meth c A Q) {x1 : Int32} {x2 : Int32}   (rec : Int32 → Int32 → Option (Int32)) (k54 : Int32 → Option (Int32)) (hrec : ∀ (x1 : Int32) (x2 : Int32)   (H : Heap) (locs : List Loc) (ls : Array Slot), rec x1 x2 = some o → mW E A s [(h, .inr (11, [.ref a_g, .ref a_kept, .int isKept, .ref a_tape, .int taped, .int spot, .ref a_written, .int writtenMany, .ref a_asked, .int askedMany, .ref a_there, .ref a_counts, .ref a_lasts, .ref a_cames])), (a_g, .inl (E.2.1, 8787, .inl g)), (a_kept, .inl (E.2.1, 8787, .inl kept)), (a_tape, .inl (E.2.2.1, 60, .inl tape)), (a_written, .inl (E.2.1, 40, .inl written)), (a_asked, .inl (E.2.1, 60, .inl asked)), (a_there, .inl (E.2.1, 12, .inl there)), (a_counts, .inl (E.2.1, 12, .inl counts)), (a_lasts, .inl (E.2.1, 12, .inl lasts)), (a_cames, .inl (E.2.1, 12, .inl cames))] H locs → lv_has ls 3 [(0, .ref h), (1, .int x1), (2, .int x2)] → W p l e ({ frames := 1, cells := 0, slots := 0, locals := 22 } : Room) s m args below meth c H locs 0 0 Q (F0 m 4 ls [])) (hk54 : ∀ (x1 : Int32)   (H : Heap) (locs : List Loc) (ls : Array Slot), k54 x1 = some o → mW E A s [(h, .inr (11, [.ref a_g, .ref a_kept, .int isKept, .ref a_tape, .int taped, .int spot, .ref a_written, .int writtenMany, .ref a_asked, .int askedMany, .ref a_there, .ref a_counts, .ref a_lasts, .ref a_cames])), (a_g, .inl (E.2.1, 8787, .inl g)), (a_kept, .inl (E.2.1, 8787, .inl kept)), (a_tape, .inl (E.2.2.1, 60, .inl tape)), (a_written, .inl (E.2.1, 40, .inl written)), (a_asked, .inl (E.2.1, 60, .inl asked)), (a_there, .inl (E.2.1, 12, .inl there)), (a_counts, .inl (E.2.1, 12, .inl counts)), (a_lasts, .inl (E.2.1, 12, .inl lasts)), (a_cames, .inl (E.2.1, 12, .inl cames))] H locs → lv_has ls 3 [(1, .int x1)] → W p l e ({ frames := 1, cells := 0, slots := 0, locals := 22 } : Room) s m args below meth c H locs 0 0 Q (F0 m 54 ls [])) {H : Heap} {locs : List Loc} {ls : Array Slot} (hf : J_X12_firstDirty_48 N rec k54 x1 x2 g = some o)  (w : mW E A s [(h, .inr (11, [.ref a_g, .ref a_kept, .int isKept, .ref a_tape, .int taped, .int spot, .ref a_written, .int writtenMany, .ref a_asked, .int askedMany, .ref a_there, .ref a_counts, .ref a_lasts, .ref a_cames])), (a_g, .inl (E.2.1, 8787, .inl g)), (a_kept, .inl (E.2.1, 8787, .inl kept)), (a_tape, .inl (E.2.2.1, 60, .inl tape)), (a_written, .inl (E.2.1, 40, .inl written)), (a_asked, .inl (E.2.1, 60, .inl asked)), (a_there, .inl (E.2.1, 12, .inl there)), (a_counts, .inl (E.2.1, 12, .inl counts)), (a_lasts, .inl (E.2.1, 12, .inl lasts)), (a_cames, .inl (E.2.1, 12, .inl cames))] H locs) (hl : lv_has ls 3 [(0, .ref h), (1, .int x1), (2, .int x2)]) : W p l e ({ frames := 1, cells := 0, slots := 0, locals := 22 } : Room) s m args below meth c H locs 0 0 Q (F0 m 48 ls []) := by
  obtain ⟨hx, hb, hml, hown, hts⟩ := id B.1
  unfold J_X12_firstDirty_48 at hf
  obtain ⟨x2_3, ev⟩ : ∃ y : Int32, y = x2 + 1 := ⟨_, rfl⟩
  refine lv_iinc (v := x2_3) (lv' := [(2, .int x2_3), (0, .ref h), (1, .int x1)]) hx hb dX12_firstDirty_48 hl (k := 2) rfl (by rw [ev]; rfl) (by decide) rfl (fun ls hl => ?_)
  have hf := lt_n ev hf; clear ev
  refine lv_goto (tgt := 4) hx hb dX12_firstDirty_51 (by decide) ?_
  exact hrec _ _ _ _ _ hf  w (lv_sub hl [1, 2, 0] rfl)
noncomputable def J_X12_firstDirty_46 (N : Nat)  (rec : Int32 → Int32 → Option (Int32)) (k54 : Int32 → Option (Int32)) (x2 : Int32) (g : Nat → Int32) : Option (Int32) :=
  J_X12_firstDirty_48 N rec k54 x2 x2 g
set_option maxHeartbeats 4000000 in
set_option maxRecDepth 100000 in
theorem j_X12_firstDirty_46 {E : mE} {l : Launch} {p : Program} {e : Env} {s : State} {m : MethodId} {args : Array Value} {below : List Frame} {meth : Method} {c : Code} {A : Nat → Prop} {Q : State → Prop} {N : Nat} {h : Nat} {a_g : Nat} {a_kept : Nat} {a_tape : Nat} {a_written : Nat} {a_asked : Nat} {a_there : Nat} {a_counts : Nat} {a_lasts : Nat} {a_cames : Nat}  {g : Nat → Int32} {kept : Nat → Int32} {isKept : Int32} {tape : Nat → Int32} {taped : Int32} {spot : Int32} {written : Nat → Int32} {writtenMany : Int32} {asked : Nat → Int32} {askedMany : Int32} {there : Nat → Int32} {counts : Nat → Int32} {lasts : Nat → Int32} {cames : Nat → Int32}  {o : Int32} (B : mB E yX12_firstDirty cX12_firstDirty 3 (some .int) 0 0 (po_X12_firstDirty E h a_g a_kept a_tape a_written a_asked a_there a_counts a_lasts a_cames g kept isKept tape taped spot written writtenMany asked askedMany there counts lasts cames o) p s m args below meth c A Q) {x2 : Int32}   (rec : Int32 → Int32 → Option (Int32)) (k54 : Int32 → Option (Int32)) (hrec : ∀ (x1 : Int32) (x2 : Int32)   (H : Heap) (locs : List Loc) (ls : Array Slot), rec x1 x2 = some o → mW E A s [(h, .inr (11, [.ref a_g, .ref a_kept, .int isKept, .ref a_tape, .int taped, .int spot, .ref a_written, .int writtenMany, .ref a_asked, .int askedMany, .ref a_there, .ref a_counts, .ref a_lasts, .ref a_cames])), (a_g, .inl (E.2.1, 8787, .inl g)), (a_kept, .inl (E.2.1, 8787, .inl kept)), (a_tape, .inl (E.2.2.1, 60, .inl tape)), (a_written, .inl (E.2.1, 40, .inl written)), (a_asked, .inl (E.2.1, 60, .inl asked)), (a_there, .inl (E.2.1, 12, .inl there)), (a_counts, .inl (E.2.1, 12, .inl counts)), (a_lasts, .inl (E.2.1, 12, .inl lasts)), (a_cames, .inl (E.2.1, 12, .inl cames))] H locs → lv_has ls 3 [(0, .ref h), (1, .int x1), (2, .int x2)] → W p l e ({ frames := 1, cells := 0, slots := 0, locals := 22 } : Room) s m args below meth c H locs 0 0 Q (F0 m 4 ls [])) (hk54 : ∀ (x1 : Int32)   (H : Heap) (locs : List Loc) (ls : Array Slot), k54 x1 = some o → mW E A s [(h, .inr (11, [.ref a_g, .ref a_kept, .int isKept, .ref a_tape, .int taped, .int spot, .ref a_written, .int writtenMany, .ref a_asked, .int askedMany, .ref a_there, .ref a_counts, .ref a_lasts, .ref a_cames])), (a_g, .inl (E.2.1, 8787, .inl g)), (a_kept, .inl (E.2.1, 8787, .inl kept)), (a_tape, .inl (E.2.2.1, 60, .inl tape)), (a_written, .inl (E.2.1, 40, .inl written)), (a_asked, .inl (E.2.1, 60, .inl asked)), (a_there, .inl (E.2.1, 12, .inl there)), (a_counts, .inl (E.2.1, 12, .inl counts)), (a_lasts, .inl (E.2.1, 12, .inl lasts)), (a_cames, .inl (E.2.1, 12, .inl cames))] H locs → lv_has ls 3 [(1, .int x1)] → W p l e ({ frames := 1, cells := 0, slots := 0, locals := 22 } : Room) s m args below meth c H locs 0 0 Q (F0 m 54 ls [])) {H : Heap} {locs : List Loc} {ls : Array Slot} (hf : J_X12_firstDirty_46 N rec k54 x2 g = some o)  (w : mW E A s [(h, .inr (11, [.ref a_g, .ref a_kept, .int isKept, .ref a_tape, .int taped, .int spot, .ref a_written, .int writtenMany, .ref a_asked, .int askedMany, .ref a_there, .ref a_counts, .ref a_lasts, .ref a_cames])), (a_g, .inl (E.2.1, 8787, .inl g)), (a_kept, .inl (E.2.1, 8787, .inl kept)), (a_tape, .inl (E.2.2.1, 60, .inl tape)), (a_written, .inl (E.2.1, 40, .inl written)), (a_asked, .inl (E.2.1, 60, .inl asked)), (a_there, .inl (E.2.1, 12, .inl there)), (a_counts, .inl (E.2.1, 12, .inl counts)), (a_lasts, .inl (E.2.1, 12, .inl lasts)), (a_cames, .inl (E.2.1, 12, .inl cames))] H locs) (hl : lv_has ls 3 [(0, .ref h), (2, .int x2)]) : W p l e ({ frames := 1, cells := 0, slots := 0, locals := 22 } : Room) s m args below meth c H locs 0 0 Q (F0 m 46 ls []) := by
  obtain ⟨hx, hb, hml, hown, hts⟩ := id B.1
  unfold J_X12_firstDirty_46 at hf
  refine lv_iload_n hx hb dX12_firstDirty_46 rfl (lv_at hl 1 rfl) ?_
  refine lv_istore_n (lv' := [(1, .int x2), (0, .ref h), (2, .int x2)]) hx hb dX12_firstDirty_47 rfl hl (by decide) rfl (fun ls hl => ?_)
  exact j_X12_firstDirty_48 B _ _ hrec hk54 hf  w (lv_sub hl [1, 0, 2] rfl)
noncomputable def K_X12_firstDirty_4 (N : Nat)  (rec : Int32 → Int32 → Option (Int32)) (k54 : Int32 → Option (Int32))  (g : Nat → Int32) (x1 : Int32) (x2 : Int32)  : Option (Int32) :=
  ld g 8787 13 (fun v_1 =>
  if (v_1 ≤ x2 : Prop) then
  k54 x1
  else
  bd (F_X12_at g x2 8) (fun o_2 =>
  if (o_2 = 0 : Prop) then
  J_X12_firstDirty_48 N rec k54 x1 x2 g
  else
  if (x1 < 0 : Prop) then
  J_X12_firstDirty_46 N rec k54 x2 g
  else
  bd (F_X12_at g x2 8) (fun o_4 =>
  bd (F_X12_at g x1 8) (fun o_5 =>
  if (o_5 ≤ o_4 : Prop) then
  J_X12_firstDirty_48 N rec k54 x1 x2 g
  else
  J_X12_firstDirty_46 N rec k54 x2 g))))
noncomputable def L_X12_firstDirty_4 (N : Nat)  (k54 : Int32 → Option (Int32))  (g : Nat → Int32) (n : Nat) : Int32 → Int32 → Option (Int32) :=
  Nat.rec (motive := fun _ => Int32 → Int32 → Option (Int32)) (fun _ _ => none) (fun _ rec => K_X12_firstDirty_4 N rec k54 g) n
set_option maxHeartbeats 4000000 in
set_option maxRecDepth 100000 in
theorem l_X12_firstDirty_4 {E : mE} {l : Launch} {p : Program} {e : Env} {s : State} {m : MethodId} {args : Array Value} {below : List Frame} {meth : Method} {c : Code} {A : Nat → Prop} {Q : State → Prop} {N : Nat} {h : Nat} {a_g : Nat} {a_kept : Nat} {a_tape : Nat} {a_written : Nat} {a_asked : Nat} {a_there : Nat} {a_counts : Nat} {a_lasts : Nat} {a_cames : Nat}  {g : Nat → Int32} {kept : Nat → Int32} {isKept : Int32} {tape : Nat → Int32} {taped : Int32} {spot : Int32} {written : Nat → Int32} {writtenMany : Int32} {asked : Nat → Int32} {askedMany : Int32} {there : Nat → Int32} {counts : Nat → Int32} {lasts : Nat → Int32} {cames : Nat → Int32}  {o : Int32} (B : mB E yX12_firstDirty cX12_firstDirty 3 (some .int) 0 0 (po_X12_firstDirty E h a_g a_kept a_tape a_written a_asked a_there a_counts a_lasts a_cames g kept isKept tape taped spot written writtenMany asked askedMany there counts lasts cames o) p s m args below meth c A Q)    (k54 : Int32 → Option (Int32))  (hk54 : ∀ (x1 : Int32)   (H : Heap) (locs : List Loc) (ls : Array Slot), k54 x1 = some o → mW E A s [(h, .inr (11, [.ref a_g, .ref a_kept, .int isKept, .ref a_tape, .int taped, .int spot, .ref a_written, .int writtenMany, .ref a_asked, .int askedMany, .ref a_there, .ref a_counts, .ref a_lasts, .ref a_cames])), (a_g, .inl (E.2.1, 8787, .inl g)), (a_kept, .inl (E.2.1, 8787, .inl kept)), (a_tape, .inl (E.2.2.1, 60, .inl tape)), (a_written, .inl (E.2.1, 40, .inl written)), (a_asked, .inl (E.2.1, 60, .inl asked)), (a_there, .inl (E.2.1, 12, .inl there)), (a_counts, .inl (E.2.1, 12, .inl counts)), (a_lasts, .inl (E.2.1, 12, .inl lasts)), (a_cames, .inl (E.2.1, 12, .inl cames))] H locs → lv_has ls 3 [(1, .int x1)] → W p l e ({ frames := 1, cells := 0, slots := 0, locals := 22 } : Room) s m args below meth c H locs 0 0 Q (F0 m 54 ls [])) : ∀ n : Nat, ∀ (x1 : Int32) (x2 : Int32)   (H : Heap) (locs : List Loc) (ls : Array Slot), L_X12_firstDirty_4 N k54 g n x1 x2 = some o → mW E A s [(h, .inr (11, [.ref a_g, .ref a_kept, .int isKept, .ref a_tape, .int taped, .int spot, .ref a_written, .int writtenMany, .ref a_asked, .int askedMany, .ref a_there, .ref a_counts, .ref a_lasts, .ref a_cames])), (a_g, .inl (E.2.1, 8787, .inl g)), (a_kept, .inl (E.2.1, 8787, .inl kept)), (a_tape, .inl (E.2.2.1, 60, .inl tape)), (a_written, .inl (E.2.1, 40, .inl written)), (a_asked, .inl (E.2.1, 60, .inl asked)), (a_there, .inl (E.2.1, 12, .inl there)), (a_counts, .inl (E.2.1, 12, .inl counts)), (a_lasts, .inl (E.2.1, 12, .inl lasts)), (a_cames, .inl (E.2.1, 12, .inl cames))] H locs → lv_has ls 3 [(0, .ref h), (1, .int x1), (2, .int x2)] → W p l e ({ frames := 1, cells := 0, slots := 0, locals := 22 } : Room) s m args below meth c H locs 0 0 Q (F0 m 4 ls []) := by
  obtain ⟨hx, hb, hml, hown, hts⟩ := id B.1
  intro n
  induction n with
  | zero =>
    intro x1 x2 H locs ls hf w hl
    exact nomatch hf
  | succ n hrec =>
    intro x1 x2 H locs ls hf w hl
    have hf : K_X12_firstDirty_4 N (L_X12_firstDirty_4 N k54 g n) k54 g x1 x2 = some o := hf
    unfold K_X12_firstDirty_4 at hf
    refine lv_iload_n hx hb dX12_firstDirty_4 rfl (lv_at hl 2 rfl) ?_
    refine lv_aload_n hx hb dX12_firstDirty_5 rfl (lv_at hl 0 rfl) ?_
    refine mx_get B w 0 fl_X12_9 rfl rfl dX12_firstDirty_6 ?_
    refine lv_bipush (v := 13) hx hb dX12_firstDirty_9 (by decide) ?_
    obtain ⟨hin, hf⟩ := ld_e hf
    refine mx_iald B w 1 rfl hin dX12_firstDirty_11 (fun v_1 ev => ?_)
    have hf := hf _ ev; clear ev
    refine lv_icmp_ge (tgt := 54) hx hb dX12_firstDirty_12 (by decide) (fun hc => ?_) (fun hc => ?_)
    · have hf := it_t hc hf
      exact hk54 _ _ _ _ hf  w (lv_sub hl [1] rfl)
    · have hf := it_f hc hf
      refine lv_aload_n hx hb dX12_firstDirty_15 rfl (lv_at hl 0 rfl) ?_
      refine lv_iload_n hx hb dX12_firstDirty_16 rfl (lv_at hl 2 rfl) ?_
      refine lv_bipush (v := 8) hx hb dX12_firstDirty_17 (by decide) ?_
      obtain ⟨o_2, hq, hf⟩ := bd_e hf
      refine mx_callV (As := [.int x2, .int 8]) (rest := []) (wr := []) (d_X12_at E l  h a_g a_kept a_tape a_written a_asked a_there a_counts a_lasts a_cames g kept isKept tape taped spot written writtenMany asked askedMany there counts lasts cames x2 8  o_2 hq) B w [0, 1, 2, 3, 4, 5, 6, 7, 8, 9] [] rfl rfl (by decide) (by decide) (by decide) 0 rfl rfl cv_X12_at kw_1325 2 (by decide +kernel) ⟨Nat.le_of_ble_eq_true rfl, Nat.le_of_ble_eq_true rfl⟩ rfl hl.1 rfl (Nat.le_of_ble_eq_true rfl) dX12_firstDirty_19 rfl rfl ⟨Nat.zero_le _, Nat.zero_le _⟩ (fun v w' H locs hpo w => ?_)
      clear hq
      obtain ⟨rfl, rfl⟩ := hpo
      have w : mW E A s [(h, .inr (11, [.ref a_g, .ref a_kept, .int isKept, .ref a_tape, .int taped, .int spot, .ref a_written, .int writtenMany, .ref a_asked, .int askedMany, .ref a_there, .ref a_counts, .ref a_lasts, .ref a_cames])), (a_g, .inl (E.2.1, 8787, .inl g)), (a_kept, .inl (E.2.1, 8787, .inl kept)), (a_tape, .inl (E.2.2.1, 60, .inl tape)), (a_written, .inl (E.2.1, 40, .inl written)), (a_asked, .inl (E.2.1, 60, .inl asked)), (a_there, .inl (E.2.1, 12, .inl there)), (a_counts, .inl (E.2.1, 12, .inl counts)), (a_lasts, .inl (E.2.1, 12, .inl lasts)), (a_cames, .inl (E.2.1, 12, .inl cames))] H locs := w
      refine lv_if_eq (tgt := 48) hx hb dX12_firstDirty_22 (by decide) (fun hc => ?_) (fun hc => ?_)
      · have hf := it_t hc hf
        exact j_X12_firstDirty_48 B _ _ hrec hk54 hf  w (lv_sub hl [0, 1, 2] rfl)
      · have hf := it_f hc hf
        refine lv_iload_n hx hb dX12_firstDirty_25 rfl (lv_at hl 1 rfl) ?_
        refine lv_if_lt (tgt := 46) hx hb dX12_firstDirty_26 (by decide) (fun hc => ?_) (fun hc => ?_)
        · have hf := it_t hc hf
          exact j_X12_firstDirty_46 B _ _ hrec hk54 hf  w (lv_sub hl [0, 2] rfl)
        · have hf := it_f hc hf
          refine lv_aload_n hx hb dX12_firstDirty_29 rfl (lv_at hl 0 rfl) ?_
          refine lv_iload_n hx hb dX12_firstDirty_30 rfl (lv_at hl 2 rfl) ?_
          refine lv_bipush (v := 8) hx hb dX12_firstDirty_31 (by decide) ?_
          obtain ⟨o_4, hq, hf⟩ := bd_e hf
          refine mx_callV (As := [.int x2, .int 8]) (rest := []) (wr := []) (d_X12_at E l  h a_g a_kept a_tape a_written a_asked a_there a_counts a_lasts a_cames g kept isKept tape taped spot written writtenMany asked askedMany there counts lasts cames x2 8  o_4 hq) B w [0, 1, 2, 3, 4, 5, 6, 7, 8, 9] [] rfl rfl (by decide) (by decide) (by decide) 0 rfl rfl cv_X12_at kw_1325 2 (by decide +kernel) ⟨Nat.le_of_ble_eq_true rfl, Nat.le_of_ble_eq_true rfl⟩ rfl hl.1 rfl (Nat.le_of_ble_eq_true rfl) dX12_firstDirty_33 rfl rfl ⟨Nat.zero_le _, Nat.zero_le _⟩ (fun v w' H locs hpo w => ?_)
          clear hq
          obtain ⟨rfl, rfl⟩ := hpo
          have w : mW E A s [(h, .inr (11, [.ref a_g, .ref a_kept, .int isKept, .ref a_tape, .int taped, .int spot, .ref a_written, .int writtenMany, .ref a_asked, .int askedMany, .ref a_there, .ref a_counts, .ref a_lasts, .ref a_cames])), (a_g, .inl (E.2.1, 8787, .inl g)), (a_kept, .inl (E.2.1, 8787, .inl kept)), (a_tape, .inl (E.2.2.1, 60, .inl tape)), (a_written, .inl (E.2.1, 40, .inl written)), (a_asked, .inl (E.2.1, 60, .inl asked)), (a_there, .inl (E.2.1, 12, .inl there)), (a_counts, .inl (E.2.1, 12, .inl counts)), (a_lasts, .inl (E.2.1, 12, .inl lasts)), (a_cames, .inl (E.2.1, 12, .inl cames))] H locs := w
          refine lv_aload_n hx hb dX12_firstDirty_36 rfl (lv_at hl 0 rfl) ?_
          refine lv_iload_n hx hb dX12_firstDirty_37 rfl (lv_at hl 1 rfl) ?_
          refine lv_bipush (v := 8) hx hb dX12_firstDirty_38 (by decide) ?_
          obtain ⟨o_5, hq, hf⟩ := bd_e hf
          refine mx_callV (As := [.int x1, .int 8]) (rest := [.int o_4]) (wr := []) (d_X12_at E l  h a_g a_kept a_tape a_written a_asked a_there a_counts a_lasts a_cames g kept isKept tape taped spot written writtenMany asked askedMany there counts lasts cames x1 8  o_5 hq) B w [0, 1, 2, 3, 4, 5, 6, 7, 8, 9] [] rfl rfl (by decide) (by decide) (by decide) 0 rfl rfl cv_X12_at kw_1325 2 (by decide +kernel) ⟨Nat.le_of_ble_eq_true rfl, Nat.le_of_ble_eq_true rfl⟩ rfl hl.1 rfl (Nat.le_of_ble_eq_true rfl) dX12_firstDirty_40 rfl rfl ⟨Nat.zero_le _, Nat.zero_le _⟩ (fun v w' H locs hpo w => ?_)
          clear hq
          obtain ⟨rfl, rfl⟩ := hpo
          have w : mW E A s [(h, .inr (11, [.ref a_g, .ref a_kept, .int isKept, .ref a_tape, .int taped, .int spot, .ref a_written, .int writtenMany, .ref a_asked, .int askedMany, .ref a_there, .ref a_counts, .ref a_lasts, .ref a_cames])), (a_g, .inl (E.2.1, 8787, .inl g)), (a_kept, .inl (E.2.1, 8787, .inl kept)), (a_tape, .inl (E.2.2.1, 60, .inl tape)), (a_written, .inl (E.2.1, 40, .inl written)), (a_asked, .inl (E.2.1, 60, .inl asked)), (a_there, .inl (E.2.1, 12, .inl there)), (a_counts, .inl (E.2.1, 12, .inl counts)), (a_lasts, .inl (E.2.1, 12, .inl lasts)), (a_cames, .inl (E.2.1, 12, .inl cames))] H locs := w
          refine lv_icmp_ge (tgt := 48) hx hb dX12_firstDirty_43 (by decide) (fun hc => ?_) (fun hc => ?_)
          · have hf := it_t hc hf
            exact j_X12_firstDirty_48 B _ _ hrec hk54 hf  w (lv_sub hl [0, 1, 2] rfl)
          · have hf := it_f hc hf
            exact j_X12_firstDirty_46 B _ _ hrec hk54 hf  w (lv_sub hl [0, 2] rfl)
noncomputable def F_X12_firstDirty (N : Nat)  (g : Nat → Int32)  : Option (Int32) :=
  L_X12_firstDirty_4 N (fun x1 => some (x1)) g N ((-1)) 0
set_option maxHeartbeats 4000000 in
set_option maxRecDepth 100000 in
theorem d_X12_firstDirty (E : mE) (l : Launch) (N : Nat) (h : Nat) (a_g : Nat) (a_kept : Nat) (a_tape : Nat) (a_written : Nat) (a_asked : Nat) (a_there : Nat) (a_counts : Nat) (a_lasts : Nat) (a_cames : Nat)  (g : Nat → Int32) (kept : Nat → Int32) (isKept : Int32) (tape : Nat → Int32) (taped : Int32) (spot : Int32) (written : Nat → Int32) (writtenMany : Int32) (asked : Nat → Int32) (askedMany : Int32) (there : Nat → Int32) (counts : Nat → Int32) (lasts : Nat → Int32) (cames : Nat → Int32)    (o : Int32) (hf : F_X12_firstDirty N g = some o) : MX E l yX12_firstDirty cX12_firstDirty 3 (some .int) ({ frames := 1, cells := 0, slots := 0, locals := 22 } : Room) [.ref h] [(h, .inr (11, [.ref a_g, .ref a_kept, .int isKept, .ref a_tape, .int taped, .int spot, .ref a_written, .int writtenMany, .ref a_asked, .int askedMany, .ref a_there, .ref a_counts, .ref a_lasts, .ref a_cames])), (a_g, .inl (E.2.1, 8787, .inl g)), (a_kept, .inl (E.2.1, 8787, .inl kept)), (a_tape, .inl (E.2.2.1, 60, .inl tape)), (a_written, .inl (E.2.1, 40, .inl written)), (a_asked, .inl (E.2.1, 60, .inl asked)), (a_there, .inl (E.2.1, 12, .inl there)), (a_counts, .inl (E.2.1, 12, .inl counts)), (a_lasts, .inl (E.2.1, 12, .inl lasts)), (a_cames, .inl (E.2.1, 12, .inl cames))] (po_X12_firstDirty E h a_g a_kept a_tape a_written a_asked a_there a_counts a_lasts a_cames g kept isKept tape taped spot written writtenMany asked askedMany there counts lasts cames o) := by
  refine mx_intro (by decide +kernel) (Nat.le_of_ble_eq_true rfl) ?_
  intro p e s m args below meth c A Q ls B w hl
  obtain ⟨hx, hb, hml, hown, hts⟩ := id B.1
  unfold F_X12_firstDirty at hf
  have hl : lv_has ls 3 [(0, .ref h)] := hl
  refine lv_iconst (v := (-1)) hx hb dX12_firstDirty_0 (by decide) ?_
  refine lv_istore_n (lv' := [(1, .int ((-1))), (0, .ref h)]) hx hb dX12_firstDirty_1 rfl hl (by decide) rfl (fun ls hl => ?_)
  refine lv_iconst (v := 0) hx hb dX12_firstDirty_2 (by decide) ?_
  refine lv_istore_n (lv' := [(2, .int 0), (1, .int ((-1))), (0, .ref h)]) hx hb dX12_firstDirty_3 rfl hl (by decide) rfl (fun ls hl => ?_)
  refine l_X12_firstDirty_4 B _  ?_ N _ _ _ _ _ hf  w (lv_sub hl [2, 1, 0] rfl)
  · intro x1 H locs ls hf w hl
    refine lv_iload_n hx hb dX12_firstDirty_54 rfl (lv_at hl 0 rfl) ?_
    cases hf
    exact mx_iret B w ⟨rfl, rfl⟩ dX12_firstDirty_55
-- X12_flush
def po_X12_flush (E : mE) (h : Nat) (a_g : Nat) (a_kept : Nat) (a_tape : Nat) (a_written : Nat) (a_asked : Nat) (a_there : Nat) (a_counts : Nat) (a_lasts : Nat) (a_cames : Nat)  (g : Nat → Int32) (kept : Nat → Int32) (isKept : Int32) (tape : Nat → Int32) (taped : Int32) (spot : Int32) (written : Nat → Int32) (writtenMany : Int32) (asked : Nat → Int32) (askedMany : Int32) (there : Nat → Int32) (counts : Nat → Int32) (lasts : Nat → Int32) (cames : Nat → Int32)  (o : Int32 × (Nat → Int32)) : Option Value → va_W → Prop := (fun (v : Option Value) (w' : va_W) => v = some (.int o.1) ∧ w' = [(h, .inr (11, [.ref a_g, .ref a_kept, .int isKept, .ref a_tape, .int taped, .int spot, .ref a_written, .int writtenMany, .ref a_asked, .int askedMany, .ref a_there, .ref a_counts, .ref a_lasts, .ref a_cames])), (a_g, .inl (E.2.1, 8787, .inl o.2)), (a_kept, .inl (E.2.1, 8787, .inl kept)), (a_tape, .inl (E.2.2.1, 60, .inl tape)), (a_written, .inl (E.2.1, 40, .inl written)), (a_asked, .inl (E.2.1, 60, .inl asked)), (a_there, .inl (E.2.1, 12, .inl there)), (a_counts, .inl (E.2.1, 12, .inl counts)), (a_lasts, .inl (E.2.1, 12, .inl lasts)), (a_cames, .inl (E.2.1, 12, .inl cames))])
noncomputable def K_X12_flush_7 (N : Nat)  (rec : Int32 → Int32 → (Nat → Int32) → (Option (Int32 × (Nat → Int32)))) (k46 : Int32 → (Nat → Int32) → (Option (Int32 × (Nat → Int32))))   (x1 : Int32) (x2 : Int32) (g : Nat → Int32) : Option (Int32 × (Nat → Int32)) :=
  if (x2 < 0 : Prop) then
  k46 x1 g
  else
  bd (F_X12_sets g x2 8 0) (fun o_2 =>
  bd (F_X12_at o_2 x2 0) (fun o_3 =>
  bd (F_X12_at o_2 x2 1) (fun o_4 =>
  bd (F_X12_writes N o_2 o_3 o_4) (fun o_5 =>
  lt (x1 + 1) (fun x1_6 =>
  bd (F_X12_firstDirty N o_5) (fun o_7 =>
  rec x1_6 o_7 o_5))))))
noncomputable def L_X12_flush_7 (N : Nat)  (k46 : Int32 → (Nat → Int32) → (Option (Int32 × (Nat → Int32))))   (n : Nat) : Int32 → Int32 → (Nat → Int32) → (Option (Int32 × (Nat → Int32))) :=
  Nat.rec (motive := fun _ => Int32 → Int32 → (Nat → Int32) → (Option (Int32 × (Nat → Int32)))) (fun _ _ _ => none) (fun _ rec => K_X12_flush_7 N rec k46) n
set_option maxHeartbeats 4000000 in
set_option maxRecDepth 100000 in
theorem l_X12_flush_7 {E : mE} {l : Launch} {p : Program} {e : Env} {s : State} {m : MethodId} {args : Array Value} {below : List Frame} {meth : Method} {c : Code} {A : Nat → Prop} {Q : State → Prop} {N : Nat} {h : Nat} {a_g : Nat} {a_kept : Nat} {a_tape : Nat} {a_written : Nat} {a_asked : Nat} {a_there : Nat} {a_counts : Nat} {a_lasts : Nat} {a_cames : Nat}  {g0 : Nat → Int32} {kept : Nat → Int32} {isKept : Int32} {tape : Nat → Int32} {taped : Int32} {spot : Int32} {written : Nat → Int32} {writtenMany : Int32} {asked : Nat → Int32} {askedMany : Int32} {there : Nat → Int32} {counts : Nat → Int32} {lasts : Nat → Int32} {cames : Nat → Int32}  {o : Int32 × (Nat → Int32)} (B : mB E yX12_flush cX12_flush 3 (some .int) 0 0 (po_X12_flush E h a_g a_kept a_tape a_written a_asked a_there a_counts a_lasts a_cames g0 kept isKept tape taped spot written writtenMany asked askedMany there counts lasts cames o) p s m args below meth c A Q)    (k46 : Int32 → (Nat → Int32) → (Option (Int32 × (Nat → Int32))))  (hk46 : ∀ (x1 : Int32) (g : Nat → Int32)  (H : Heap) (locs : List Loc) (ls : Array Slot), k46 x1 g = some o → mW E A s [(h, .inr (11, [.ref a_g, .ref a_kept, .int isKept, .ref a_tape, .int taped, .int spot, .ref a_written, .int writtenMany, .ref a_asked, .int askedMany, .ref a_there, .ref a_counts, .ref a_lasts, .ref a_cames])), (a_g, .inl (E.2.1, 8787, .inl g)), (a_kept, .inl (E.2.1, 8787, .inl kept)), (a_tape, .inl (E.2.2.1, 60, .inl tape)), (a_written, .inl (E.2.1, 40, .inl written)), (a_asked, .inl (E.2.1, 60, .inl asked)), (a_there, .inl (E.2.1, 12, .inl there)), (a_counts, .inl (E.2.1, 12, .inl counts)), (a_lasts, .inl (E.2.1, 12, .inl lasts)), (a_cames, .inl (E.2.1, 12, .inl cames))] H locs → lv_has ls 3 [(1, .int x1)] → W p l e ({ frames := 5, cells := 0, slots := 0, locals := 114 } : Room) s m args below meth c H locs 0 0 Q (F0 m 46 ls [])) : ∀ n : Nat, ∀ (x1 : Int32) (x2 : Int32) (g : Nat → Int32)  (H : Heap) (locs : List Loc) (ls : Array Slot), L_X12_flush_7 N k46 n x1 x2 g = some o → mW E A s [(h, .inr (11, [.ref a_g, .ref a_kept, .int isKept, .ref a_tape, .int taped, .int spot, .ref a_written, .int writtenMany, .ref a_asked, .int askedMany, .ref a_there, .ref a_counts, .ref a_lasts, .ref a_cames])), (a_g, .inl (E.2.1, 8787, .inl g)), (a_kept, .inl (E.2.1, 8787, .inl kept)), (a_tape, .inl (E.2.2.1, 60, .inl tape)), (a_written, .inl (E.2.1, 40, .inl written)), (a_asked, .inl (E.2.1, 60, .inl asked)), (a_there, .inl (E.2.1, 12, .inl there)), (a_counts, .inl (E.2.1, 12, .inl counts)), (a_lasts, .inl (E.2.1, 12, .inl lasts)), (a_cames, .inl (E.2.1, 12, .inl cames))] H locs → lv_has ls 3 [(0, .ref h), (1, .int x1), (2, .int x2)] → W p l e ({ frames := 5, cells := 0, slots := 0, locals := 114 } : Room) s m args below meth c H locs 0 0 Q (F0 m 7 ls []) := by
  obtain ⟨hx, hb, hml, hown, hts⟩ := id B.1
  intro n
  induction n with
  | zero =>
    intro x1 x2 g H locs ls hf w hl
    exact nomatch hf
  | succ n hrec =>
    intro x1 x2 g H locs ls hf w hl
    have hf : K_X12_flush_7 N (L_X12_flush_7 N k46 n) k46 x1 x2 g = some o := hf
    unfold K_X12_flush_7 at hf
    refine lv_iload_n hx hb dX12_flush_7 rfl (lv_at hl 2 rfl) ?_
    refine lv_if_lt (tgt := 46) hx hb dX12_flush_8 (by decide) (fun hc => ?_) (fun hc => ?_)
    · have hf := it_t hc hf
      exact hk46 _ _ _ _ _ hf  w (lv_sub hl [1] rfl)
    · have hf := it_f hc hf
      refine lv_aload_n hx hb dX12_flush_11 rfl (lv_at hl 0 rfl) ?_
      refine lv_iload_n hx hb dX12_flush_12 rfl (lv_at hl 2 rfl) ?_
      refine lv_bipush (v := 8) hx hb dX12_flush_13 (by decide) ?_
      refine lv_iconst (v := 0) hx hb dX12_flush_15 (by decide) ?_
      obtain ⟨o_2, hq, hf⟩ := bd_e hf
      refine mx_callV (As := [.int x2, .int 8, .int 0]) (rest := []) (wr := []) (d_X12_sets E l  h a_g a_kept a_tape a_written a_asked a_there a_counts a_lasts a_cames g kept isKept tape taped spot written writtenMany asked askedMany there counts lasts cames x2 8 0  o_2 hq) B w [0, 1, 2, 3, 4, 5, 6, 7, 8, 9] [] rfl rfl (by decide) (by decide) (by decide) 0 rfl rfl cv_X12_sets kw_1430 3 (by decide +kernel) ⟨Nat.le_of_ble_eq_true rfl, Nat.le_of_ble_eq_true rfl⟩ rfl hl.1 rfl (Nat.le_of_ble_eq_true rfl) dX12_flush_16 rfl rfl ⟨Nat.zero_le _, Nat.zero_le _⟩ (fun v w' H locs hpo w => ?_)
      clear hq
      obtain ⟨rfl, rfl⟩ := hpo
      have w : mW E A s [(h, .inr (11, [.ref a_g, .ref a_kept, .int isKept, .ref a_tape, .int taped, .int spot, .ref a_written, .int writtenMany, .ref a_asked, .int askedMany, .ref a_there, .ref a_counts, .ref a_lasts, .ref a_cames])), (a_g, .inl (E.2.1, 8787, .inl o_2)), (a_kept, .inl (E.2.1, 8787, .inl kept)), (a_tape, .inl (E.2.2.1, 60, .inl tape)), (a_written, .inl (E.2.1, 40, .inl written)), (a_asked, .inl (E.2.1, 60, .inl asked)), (a_there, .inl (E.2.1, 12, .inl there)), (a_counts, .inl (E.2.1, 12, .inl counts)), (a_lasts, .inl (E.2.1, 12, .inl lasts)), (a_cames, .inl (E.2.1, 12, .inl cames))] H locs := w
      refine lv_aload_n hx hb dX12_flush_19 rfl (lv_at hl 0 rfl) ?_
      refine lv_aload_n hx hb dX12_flush_20 rfl (lv_at hl 0 rfl) ?_
      refine lv_iload_n hx hb dX12_flush_21 rfl (lv_at hl 2 rfl) ?_
      refine lv_iconst (v := 0) hx hb dX12_flush_22 (by decide) ?_
      obtain ⟨o_3, hq, hf⟩ := bd_e hf
      refine mx_callV (As := [.int x2, .int 0]) (rest := [.ref h]) (wr := []) (d_X12_at E l  h a_g a_kept a_tape a_written a_asked a_there a_counts a_lasts a_cames o_2 kept isKept tape taped spot written writtenMany asked askedMany there counts lasts cames x2 0  o_3 hq) B w [0, 1, 2, 3, 4, 5, 6, 7, 8, 9] [] rfl rfl (by decide) (by decide) (by decide) 0 rfl rfl cv_X12_at kw_1325 2 (by decide +kernel) ⟨Nat.le_of_ble_eq_true rfl, Nat.le_of_ble_eq_true rfl⟩ rfl hl.1 rfl (Nat.le_of_ble_eq_true rfl) dX12_flush_23 rfl rfl ⟨Nat.zero_le _, Nat.zero_le _⟩ (fun v w' H locs hpo w => ?_)
      clear hq
      obtain ⟨rfl, rfl⟩ := hpo
      have w : mW E A s [(h, .inr (11, [.ref a_g, .ref a_kept, .int isKept, .ref a_tape, .int taped, .int spot, .ref a_written, .int writtenMany, .ref a_asked, .int askedMany, .ref a_there, .ref a_counts, .ref a_lasts, .ref a_cames])), (a_g, .inl (E.2.1, 8787, .inl o_2)), (a_kept, .inl (E.2.1, 8787, .inl kept)), (a_tape, .inl (E.2.2.1, 60, .inl tape)), (a_written, .inl (E.2.1, 40, .inl written)), (a_asked, .inl (E.2.1, 60, .inl asked)), (a_there, .inl (E.2.1, 12, .inl there)), (a_counts, .inl (E.2.1, 12, .inl counts)), (a_lasts, .inl (E.2.1, 12, .inl lasts)), (a_cames, .inl (E.2.1, 12, .inl cames))] H locs := w
      refine lv_aload_n hx hb dX12_flush_26 rfl (lv_at hl 0 rfl) ?_
      refine lv_iload_n hx hb dX12_flush_27 rfl (lv_at hl 2 rfl) ?_
      refine lv_iconst (v := 1) hx hb dX12_flush_28 (by decide) ?_
      obtain ⟨o_4, hq, hf⟩ := bd_e hf
      refine mx_callV (As := [.int x2, .int 1]) (rest := [.int o_3, .ref h]) (wr := []) (d_X12_at E l  h a_g a_kept a_tape a_written a_asked a_there a_counts a_lasts a_cames o_2 kept isKept tape taped spot written writtenMany asked askedMany there counts lasts cames x2 1  o_4 hq) B w [0, 1, 2, 3, 4, 5, 6, 7, 8, 9] [] rfl rfl (by decide) (by decide) (by decide) 0 rfl rfl cv_X12_at kw_1325 2 (by decide +kernel) ⟨Nat.le_of_ble_eq_true rfl, Nat.le_of_ble_eq_true rfl⟩ rfl hl.1 rfl (Nat.le_of_ble_eq_true rfl) dX12_flush_29 rfl rfl ⟨Nat.zero_le _, Nat.zero_le _⟩ (fun v w' H locs hpo w => ?_)
      clear hq
      obtain ⟨rfl, rfl⟩ := hpo
      have w : mW E A s [(h, .inr (11, [.ref a_g, .ref a_kept, .int isKept, .ref a_tape, .int taped, .int spot, .ref a_written, .int writtenMany, .ref a_asked, .int askedMany, .ref a_there, .ref a_counts, .ref a_lasts, .ref a_cames])), (a_g, .inl (E.2.1, 8787, .inl o_2)), (a_kept, .inl (E.2.1, 8787, .inl kept)), (a_tape, .inl (E.2.2.1, 60, .inl tape)), (a_written, .inl (E.2.1, 40, .inl written)), (a_asked, .inl (E.2.1, 60, .inl asked)), (a_there, .inl (E.2.1, 12, .inl there)), (a_counts, .inl (E.2.1, 12, .inl counts)), (a_lasts, .inl (E.2.1, 12, .inl lasts)), (a_cames, .inl (E.2.1, 12, .inl cames))] H locs := w
      obtain ⟨o_5, hq, hf⟩ := bd_e hf
      refine mx_callV (As := [.int o_3, .int o_4]) (rest := []) (wr := []) (d_X12_writes E l N h a_g a_kept a_tape a_written a_asked a_there a_counts a_lasts a_cames o_2 kept isKept tape taped spot written writtenMany asked askedMany there counts lasts cames o_3 o_4  o_5 hq) B w [0, 1, 2, 3, 4, 5, 6, 7, 8, 9] [] rfl rfl (by decide) (by decide) (by decide) 0 rfl rfl cv_X12_writes kw_1365 2 (by decide +kernel) ⟨Nat.le_of_ble_eq_true rfl, Nat.le_of_ble_eq_true rfl⟩ rfl hl.1 rfl (Nat.le_of_ble_eq_true rfl) dX12_flush_32 rfl rfl ⟨Nat.zero_le _, Nat.zero_le _⟩ (fun v w' H locs hpo w => ?_)
      clear hq
      obtain ⟨rfl, rfl⟩ := hpo
      have w : mW E A s [(h, .inr (11, [.ref a_g, .ref a_kept, .int isKept, .ref a_tape, .int taped, .int spot, .ref a_written, .int writtenMany, .ref a_asked, .int askedMany, .ref a_there, .ref a_counts, .ref a_lasts, .ref a_cames])), (a_g, .inl (E.2.1, 8787, .inl o_5)), (a_kept, .inl (E.2.1, 8787, .inl kept)), (a_tape, .inl (E.2.2.1, 60, .inl tape)), (a_written, .inl (E.2.1, 40, .inl written)), (a_asked, .inl (E.2.1, 60, .inl asked)), (a_there, .inl (E.2.1, 12, .inl there)), (a_counts, .inl (E.2.1, 12, .inl counts)), (a_lasts, .inl (E.2.1, 12, .inl lasts)), (a_cames, .inl (E.2.1, 12, .inl cames))] H locs := w
      obtain ⟨x1_6, ev⟩ : ∃ y : Int32, y = x1 + 1 := ⟨_, rfl⟩
      refine lv_iinc (v := x1_6) (lv' := [(1, .int x1_6), (0, .ref h), (2, .int x2)]) hx hb dX12_flush_35 hl (k := 1) rfl (by rw [ev]; rfl) (by decide) rfl (fun ls hl => ?_)
      have hf := lt_n ev hf; clear ev
      refine lv_aload_n hx hb dX12_flush_38 rfl (lv_at hl 1 rfl) ?_
      obtain ⟨o_7, hq, hf⟩ := bd_e hf
      refine mx_callV (As := []) (rest := []) (wr := []) (d_X12_firstDirty E l N h a_g a_kept a_tape a_written a_asked a_there a_counts a_lasts a_cames o_5 kept isKept tape taped spot written writtenMany asked askedMany there counts lasts cames   o_7 hq) B w [0, 1, 2, 3, 4, 5, 6, 7, 8, 9] [] rfl rfl (by decide) (by decide) (by decide) 0 rfl rfl cv_X12_firstDirty kw_1528 0 (by decide +kernel) ⟨Nat.le_of_ble_eq_true rfl, Nat.le_of_ble_eq_true rfl⟩ rfl hl.1 rfl (Nat.le_of_ble_eq_true rfl) dX12_flush_39 rfl rfl ⟨Nat.zero_le _, Nat.zero_le _⟩ (fun v w' H locs hpo w => ?_)
      clear hq
      obtain ⟨rfl, rfl⟩ := hpo
      have w : mW E A s [(h, .inr (11, [.ref a_g, .ref a_kept, .int isKept, .ref a_tape, .int taped, .int spot, .ref a_written, .int writtenMany, .ref a_asked, .int askedMany, .ref a_there, .ref a_counts, .ref a_lasts, .ref a_cames])), (a_g, .inl (E.2.1, 8787, .inl o_5)), (a_kept, .inl (E.2.1, 8787, .inl kept)), (a_tape, .inl (E.2.2.1, 60, .inl tape)), (a_written, .inl (E.2.1, 40, .inl written)), (a_asked, .inl (E.2.1, 60, .inl asked)), (a_there, .inl (E.2.1, 12, .inl there)), (a_counts, .inl (E.2.1, 12, .inl counts)), (a_lasts, .inl (E.2.1, 12, .inl lasts)), (a_cames, .inl (E.2.1, 12, .inl cames))] H locs := w
      refine lv_istore_n (lv' := [(2, .int o_7), (1, .int x1_6), (0, .ref h)]) hx hb dX12_flush_42 rfl hl (by decide) rfl (fun ls hl => ?_)
      refine lv_goto (tgt := 7) hx hb dX12_flush_43 (by decide) ?_
      exact hrec _ _ _ _ _ _ hf  w (lv_sub hl [2, 1, 0] rfl)
noncomputable def F_X12_flush (N : Nat)  (g : Nat → Int32)  : Option (Int32 × (Nat → Int32)) :=
  bd (F_X12_firstDirty N g) (fun o_1 =>
  L_X12_flush_7 N (fun x1 g => some (x1, g)) N 0 o_1 g)
set_option maxHeartbeats 4000000 in
set_option maxRecDepth 100000 in
theorem d_X12_flush (E : mE) (l : Launch) (N : Nat) (h : Nat) (a_g : Nat) (a_kept : Nat) (a_tape : Nat) (a_written : Nat) (a_asked : Nat) (a_there : Nat) (a_counts : Nat) (a_lasts : Nat) (a_cames : Nat)  (g : Nat → Int32) (kept : Nat → Int32) (isKept : Int32) (tape : Nat → Int32) (taped : Int32) (spot : Int32) (written : Nat → Int32) (writtenMany : Int32) (asked : Nat → Int32) (askedMany : Int32) (there : Nat → Int32) (counts : Nat → Int32) (lasts : Nat → Int32) (cames : Nat → Int32)    (o : Int32 × (Nat → Int32)) (hf : F_X12_flush N g = some o) : MX E l yX12_flush cX12_flush 3 (some .int) ({ frames := 5, cells := 0, slots := 0, locals := 114 } : Room) [.ref h] [(h, .inr (11, [.ref a_g, .ref a_kept, .int isKept, .ref a_tape, .int taped, .int spot, .ref a_written, .int writtenMany, .ref a_asked, .int askedMany, .ref a_there, .ref a_counts, .ref a_lasts, .ref a_cames])), (a_g, .inl (E.2.1, 8787, .inl g)), (a_kept, .inl (E.2.1, 8787, .inl kept)), (a_tape, .inl (E.2.2.1, 60, .inl tape)), (a_written, .inl (E.2.1, 40, .inl written)), (a_asked, .inl (E.2.1, 60, .inl asked)), (a_there, .inl (E.2.1, 12, .inl there)), (a_counts, .inl (E.2.1, 12, .inl counts)), (a_lasts, .inl (E.2.1, 12, .inl lasts)), (a_cames, .inl (E.2.1, 12, .inl cames))] (po_X12_flush E h a_g a_kept a_tape a_written a_asked a_there a_counts a_lasts a_cames g kept isKept tape taped spot written writtenMany asked askedMany there counts lasts cames o) := by
  refine mx_intro (by decide +kernel) (Nat.le_of_ble_eq_true rfl) ?_
  intro p e s m args below meth c A Q ls B w hl
  obtain ⟨hx, hb, hml, hown, hts⟩ := id B.1
  unfold F_X12_flush at hf
  have hl : lv_has ls 3 [(0, .ref h)] := hl
  refine lv_iconst (v := 0) hx hb dX12_flush_0 (by decide) ?_
  refine lv_istore_n (lv' := [(1, .int 0), (0, .ref h)]) hx hb dX12_flush_1 rfl hl (by decide) rfl (fun ls hl => ?_)
  refine lv_aload_n hx hb dX12_flush_2 rfl (lv_at hl 1 rfl) ?_
  obtain ⟨o_1, hq, hf⟩ := bd_e hf
  refine mx_callV (As := []) (rest := []) (wr := []) (d_X12_firstDirty E l N h a_g a_kept a_tape a_written a_asked a_there a_counts a_lasts a_cames g kept isKept tape taped spot written writtenMany asked askedMany there counts lasts cames   o_1 hq) B w [0, 1, 2, 3, 4, 5, 6, 7, 8, 9] [] rfl rfl (by decide) (by decide) (by decide) 0 rfl rfl cv_X12_firstDirty kw_1528 0 (by decide +kernel) ⟨Nat.le_of_ble_eq_true rfl, Nat.le_of_ble_eq_true rfl⟩ rfl hl.1 rfl (Nat.le_of_ble_eq_true rfl) dX12_flush_3 rfl rfl ⟨Nat.zero_le _, Nat.zero_le _⟩ (fun v w' H locs hpo w => ?_)
  clear hq
  obtain ⟨rfl, rfl⟩ := hpo
  have w : mW E A s [(h, .inr (11, [.ref a_g, .ref a_kept, .int isKept, .ref a_tape, .int taped, .int spot, .ref a_written, .int writtenMany, .ref a_asked, .int askedMany, .ref a_there, .ref a_counts, .ref a_lasts, .ref a_cames])), (a_g, .inl (E.2.1, 8787, .inl g)), (a_kept, .inl (E.2.1, 8787, .inl kept)), (a_tape, .inl (E.2.2.1, 60, .inl tape)), (a_written, .inl (E.2.1, 40, .inl written)), (a_asked, .inl (E.2.1, 60, .inl asked)), (a_there, .inl (E.2.1, 12, .inl there)), (a_counts, .inl (E.2.1, 12, .inl counts)), (a_lasts, .inl (E.2.1, 12, .inl lasts)), (a_cames, .inl (E.2.1, 12, .inl cames))] H locs := w
  refine lv_istore_n (lv' := [(2, .int o_1), (1, .int 0), (0, .ref h)]) hx hb dX12_flush_6 rfl hl (by decide) rfl (fun ls hl => ?_)
  refine l_X12_flush_7 B _  ?_ N _ _ _ _ _ _ hf  w (lv_sub hl [2, 1, 0] rfl)
  · intro x1 g H locs ls hf w hl
    refine lv_iload_n hx hb dX12_flush_46 rfl (lv_at hl 0 rfl) ?_
    cases hf
    exact mx_iret B w ⟨rfl, rfl⟩ dX12_flush_47
-- X12_writtenOf
def po_X12_writtenOf (E : mE) (h : Nat) (a_g : Nat) (a_kept : Nat) (a_tape : Nat) (a_written : Nat) (a_asked : Nat) (a_there : Nat) (a_counts : Nat) (a_lasts : Nat) (a_cames : Nat)  (g : Nat → Int32) (kept : Nat → Int32) (isKept : Int32) (tape : Nat → Int32) (taped : Int32) (spot : Int32) (written : Nat → Int32) (writtenMany : Int32) (asked : Nat → Int32) (askedMany : Int32) (there : Nat → Int32) (counts : Nat → Int32) (lasts : Nat → Int32) (cames : Nat → Int32)  (o : Int32) : Option Value → va_W → Prop := (fun (v : Option Value) (w' : va_W) => v = some (.int o) ∧ w' = [(h, .inr (11, [.ref a_g, .ref a_kept, .int isKept, .ref a_tape, .int taped, .int spot, .ref a_written, .int writtenMany, .ref a_asked, .int askedMany, .ref a_there, .ref a_counts, .ref a_lasts, .ref a_cames])), (a_g, .inl (E.2.1, 8787, .inl g)), (a_kept, .inl (E.2.1, 8787, .inl kept)), (a_tape, .inl (E.2.2.1, 60, .inl tape)), (a_written, .inl (E.2.1, 40, .inl written)), (a_asked, .inl (E.2.1, 60, .inl asked)), (a_there, .inl (E.2.1, 12, .inl there)), (a_counts, .inl (E.2.1, 12, .inl counts)), (a_lasts, .inl (E.2.1, 12, .inl lasts)), (a_cames, .inl (E.2.1, 12, .inl cames))])
noncomputable def J_X12_writtenOf_72 (N : Nat)   (t0 : Int32) (t1 : Int32) (g : Nat → Int32) : Option (Int32) :=
  bd (F_X12_keyTells N t0 t1) (fun o_3 =>
  some (o_3))
set_option maxHeartbeats 4000000 in
set_option maxRecDepth 100000 in
theorem j_X12_writtenOf_72 {E : mE} {l : Launch} {p : Program} {e : Env} {s : State} {m : MethodId} {args : Array Value} {below : List Frame} {meth : Method} {c : Code} {A : Nat → Prop} {Q : State → Prop} {N : Nat} {h : Nat} {a_g : Nat} {a_kept : Nat} {a_tape : Nat} {a_written : Nat} {a_asked : Nat} {a_there : Nat} {a_counts : Nat} {a_lasts : Nat} {a_cames : Nat}  {g : Nat → Int32} {kept : Nat → Int32} {isKept : Int32} {tape : Nat → Int32} {taped : Int32} {spot : Int32} {written : Nat → Int32} {writtenMany : Int32} {asked : Nat → Int32} {askedMany : Int32} {there : Nat → Int32} {counts : Nat → Int32} {lasts : Nat → Int32} {cames : Nat → Int32}  {o : Int32} (B : mB E yX12_writtenOf cX12_writtenOf 3 (some .int) 0 0 (po_X12_writtenOf E h a_g a_kept a_tape a_written a_asked a_there a_counts a_lasts a_cames g kept isKept tape taped spot written writtenMany asked askedMany there counts lasts cames o) p s m args below meth c A Q) {t0 : Int32} {t1 : Int32}     {H : Heap} {locs : List Loc} {ls : Array Slot} (hf : J_X12_writtenOf_72 N t0 t1 g = some o)  (w : mW E A s [(h, .inr (11, [.ref a_g, .ref a_kept, .int isKept, .ref a_tape, .int taped, .int spot, .ref a_written, .int writtenMany, .ref a_asked, .int askedMany, .ref a_there, .ref a_counts, .ref a_lasts, .ref a_cames])), (a_g, .inl (E.2.1, 8787, .inl g)), (a_kept, .inl (E.2.1, 8787, .inl kept)), (a_tape, .inl (E.2.2.1, 60, .inl tape)), (a_written, .inl (E.2.1, 40, .inl written)), (a_asked, .inl (E.2.1, 60, .inl asked)), (a_there, .inl (E.2.1, 12, .inl there)), (a_counts, .inl (E.2.1, 12, .inl counts)), (a_lasts, .inl (E.2.1, 12, .inl lasts)), (a_cames, .inl (E.2.1, 12, .inl cames))] H locs) (hl : lv_has ls 3 []) : W p l e ({ frames := 3, cells := 0, slots := 0, locals := 67 } : Room) s m args below meth c H locs 0 0 Q (F0 m 72 ls [.int t1, .int t0]) := by
  obtain ⟨hx, hb, hml, hown, hts⟩ := id B.1
  unfold J_X12_writtenOf_72 at hf
  obtain ⟨o_3, hq, hf⟩ := bd_e hf
  refine mx_callS (As := [.int t0, .int t1]) (rest := []) (wr := [(h, .inr (11, [.ref a_g, .ref a_kept, .int isKept, .ref a_tape, .int taped, .int spot, .ref a_written, .int writtenMany, .ref a_asked, .int askedMany, .ref a_there, .ref a_counts, .ref a_lasts, .ref a_cames])), (a_g, .inl (E.2.1, 8787, .inl g)), (a_kept, .inl (E.2.1, 8787, .inl kept)), (a_tape, .inl (E.2.2.1, 60, .inl tape)), (a_written, .inl (E.2.1, 40, .inl written)), (a_asked, .inl (E.2.1, 60, .inl asked)), (a_there, .inl (E.2.1, 12, .inl there)), (a_counts, .inl (E.2.1, 12, .inl counts)), (a_lasts, .inl (E.2.1, 12, .inl lasts)), (a_cames, .inl (E.2.1, 12, .inl cames))]) (d_X12_keyTells E l N  t0 t1  o_3 hq) B w [] [0, 1, 2, 3, 4, 5, 6, 7, 8, 9] rfl rfl (by decide) (by decide) (by decide) cs_X12_keyTells kw_1450 2 (by decide +kernel) ⟨Nat.le_of_ble_eq_true rfl, Nat.le_of_ble_eq_true rfl⟩ rfl hl.1 rfl (Nat.le_of_ble_eq_true rfl) dX12_writtenOf_72 rfl rfl ⟨Nat.zero_le _, Nat.zero_le _⟩ (fun v w' H locs hpo w => ?_)
  clear hq
  obtain ⟨rfl, rfl⟩ := hpo
  have w : mW E A s [(h, .inr (11, [.ref a_g, .ref a_kept, .int isKept, .ref a_tape, .int taped, .int spot, .ref a_written, .int writtenMany, .ref a_asked, .int askedMany, .ref a_there, .ref a_counts, .ref a_lasts, .ref a_cames])), (a_g, .inl (E.2.1, 8787, .inl g)), (a_kept, .inl (E.2.1, 8787, .inl kept)), (a_tape, .inl (E.2.2.1, 60, .inl tape)), (a_written, .inl (E.2.1, 40, .inl written)), (a_asked, .inl (E.2.1, 60, .inl asked)), (a_there, .inl (E.2.1, 12, .inl there)), (a_counts, .inl (E.2.1, 12, .inl counts)), (a_lasts, .inl (E.2.1, 12, .inl lasts)), (a_cames, .inl (E.2.1, 12, .inl cames))] H locs := w
  cases hf
  exact mx_iret B w ⟨rfl, rfl⟩ dX12_writtenOf_75
noncomputable def F_X12_writtenOf (N : Nat)  (g : Nat → Int32) (x1 : Int32) (x2 : Int32) : Option (Int32) :=
  if (x1 < 0 : Prop) then
  some ((-1001))
  else
  if (((-2)) ≤ x2 : Prop) then
  ld g 8787 17 (fun v_1 =>
  if (x1 < v_1 : Prop) then
  if (x2 = ((-1)) : Prop) then
  ld g 8787 ((8527 + (2 * x1)) + 1) (fun v_4 =>
  some (v_4))
  else
  ld g 8787 (8527 + (2 * x1)) (fun v_2 =>
  if (x2 = ((-2)) : Prop) then
  J_X12_writtenOf_72 N v_2 ((-1)) g
  else
  J_X12_writtenOf_72 N v_2 x2 g)
  else
  some ((-1003)))
  else
  some ((-1001))
set_option maxHeartbeats 4000000 in
set_option maxRecDepth 100000 in
theorem d_X12_writtenOf (E : mE) (l : Launch) (N : Nat) (h : Nat) (a_g : Nat) (a_kept : Nat) (a_tape : Nat) (a_written : Nat) (a_asked : Nat) (a_there : Nat) (a_counts : Nat) (a_lasts : Nat) (a_cames : Nat)  (g : Nat → Int32) (kept : Nat → Int32) (isKept : Int32) (tape : Nat → Int32) (taped : Int32) (spot : Int32) (written : Nat → Int32) (writtenMany : Int32) (asked : Nat → Int32) (askedMany : Int32) (there : Nat → Int32) (counts : Nat → Int32) (lasts : Nat → Int32) (cames : Nat → Int32)  (x1 : Int32) (x2 : Int32)  (o : Int32) (hf : F_X12_writtenOf N g x1 x2 = some o) : MX E l yX12_writtenOf cX12_writtenOf 3 (some .int) ({ frames := 3, cells := 0, slots := 0, locals := 67 } : Room) [.ref h, .int x1, .int x2] [(h, .inr (11, [.ref a_g, .ref a_kept, .int isKept, .ref a_tape, .int taped, .int spot, .ref a_written, .int writtenMany, .ref a_asked, .int askedMany, .ref a_there, .ref a_counts, .ref a_lasts, .ref a_cames])), (a_g, .inl (E.2.1, 8787, .inl g)), (a_kept, .inl (E.2.1, 8787, .inl kept)), (a_tape, .inl (E.2.2.1, 60, .inl tape)), (a_written, .inl (E.2.1, 40, .inl written)), (a_asked, .inl (E.2.1, 60, .inl asked)), (a_there, .inl (E.2.1, 12, .inl there)), (a_counts, .inl (E.2.1, 12, .inl counts)), (a_lasts, .inl (E.2.1, 12, .inl lasts)), (a_cames, .inl (E.2.1, 12, .inl cames))] (po_X12_writtenOf E h a_g a_kept a_tape a_written a_asked a_there a_counts a_lasts a_cames g kept isKept tape taped spot written writtenMany asked askedMany there counts lasts cames o) := by
  refine mx_intro (by decide +kernel) (Nat.le_of_ble_eq_true rfl) ?_
  intro p e s m args below meth c A Q ls B w hl
  obtain ⟨hx, hb, hml, hown, hts⟩ := id B.1
  unfold F_X12_writtenOf at hf
  have hl : lv_has ls 3 [(0, .ref h), (1, .int x1), (2, .int x2)] := hl
  refine lv_iload_n hx hb dX12_writtenOf_0 rfl (lv_at hl 1 rfl) ?_
  refine lv_if_lt (tgt := 10) hx hb dX12_writtenOf_1 (by decide) (fun hc => ?_) (fun hc => ?_)
  · have hf := it_t hc hf
    refine lv_sipush (v := (-1001)) hx hb dX12_writtenOf_10 (by decide) ?_
    cases hf
    exact mx_iret B w ⟨rfl, rfl⟩ dX12_writtenOf_13
  · have hf := it_f hc hf
    refine lv_iload_n hx hb dX12_writtenOf_4 rfl (lv_at hl 2 rfl) ?_
    refine lv_bipush (v := (-2)) hx hb dX12_writtenOf_5 (by decide) ?_
    refine lv_icmp_ge (tgt := 14) hx hb dX12_writtenOf_7 (by decide) (fun hc => ?_) (fun hc => ?_)
    · have hf := it_t hc hf
      refine lv_iload_n hx hb dX12_writtenOf_14 rfl (lv_at hl 1 rfl) ?_
      refine lv_aload_n hx hb dX12_writtenOf_15 rfl (lv_at hl 0 rfl) ?_
      refine mx_get B w 0 fl_X12_9 rfl rfl dX12_writtenOf_16 ?_
      refine lv_bipush (v := 17) hx hb dX12_writtenOf_19 (by decide) ?_
      obtain ⟨hin, hf⟩ := ld_e hf
      refine mx_iald B w 1 rfl hin dX12_writtenOf_21 (fun v_1 ev => ?_)
      have hf := hf _ ev; clear ev
      refine lv_icmp_lt (tgt := 29) hx hb dX12_writtenOf_22 (by decide) (fun hc => ?_) (fun hc => ?_)
      · have hf := it_t hc hf
        refine lv_iload_n hx hb dX12_writtenOf_29 rfl (lv_at hl 2 rfl) ?_
        refine lv_iconst (v := (-1)) hx hb dX12_writtenOf_30 (by decide) ?_
        refine lv_icmp_ne (tgt := 49) hx hb dX12_writtenOf_31 (by decide) (fun hc => ?_) (fun hc => ?_)
        · have hf := it_f hc hf
          refine lv_aload_n hx hb dX12_writtenOf_49 rfl (lv_at hl 0 rfl) ?_
          refine mx_get B w 0 fl_X12_9 rfl rfl dX12_writtenOf_50 ?_
          refine lv_sipush (v := 8527) hx hb dX12_writtenOf_53 (by decide) ?_
          refine lv_iconst (v := 2) hx hb dX12_writtenOf_56 (by decide) ?_
          refine lv_iload_n hx hb dX12_writtenOf_57 rfl (lv_at hl 1 rfl) ?_
          refine lv_imul hx hb dX12_writtenOf_58 ?_
          refine lv_iadd hx hb dX12_writtenOf_59 ?_
          obtain ⟨hin, hf⟩ := ld_e hf
          refine mx_iald B w 1 rfl hin dX12_writtenOf_60 (fun v_2 ev => ?_)
          have hf := hf _ ev; clear ev
          refine lv_iload_n hx hb dX12_writtenOf_61 rfl (lv_at hl 2 rfl) ?_
          refine lv_bipush (v := (-2)) hx hb dX12_writtenOf_62 (by decide) ?_
          refine lv_icmp_ne (tgt := 71) hx hb dX12_writtenOf_64 (by decide) (fun hc => ?_) (fun hc => ?_)
          · have hf := it_f hc hf
            refine lv_iload_n hx hb dX12_writtenOf_71 rfl (lv_at hl 2 rfl) ?_
            exact j_X12_writtenOf_72 B   hf  w (lv_sub hl [] rfl)
          · have hf := it_t hc hf
            refine lv_iconst (v := (-1)) hx hb dX12_writtenOf_67 (by decide) ?_
            refine lv_goto (tgt := 72) hx hb dX12_writtenOf_68 (by decide) ?_
            exact j_X12_writtenOf_72 B   hf  w (lv_sub hl [] rfl)
        · have hf := it_t hc hf
          refine lv_aload_n hx hb dX12_writtenOf_34 rfl (lv_at hl 0 rfl) ?_
          refine mx_get B w 0 fl_X12_9 rfl rfl dX12_writtenOf_35 ?_
          refine lv_sipush (v := 8527) hx hb dX12_writtenOf_38 (by decide) ?_
          refine lv_iconst (v := 2) hx hb dX12_writtenOf_41 (by decide) ?_
          refine lv_iload_n hx hb dX12_writtenOf_42 rfl (lv_at hl 1 rfl) ?_
          refine lv_imul hx hb dX12_writtenOf_43 ?_
          refine lv_iadd hx hb dX12_writtenOf_44 ?_
          refine lv_iconst (v := 1) hx hb dX12_writtenOf_45 (by decide) ?_
          refine lv_iadd hx hb dX12_writtenOf_46 ?_
          obtain ⟨hin, hf⟩ := ld_e hf
          refine mx_iald B w 1 rfl hin dX12_writtenOf_47 (fun v_4 ev => ?_)
          have hf := hf _ ev; clear ev
          cases hf
          exact mx_iret B w ⟨rfl, rfl⟩ dX12_writtenOf_48
      · have hf := it_f hc hf
        refine lv_sipush (v := (-1003)) hx hb dX12_writtenOf_25 (by decide) ?_
        cases hf
        exact mx_iret B w ⟨rfl, rfl⟩ dX12_writtenOf_28
    · have hf := it_f hc hf
      refine lv_sipush (v := (-1001)) hx hb dX12_writtenOf_10 (by decide) ?_
      cases hf
      exact mx_iret B w ⟨rfl, rfl⟩ dX12_writtenOf_13
-- X12_of
def po_X12_of (E : mE) (h : Nat) (a_g : Nat) (a_kept : Nat) (a_tape : Nat) (a_written : Nat) (a_asked : Nat) (a_there : Nat) (a_counts : Nat) (a_lasts : Nat) (a_cames : Nat)  (g : Nat → Int32) (kept : Nat → Int32) (isKept : Int32) (tape : Nat → Int32) (taped : Int32) (spot : Int32) (written : Nat → Int32) (writtenMany : Int32) (asked : Nat → Int32) (askedMany : Int32) (there : Nat → Int32) (counts : Nat → Int32) (lasts : Nat → Int32) (cames : Nat → Int32)  (o : Int32) : Option Value → va_W → Prop := (fun (v : Option Value) (w' : va_W) => v = some (.int o) ∧ w' = [(h, .inr (11, [.ref a_g, .ref a_kept, .int isKept, .ref a_tape, .int taped, .int spot, .ref a_written, .int writtenMany, .ref a_asked, .int askedMany, .ref a_there, .ref a_counts, .ref a_lasts, .ref a_cames])), (a_g, .inl (E.2.1, 8787, .inl g)), (a_kept, .inl (E.2.1, 8787, .inl kept)), (a_tape, .inl (E.2.2.1, 60, .inl tape)), (a_written, .inl (E.2.1, 40, .inl written)), (a_asked, .inl (E.2.1, 60, .inl asked)), (a_there, .inl (E.2.1, 12, .inl there)), (a_counts, .inl (E.2.1, 12, .inl counts)), (a_lasts, .inl (E.2.1, 12, .inl lasts)), (a_cames, .inl (E.2.1, 12, .inl cames))])
noncomputable def F_X12_of  (g : Nat → Int32) (x1 : Int32) (x2 : Int32) : Option (Int32) :=
  bd (F_X12_isAsker x1) (fun o_1 =>
  if (o_1 = 0 : Prop) then
  some ((-1001))
  else
  bd (F_X12_in x2 0 3) (fun o_2 =>
  if (o_2 = 0 : Prop) then
  some ((-1001))
  else
  ld g 8787 ((8403 + (4 * x1)) + x2) (fun v_3 =>
  some (v_3))))
set_option maxHeartbeats 4000000 in
set_option maxRecDepth 100000 in
theorem d_X12_of (E : mE) (l : Launch) (h : Nat) (a_g : Nat) (a_kept : Nat) (a_tape : Nat) (a_written : Nat) (a_asked : Nat) (a_there : Nat) (a_counts : Nat) (a_lasts : Nat) (a_cames : Nat)  (g : Nat → Int32) (kept : Nat → Int32) (isKept : Int32) (tape : Nat → Int32) (taped : Int32) (spot : Int32) (written : Nat → Int32) (writtenMany : Int32) (asked : Nat → Int32) (askedMany : Int32) (there : Nat → Int32) (counts : Nat → Int32) (lasts : Nat → Int32) (cames : Nat → Int32)  (x1 : Int32) (x2 : Int32)  (o : Int32) (hf : F_X12_of g x1 x2 = some o) : MX E l yX12_of cX12_of 3 (some .int) ({ frames := 2, cells := 0, slots := 0, locals := 42 } : Room) [.ref h, .int x1, .int x2] [(h, .inr (11, [.ref a_g, .ref a_kept, .int isKept, .ref a_tape, .int taped, .int spot, .ref a_written, .int writtenMany, .ref a_asked, .int askedMany, .ref a_there, .ref a_counts, .ref a_lasts, .ref a_cames])), (a_g, .inl (E.2.1, 8787, .inl g)), (a_kept, .inl (E.2.1, 8787, .inl kept)), (a_tape, .inl (E.2.2.1, 60, .inl tape)), (a_written, .inl (E.2.1, 40, .inl written)), (a_asked, .inl (E.2.1, 60, .inl asked)), (a_there, .inl (E.2.1, 12, .inl there)), (a_counts, .inl (E.2.1, 12, .inl counts)), (a_lasts, .inl (E.2.1, 12, .inl lasts)), (a_cames, .inl (E.2.1, 12, .inl cames))] (po_X12_of E h a_g a_kept a_tape a_written a_asked a_there a_counts a_lasts a_cames g kept isKept tape taped spot written writtenMany asked askedMany there counts lasts cames o) := by
  refine mx_intro (by decide +kernel) (Nat.le_of_ble_eq_true rfl) ?_
  intro p e s m args below meth c A Q ls B w hl
  obtain ⟨hx, hb, hml, hown, hts⟩ := id B.1
  unfold F_X12_of at hf
  have hl : lv_has ls 3 [(0, .ref h), (1, .int x1), (2, .int x2)] := hl
  refine lv_iload_n hx hb dX12_of_0 rfl (lv_at hl 1 rfl) ?_
  obtain ⟨o_1, hq, hf⟩ := bd_e hf
  refine mx_callS (As := [.int x1]) (rest := []) (wr := [(h, .inr (11, [.ref a_g, .ref a_kept, .int isKept, .ref a_tape, .int taped, .int spot, .ref a_written, .int writtenMany, .ref a_asked, .int askedMany, .ref a_there, .ref a_counts, .ref a_lasts, .ref a_cames])), (a_g, .inl (E.2.1, 8787, .inl g)), (a_kept, .inl (E.2.1, 8787, .inl kept)), (a_tape, .inl (E.2.2.1, 60, .inl tape)), (a_written, .inl (E.2.1, 40, .inl written)), (a_asked, .inl (E.2.1, 60, .inl asked)), (a_there, .inl (E.2.1, 12, .inl there)), (a_counts, .inl (E.2.1, 12, .inl counts)), (a_lasts, .inl (E.2.1, 12, .inl lasts)), (a_cames, .inl (E.2.1, 12, .inl cames))]) (d_X12_isAsker E l   x1  o_1 hq) B w [] [0, 1, 2, 3, 4, 5, 6, 7, 8, 9] rfl rfl (by decide) (by decide) (by decide) cs_X12_isAsker kw_1461 1 (by decide +kernel) ⟨Nat.le_of_ble_eq_true rfl, Nat.le_of_ble_eq_true rfl⟩ rfl hl.1 rfl (Nat.le_of_ble_eq_true rfl) dX12_of_1 rfl rfl ⟨Nat.zero_le _, Nat.zero_le _⟩ (fun v w' H locs hpo w => ?_)
  clear hq
  obtain ⟨rfl, rfl⟩ := hpo
  have w : mW E A s [(h, .inr (11, [.ref a_g, .ref a_kept, .int isKept, .ref a_tape, .int taped, .int spot, .ref a_written, .int writtenMany, .ref a_asked, .int askedMany, .ref a_there, .ref a_counts, .ref a_lasts, .ref a_cames])), (a_g, .inl (E.2.1, 8787, .inl g)), (a_kept, .inl (E.2.1, 8787, .inl kept)), (a_tape, .inl (E.2.2.1, 60, .inl tape)), (a_written, .inl (E.2.1, 40, .inl written)), (a_asked, .inl (E.2.1, 60, .inl asked)), (a_there, .inl (E.2.1, 12, .inl there)), (a_counts, .inl (E.2.1, 12, .inl counts)), (a_lasts, .inl (E.2.1, 12, .inl lasts)), (a_cames, .inl (E.2.1, 12, .inl cames))] H locs := w
  refine lv_if_eq (tgt := 33) hx hb dX12_of_4 (by decide) (fun hc => ?_) (fun hc => ?_)
  · have hf := it_t hc hf
    refine lv_sipush (v := (-1001)) hx hb dX12_of_33 (by decide) ?_
    cases hf
    exact mx_iret B w ⟨rfl, rfl⟩ dX12_of_36
  · have hf := it_f hc hf
    refine lv_iload_n hx hb dX12_of_7 rfl (lv_at hl 2 rfl) ?_
    refine lv_iconst (v := 0) hx hb dX12_of_8 (by decide) ?_
    refine lv_iconst (v := 3) hx hb dX12_of_9 (by decide) ?_
    obtain ⟨o_2, hq, hf⟩ := bd_e hf
    refine mx_callS (As := [.int x2, .int 0, .int 3]) (rest := []) (wr := [(h, .inr (11, [.ref a_g, .ref a_kept, .int isKept, .ref a_tape, .int taped, .int spot, .ref a_written, .int writtenMany, .ref a_asked, .int askedMany, .ref a_there, .ref a_counts, .ref a_lasts, .ref a_cames])), (a_g, .inl (E.2.1, 8787, .inl g)), (a_kept, .inl (E.2.1, 8787, .inl kept)), (a_tape, .inl (E.2.2.1, 60, .inl tape)), (a_written, .inl (E.2.1, 40, .inl written)), (a_asked, .inl (E.2.1, 60, .inl asked)), (a_there, .inl (E.2.1, 12, .inl there)), (a_counts, .inl (E.2.1, 12, .inl counts)), (a_lasts, .inl (E.2.1, 12, .inl lasts)), (a_cames, .inl (E.2.1, 12, .inl cames))]) (d_X12_in E l   x2 0 3  o_2 hq) B w [] [0, 1, 2, 3, 4, 5, 6, 7, 8, 9] rfl rfl (by decide) (by decide) (by decide) cs_X12_in kw_1274 3 (by decide +kernel) ⟨Nat.le_of_ble_eq_true rfl, Nat.le_of_ble_eq_true rfl⟩ rfl hl.1 rfl (Nat.le_of_ble_eq_true rfl) dX12_of_10 rfl rfl ⟨Nat.zero_le _, Nat.zero_le _⟩ (fun v w' H locs hpo w => ?_)
    clear hq
    obtain ⟨rfl, rfl⟩ := hpo
    have w : mW E A s [(h, .inr (11, [.ref a_g, .ref a_kept, .int isKept, .ref a_tape, .int taped, .int spot, .ref a_written, .int writtenMany, .ref a_asked, .int askedMany, .ref a_there, .ref a_counts, .ref a_lasts, .ref a_cames])), (a_g, .inl (E.2.1, 8787, .inl g)), (a_kept, .inl (E.2.1, 8787, .inl kept)), (a_tape, .inl (E.2.2.1, 60, .inl tape)), (a_written, .inl (E.2.1, 40, .inl written)), (a_asked, .inl (E.2.1, 60, .inl asked)), (a_there, .inl (E.2.1, 12, .inl there)), (a_counts, .inl (E.2.1, 12, .inl counts)), (a_lasts, .inl (E.2.1, 12, .inl lasts)), (a_cames, .inl (E.2.1, 12, .inl cames))] H locs := w
    refine lv_if_eq (tgt := 33) hx hb dX12_of_13 (by decide) (fun hc => ?_) (fun hc => ?_)
    · have hf := it_t hc hf
      refine lv_sipush (v := (-1001)) hx hb dX12_of_33 (by decide) ?_
      cases hf
      exact mx_iret B w ⟨rfl, rfl⟩ dX12_of_36
    · have hf := it_f hc hf
      refine lv_aload_n hx hb dX12_of_16 rfl (lv_at hl 0 rfl) ?_
      refine mx_get B w 0 fl_X12_9 rfl rfl dX12_of_17 ?_
      refine lv_sipush (v := 8403) hx hb dX12_of_20 (by decide) ?_
      refine lv_iconst (v := 4) hx hb dX12_of_23 (by decide) ?_
      refine lv_iload_n hx hb dX12_of_24 rfl (lv_at hl 1 rfl) ?_
      refine lv_imul hx hb dX12_of_25 ?_
      refine lv_iadd hx hb dX12_of_26 ?_
      refine lv_iload_n hx hb dX12_of_27 rfl (lv_at hl 2 rfl) ?_
      refine lv_iadd hx hb dX12_of_28 ?_
      obtain ⟨hin, hf⟩ := ld_e hf
      refine mx_iald B w 1 rfl hin dX12_of_29 (fun v_3 ev => ?_)
      have hf := hf _ ev; clear ev
      refine lv_goto (tgt := 36) hx hb dX12_of_30 (by decide) ?_
      cases hf
      exact mx_iret B w ⟨rfl, rfl⟩ dX12_of_36
