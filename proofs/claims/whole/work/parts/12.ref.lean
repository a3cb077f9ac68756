abbrev cX12_running : ByteArray := prog_14_method_51_code
def yX12_running : MethodName := ⟨RX12, "running", "(I)I"⟩
theorem dX12_running_0 : decode cX12_running 0 = .ok (.aload_n 0, 1) := by decide +kernel
theorem dX12_running_1 : decode cX12_running 1 = .ok (.iload_n 1, 1) := by decide +kernel
theorem dX12_running_2 : decode cX12_running 2 = .ok (.invokevirtual 162, 3) := by decide +kernel
theorem dX12_running_5 : decode cX12_running 5 = .ok (.istore_n 2, 1) := by decide +kernel
theorem dX12_running_6 : decode cX12_running 6 = .ok (.iload_n 2, 1) := by decide +kernel
theorem dX12_running_7 : decode cX12_running 7 = .ok (.ifCond .lt 17, 3) := by decide +kernel
theorem dX12_running_10 : decode cX12_running 10 = .ok (.aload_n 0, 1) := by decide +kernel
theorem dX12_running_11 : decode cX12_running 11 = .ok (.iload_n 2, 1) := by decide +kernel
theorem dX12_running_12 : decode cX12_running 12 = .ok (.iconst 1, 1) := by decide +kernel
theorem dX12_running_13 : decode cX12_running 13 = .ok (.invokevirtual 147, 3) := by decide +kernel
theorem dX12_running_16 : decode cX12_running 16 = .ok (.iconst 2, 1) := by decide +kernel
theorem dX12_running_17 : decode cX12_running 17 = .ok (.if_icmp .ne 7, 3) := by decide +kernel
theorem dX12_running_20 : decode cX12_running 20 = .ok (.iload_n 2, 1) := by decide +kernel
theorem dX12_running_21 : decode cX12_running 21 = .ok (.goto 4, 3) := by decide +kernel
theorem dX12_running_24 : decode cX12_running 24 = .ok (.iconst (-1), 1) := by decide +kernel
theorem dX12_running_25 : decode cX12_running 25 = .ok (.ireturn, 1) := by decide +kernel
abbrev cX12_renews : ByteArray := prog_14_method_38_code
def yX12_renews : MethodName := ⟨RX12, "renews", "(IIII)Z"⟩
theorem dX12_renews_0 : decode cX12_renews 0 = .ok (.aload_n 0, 1) := by decide +kernel
theorem dX12_renews_1 : decode cX12_renews 1 = .ok (.iload_n 1, 1) := by decide +kernel
theorem dX12_renews_2 : decode cX12_renews 2 = .ok (.iconst 0, 1) := by decide +kernel
theorem dX12_renews_3 : decode cX12_renews 3 = .ok (.invokevirtual 86, 3) := by decide +kernel
theorem dX12_renews_6 : decode cX12_renews 6 = .ok (.istore 5, 2) := by decide +kernel
theorem dX12_renews_8 : decode cX12_renews 8 = .ok (.iload_n 3, 1) := by decide +kernel
theorem dX12_renews_9 : decode cX12_renews 9 = .ok (.aload_n 0, 1) := by decide +kernel
theorem dX12_renews_10 : decode cX12_renews 10 = .ok (.getfield 9, 3) := by decide +kernel
theorem dX12_renews_13 : decode cX12_renews 13 = .ok (.iconst 0, 1) := by decide +kernel
theorem dX12_renews_14 : decode cX12_renews 14 = .ok (.iaload, 1) := by decide +kernel
theorem dX12_renews_15 : decode cX12_renews 15 = .ok (.if_icmp .le 30, 3) := by decide +kernel
theorem dX12_renews_18 : decode cX12_renews 18 = .ok (.aload_n 0, 1) := by decide +kernel
theorem dX12_renews_19 : decode cX12_renews 19 = .ok (.getfield 9, 3) := by decide +kernel
theorem dX12_renews_22 : decode cX12_renews 22 = .ok (.bipush 27, 2) := by decide +kernel
theorem dX12_renews_24 : decode cX12_renews 24 = .ok (.dup2, 1) := by decide +kernel
theorem dX12_renews_25 : decode cX12_renews 25 = .ok (.iaload, 1) := by decide +kernel
theorem dX12_renews_26 : decode cX12_renews 26 = .ok (.iconst 1, 1) := by decide +kernel
theorem dX12_renews_27 : decode cX12_renews 27 = .ok (.iadd, 1) := by decide +kernel
theorem dX12_renews_28 : decode cX12_renews 28 = .ok (.iastore, 1) := by decide +kernel
theorem dX12_renews_29 : decode cX12_renews 29 = .ok (.aload_n 0, 1) := by decide +kernel
theorem dX12_renews_30 : decode cX12_renews 30 = .ok (.iload_n 1, 1) := by decide +kernel
theorem dX12_renews_31 : decode cX12_renews 31 = .ok (.bipush 7, 2) := by decide +kernel
theorem dX12_renews_33 : decode cX12_renews 33 = .ok (.invokevirtual 111, 3) := by decide +kernel
theorem dX12_renews_36 : decode cX12_renews 36 = .ok (.aload_n 0, 1) := by decide +kernel
theorem dX12_renews_37 : decode cX12_renews 37 = .ok (.iconst 5, 1) := by decide +kernel
theorem dX12_renews_38 : decode cX12_renews 38 = .ok (.iload 5, 2) := by decide +kernel
theorem dX12_renews_40 : decode cX12_renews 40 = .ok (.invokevirtual 67, 3) := by decide +kernel
theorem dX12_renews_43 : decode cX12_renews 43 = .ok (.iconst 0, 1) := by decide +kernel
theorem dX12_renews_44 : decode cX12_renews 44 = .ok (.ireturn, 1) := by decide +kernel
theorem dX12_renews_45 : decode cX12_renews 45 = .ok (.aload_n 0, 1) := by decide +kernel
theorem dX12_renews_46 : decode cX12_renews 46 = .ok (.iload_n 1, 1) := by decide +kernel
theorem dX12_renews_47 : decode cX12_renews 47 = .ok (.bipush 8, 2) := by decide +kernel
theorem dX12_renews_49 : decode cX12_renews 49 = .ok (.invokevirtual 86, 3) := by decide +kernel
theorem dX12_renews_52 : decode cX12_renews 52 = .ok (.ifCond .ne 10, 3) := by decide +kernel
theorem dX12_renews_55 : decode cX12_renews 55 = .ok (.aload_n 0, 1) := by decide +kernel
theorem dX12_renews_56 : decode cX12_renews 56 = .ok (.iload_n 1, 1) := by decide +kernel
theorem dX12_renews_57 : decode cX12_renews 57 = .ok (.iconst 1, 1) := by decide +kernel
theorem dX12_renews_58 : decode cX12_renews 58 = .ok (.iload_n 2, 1) := by decide +kernel
theorem dX12_renews_59 : decode cX12_renews 59 = .ok (.invokevirtual 136, 3) := by decide +kernel
theorem dX12_renews_62 : decode cX12_renews 62 = .ok (.aload_n 0, 1) := by decide +kernel
theorem dX12_renews_63 : decode cX12_renews 63 = .ok (.iload_n 1, 1) := by decide +kernel
theorem dX12_renews_64 : decode cX12_renews 64 = .ok (.iconst 2, 1) := by decide +kernel
theorem dX12_renews_65 : decode cX12_renews 65 = .ok (.iload_n 3, 1) := by decide +kernel
theorem dX12_renews_66 : decode cX12_renews 66 = .ok (.invokevirtual 136, 3) := by decide +kernel
theorem dX12_renews_69 : decode cX12_renews 69 = .ok (.aload_n 0, 1) := by decide +kernel
theorem dX12_renews_70 : decode cX12_renews 70 = .ok (.iload_n 1, 1) := by decide +kernel
theorem dX12_renews_71 : decode cX12_renews 71 = .ok (.iconst 3, 1) := by decide +kernel
theorem dX12_renews_72 : decode cX12_renews 72 = .ok (.iload 4, 2) := by decide +kernel
theorem dX12_renews_74 : decode cX12_renews 74 = .ok (.invokevirtual 136, 3) := by decide +kernel
theorem dX12_renews_77 : decode cX12_renews 77 = .ok (.aload_n 0, 1) := by decide +kernel
theorem dX12_renews_78 : decode cX12_renews 78 = .ok (.iload_n 1, 1) := by decide +kernel
theorem dX12_renews_79 : decode cX12_renews 79 = .ok (.iconst 4, 1) := by decide +kernel
theorem dX12_renews_80 : decode cX12_renews 80 = .ok (.aload_n 0, 1) := by decide +kernel
theorem dX12_renews_81 : decode cX12_renews 81 = .ok (.getfield 9, 3) := by decide +kernel
theorem dX12_renews_84 : decode cX12_renews 84 = .ok (.bipush 8, 2) := by decide +kernel
theorem dX12_renews_86 : decode cX12_renews 86 = .ok (.iaload, 1) := by decide +kernel
theorem dX12_renews_87 : decode cX12_renews 87 = .ok (.invokevirtual 136, 3) := by decide +kernel
theorem dX12_renews_90 : decode cX12_renews 90 = .ok (.aload_n 0, 1) := by decide +kernel
theorem dX12_renews_91 : decode cX12_renews 91 = .ok (.iconst 0, 1) := by decide +kernel
theorem dX12_renews_92 : decode cX12_renews 92 = .ok (.iload 5, 2) := by decide +kernel
theorem dX12_renews_94 : decode cX12_renews 94 = .ok (.invokevirtual 133, 3) := by decide +kernel
theorem dX12_renews_97 : decode cX12_renews 97 = .ok (.aload_n 0, 1) := by decide +kernel
theorem dX12_renews_98 : decode cX12_renews 98 = .ok (.iconst 4, 1) := by decide +kernel
theorem dX12_renews_99 : decode cX12_renews 99 = .ok (.iload 5, 2) := by decide +kernel
theorem dX12_renews_101 : decode cX12_renews 101 = .ok (.invokevirtual 67, 3) := by decide +kernel
theorem dX12_renews_104 : decode cX12_renews 104 = .ok (.iconst 1, 1) := by decide +kernel
theorem dX12_renews_105 : decode cX12_renews 105 = .ok (.ireturn, 1) := by decide +kernel
abbrev cX12_came : ByteArray := prog_14_method_52_code
def yX12_came : MethodName := ⟨RX12, "came", "(III)I"⟩
theorem dX12_came_0 : decode cX12_came 0 = .ok (.iload_n 1, 1) := by decide +kernel
theorem dX12_came_1 : decode cX12_came 1 = .ok (.iconst 0, 1) := by decide +kernel
theorem dX12_came_2 : decode cX12_came 2 = .ok (.ldc 146, 2) := by decide +kernel
theorem dX12_came_4 : decode cX12_came 4 = .ok (.invokestatic 38, 3) := by decide +kernel
theorem dX12_came_7 : decode cX12_came 7 = .ok (.ifCond .eq 24, 3) := by decide +kernel
theorem dX12_came_10 : decode cX12_came 10 = .ok (.iload_n 2, 1) := by decide +kernel
theorem dX12_came_11 : decode cX12_came 11 = .ok (.iconst 1, 1) := by decide +kernel
theorem dX12_came_12 : decode cX12_came 12 = .ok (.bipush 20, 2) := by decide +kernel
theorem dX12_came_14 : decode cX12_came 14 = .ok (.invokestatic 38, 3) := by decide +kernel
theorem dX12_came_17 : decode cX12_came 17 = .ok (.ifCond .eq 14, 3) := by decide +kernel
theorem dX12_came_20 : decode cX12_came 20 = .ok (.iload_n 3, 1) := by decide +kernel
theorem dX12_came_21 : decode cX12_came 21 = .ok (.iconst 0, 1) := by decide +kernel
theorem dX12_came_22 : decode cX12_came 22 = .ok (.sipush 255, 3) := by decide +kernel
theorem dX12_came_25 : decode cX12_came 25 = .ok (.invokestatic 38, 3) := by decide +kernel
theorem dX12_came_28 : decode cX12_came 28 = .ok (.ifCond .ne 7, 3) := by decide +kernel
theorem dX12_came_31 : decode cX12_came 31 = .ok (.sipush (-1001), 3) := by decide +kernel
theorem dX12_came_34 : decode cX12_came 34 = .ok (.ireturn, 1) := by decide +kernel
theorem dX12_came_35 : decode cX12_came 35 = .ok (.aload_n 0, 1) := by decide +kernel
theorem dX12_came_36 : decode cX12_came 36 = .ok (.invokevirtual 79, 3) := by decide +kernel
theorem dX12_came_39 : decode cX12_came 39 = .ok (.istore 4, 2) := by decide +kernel
theorem dX12_came_41 : decode cX12_came 41 = .ok (.iload 4, 2) := by decide +kernel
theorem dX12_came_43 : decode cX12_came 43 = .ok (.ifCond .ne 7, 3) := by decide +kernel
theorem dX12_came_46 : decode cX12_came 46 = .ok (.sipush (-1002), 3) := by decide +kernel
theorem dX12_came_49 : decode cX12_came 49 = .ok (.ireturn, 1) := by decide +kernel
theorem dX12_came_50 : decode cX12_came 50 = .ok (.aload_n 0, 1) := by decide +kernel
theorem dX12_came_51 : decode cX12_came 51 = .ok (.iload 4, 2) := by decide +kernel
theorem dX12_came_53 : decode cX12_came 53 = .ok (.invokevirtual 165, 3) := by decide +kernel
theorem dX12_came_56 : decode cX12_came 56 = .ok (.istore 5, 2) := by decide +kernel
theorem dX12_came_58 : decode cX12_came 58 = .ok (.iload 5, 2) := by decide +kernel
theorem dX12_came_60 : decode cX12_came 60 = .ok (.ifCond .ge 7, 3) := by decide +kernel
theorem dX12_came_63 : decode cX12_came 63 = .ok (.sipush (-1005), 3) := by decide +kernel
theorem dX12_came_66 : decode cX12_came 66 = .ok (.ireturn, 1) := by decide +kernel
theorem dX12_came_67 : decode cX12_came 67 = .ok (.aload_n 0, 1) := by decide +kernel
theorem dX12_came_68 : decode cX12_came 68 = .ok (.iload 5, 2) := by decide +kernel
theorem dX12_came_70 : decode cX12_came 70 = .ok (.iload_n 1, 1) := by decide +kernel
theorem dX12_came_71 : decode cX12_came 71 = .ok (.invokevirtual 159, 3) := by decide +kernel
theorem dX12_came_74 : decode cX12_came 74 = .ok (.istore 6, 2) := by decide +kernel
theorem dX12_came_76 : decode cX12_came 76 = .ok (.aload_n 0, 1) := by decide +kernel
theorem dX12_came_77 : decode cX12_came 77 = .ok (.getfield 9, 3) := by decide +kernel
theorem dX12_came_80 : decode cX12_came 80 = .ok (.bipush 24, 2) := by decide +kernel
theorem dX12_came_82 : decode cX12_came 82 = .ok (.dup2, 1) := by decide +kernel
theorem dX12_came_83 : decode cX12_came 83 = .ok (.iaload, 1) := by decide +kernel
theorem dX12_came_84 : decode cX12_came 84 = .ok (.iconst 1, 1) := by decide +kernel
theorem dX12_came_85 : decode cX12_came 85 = .ok (.iadd, 1) := by decide +kernel
theorem dX12_came_86 : decode cX12_came 86 = .ok (.iastore, 1) := by decide +kernel
theorem dX12_came_87 : decode cX12_came 87 = .ok (.aload_n 0, 1) := by decide +kernel
theorem dX12_came_88 : decode cX12_came 88 = .ok (.iload 4, 2) := by decide +kernel
theorem dX12_came_90 : decode cX12_came 90 = .ok (.invokevirtual 168, 3) := by decide +kernel
theorem dX12_came_93 : decode cX12_came 93 = .ok (.istore 7, 2) := by decide +kernel
theorem dX12_came_95 : decode cX12_came 95 = .ok (.iload 7, 2) := by decide +kernel
theorem dX12_came_97 : decode cX12_came 97 = .ok (.ifCond .lt 15, 3) := by decide +kernel
theorem dX12_came_100 : decode cX12_came 100 = .ok (.aload_n 0, 1) := by decide +kernel
theorem dX12_came_101 : decode cX12_came 101 = .ok (.bipush 14, 2) := by decide +kernel
theorem dX12_came_103 : decode cX12_came 103 = .ok (.sipush 1898, 3) := by decide +kernel
theorem dX12_came_106 : decode cX12_came 106 = .ok (.iconst 5, 1) := by decide +kernel
theorem dX12_came_107 : decode cX12_came 107 = .ok (.iload 7, 2) := by decide +kernel
theorem dX12_came_109 : decode cX12_came 109 = .ok (.invokevirtual 103, 3) := by decide +kernel
theorem dX12_came_112 : decode cX12_came 112 = .ok (.aload_n 0, 1) := by decide +kernel
theorem dX12_came_113 : decode cX12_came 113 = .ok (.iload 4, 2) := by decide +kernel
theorem dX12_came_115 : decode cX12_came 115 = .ok (.invokevirtual 171, 3) := by decide +kernel
theorem dX12_came_118 : decode cX12_came 118 = .ok (.istore 8, 2) := by decide +kernel
theorem dX12_came_120 : decode cX12_came 120 = .ok (.iload 8, 2) := by decide +kernel
theorem dX12_came_122 : decode cX12_came 122 = .ok (.ifCond .lt 15, 3) := by decide +kernel
theorem dX12_came_125 : decode cX12_came 125 = .ok (.aload_n 0, 1) := by decide +kernel
theorem dX12_came_126 : decode cX12_came 126 = .ok (.iload 8, 2) := by decide +kernel
theorem dX12_came_128 : decode cX12_came 128 = .ok (.iload_n 1, 1) := by decide +kernel
theorem dX12_came_129 : decode cX12_came 129 = .ok (.iload_n 2, 1) := by decide +kernel
theorem dX12_came_130 : decode cX12_came 130 = .ok (.iload_n 3, 1) := by decide +kernel
theorem dX12_came_131 : decode cX12_came 131 = .ok (.invokevirtual 174, 3) := by decide +kernel
theorem dX12_came_134 : decode cX12_came 134 = .ok (.goto 19, 3) := by decide +kernel
theorem dX12_came_137 : decode cX12_came 137 = .ok (.aload_n 0, 1) := by decide +kernel
theorem dX12_came_138 : decode cX12_came 138 = .ok (.iload 4, 2) := by decide +kernel
theorem dX12_came_140 : decode cX12_came 140 = .ok (.iload_n 1, 1) := by decide +kernel
theorem dX12_came_141 : decode cX12_came 141 = .ok (.iload_n 2, 1) := by decide +kernel
theorem dX12_came_142 : decode cX12_came 142 = .ok (.iload_n 3, 1) := by decide +kernel
theorem dX12_came_143 : decode cX12_came 143 = .ok (.aload_n 0, 1) := by decide +kernel
theorem dX12_came_144 : decode cX12_came 144 = .ok (.getfield 9, 3) := by decide +kernel
theorem dX12_came_147 : decode cX12_came 147 = .ok (.bipush 8, 2) := by decide +kernel
theorem dX12_came_149 : decode cX12_came 149 = .ok (.iaload, 1) := by decide +kernel
theorem dX12_came_150 : decode cX12_came 150 = .ok (.invokevirtual 178, 3) := by decide +kernel
theorem dX12_came_153 : decode cX12_came 153 = .ok (.istore 9, 2) := by decide +kernel
theorem dX12_came_155 : decode cX12_came 155 = .ok (.aload_n 0, 1) := by decide +kernel
theorem dX12_came_156 : decode cX12_came 156 = .ok (.getfield 9, 3) := by decide +kernel
theorem dX12_came_159 : decode cX12_came 159 = .ok (.bipush 26, 2) := by decide +kernel
theorem dX12_came_161 : decode cX12_came 161 = .ok (.dup2, 1) := by decide +kernel
theorem dX12_came_162 : decode cX12_came 162 = .ok (.iaload, 1) := by decide +kernel
theorem dX12_came_163 : decode cX12_came 163 = .ok (.iload 9, 2) := by decide +kernel
theorem dX12_came_165 : decode cX12_came 165 = .ok (.ifCond .eq 7, 3) := by decide +kernel
theorem dX12_came_168 : decode cX12_came 168 = .ok (.iconst 0, 1) := by decide +kernel
theorem dX12_came_169 : decode cX12_came 169 = .ok (.goto 4, 3) := by decide +kernel
theorem dX12_came_172 : decode cX12_came 172 = .ok (.iconst 1, 1) := by decide +kernel
theorem dX12_came_173 : decode cX12_came 173 = .ok (.iadd, 1) := by decide +kernel
theorem dX12_came_174 : decode cX12_came 174 = .ok (.iastore, 1) := by decide +kernel
theorem dX12_came_175 : decode cX12_came 175 = .ok (.aload_n 0, 1) := by decide +kernel
theorem dX12_came_176 : decode cX12_came 176 = .ok (.invokevirtual 143, 3) := by decide +kernel
theorem dX12_came_179 : decode cX12_came 179 = .ok (.iload 6, 2) := by decide +kernel
theorem dX12_came_181 : decode cX12_came 181 = .ok (.ireturn, 1) := by decide +kernel
theorem kw_1406 : Cond.methodLink "FrequencyShelfModel" 165 yX12_running ∈ TB := tb_at 1406 (by decide +kernel) (by decide +kernel)
theorem kw_1409 : Cond.code yX12_running cX12_running 3 (some .int) ∈ TB := tb_at 1409 (by decide +kernel) (by decide +kernel)
theorem kw_1408 : Cond.instanceMethod yX12_running ∈ TB := tb_at 1408 (by decide +kernel) (by decide +kernel)
theorem kw_35 : Cond.selects "FrequencyShelfModel" yX12_running yX12_running ∈ TB := tb_at 35 (by decide +kernel) (by decide +kernel)
theorem cv_X12_running : Cond.code yX12_running cX12_running 3 (some .int) ∈ TB ∧ Cond.instanceMethod yX12_running ∈ TB ∧ Cond.selects "FrequencyShelfModel" yX12_running yX12_running ∈ TB ∧ Cond.initialized "FrequencyShelfModel" ∈ TB := ⟨kw_1409, kw_1408, kw_35, kw_75⟩
theorem kw_1426 : Cond.methodLink "FrequencyShelfModel" 174 yX12_renews ∈ TB := tb_at 1426 (by decide +kernel) (by decide +kernel)
theorem kw_1429 : Cond.code yX12_renews cX12_renews 6 (some .boolean) ∈ TB := tb_at 1429 (by decide +kernel) (by decide +kernel)
theorem kw_1428 : Cond.instanceMethod yX12_renews ∈ TB := tb_at 1428 (by decide +kernel) (by decide +kernel)
theorem kw_40 : Cond.selects "FrequencyShelfModel" yX12_renews yX12_renews ∈ TB := tb_at 40 (by decide +kernel) (by decide +kernel)
theorem cv_X12_renews : Cond.code yX12_renews cX12_renews 6 (some .boolean) ∈ TB ∧ Cond.instanceMethod yX12_renews ∈ TB ∧ Cond.selects "FrequencyShelfModel" yX12_renews yX12_renews ∈ TB ∧ Cond.initialized "FrequencyShelfModel" ∈ TB := ⟨kw_1429, kw_1428, kw_40, kw_75⟩
abbrev cX12_failed : ByteArray := prog_14_method_53_code
def yX12_failed : MethodName := ⟨RX12, "failed", "(I)I"⟩
theorem dX12_failed_0 : decode cX12_failed 0 = .ok (.iload_n 1, 1) := by decide +kernel
theorem dX12_failed_1 : decode cX12_failed 1 = .ok (.iconst 1, 1) := by decide +kernel
theorem dX12_failed_2 : decode cX12_failed 2 = .ok (.bipush 99, 2) := by decide +kernel
theorem dX12_failed_4 : decode cX12_failed 4 = .ok (.invokestatic 38, 3) := by decide +kernel
theorem dX12_failed_7 : decode cX12_failed 7 = .ok (.ifCond .ne 7, 3) := by decide +kernel
theorem dX12_failed_10 : decode cX12_failed 10 = .ok (.sipush (-1001), 3) := by decide +kernel
theorem dX12_failed_13 : decode cX12_failed 13 = .ok (.ireturn, 1) := by decide +kernel
theorem dX12_failed_14 : decode cX12_failed 14 = .ok (.aload_n 0, 1) := by decide +kernel
theorem dX12_failed_15 : decode cX12_failed 15 = .ok (.invokevirtual 79, 3) := by decide +kernel
theorem dX12_failed_18 : decode cX12_failed 18 = .ok (.istore_n 2, 1) := by decide +kernel
theorem dX12_failed_19 : decode cX12_failed 19 = .ok (.iload_n 2, 1) := by decide +kernel
theorem dX12_failed_20 : decode cX12_failed 20 = .ok (.ifCond .ne 7, 3) := by decide +kernel
theorem dX12_failed_23 : decode cX12_failed 23 = .ok (.sipush (-1002), 3) := by decide +kernel
theorem dX12_failed_26 : decode cX12_failed 26 = .ok (.ireturn, 1) := by decide +kernel
theorem dX12_failed_27 : decode cX12_failed 27 = .ok (.aload_n 0, 1) := by decide +kernel
theorem dX12_failed_28 : decode cX12_failed 28 = .ok (.iload_n 2, 1) := by decide +kernel
theorem dX12_failed_29 : decode cX12_failed 29 = .ok (.invokevirtual 165, 3) := by decide +kernel
theorem dX12_failed_32 : decode cX12_failed 32 = .ok (.istore_n 3, 1) := by decide +kernel
theorem dX12_failed_33 : decode cX12_failed 33 = .ok (.iload_n 3, 1) := by decide +kernel
theorem dX12_failed_34 : decode cX12_failed 34 = .ok (.ifCond .ge 9, 3) := by decide +kernel
theorem dX12_failed_37 : decode cX12_failed 37 = .ok (.sipush (-1005), 3) := by decide +kernel
theorem dX12_failed_40 : decode cX12_failed 40 = .ok (.goto 9, 3) := by decide +kernel
theorem dX12_failed_43 : decode cX12_failed 43 = .ok (.aload_n 0, 1) := by decide +kernel
theorem dX12_failed_44 : decode cX12_failed 44 = .ok (.iload_n 3, 1) := by decide +kernel
theorem dX12_failed_45 : decode cX12_failed 45 = .ok (.iload_n 1, 1) := by decide +kernel
theorem dX12_failed_46 : decode cX12_failed 46 = .ok (.invokevirtual 150, 3) := by decide +kernel
theorem dX12_failed_49 : decode cX12_failed 49 = .ok (.ireturn, 1) := by decide +kernel
abbrev cX12_told : ByteArray := prog_14_method_54_code
def yX12_told : MethodName := ⟨RX12, "told", "(II)I"⟩
theorem dX12_told_0 : decode cX12_told 0 = .ok (.iload_n 1, 1) := by decide +kernel
theorem dX12_told_1 : decode cX12_told 1 = .ok (.iconst (-1), 1) := by decide +kernel
theorem dX12_told_2 : decode cX12_told 2 = .ok (.if_icmp .lt 8, 3) := by decide +kernel
theorem dX12_told_5 : decode cX12_told 5 = .ok (.iload_n 2, 1) := by decide +kernel
theorem dX12_told_6 : decode cX12_told 6 = .ok (.iconst (-1), 1) := by decide +kernel
theorem dX12_told_7 : decode cX12_told 7 = .ok (.if_icmp .ge 7, 3) := by decide +kernel
theorem dX12_told_10 : decode cX12_told 10 = .ok (.sipush (-1001), 3) := by decide +kernel
theorem dX12_told_13 : decode cX12_told 13 = .ok (.ireturn, 1) := by decide +kernel
theorem dX12_told_14 : decode cX12_told 14 = .ok (.iload_n 1, 1) := by decide +kernel
theorem dX12_told_15 : decode cX12_told 15 = .ok (.iconst (-1), 1) := by decide +kernel
theorem dX12_told_16 : decode cX12_told 16 = .ok (.if_icmp .ne 11, 3) := by decide +kernel
theorem dX12_told_19 : decode cX12_told 19 = .ok (.aload_n 0, 1) := by decide +kernel
theorem dX12_told_20 : decode cX12_told 20 = .ok (.getfield 9, 3) := by decide +kernel
theorem dX12_told_23 : decode cX12_told 23 = .ok (.bipush 16, 2) := by decide +kernel
theorem dX12_told_25 : decode cX12_told 25 = .ok (.iaload, 1) := by decide +kernel
theorem dX12_told_26 : decode cX12_told 26 = .ok (.ireturn, 1) := by decide +kernel
theorem dX12_told_27 : decode cX12_told 27 = .ok (.iload_n 1, 1) := by decide +kernel
theorem dX12_told_28 : decode cX12_told 28 = .ok (.aload_n 0, 1) := by decide +kernel
theorem dX12_told_29 : decode cX12_told 29 = .ok (.getfield 9, 3) := by decide +kernel
theorem dX12_told_32 : decode cX12_told 32 = .ok (.bipush 16, 2) := by decide +kernel
theorem dX12_told_34 : decode cX12_told 34 = .ok (.iaload, 1) := by decide +kernel
theorem dX12_told_35 : decode cX12_told 35 = .ok (.if_icmp .ge 20, 3) := by decide +kernel
theorem dX12_told_38 : decode cX12_told 38 = .ok (.aload_n 0, 1) := by decide +kernel
theorem dX12_told_39 : decode cX12_told 39 = .ok (.getfield 9, 3) := by decide +kernel
theorem dX12_told_42 : decode cX12_told 42 = .ok (.sipush 8467, 3) := by decide +kernel
theorem dX12_told_45 : decode cX12_told 45 = .ok (.iload_n 1, 1) := by decide +kernel
theorem dX12_told_46 : decode cX12_told 46 = .ok (.iadd, 1) := by decide +kernel
theorem dX12_told_47 : decode cX12_told 47 = .ok (.iaload, 1) := by decide +kernel
theorem dX12_told_48 : decode cX12_told 48 = .ok (.iload_n 2, 1) := by decide +kernel
theorem dX12_told_49 : decode cX12_told 49 = .ok (.invokestatic 182, 3) := by decide +kernel
theorem dX12_told_52 : decode cX12_told 52 = .ok (.goto 6, 3) := by decide +kernel
theorem dX12_told_55 : decode cX12_told 55 = .ok (.sipush (-1003), 3) := by decide +kernel
theorem dX12_told_58 : decode cX12_told 58 = .ok (.ireturn, 1) := by decide +kernel
abbrev cX12_load : ByteArray := prog_14_method_55_code
def yX12_load : MethodName := ⟨RX12, "load", "(I)I"⟩
theorem dX12_load_0 : decode cX12_load 0 = .ok (.iload_n 1, 1) := by decide +kernel
theorem dX12_load_1 : decode cX12_load 1 = .ok (.ifCond .ge 7, 3) := by decide +kernel
theorem dX12_load_4 : decode cX12_load 4 = .ok (.sipush (-1001), 3) := by decide +kernel
theorem dX12_load_7 : decode cX12_load 7 = .ok (.ireturn, 1) := by decide +kernel
theorem dX12_load_8 : decode cX12_load 8 = .ok (.aload_n 0, 1) := by decide +kernel
theorem dX12_load_9 : decode cX12_load 9 = .ok (.invokevirtual 79, 3) := by decide +kernel
theorem dX12_load_12 : decode cX12_load 12 = .ok (.istore_n 2, 1) := by decide +kernel
theorem dX12_load_13 : decode cX12_load 13 = .ok (.iload_n 2, 1) := by decide +kernel
theorem dX12_load_14 : decode cX12_load 14 = .ok (.ifCond .ne 7, 3) := by decide +kernel
theorem dX12_load_17 : decode cX12_load 17 = .ok (.sipush (-1002), 3) := by decide +kernel
theorem dX12_load_20 : decode cX12_load 20 = .ok (.ireturn, 1) := by decide +kernel
theorem dX12_load_21 : decode cX12_load 21 = .ok (.aload_n 0, 1) := by decide +kernel
theorem dX12_load_22 : decode cX12_load 22 = .ok (.iload_n 2, 1) := by decide +kernel
theorem dX12_load_23 : decode cX12_load 23 = .ok (.invokevirtual 162, 3) := by decide +kernel
theorem dX12_load_26 : decode cX12_load 26 = .ok (.istore_n 3, 1) := by decide +kernel
theorem dX12_load_27 : decode cX12_load 27 = .ok (.iload_n 1, 1) := by decide +kernel
theorem dX12_load_28 : decode cX12_load 28 = .ok (.iconst 2, 1) := by decide +kernel
theorem dX12_load_29 : decode cX12_load 29 = .ok (.if_icmp .ge 26, 3) := by decide +kernel
theorem dX12_load_32 : decode cX12_load 32 = .ok (.iload_n 3, 1) := by decide +kernel
theorem dX12_load_33 : decode cX12_load 33 = .ok (.ifCond .ge 7, 3) := by decide +kernel
theorem dX12_load_36 : decode cX12_load 36 = .ok (.iconst 0, 1) := by decide +kernel
theorem dX12_load_37 : decode cX12_load 37 = .ok (.goto 17, 3) := by decide +kernel
theorem dX12_load_40 : decode cX12_load 40 = .ok (.aload_n 0, 1) := by decide +kernel
theorem dX12_load_41 : decode cX12_load 41 = .ok (.iload_n 3, 1) := by decide +kernel
theorem dX12_load_42 : decode cX12_load 42 = .ok (.iload_n 1, 1) := by decide +kernel
theorem dX12_load_43 : decode cX12_load 43 = .ok (.ifCond .ne 7, 3) := by decide +kernel
theorem dX12_load_46 : decode cX12_load 46 = .ok (.iconst 1, 1) := by decide +kernel
theorem dX12_load_47 : decode cX12_load 47 = .ok (.goto 4, 3) := by decide +kernel
theorem dX12_load_50 : decode cX12_load 50 = .ok (.iconst 3, 1) := by decide +kernel
theorem dX12_load_51 : decode cX12_load 51 = .ok (.invokevirtual 147, 3) := by decide +kernel
theorem dX12_load_54 : decode cX12_load 54 = .ok (.ireturn, 1) := by decide +kernel
theorem dX12_load_55 : decode cX12_load 55 = .ok (.iload_n 3, 1) := by decide +kernel
theorem dX12_load_56 : decode cX12_load 56 = .ok (.ifCond .lt 28, 3) := by decide +kernel
theorem dX12_load_59 : decode cX12_load 59 = .ok (.iload_n 1, 1) := by decide +kernel
theorem dX12_load_60 : decode cX12_load 60 = .ok (.iconst 2, 1) := by decide +kernel
theorem dX12_load_61 : decode cX12_load 61 = .ok (.isub, 1) := by decide +kernel
theorem dX12_load_62 : decode cX12_load 62 = .ok (.aload_n 0, 1) := by decide +kernel
theorem dX12_load_63 : decode cX12_load 63 = .ok (.iload_n 3, 1) := by decide +kernel
theorem dX12_load_64 : decode cX12_load 64 = .ok (.iconst 3, 1) := by decide +kernel
theorem dX12_load_65 : decode cX12_load 65 = .ok (.invokevirtual 147, 3) := by decide +kernel
theorem dX12_load_68 : decode cX12_load 68 = .ok (.if_icmp .ge 16, 3) := by decide +kernel
theorem dX12_load_71 : decode cX12_load 71 = .ok (.aload_n 0, 1) := by decide +kernel
theorem dX12_load_72 : decode cX12_load 72 = .ok (.iload_n 3, 1) := by decide +kernel
theorem dX12_load_73 : decode cX12_load 73 = .ok (.iconst 4, 1) := by decide +kernel
theorem dX12_load_74 : decode cX12_load 74 = .ok (.iload_n 1, 1) := by decide +kernel
theorem dX12_load_75 : decode cX12_load 75 = .ok (.iadd, 1) := by decide +kernel
theorem dX12_load_76 : decode cX12_load 76 = .ok (.iconst 2, 1) := by decide +kernel
theorem dX12_load_77 : decode cX12_load 77 = .ok (.isub, 1) := by decide +kernel
theorem dX12_load_78 : decode cX12_load 78 = .ok (.invokevirtual 147, 3) := by decide +kernel
theorem dX12_load_81 : decode cX12_load 81 = .ok (.goto 6, 3) := by decide +kernel
theorem dX12_load_84 : decode cX12_load 84 = .ok (.sipush (-1003), 3) := by decide +kernel
theorem dX12_load_87 : decode cX12_load 87 = .ok (.ireturn, 1) := by decide +kernel
abbrev cX12_entry : ByteArray := prog_14_method_71_code
def yX12_entry : MethodName := ⟨RX12, "entry", "(I)I"⟩
theorem dX12_entry_0 : decode cX12_entry 0 = .ok (.iload_n 1, 1) := by decide +kernel
theorem dX12_entry_1 : decode cX12_entry 1 = .ok (.iconst 0, 1) := by decide +kernel
theorem dX12_entry_2 : decode cX12_entry 2 = .ok (.bipush 9, 2) := by decide +kernel
theorem dX12_entry_4 : decode cX12_entry 4 = .ok (.invokestatic 38, 3) := by decide +kernel
theorem dX12_entry_7 : decode cX12_entry 7 = .ok (.ifCond .ne 7, 3) := by decide +kernel
theorem dX12_entry_10 : decode cX12_entry 10 = .ok (.sipush (-1001), 3) := by decide +kernel
theorem dX12_entry_13 : decode cX12_entry 13 = .ok (.ireturn, 1) := by decide +kernel
theorem dX12_entry_14 : decode cX12_entry 14 = .ok (.aload_n 0, 1) := by decide +kernel
theorem dX12_entry_15 : decode cX12_entry 15 = .ok (.invokevirtual 79, 3) := by decide +kernel
theorem dX12_entry_18 : decode cX12_entry 18 = .ok (.istore_n 2, 1) := by decide +kernel
theorem dX12_entry_19 : decode cX12_entry 19 = .ok (.iload_n 2, 1) := by decide +kernel
theorem dX12_entry_20 : decode cX12_entry 20 = .ok (.ifCond .ne 7, 3) := by decide +kernel
theorem dX12_entry_23 : decode cX12_entry 23 = .ok (.sipush (-1002), 3) := by decide +kernel
theorem dX12_entry_26 : decode cX12_entry 26 = .ok (.ireturn, 1) := by decide +kernel
theorem dX12_entry_27 : decode cX12_entry 27 = .ok (.aload_n 0, 1) := by decide +kernel
theorem dX12_entry_28 : decode cX12_entry 28 = .ok (.iload_n 2, 1) := by decide +kernel
theorem dX12_entry_29 : decode cX12_entry 29 = .ok (.invokevirtual 171, 3) := by decide +kernel
theorem dX12_entry_32 : decode cX12_entry 32 = .ok (.istore_n 3, 1) := by decide +kernel
theorem dX12_entry_33 : decode cX12_entry 33 = .ok (.iload_n 3, 1) := by decide +kernel
theorem dX12_entry_34 : decode cX12_entry 34 = .ok (.ifCond .ge 7, 3) := by decide +kernel
theorem dX12_entry_37 : decode cX12_entry 37 = .ok (.sipush (-1003), 3) := by decide +kernel
theorem dX12_entry_40 : decode cX12_entry 40 = .ok (.ireturn, 1) := by decide +kernel
theorem dX12_entry_41 : decode cX12_entry 41 = .ok (.iload_n 1, 1) := by decide +kernel
theorem dX12_entry_42 : decode cX12_entry 42 = .ok (.tableswitch 129 0 8 #[50, 57, 64, 71, 78, 86, 94, 101, 115], 50) := by decide +kernel
theorem dX12_entry_92 : decode cX12_entry 92 = .ok (.aload_n 0, 1) := by decide +kernel
theorem dX12_entry_93 : decode cX12_entry 93 = .ok (.iload_n 3, 1) := by decide +kernel
theorem dX12_entry_94 : decode cX12_entry 94 = .ok (.iconst 1, 1) := by decide +kernel
theorem dX12_entry_95 : decode cX12_entry 95 = .ok (.invokevirtual 86, 3) := by decide +kernel
theorem dX12_entry_98 : decode cX12_entry 98 = .ok (.ireturn, 1) := by decide +kernel
theorem dX12_entry_99 : decode cX12_entry 99 = .ok (.aload_n 0, 1) := by decide +kernel
theorem dX12_entry_100 : decode cX12_entry 100 = .ok (.iload_n 3, 1) := by decide +kernel
theorem dX12_entry_101 : decode cX12_entry 101 = .ok (.iconst 2, 1) := by decide +kernel
theorem dX12_entry_102 : decode cX12_entry 102 = .ok (.invokevirtual 86, 3) := by decide +kernel
theorem dX12_entry_105 : decode cX12_entry 105 = .ok (.ireturn, 1) := by decide +kernel
theorem dX12_entry_106 : decode cX12_entry 106 = .ok (.aload_n 0, 1) := by decide +kernel
theorem dX12_entry_107 : decode cX12_entry 107 = .ok (.iload_n 3, 1) := by decide +kernel
theorem dX12_entry_108 : decode cX12_entry 108 = .ok (.iconst 3, 1) := by decide +kernel
theorem dX12_entry_109 : decode cX12_entry 109 = .ok (.invokevirtual 86, 3) := by decide +kernel
theorem dX12_entry_112 : decode cX12_entry 112 = .ok (.ireturn, 1) := by decide +kernel
theorem dX12_entry_113 : decode cX12_entry 113 = .ok (.aload_n 0, 1) := by decide +kernel
theorem dX12_entry_114 : decode cX12_entry 114 = .ok (.iload_n 3, 1) := by decide +kernel
theorem dX12_entry_115 : decode cX12_entry 115 = .ok (.iconst 5, 1) := by decide +kernel
theorem dX12_entry_116 : decode cX12_entry 116 = .ok (.invokevirtual 86, 3) := by decide +kernel
theorem dX12_entry_119 : decode cX12_entry 119 = .ok (.ireturn, 1) := by decide +kernel
theorem dX12_entry_120 : decode cX12_entry 120 = .ok (.aload_n 0, 1) := by decide +kernel
theorem dX12_entry_121 : decode cX12_entry 121 = .ok (.iload_n 3, 1) := by decide +kernel
theorem dX12_entry_122 : decode cX12_entry 122 = .ok (.bipush 6, 2) := by decide +kernel
theorem dX12_entry_124 : decode cX12_entry 124 = .ok (.invokevirtual 86, 3) := by decide +kernel
theorem dX12_entry_127 : decode cX12_entry 127 = .ok (.ireturn, 1) := by decide +kernel
theorem dX12_entry_128 : decode cX12_entry 128 = .ok (.aload_n 0, 1) := by decide +kernel
theorem dX12_entry_129 : decode cX12_entry 129 = .ok (.iload_n 3, 1) := by decide +kernel
theorem dX12_entry_130 : decode cX12_entry 130 = .ok (.bipush 7, 2) := by decide +kernel
theorem dX12_entry_132 : decode cX12_entry 132 = .ok (.invokevirtual 86, 3) := by decide +kernel
theorem dX12_entry_135 : decode cX12_entry 135 = .ok (.ireturn, 1) := by decide +kernel
theorem dX12_entry_136 : decode cX12_entry 136 = .ok (.aload_n 0, 1) := by decide +kernel
theorem dX12_entry_137 : decode cX12_entry 137 = .ok (.iload_n 3, 1) := by decide +kernel
theorem dX12_entry_138 : decode cX12_entry 138 = .ok (.iconst 4, 1) := by decide +kernel
theorem dX12_entry_139 : decode cX12_entry 139 = .ok (.invokevirtual 86, 3) := by decide +kernel
theorem dX12_entry_142 : decode cX12_entry 142 = .ok (.ireturn, 1) := by decide +kernel
theorem dX12_entry_143 : decode cX12_entry 143 = .ok (.aload_n 0, 1) := by decide +kernel
theorem dX12_entry_144 : decode cX12_entry 144 = .ok (.iload_n 3, 1) := by decide +kernel
theorem dX12_entry_145 : decode cX12_entry 145 = .ok (.invokevirtual 93, 3) := by decide +kernel
theorem dX12_entry_148 : decode cX12_entry 148 = .ok (.ifCond .eq 7, 3) := by decide +kernel
theorem dX12_entry_151 : decode cX12_entry 151 = .ok (.iconst 1, 1) := by decide +kernel
theorem dX12_entry_152 : decode cX12_entry 152 = .ok (.goto 4, 3) := by decide +kernel
theorem dX12_entry_155 : decode cX12_entry 155 = .ok (.iconst 0, 1) := by decide +kernel
theorem dX12_entry_156 : decode cX12_entry 156 = .ok (.ireturn, 1) := by decide +kernel
theorem dX12_entry_157 : decode cX12_entry 157 = .ok (.aload_n 0, 1) := by decide +kernel
theorem dX12_entry_158 : decode cX12_entry 158 = .ok (.iload_n 3, 1) := by decide +kernel
theorem dX12_entry_159 : decode cX12_entry 159 = .ok (.invokevirtual 185, 3) := by decide +kernel
theorem dX12_entry_162 : decode cX12_entry 162 = .ok (.ifCond .eq 7, 3) := by decide +kernel
theorem dX12_entry_165 : decode cX12_entry 165 = .ok (.iconst 1, 1) := by decide +kernel
theorem dX12_entry_166 : decode cX12_entry 166 = .ok (.goto 4, 3) := by decide +kernel
theorem dX12_entry_169 : decode cX12_entry 169 = .ok (.iconst 0, 1) := by decide +kernel
theorem dX12_entry_170 : decode cX12_entry 170 = .ok (.ireturn, 1) := by decide +kernel
theorem dX12_entry_171 : decode cX12_entry 171 = .ok (.aload_n 0, 1) := by decide +kernel
theorem dX12_entry_172 : decode cX12_entry 172 = .ok (.iload_n 3, 1) := by decide +kernel
theorem dX12_entry_173 : decode cX12_entry 173 = .ok (.bipush 8, 2) := by decide +kernel
theorem dX12_entry_175 : decode cX12_entry 175 = .ok (.invokevirtual 86, 3) := by decide +kernel
theorem dX12_entry_178 : decode cX12_entry 178 = .ok (.ifCond .eq 7, 3) := by decide +kernel
theorem dX12_entry_181 : decode cX12_entry 181 = .ok (.iconst 1, 1) := by decide +kernel
theorem dX12_entry_182 : decode cX12_entry 182 = .ok (.goto 4, 3) := by decide +kernel
theorem dX12_entry_185 : decode cX12_entry 185 = .ok (.iconst 0, 1) := by decide +kernel
theorem dX12_entry_186 : decode cX12_entry 186 = .ok (.ireturn, 1) := by decide +kernel
abbrev cX12_seen : ByteArray := prog_14_method_18_code
def yX12_seen : MethodName := ⟨RX12, "seen", "()I"⟩
theorem dX12_seen_0 : decode cX12_seen 0 = .ok (.aload_n 0, 1) := by decide +kernel
theorem dX12_seen_1 : decode cX12_seen 1 = .ok (.invokevirtual 79, 3) := by decide +kernel
theorem dX12_seen_4 : decode cX12_seen 4 = .ok (.istore_n 1, 1) := by decide +kernel
theorem dX12_seen_5 : decode cX12_seen 5 = .ok (.iload_n 1, 1) := by decide +kernel
theorem dX12_seen_6 : decode cX12_seen 6 = .ok (.ifCond .ne 9, 3) := by decide +kernel
theorem dX12_seen_9 : decode cX12_seen 9 = .ok (.sipush (-1002), 3) := by decide +kernel
theorem dX12_seen_12 : decode cX12_seen 12 = .ok (.goto 8, 3) := by decide +kernel
theorem dX12_seen_15 : decode cX12_seen 15 = .ok (.aload_n 0, 1) := by decide +kernel
theorem dX12_seen_16 : decode cX12_seen 16 = .ok (.iload_n 1, 1) := by decide +kernel
theorem dX12_seen_17 : decode cX12_seen 17 = .ok (.invokevirtual 83, 3) := by decide +kernel
theorem dX12_seen_20 : decode cX12_seen 20 = .ok (.ireturn, 1) := by decide +kernel
abbrev cX12_sketch : ByteArray := prog_14_method_19_code
def yX12_sketch : MethodName := ⟨RX12, "sketch", "(II)I"⟩
theorem dX12_sketch_0 : decode cX12_sketch 0 = .ok (.iload_n 1, 1) := by decide +kernel
theorem dX12_sketch_1 : decode cX12_sketch 1 = .ok (.iconst 0, 1) := by decide +kernel
theorem dX12_sketch_2 : decode cX12_sketch 2 = .ok (.iconst 3, 1) := by decide +kernel
theorem dX12_sketch_3 : decode cX12_sketch 3 = .ok (.invokestatic 38, 3) := by decide +kernel
theorem dX12_sketch_6 : decode cX12_sketch 6 = .ok (.ifCond .eq 30, 3) := by decide +kernel
theorem dX12_sketch_9 : decode cX12_sketch 9 = .ok (.iload_n 2, 1) := by decide +kernel
theorem dX12_sketch_10 : decode cX12_sketch 10 = .ok (.iconst 0, 1) := by decide +kernel
theorem dX12_sketch_11 : decode cX12_sketch 11 = .ok (.bipush 15, 2) := by decide +kernel
theorem dX12_sketch_13 : decode cX12_sketch 13 = .ok (.invokestatic 38, 3) := by decide +kernel
theorem dX12_sketch_16 : decode cX12_sketch 16 = .ok (.ifCond .eq 20, 3) := by decide +kernel
theorem dX12_sketch_19 : decode cX12_sketch 19 = .ok (.aload_n 0, 1) := by decide +kernel
theorem dX12_sketch_20 : decode cX12_sketch 20 = .ok (.getfield 9, 3) := by decide +kernel
theorem dX12_sketch_23 : decode cX12_sketch 23 = .ok (.bipush 34, 2) := by decide +kernel
theorem dX12_sketch_25 : decode cX12_sketch 25 = .ok (.bipush 16, 2) := by decide +kernel
theorem dX12_sketch_27 : decode cX12_sketch 27 = .ok (.iload_n 1, 1) := by decide +kernel
theorem dX12_sketch_28 : decode cX12_sketch 28 = .ok (.imul, 1) := by decide +kernel
theorem dX12_sketch_29 : decode cX12_sketch 29 = .ok (.iadd, 1) := by decide +kernel
theorem dX12_sketch_30 : decode cX12_sketch 30 = .ok (.iload_n 2, 1) := by decide +kernel
theorem dX12_sketch_31 : decode cX12_sketch 31 = .ok (.iadd, 1) := by decide +kernel
theorem dX12_sketch_32 : decode cX12_sketch 32 = .ok (.iaload, 1) := by decide +kernel
theorem dX12_sketch_33 : decode cX12_sketch 33 = .ok (.goto 6, 3) := by decide +kernel
theorem dX12_sketch_36 : decode cX12_sketch 36 = .ok (.sipush (-1001), 3) := by decide +kernel
theorem dX12_sketch_39 : decode cX12_sketch 39 = .ok (.ireturn, 1) := by decide +kernel
abbrev cX12_beginsWith : ByteArray := prog_14_method_72_code
def yX12_beginsWith : MethodName := ⟨RX12, "beginsWith", "(II)Z"⟩
theorem dX12_beginsWith_0 : decode cX12_beginsWith 0 = .ok (.iload_n 0, 1) := by decide +kernel
theorem dX12_beginsWith_1 : decode cX12_beginsWith 1 = .ok (.istore_n 2, 1) := by decide +kernel
theorem dX12_beginsWith_2 : decode cX12_beginsWith 2 = .ok (.iload_n 2, 1) := by decide +kernel
theorem dX12_beginsWith_3 : decode cX12_beginsWith 3 = .ok (.iload_n 1, 1) := by decide +kernel
theorem dX12_beginsWith_4 : decode cX12_beginsWith 4 = .ok (.if_icmp .le 11, 3) := by decide +kernel
theorem dX12_beginsWith_7 : decode cX12_beginsWith 7 = .ok (.iload_n 2, 1) := by decide +kernel
theorem dX12_beginsWith_8 : decode cX12_beginsWith 8 = .ok (.bipush 27, 2) := by decide +kernel
theorem dX12_beginsWith_10 : decode cX12_beginsWith 10 = .ok (.idiv, 1) := by decide +kernel
theorem dX12_beginsWith_11 : decode cX12_beginsWith 11 = .ok (.istore_n 2, 1) := by decide +kernel
theorem dX12_beginsWith_12 : decode cX12_beginsWith 12 = .ok (.goto (-10), 3) := by decide +kernel
theorem dX12_beginsWith_15 : decode cX12_beginsWith 15 = .ok (.iload_n 2, 1) := by decide +kernel
theorem dX12_beginsWith_16 : decode cX12_beginsWith 16 = .ok (.iload_n 1, 1) := by decide +kernel
theorem dX12_beginsWith_17 : decode cX12_beginsWith 17 = .ok (.if_icmp .ne 7, 3) := by decide +kernel
theorem dX12_beginsWith_20 : decode cX12_beginsWith 20 = .ok (.iconst 1, 1) := by decide +kernel
theorem dX12_beginsWith_21 : decode cX12_beginsWith 21 = .ok (.goto 4, 3) := by decide +kernel
theorem dX12_beginsWith_24 : decode cX12_beginsWith 24 = .ok (.iconst 0, 1) := by decide +kernel
theorem dX12_beginsWith_25 : decode cX12_beginsWith 25 = .ok (.ireturn, 1) := by decide +kernel
abbrev cX12_isMeant : ByteArray := prog_14_method_73_code
def yX12_isMeant : MethodName := ⟨RX12, "isMeant", "(III)Z"⟩
theorem dX12_isMeant_0 : decode cX12_isMeant 0 = .ok (.iload_n 1, 1) := by decide +kernel
theorem dX12_isMeant_1 : decode cX12_isMeant 1 = .ok (.tableswitch 80 0 2 #[27, 45, 67], 27) := by decide +kernel
theorem dX12_isMeant_28 : decode cX12_isMeant 28 = .ok (.aload_n 0, 1) := by decide +kernel
theorem dX12_isMeant_29 : decode cX12_isMeant 29 = .ok (.getfield 9, 3) := by decide +kernel
theorem dX12_isMeant_32 : decode cX12_isMeant 32 = .ok (.iload_n 3, 1) := by decide +kernel
theorem dX12_isMeant_33 : decode cX12_isMeant 33 = .ok (.iconst 0, 1) := by decide +kernel
theorem dX12_isMeant_34 : decode cX12_isMeant 34 = .ok (.iadd, 1) := by decide +kernel
theorem dX12_isMeant_35 : decode cX12_isMeant 35 = .ok (.iaload, 1) := by decide +kernel
theorem dX12_isMeant_36 : decode cX12_isMeant 36 = .ok (.iload_n 2, 1) := by decide +kernel
theorem dX12_isMeant_37 : decode cX12_isMeant 37 = .ok (.if_icmp .ne 7, 3) := by decide +kernel
theorem dX12_isMeant_40 : decode cX12_isMeant 40 = .ok (.iconst 1, 1) := by decide +kernel
theorem dX12_isMeant_41 : decode cX12_isMeant 41 = .ok (.goto 4, 3) := by decide +kernel
theorem dX12_isMeant_44 : decode cX12_isMeant 44 = .ok (.iconst 0, 1) := by decide +kernel
theorem dX12_isMeant_45 : decode cX12_isMeant 45 = .ok (.ireturn, 1) := by decide +kernel
theorem dX12_isMeant_46 : decode cX12_isMeant 46 = .ok (.aload_n 0, 1) := by decide +kernel
theorem dX12_isMeant_47 : decode cX12_isMeant 47 = .ok (.getfield 9, 3) := by decide +kernel
theorem dX12_isMeant_50 : decode cX12_isMeant 50 = .ok (.iload_n 3, 1) := by decide +kernel
theorem dX12_isMeant_51 : decode cX12_isMeant 51 = .ok (.iconst 3, 1) := by decide +kernel
theorem dX12_isMeant_52 : decode cX12_isMeant 52 = .ok (.iadd, 1) := by decide +kernel
theorem dX12_isMeant_53 : decode cX12_isMeant 53 = .ok (.iaload, 1) := by decide +kernel
theorem dX12_isMeant_54 : decode cX12_isMeant 54 = .ok (.iload_n 2, 1) := by decide +kernel
theorem dX12_isMeant_55 : decode cX12_isMeant 55 = .ok (.ishr, 1) := by decide +kernel
theorem dX12_isMeant_56 : decode cX12_isMeant 56 = .ok (.iconst 1, 1) := by decide +kernel
theorem dX12_isMeant_57 : decode cX12_isMeant 57 = .ok (.iand, 1) := by decide +kernel
theorem dX12_isMeant_58 : decode cX12_isMeant 58 = .ok (.iconst 1, 1) := by decide +kernel
theorem dX12_isMeant_59 : decode cX12_isMeant 59 = .ok (.if_icmp .ne 7, 3) := by decide +kernel
theorem dX12_isMeant_62 : decode cX12_isMeant 62 = .ok (.iconst 1, 1) := by decide +kernel
theorem dX12_isMeant_63 : decode cX12_isMeant 63 = .ok (.goto 4, 3) := by decide +kernel
theorem dX12_isMeant_66 : decode cX12_isMeant 66 = .ok (.iconst 0, 1) := by decide +kernel
theorem dX12_isMeant_67 : decode cX12_isMeant 67 = .ok (.ireturn, 1) := by decide +kernel
theorem dX12_isMeant_68 : decode cX12_isMeant 68 = .ok (.aload_n 0, 1) := by decide +kernel
theorem dX12_isMeant_69 : decode cX12_isMeant 69 = .ok (.getfield 9, 3) := by decide +kernel
theorem dX12_isMeant_72 : decode cX12_isMeant 72 = .ok (.iload_n 3, 1) := by decide +kernel
theorem dX12_isMeant_73 : decode cX12_isMeant 73 = .ok (.iconst 0, 1) := by decide +kernel
theorem dX12_isMeant_74 : decode cX12_isMeant 74 = .ok (.iadd, 1) := by decide +kernel
theorem dX12_isMeant_75 : decode cX12_isMeant 75 = .ok (.iaload, 1) := by decide +kernel
theorem dX12_isMeant_76 : decode cX12_isMeant 76 = .ok (.iload_n 2, 1) := by decide +kernel
theorem dX12_isMeant_77 : decode cX12_isMeant 77 = .ok (.invokestatic 215, 3) := by decide +kernel
theorem dX12_isMeant_80 : decode cX12_isMeant 80 = .ok (.ireturn, 1) := by decide +kernel
theorem dX12_isMeant_81 : decode cX12_isMeant 81 = .ok (.aload_n 0, 1) := by decide +kernel
theorem dX12_isMeant_82 : decode cX12_isMeant 82 = .ok (.aload_n 0, 1) := by decide +kernel
theorem dX12_isMeant_83 : decode cX12_isMeant 83 = .ok (.getfield 9, 3) := by decide +kernel
theorem dX12_isMeant_86 : decode cX12_isMeant 86 = .ok (.iload_n 3, 1) := by decide +kernel
theorem dX12_isMeant_87 : decode cX12_isMeant 87 = .ok (.iconst 4, 1) := by decide +kernel
theorem dX12_isMeant_88 : decode cX12_isMeant 88 = .ok (.iadd, 1) := by decide +kernel
theorem dX12_isMeant_89 : decode cX12_isMeant 89 = .ok (.iaload, 1) := by decide +kernel
theorem dX12_isMeant_90 : decode cX12_isMeant 90 = .ok (.invokevirtual 89, 3) := by decide +kernel
theorem dX12_isMeant_93 : decode cX12_isMeant 93 = .ok (.ireturn, 1) := by decide +kernel
theorem kw_1552 : Cond.methodLink "FrequencyShelfModel" 215 yX12_beginsWith ∈ TB := tb_at 1552 (by decide +kernel) (by decide +kernel)
theorem kw_1554 : Cond.code yX12_beginsWith cX12_beginsWith 3 (some .boolean) ∈ TB := tb_at 1554 (by decide +kernel) (by decide +kernel)
theorem kw_1553 : Cond.static yX12_beginsWith ∈ TB := tb_at 1553 (by decide +kernel) (by decide +kernel)
theorem cs_X12_beginsWith : Cond.code yX12_beginsWith cX12_beginsWith 3 (some .boolean) ∈ TB ∧ Cond.static yX12_beginsWith ∈ TB ∧ Cond.initialized "FrequencyShelfModel" ∈ TB := ⟨kw_1554, kw_1553, kw_75⟩
abbrev cX12_drops : ByteArray := prog_14_method_74_code
def yX12_drops : MethodName := ⟨RX12, "drops", "(III)I"⟩
theorem dX12_drops_0 : decode cX12_drops 0 = .ok (.iconst 0, 1) := by decide +kernel
theorem dX12_drops_1 : decode cX12_drops 1 = .ok (.istore 4, 2) := by decide +kernel
theorem dX12_drops_3 : decode cX12_drops 3 = .ok (.iconst 0, 1) := by decide +kernel
theorem dX12_drops_4 : decode cX12_drops 4 = .ok (.istore 5, 2) := by decide +kernel
theorem dX12_drops_6 : decode cX12_drops 6 = .ok (.iload 5, 2) := by decide +kernel
theorem dX12_drops_8 : decode cX12_drops 8 = .ok (.aload_n 0, 1) := by decide +kernel
theorem dX12_drops_9 : decode cX12_drops 9 = .ok (.getfield 9, 3) := by decide +kernel
theorem dX12_drops_12 : decode cX12_drops 12 = .ok (.bipush 13, 2) := by decide +kernel
theorem dX12_drops_14 : decode cX12_drops 14 = .ok (.iaload, 1) := by decide +kernel
theorem dX12_drops_15 : decode cX12_drops 15 = .ok (.if_icmp .ge 39, 3) := by decide +kernel
theorem dX12_drops_18 : decode cX12_drops 18 = .ok (.aload_n 0, 1) := by decide +kernel
theorem dX12_drops_19 : decode cX12_drops 19 = .ok (.iload_n 1, 1) := by decide +kernel
theorem dX12_drops_20 : decode cX12_drops 20 = .ok (.iload_n 2, 1) := by decide +kernel
theorem dX12_drops_21 : decode cX12_drops 21 = .ok (.bipush 98, 2) := by decide +kernel
theorem dX12_drops_23 : decode cX12_drops 23 = .ok (.iload 5, 2) := by decide +kernel
theorem dX12_drops_25 : decode cX12_drops 25 = .ok (.bipush 9, 2) := by decide +kernel
theorem dX12_drops_27 : decode cX12_drops 27 = .ok (.imul, 1) := by decide +kernel
theorem dX12_drops_28 : decode cX12_drops 28 = .ok (.iadd, 1) := by decide +kernel
theorem dX12_drops_29 : decode cX12_drops 29 = .ok (.invokevirtual 218, 3) := by decide +kernel
theorem dX12_drops_32 : decode cX12_drops 32 = .ok (.ifCond .eq 16, 3) := by decide +kernel
theorem dX12_drops_35 : decode cX12_drops 35 = .ok (.aload_n 0, 1) := by decide +kernel
theorem dX12_drops_36 : decode cX12_drops 36 = .ok (.iload 5, 2) := by decide +kernel
theorem dX12_drops_38 : decode cX12_drops 38 = .ok (.iload_n 3, 1) := by decide +kernel
theorem dX12_drops_39 : decode cX12_drops 39 = .ok (.invokevirtual 111, 3) := by decide +kernel
theorem dX12_drops_42 : decode cX12_drops 42 = .ok (.iinc 4 1, 3) := by decide +kernel
theorem dX12_drops_45 : decode cX12_drops 45 = .ok (.goto (-39), 3) := by decide +kernel
theorem dX12_drops_48 : decode cX12_drops 48 = .ok (.iinc 5 1, 3) := by decide +kernel
theorem dX12_drops_51 : decode cX12_drops 51 = .ok (.goto (-45), 3) := by decide +kernel
theorem dX12_drops_54 : decode cX12_drops 54 = .ok (.iconst 0, 1) := by decide +kernel
theorem dX12_drops_55 : decode cX12_drops 55 = .ok (.istore 6, 2) := by decide +kernel
theorem dX12_drops_57 : decode cX12_drops 57 = .ok (.iload 6, 2) := by decide +kernel
theorem dX12_drops_59 : decode cX12_drops 59 = .ok (.aload_n 0, 1) := by decide +kernel
theorem dX12_drops_60 : decode cX12_drops 60 = .ok (.getfield 9, 3) := by decide +kernel
theorem dX12_drops_63 : decode cX12_drops 63 = .ok (.bipush 14, 2) := by decide +kernel
theorem dX12_drops_65 : decode cX12_drops 65 = .ok (.iaload, 1) := by decide +kernel
theorem dX12_drops_66 : decode cX12_drops 66 = .ok (.if_icmp .ge 44, 3) := by decide +kernel
theorem dX12_drops_69 : decode cX12_drops 69 = .ok (.aload_n 0, 1) := by decide +kernel
theorem dX12_drops_70 : decode cX12_drops 70 = .ok (.iload_n 1, 1) := by decide +kernel
theorem dX12_drops_71 : decode cX12_drops 71 = .ok (.iload_n 2, 1) := by decide +kernel
theorem dX12_drops_72 : decode cX12_drops 72 = .ok (.sipush 1898, 3) := by decide +kernel
theorem dX12_drops_75 : decode cX12_drops 75 = .ok (.iload 6, 2) := by decide +kernel
theorem dX12_drops_77 : decode cX12_drops 77 = .ok (.iconst 5, 1) := by decide +kernel
theorem dX12_drops_78 : decode cX12_drops 78 = .ok (.imul, 1) := by decide +kernel
theorem dX12_drops_79 : decode cX12_drops 79 = .ok (.iadd, 1) := by decide +kernel
theorem dX12_drops_80 : decode cX12_drops 80 = .ok (.invokevirtual 218, 3) := by decide +kernel
theorem dX12_drops_83 : decode cX12_drops 83 = .ok (.ifCond .eq 21, 3) := by decide +kernel
theorem dX12_drops_86 : decode cX12_drops 86 = .ok (.aload_n 0, 1) := by decide +kernel
theorem dX12_drops_87 : decode cX12_drops 87 = .ok (.bipush 14, 2) := by decide +kernel
theorem dX12_drops_89 : decode cX12_drops 89 = .ok (.sipush 1898, 3) := by decide +kernel
theorem dX12_drops_92 : decode cX12_drops 92 = .ok (.iconst 5, 1) := by decide +kernel
theorem dX12_drops_93 : decode cX12_drops 93 = .ok (.iload 6, 2) := by decide +kernel
theorem dX12_drops_95 : decode cX12_drops 95 = .ok (.invokevirtual 103, 3) := by decide +kernel
theorem dX12_drops_98 : decode cX12_drops 98 = .ok (.iinc 4 1, 3) := by decide +kernel
theorem dX12_drops_101 : decode cX12_drops 101 = .ok (.goto (-44), 3) := by decide +kernel
theorem dX12_drops_104 : decode cX12_drops 104 = .ok (.iinc 6 1, 3) := by decide +kernel
theorem dX12_drops_107 : decode cX12_drops 107 = .ok (.goto (-50), 3) := by decide +kernel
theorem dX12_drops_110 : decode cX12_drops 110 = .ok (.iload 4, 2) := by decide +kernel
theorem dX12_drops_112 : decode cX12_drops 112 = .ok (.ireturn, 1) := by decide +kernel
theorem kw_1548 : Cond.methodLink "FrequencyShelfModel" 218 yX12_isMeant ∈ TB := tb_at 1548 (by decide +kernel) (by decide +kernel)
theorem kw_1551 : Cond.code yX12_isMeant cX12_isMeant 4 (some .boolean) ∈ TB := tb_at 1551 (by decide +kernel) (by decide +kernel)
theorem kw_1550 : Cond.instanceMethod yX12_isMeant ∈ TB := tb_at 1550 (by decide +kernel) (by decide +kernel)
theorem kw_55 : Cond.selects "FrequencyShelfModel" yX12_isMeant yX12_isMeant ∈ TB := tb_at 55 (by decide +kernel) (by decide +kernel)
theorem cv_X12_isMeant : Cond.code yX12_isMeant cX12_isMeant 4 (some .boolean) ∈ TB ∧ Cond.instanceMethod yX12_isMeant ∈ TB ∧ Cond.selects "FrequencyShelfModel" yX12_isMeant yX12_isMeant ∈ TB ∧ Cond.initialized "FrequencyShelfModel" ∈ TB := ⟨kw_1551, kw_1550, kw_55, kw_75⟩
abbrev cX12_drop : ByteArray := prog_14_method_75_code
def yX12_drop : MethodName := ⟨RX12, "drop", "()I"⟩
theorem dX12_drop_0 : decode cX12_drop 0 = .ok (.aload_n 0, 1) := by decide +kernel
theorem dX12_drop_1 : decode cX12_drop 1 = .ok (.invokevirtual 79, 3) := by decide +kernel
theorem dX12_drop_4 : decode cX12_drop 4 = .ok (.istore_n 1, 1) := by decide +kernel
theorem dX12_drop_5 : decode cX12_drop 5 = .ok (.iload_n 1, 1) := by decide +kernel
theorem dX12_drop_6 : decode cX12_drop 6 = .ok (.ifCond .ne 9, 3) := by decide +kernel
theorem dX12_drop_9 : decode cX12_drop 9 = .ok (.sipush (-1002), 3) := by decide +kernel
theorem dX12_drop_12 : decode cX12_drop 12 = .ok (.goto 11, 3) := by decide +kernel
theorem dX12_drop_15 : decode cX12_drop 15 = .ok (.aload_n 0, 1) := by decide +kernel
theorem dX12_drop_16 : decode cX12_drop 16 = .ok (.iconst 0, 1) := by decide +kernel
theorem dX12_drop_17 : decode cX12_drop 17 = .ok (.iload_n 1, 1) := by decide +kernel
theorem dX12_drop_18 : decode cX12_drop 18 = .ok (.bipush 9, 2) := by decide +kernel
theorem dX12_drop_20 : decode cX12_drop 20 = .ok (.invokevirtual 221, 3) := by decide +kernel
theorem dX12_drop_23 : decode cX12_drop 23 = .ok (.ireturn, 1) := by decide +kernel
theorem kw_1544 : Cond.methodLink "FrequencyShelfModel" 221 yX12_drops ∈ TB := tb_at 1544 (by decide +kernel) (by decide +kernel)
theorem kw_1547 : Cond.code yX12_drops cX12_drops 7 (some .int) ∈ TB := tb_at 1547 (by decide +kernel) (by decide +kernel)
theorem kw_1546 : Cond.instanceMethod yX12_drops ∈ TB := tb_at 1546 (by decide +kernel) (by decide +kernel)
theorem kw_54 : Cond.selects "FrequencyShelfModel" yX12_drops yX12_drops ∈ TB := tb_at 54 (by decide +kernel) (by decide +kernel)
theorem cv_X12_drops : Cond.code yX12_drops cX12_drops 7 (some .int) ∈ TB ∧ Cond.instanceMethod yX12_drops ∈ TB ∧ Cond.selects "FrequencyShelfModel" yX12_drops yX12_drops ∈ TB ∧ Cond.initialized "FrequencyShelfModel" ∈ TB := ⟨kw_1547, kw_1546, kw_54, kw_75⟩
abbrev cX12_dropTag : ByteArray := prog_14_method_76_code
def yX12_dropTag : MethodName := ⟨RX12, "dropTag", "(I)I"⟩
theorem dX12_dropTag_0 : decode cX12_dropTag 0 = .ok (.iload_n 1, 1) := by decide +kernel
theorem dX12_dropTag_1 : decode cX12_dropTag 1 = .ok (.iconst 0, 1) := by decide +kernel
theorem dX12_dropTag_2 : decode cX12_dropTag 2 = .ok (.bipush 7, 2) := by decide +kernel
theorem dX12_dropTag_4 : decode cX12_dropTag 4 = .ok (.invokestatic 38, 3) := by decide +kernel
theorem dX12_dropTag_7 : decode cX12_dropTag 7 = .ok (.ifCond .eq 14, 3) := by decide +kernel
theorem dX12_dropTag_10 : decode cX12_dropTag 10 = .ok (.aload_n 0, 1) := by decide +kernel
theorem dX12_dropTag_11 : decode cX12_dropTag 11 = .ok (.iconst 1, 1) := by decide +kernel
theorem dX12_dropTag_12 : decode cX12_dropTag 12 = .ok (.iload_n 1, 1) := by decide +kernel
theorem dX12_dropTag_13 : decode cX12_dropTag 13 = .ok (.bipush 9, 2) := by decide +kernel
theorem dX12_dropTag_15 : decode cX12_dropTag 15 = .ok (.invokevirtual 221, 3) := by decide +kernel
theorem dX12_dropTag_18 : decode cX12_dropTag 18 = .ok (.goto 6, 3) := by decide +kernel
theorem dX12_dropTag_21 : decode cX12_dropTag 21 = .ok (.sipush (-1001), 3) := by decide +kernel
theorem dX12_dropTag_24 : decode cX12_dropTag 24 = .ok (.ireturn, 1) := by decide +kernel
abbrev cX12_dropAll : ByteArray := prog_14_method_77_code
def yX12_dropAll : MethodName := ⟨RX12, "dropAll", "()I"⟩
theorem dX12_dropAll_0 : decode cX12_dropAll 0 = .ok (.aload_n 0, 1) := by decide +kernel
theorem dX12_dropAll_1 : decode cX12_dropAll 1 = .ok (.invokevirtual 79, 3) := by decide +kernel
theorem dX12_dropAll_4 : decode cX12_dropAll 4 = .ok (.istore_n 1, 1) := by decide +kernel
theorem dX12_dropAll_5 : decode cX12_dropAll 5 = .ok (.iload_n 1, 1) := by decide +kernel
theorem dX12_dropAll_6 : decode cX12_dropAll 6 = .ok (.ifCond .ne 9, 3) := by decide +kernel
theorem dX12_dropAll_9 : decode cX12_dropAll 9 = .ok (.sipush (-1002), 3) := by decide +kernel
theorem dX12_dropAll_12 : decode cX12_dropAll 12 = .ok (.goto 11, 3) := by decide +kernel
theorem dX12_dropAll_15 : decode cX12_dropAll 15 = .ok (.aload_n 0, 1) := by decide +kernel
theorem dX12_dropAll_16 : decode cX12_dropAll 16 = .ok (.iconst 2, 1) := by decide +kernel
theorem dX12_dropAll_17 : decode cX12_dropAll 17 = .ok (.iload_n 1, 1) := by decide +kernel
theorem dX12_dropAll_18 : decode cX12_dropAll 18 = .ok (.bipush 9, 2) := by decide +kernel
theorem dX12_dropAll_20 : decode cX12_dropAll 20 = .ok (.invokevirtual 221, 3) := by decide +kernel
theorem dX12_dropAll_23 : decode cX12_dropAll 23 = .ok (.ireturn, 1) := by decide +kernel
abbrev cX12_tagged : ByteArray := prog_14_method_79_code
def yX12_tagged : MethodName := ⟨RX12, "tagged", "(II)I"⟩
theorem dX12_tagged_0 : decode cX12_tagged 0 = .ok (.iload_n 1, 1) := by decide +kernel
theorem dX12_tagged_1 : decode cX12_tagged 1 = .ok (.iconst 0, 1) := by decide +kernel
theorem dX12_tagged_2 : decode cX12_tagged 2 = .ok (.bipush 7, 2) := by decide +kernel
theorem dX12_tagged_4 : decode cX12_tagged 4 = .ok (.invokestatic 38, 3) := by decide +kernel
theorem dX12_tagged_7 : decode cX12_tagged 7 = .ok (.ifCond .eq 12, 3) := by decide +kernel
theorem dX12_tagged_10 : decode cX12_tagged 10 = .ok (.iload_n 2, 1) := by decide +kernel
theorem dX12_tagged_11 : decode cX12_tagged 11 = .ok (.iconst 0, 1) := by decide +kernel
theorem dX12_tagged_12 : decode cX12_tagged 12 = .ok (.iconst 2, 1) := by decide +kernel
theorem dX12_tagged_13 : decode cX12_tagged 13 = .ok (.invokestatic 38, 3) := by decide +kernel
theorem dX12_tagged_16 : decode cX12_tagged 16 = .ok (.ifCond .ne 7, 3) := by decide +kernel
theorem dX12_tagged_19 : decode cX12_tagged 19 = .ok (.sipush (-1001), 3) := by decide +kernel
theorem dX12_tagged_22 : decode cX12_tagged 22 = .ok (.ireturn, 1) := by decide +kernel
theorem dX12_tagged_23 : decode cX12_tagged 23 = .ok (.iconst 0, 1) := by decide +kernel
theorem dX12_tagged_24 : decode cX12_tagged 24 = .ok (.istore_n 3, 1) := by decide +kernel
theorem dX12_tagged_25 : decode cX12_tagged 25 = .ok (.iconst 0, 1) := by decide +kernel
theorem dX12_tagged_26 : decode cX12_tagged 26 = .ok (.istore 4, 2) := by decide +kernel
theorem dX12_tagged_28 : decode cX12_tagged 28 = .ok (.iload 4, 2) := by decide +kernel
theorem dX12_tagged_30 : decode cX12_tagged 30 = .ok (.aload_n 0, 1) := by decide +kernel
theorem dX12_tagged_31 : decode cX12_tagged 31 = .ok (.getfield 9, 3) := by decide +kernel
theorem dX12_tagged_34 : decode cX12_tagged 34 = .ok (.bipush 13, 2) := by decide +kernel
theorem dX12_tagged_36 : decode cX12_tagged 36 = .ok (.iaload, 1) := by decide +kernel
theorem dX12_tagged_37 : decode cX12_tagged 37 = .ok (.if_icmp .ge 51, 3) := by decide +kernel
theorem dX12_tagged_40 : decode cX12_tagged 40 = .ok (.aload_n 0, 1) := by decide +kernel
theorem dX12_tagged_41 : decode cX12_tagged 41 = .ok (.iload 4, 2) := by decide +kernel
theorem dX12_tagged_43 : decode cX12_tagged 43 = .ok (.iconst 3, 1) := by decide +kernel
theorem dX12_tagged_44 : decode cX12_tagged 44 = .ok (.invokevirtual 86, 3) := by decide +kernel
theorem dX12_tagged_47 : decode cX12_tagged 47 = .ok (.iload_n 1, 1) := by decide +kernel
theorem dX12_tagged_48 : decode cX12_tagged 48 = .ok (.ishr, 1) := by decide +kernel
theorem dX12_tagged_49 : decode cX12_tagged 49 = .ok (.iconst 1, 1) := by decide +kernel
theorem dX12_tagged_50 : decode cX12_tagged 50 = .ok (.iand, 1) := by decide +kernel
theorem dX12_tagged_51 : decode cX12_tagged 51 = .ok (.iconst 1, 1) := by decide +kernel
theorem dX12_tagged_52 : decode cX12_tagged 52 = .ok (.if_icmp .ne 30, 3) := by decide +kernel
theorem dX12_tagged_55 : decode cX12_tagged 55 = .ok (.iload_n 3, 1) := by decide +kernel
theorem dX12_tagged_56 : decode cX12_tagged 56 = .ok (.iload_n 2, 1) := by decide +kernel
theorem dX12_tagged_57 : decode cX12_tagged 57 = .ok (.ifCond .ne 7, 3) := by decide +kernel
theorem dX12_tagged_60 : decode cX12_tagged 60 = .ok (.iconst 1, 1) := by decide +kernel
theorem dX12_tagged_61 : decode cX12_tagged 61 = .ok (.goto 19, 3) := by decide +kernel
theorem dX12_tagged_64 : decode cX12_tagged 64 = .ok (.aload_n 0, 1) := by decide +kernel
theorem dX12_tagged_65 : decode cX12_tagged 65 = .ok (.iload 4, 2) := by decide +kernel
theorem dX12_tagged_67 : decode cX12_tagged 67 = .ok (.iload_n 2, 1) := by decide +kernel
theorem dX12_tagged_68 : decode cX12_tagged 68 = .ok (.iconst 1, 1) := by decide +kernel
theorem dX12_tagged_69 : decode cX12_tagged 69 = .ok (.if_icmp .ne 7, 3) := by decide +kernel
theorem dX12_tagged_72 : decode cX12_tagged 72 = .ok (.iconst 2, 1) := by decide +kernel
theorem dX12_tagged_73 : decode cX12_tagged 73 = .ok (.goto 4, 3) := by decide +kernel
theorem dX12_tagged_76 : decode cX12_tagged 76 = .ok (.iconst 5, 1) := by decide +kernel
theorem dX12_tagged_77 : decode cX12_tagged 77 = .ok (.invokevirtual 86, 3) := by decide +kernel
theorem dX12_tagged_80 : decode cX12_tagged 80 = .ok (.iadd, 1) := by decide +kernel
theorem dX12_tagged_81 : decode cX12_tagged 81 = .ok (.istore_n 3, 1) := by decide +kernel
theorem dX12_tagged_82 : decode cX12_tagged 82 = .ok (.iinc 4 1, 3) := by decide +kernel
theorem dX12_tagged_85 : decode cX12_tagged 85 = .ok (.goto (-57), 3) := by decide +kernel
theorem dX12_tagged_88 : decode cX12_tagged 88 = .ok (.iload_n 3, 1) := by decide +kernel
theorem dX12_tagged_89 : decode cX12_tagged 89 = .ok (.ireturn, 1) := by decide +kernel
abbrev cX12_sweep : ByteArray := prog_14_method_78_code
def yX12_sweep : MethodName := ⟨RX12, "sweep", "()I"⟩
theorem dX12_sweep_0 : decode cX12_sweep 0 = .ok (.aload_n 0, 1) := by decide +kernel
theorem dX12_sweep_1 : decode cX12_sweep 1 = .ok (.iconst 3, 1) := by decide +kernel
theorem dX12_sweep_2 : decode cX12_sweep 2 = .ok (.iconst 0, 1) := by decide +kernel
theorem dX12_sweep_3 : decode cX12_sweep 3 = .ok (.bipush 8, 2) := by decide +kernel
theorem dX12_sweep_5 : decode cX12_sweep 5 = .ok (.invokevirtual 221, 3) := by decide +kernel
theorem dX12_sweep_8 : decode cX12_sweep 8 = .ok (.ireturn, 1) := by decide +kernel
abbrev cX12_goingAt : ByteArray := prog_14_method_80_code
def yX12_goingAt : MethodName := ⟨RX12, "goingAt", "(I)I"⟩
theorem dX12_goingAt_0 : decode cX12_goingAt 0 = .ok (.iconst 0, 1) := by decide +kernel
theorem dX12_goingAt_1 : decode cX12_goingAt 1 = .ok (.istore_n 2, 1) := by decide +kernel
theorem dX12_goingAt_2 : decode cX12_goingAt 2 = .ok (.iload_n 2, 1) := by decide +kernel
theorem dX12_goingAt_3 : decode cX12_goingAt 3 = .ok (.aload_n 0, 1) := by decide +kernel
theorem dX12_goingAt_4 : decode cX12_goingAt 4 = .ok (.getfield 9, 3) := by decide +kernel
theorem dX12_goingAt_7 : decode cX12_goingAt 7 = .ok (.bipush 13, 2) := by decide +kernel
theorem dX12_goingAt_9 : decode cX12_goingAt 9 = .ok (.iaload, 1) := by decide +kernel
theorem dX12_goingAt_10 : decode cX12_goingAt 10 = .ok (.if_icmp .ge 63, 3) := by decide +kernel
theorem dX12_goingAt_13 : decode cX12_goingAt 13 = .ok (.iconst 0, 1) := by decide +kernel
theorem dX12_goingAt_14 : decode cX12_goingAt 14 = .ok (.istore_n 3, 1) := by decide +kernel
theorem dX12_goingAt_15 : decode cX12_goingAt 15 = .ok (.iconst 0, 1) := by decide +kernel
theorem dX12_goingAt_16 : decode cX12_goingAt 16 = .ok (.istore 4, 2) := by decide +kernel
theorem dX12_goingAt_18 : decode cX12_goingAt 18 = .ok (.iload 4, 2) := by decide +kernel
theorem dX12_goingAt_20 : decode cX12_goingAt 20 = .ok (.aload_n 0, 1) := by decide +kernel
theorem dX12_goingAt_21 : decode cX12_goingAt 21 = .ok (.getfield 9, 3) := by decide +kernel
theorem dX12_goingAt_24 : decode cX12_goingAt 24 = .ok (.bipush 13, 2) := by decide +kernel
theorem dX12_goingAt_26 : decode cX12_goingAt 26 = .ok (.iaload, 1) := by decide +kernel
theorem dX12_goingAt_27 : decode cX12_goingAt 27 = .ok (.if_icmp .ge 33, 3) := by decide +kernel
theorem dX12_goingAt_30 : decode cX12_goingAt 30 = .ok (.iload_n 3, 1) := by decide +kernel
theorem dX12_goingAt_31 : decode cX12_goingAt 31 = .ok (.iload 4, 2) := by decide +kernel
theorem dX12_goingAt_33 : decode cX12_goingAt 33 = .ok (.iload_n 2, 1) := by decide +kernel
theorem dX12_goingAt_34 : decode cX12_goingAt 34 = .ok (.if_icmp .eq 17, 3) := by decide +kernel
theorem dX12_goingAt_37 : decode cX12_goingAt 37 = .ok (.aload_n 0, 1) := by decide +kernel
theorem dX12_goingAt_38 : decode cX12_goingAt 38 = .ok (.iload 4, 2) := by decide +kernel
theorem dX12_goingAt_40 : decode cX12_goingAt 40 = .ok (.iload_n 2, 1) := by decide +kernel
theorem dX12_goingAt_41 : decode cX12_goingAt 41 = .ok (.invokevirtual 96, 3) := by decide +kernel
theorem dX12_goingAt_44 : decode cX12_goingAt 44 = .ok (.ifCond .eq 7, 3) := by decide +kernel
theorem dX12_goingAt_47 : decode cX12_goingAt 47 = .ok (.iconst 1, 1) := by decide +kernel
theorem dX12_goingAt_48 : decode cX12_goingAt 48 = .ok (.goto 4, 3) := by decide +kernel
theorem dX12_goingAt_51 : decode cX12_goingAt 51 = .ok (.iconst 0, 1) := by decide +kernel
theorem dX12_goingAt_52 : decode cX12_goingAt 52 = .ok (.iadd, 1) := by decide +kernel
theorem dX12_goingAt_53 : decode cX12_goingAt 53 = .ok (.istore_n 3, 1) := by decide +kernel
theorem dX12_goingAt_54 : decode cX12_goingAt 54 = .ok (.iinc 4 1, 3) := by decide +kernel
theorem dX12_goingAt_57 : decode cX12_goingAt 57 = .ok (.goto (-39), 3) := by decide +kernel
theorem dX12_goingAt_60 : decode cX12_goingAt 60 = .ok (.iload_n 3, 1) := by decide +kernel
theorem dX12_goingAt_61 : decode cX12_goingAt 61 = .ok (.iload_n 1, 1) := by decide +kernel
theorem dX12_goingAt_62 : decode cX12_goingAt 62 = .ok (.if_icmp .ne 5, 3) := by decide +kernel
theorem dX12_goingAt_65 : decode cX12_goingAt 65 = .ok (.iload_n 2, 1) := by decide +kernel
theorem dX12_goingAt_66 : decode cX12_goingAt 66 = .ok (.ireturn, 1) := by decide +kernel
theorem dX12_goingAt_67 : decode cX12_goingAt 67 = .ok (.iinc 2 1, 3) := by decide +kernel
theorem dX12_goingAt_70 : decode cX12_goingAt 70 = .ok (.goto (-68), 3) := by decide +kernel
theorem dX12_goingAt_73 : decode cX12_goingAt 73 = .ok (.iconst (-1), 1) := by decide +kernel
theorem dX12_goingAt_74 : decode cX12_goingAt 74 = .ok (.ireturn, 1) := by decide +kernel
abbrev cX12_toGo : ByteArray := prog_14_method_81_code
def yX12_toGo : MethodName := ⟨RX12, "toGo", "(II)I"⟩
theorem dX12_toGo_0 : decode cX12_toGo 0 = .ok (.iload_n 1, 1) := by decide +kernel
theorem dX12_toGo_1 : decode cX12_toGo 1 = .ok (.ifCond .lt 9, 3) := by decide +kernel
theorem dX12_toGo_4 : decode cX12_toGo 4 = .ok (.iload_n 2, 1) := by decide +kernel
theorem dX12_toGo_5 : decode cX12_toGo 5 = .ok (.bipush (-2), 2) := by decide +kernel
theorem dX12_toGo_7 : decode cX12_toGo 7 = .ok (.if_icmp .ge 7, 3) := by decide +kernel
theorem dX12_toGo_10 : decode cX12_toGo 10 = .ok (.sipush (-1001), 3) := by decide +kernel
theorem dX12_toGo_13 : decode cX12_toGo 13 = .ok (.ireturn, 1) := by decide +kernel
theorem dX12_toGo_14 : decode cX12_toGo 14 = .ok (.aload_n 0, 1) := by decide +kernel
theorem dX12_toGo_15 : decode cX12_toGo 15 = .ok (.iload_n 1, 1) := by decide +kernel
theorem dX12_toGo_16 : decode cX12_toGo 16 = .ok (.invokevirtual 225, 3) := by decide +kernel
theorem dX12_toGo_19 : decode cX12_toGo 19 = .ok (.istore_n 3, 1) := by decide +kernel
theorem dX12_toGo_20 : decode cX12_toGo 20 = .ok (.iload_n 3, 1) := by decide +kernel
theorem dX12_toGo_21 : decode cX12_toGo 21 = .ok (.ifCond .ge 7, 3) := by decide +kernel
theorem dX12_toGo_24 : decode cX12_toGo 24 = .ok (.sipush (-1003), 3) := by decide +kernel
theorem dX12_toGo_27 : decode cX12_toGo 27 = .ok (.ireturn, 1) := by decide +kernel
theorem dX12_toGo_28 : decode cX12_toGo 28 = .ok (.iload_n 2, 1) := by decide +kernel
theorem dX12_toGo_29 : decode cX12_toGo 29 = .ok (.bipush (-2), 2) := by decide +kernel
theorem dX12_toGo_31 : decode cX12_toGo 31 = .ok (.if_icmp .ne 12, 3) := by decide +kernel
theorem dX12_toGo_34 : decode cX12_toGo 34 = .ok (.aload_n 0, 1) := by decide +kernel
theorem dX12_toGo_35 : decode cX12_toGo 35 = .ok (.iload_n 3, 1) := by decide +kernel
theorem dX12_toGo_36 : decode cX12_toGo 36 = .ok (.iconst 5, 1) := by decide +kernel
theorem dX12_toGo_37 : decode cX12_toGo 37 = .ok (.invokevirtual 86, 3) := by decide +kernel
theorem dX12_toGo_40 : decode cX12_toGo 40 = .ok (.goto 13, 3) := by decide +kernel
theorem dX12_toGo_43 : decode cX12_toGo 43 = .ok (.aload_n 0, 1) := by decide +kernel
theorem dX12_toGo_44 : decode cX12_toGo 44 = .ok (.iload_n 3, 1) := by decide +kernel
theorem dX12_toGo_45 : decode cX12_toGo 45 = .ok (.iconst 0, 1) := by decide +kernel
theorem dX12_toGo_46 : decode cX12_toGo 46 = .ok (.invokevirtual 86, 3) := by decide +kernel
theorem dX12_toGo_49 : decode cX12_toGo 49 = .ok (.iload_n 2, 1) := by decide +kernel
theorem dX12_toGo_50 : decode cX12_toGo 50 = .ok (.invokestatic 182, 3) := by decide +kernel
theorem dX12_toGo_53 : decode cX12_toGo 53 = .ok (.ireturn, 1) := by decide +kernel
theorem kw_1575 : Cond.methodLink "FrequencyShelfModel" 225 yX12_goingAt ∈ TB := tb_at 1575 (by decide +kernel) (by decide +kernel)
theorem kw_1578 : Cond.code yX12_goingAt cX12_goingAt 5 (some .int) ∈ TB := tb_at 1578 (by decide +kernel) (by decide +kernel)
theorem kw_1577 : Cond.instanceMethod yX12_goingAt ∈ TB := tb_at 1577 (by decide +kernel) (by decide +kernel)
theorem kw_56 : Cond.selects "FrequencyShelfModel" yX12_goingAt yX12_goingAt ∈ TB := tb_at 56 (by decide +kernel) (by decide +kernel)
theorem cv_X12_goingAt : Cond.code yX12_goingAt cX12_goingAt 5 (some .int) ∈ TB ∧ Cond.instanceMethod yX12_goingAt ∈ TB ∧ Cond.selects "FrequencyShelfModel" yX12_goingAt yX12_goingAt ∈ TB ∧ Cond.initialized "FrequencyShelfModel" ∈ TB := ⟨kw_1578, kw_1577, kw_56, kw_75⟩
abbrev cX12_would : ByteArray := prog_14_method_82_code
def yX12_would : MethodName := ⟨RX12, "would", "(I)I"⟩
theorem dX12_would_0 : decode cX12_would 0 = .ok (.iload_n 1, 1) := by decide +kernel
theorem dX12_would_1 : decode cX12_would 1 = .ok (.iconst 1, 1) := by decide +kernel
theorem dX12_would_2 : decode cX12_would 2 = .ok (.bipush 20, 2) := by decide +kernel
theorem dX12_would_4 : decode cX12_would 4 = .ok (.invokestatic 38, 3) := by decide +kernel
theorem dX12_would_7 : decode cX12_would 7 = .ok (.ifCond .ne 7, 3) := by decide +kernel
theorem dX12_would_10 : decode cX12_would 10 = .ok (.sipush (-1001), 3) := by decide +kernel
theorem dX12_would_13 : decode cX12_would 13 = .ok (.ireturn, 1) := by decide +kernel
theorem dX12_would_14 : decode cX12_would 14 = .ok (.aload_n 0, 1) := by decide +kernel
theorem dX12_would_15 : decode cX12_would 15 = .ok (.invokevirtual 79, 3) := by decide +kernel
theorem dX12_would_18 : decode cX12_would 18 = .ok (.istore_n 2, 1) := by decide +kernel
theorem dX12_would_19 : decode cX12_would 19 = .ok (.iload_n 2, 1) := by decide +kernel
theorem dX12_would_20 : decode cX12_would 20 = .ok (.ifCond .ne 7, 3) := by decide +kernel
theorem dX12_would_23 : decode cX12_would 23 = .ok (.sipush (-1002), 3) := by decide +kernel
theorem dX12_would_26 : decode cX12_would 26 = .ok (.ireturn, 1) := by decide +kernel
theorem dX12_would_27 : decode cX12_would 27 = .ok (.aload_n 0, 1) := by decide +kernel
theorem dX12_would_28 : decode cX12_would 28 = .ok (.iload_n 2, 1) := by decide +kernel
theorem dX12_would_29 : decode cX12_would 29 = .ok (.invokevirtual 171, 3) := by decide +kernel
theorem dX12_would_32 : decode cX12_would 32 = .ok (.istore_n 3, 1) := by decide +kernel
theorem dX12_would_33 : decode cX12_would 33 = .ok (.iload_n 3, 1) := by decide +kernel
theorem dX12_would_34 : decode cX12_would 34 = .ok (.ifCond .lt 16, 3) := by decide +kernel
theorem dX12_would_37 : decode cX12_would 37 = .ok (.iload_n 1, 1) := by decide +kernel
theorem dX12_would_38 : decode cX12_would 38 = .ok (.aload_n 0, 1) := by decide +kernel
theorem dX12_would_39 : decode cX12_would 39 = .ok (.getfield 9, 3) := by decide +kernel
theorem dX12_would_42 : decode cX12_would 42 = .ok (.iconst 0, 1) := by decide +kernel
theorem dX12_would_43 : decode cX12_would 43 = .ok (.iaload, 1) := by decide +kernel
theorem dX12_would_44 : decode cX12_would 44 = .ok (.if_icmp .le 19, 3) := by decide +kernel
theorem dX12_would_47 : decode cX12_would 47 = .ok (.goto 12, 3) := by decide +kernel
theorem dX12_would_50 : decode cX12_would 50 = .ok (.aload_n 0, 1) := by decide +kernel
theorem dX12_would_51 : decode cX12_would 51 = .ok (.iload_n 2, 1) := by decide +kernel
theorem dX12_would_52 : decode cX12_would 52 = .ok (.iload_n 1, 1) := by decide +kernel
theorem dX12_would_53 : decode cX12_would 53 = .ok (.invokevirtual 130, 3) := by decide +kernel
theorem dX12_would_56 : decode cX12_would 56 = .ok (.ifCond .ne 7, 3) := by decide +kernel
theorem dX12_would_59 : decode cX12_would 59 = .ok (.sipush (-1003), 3) := by decide +kernel
theorem dX12_would_62 : decode cX12_would 62 = .ok (.ireturn, 1) := by decide +kernel
theorem dX12_would_63 : decode cX12_would 63 = .ok (.aload_n 0, 1) := by decide +kernel
theorem dX12_would_64 : decode cX12_would 64 = .ok (.invokevirtual 120, 3) := by decide +kernel
theorem dX12_would_67 : decode cX12_would 67 = .ok (.iload_n 1, 1) := by decide +kernel
theorem dX12_would_68 : decode cX12_would 68 = .ok (.iadd, 1) := by decide +kernel
theorem dX12_would_69 : decode cX12_would 69 = .ok (.iload_n 3, 1) := by decide +kernel
theorem dX12_would_70 : decode cX12_would 70 = .ok (.ifCond .ge 7, 3) := by decide +kernel
theorem dX12_would_73 : decode cX12_would 73 = .ok (.iconst 0, 1) := by decide +kernel
theorem dX12_would_74 : decode cX12_would 74 = .ok (.goto 9, 3) := by decide +kernel
theorem dX12_would_77 : decode cX12_would 77 = .ok (.aload_n 0, 1) := by decide +kernel
theorem dX12_would_78 : decode cX12_would 78 = .ok (.iload_n 3, 1) := by decide +kernel
theorem dX12_would_79 : decode cX12_would 79 = .ok (.iconst 2, 1) := by decide +kernel
theorem dX12_would_80 : decode cX12_would 80 = .ok (.invokevirtual 86, 3) := by decide +kernel
theorem dX12_would_83 : decode cX12_would 83 = .ok (.isub, 1) := by decide +kernel
theorem dX12_would_84 : decode cX12_would 84 = .ok (.istore 4, 2) := by decide +kernel
theorem dX12_would_86 : decode cX12_would 86 = .ok (.iconst 0, 1) := by decide +kernel
theorem dX12_would_87 : decode cX12_would 87 = .ok (.istore 5, 2) := by decide +kernel
theorem dX12_would_89 : decode cX12_would 89 = .ok (.iconst 0, 1) := by decide +kernel
theorem dX12_would_90 : decode cX12_would 90 = .ok (.istore 6, 2) := by decide +kernel
theorem dX12_would_92 : decode cX12_would 92 = .ok (.iload 4, 2) := by decide +kernel
theorem dX12_would_94 : decode cX12_would 94 = .ok (.aload_n 0, 1) := by decide +kernel
theorem dX12_would_95 : decode cX12_would 95 = .ok (.getfield 9, 3) := by decide +kernel
theorem dX12_would_98 : decode cX12_would 98 = .ok (.iconst 0, 1) := by decide +kernel
theorem dX12_would_99 : decode cX12_would 99 = .ok (.iaload, 1) := by decide +kernel
theorem dX12_would_100 : decode cX12_would 100 = .ok (.if_icmp .le 38, 3) := by decide +kernel
theorem dX12_would_103 : decode cX12_would 103 = .ok (.aload_n 0, 1) := by decide +kernel
theorem dX12_would_104 : decode cX12_would 104 = .ok (.iload 6, 2) := by decide +kernel
theorem dX12_would_106 : decode cX12_would 106 = .ok (.invokevirtual 225, 3) := by decide +kernel
theorem dX12_would_109 : decode cX12_would 109 = .ok (.istore 7, 2) := by decide +kernel
theorem dX12_would_111 : decode cX12_would 111 = .ok (.iload 7, 2) := by decide +kernel
theorem dX12_would_113 : decode cX12_would 113 = .ok (.iload_n 3, 1) := by decide +kernel
theorem dX12_would_114 : decode cX12_would 114 = .ok (.if_icmp .eq 18, 3) := by decide +kernel
theorem dX12_would_117 : decode cX12_would 117 = .ok (.iload 4, 2) := by decide +kernel
theorem dX12_would_119 : decode cX12_would 119 = .ok (.aload_n 0, 1) := by decide +kernel
theorem dX12_would_120 : decode cX12_would 120 = .ok (.iload 7, 2) := by decide +kernel
theorem dX12_would_122 : decode cX12_would 122 = .ok (.iconst 2, 1) := by decide +kernel
theorem dX12_would_123 : decode cX12_would 123 = .ok (.invokevirtual 86, 3) := by decide +kernel
theorem dX12_would_126 : decode cX12_would 126 = .ok (.isub, 1) := by decide +kernel
theorem dX12_would_127 : decode cX12_would 127 = .ok (.istore 4, 2) := by decide +kernel
theorem dX12_would_129 : decode cX12_would 129 = .ok (.iinc 5 1, 3) := by decide +kernel
theorem dX12_would_132 : decode cX12_would 132 = .ok (.iinc 6 1, 3) := by decide +kernel
theorem dX12_would_135 : decode cX12_would 135 = .ok (.goto (-43), 3) := by decide +kernel
theorem dX12_would_138 : decode cX12_would 138 = .ok (.iload 5, 2) := by decide +kernel
theorem dX12_would_140 : decode cX12_would 140 = .ok (.ireturn, 1) := by decide +kernel
abbrev cX12_cold : ByteArray := prog_14_method_83_code
def yX12_cold : MethodName := ⟨RX12, "cold", "(II)I"⟩
theorem dX12_cold_0 : decode cX12_cold 0 = .ok (.iload_n 1, 1) := by decide +kernel
theorem dX12_cold_1 : decode cX12_cold 1 = .ok (.ifCond .lt 9, 3) := by decide +kernel
theorem dX12_cold_4 : decode cX12_cold 4 = .ok (.iload_n 2, 1) := by decide +kernel
theorem dX12_cold_5 : decode cX12_cold 5 = .ok (.bipush (-3), 2) := by decide +kernel
theorem dX12_cold_7 : decode cX12_cold 7 = .ok (.if_icmp .ge 7, 3) := by decide +kernel
theorem dX12_cold_10 : decode cX12_cold 10 = .ok (.sipush (-1001), 3) := by decide +kernel
theorem dX12_cold_13 : decode cX12_cold 13 = .ok (.ireturn, 1) := by decide +kernel
theorem dX12_cold_14 : decode cX12_cold 14 = .ok (.iload_n 1, 1) := by decide +kernel
theorem dX12_cold_15 : decode cX12_cold 15 = .ok (.aload_n 0, 1) := by decide +kernel
theorem dX12_cold_16 : decode cX12_cold 16 = .ok (.getfield 9, 3) := by decide +kernel
theorem dX12_cold_19 : decode cX12_cold 19 = .ok (.bipush 14, 2) := by decide +kernel
theorem dX12_cold_21 : decode cX12_cold 21 = .ok (.iaload, 1) := by decide +kernel
theorem dX12_cold_22 : decode cX12_cold 22 = .ok (.if_icmp .lt 7, 3) := by decide +kernel
theorem dX12_cold_25 : decode cX12_cold 25 = .ok (.sipush (-1003), 3) := by decide +kernel
theorem dX12_cold_28 : decode cX12_cold 28 = .ok (.ireturn, 1) := by decide +kernel
theorem dX12_cold_29 : decode cX12_cold 29 = .ok (.iload_n 2, 1) := by decide +kernel
theorem dX12_cold_30 : decode cX12_cold 30 = .ok (.iconst (-1), 1) := by decide +kernel
theorem dX12_cold_31 : decode cX12_cold 31 = .ok (.if_icmp .ge 20, 3) := by decide +kernel
theorem dX12_cold_34 : decode cX12_cold 34 = .ok (.aload_n 0, 1) := by decide +kernel
theorem dX12_cold_35 : decode cX12_cold 35 = .ok (.iload_n 1, 1) := by decide +kernel
theorem dX12_cold_36 : decode cX12_cold 36 = .ok (.iload_n 2, 1) := by decide +kernel
theorem dX12_cold_37 : decode cX12_cold 37 = .ok (.bipush (-2), 2) := by decide +kernel
theorem dX12_cold_39 : decode cX12_cold 39 = .ok (.if_icmp .ne 7, 3) := by decide +kernel
theorem dX12_cold_42 : decode cX12_cold 42 = .ok (.iconst 1, 1) := by decide +kernel
theorem dX12_cold_43 : decode cX12_cold 43 = .ok (.goto 4, 3) := by decide +kernel
theorem dX12_cold_46 : decode cX12_cold 46 = .ok (.iconst 4, 1) := by decide +kernel
theorem dX12_cold_47 : decode cX12_cold 47 = .ok (.invokevirtual 117, 3) := by decide +kernel
theorem dX12_cold_50 : decode cX12_cold 50 = .ok (.ireturn, 1) := by decide +kernel
theorem dX12_cold_51 : decode cX12_cold 51 = .ok (.aload_n 0, 1) := by decide +kernel
theorem dX12_cold_52 : decode cX12_cold 52 = .ok (.iload_n 1, 1) := by decide +kernel
theorem dX12_cold_53 : decode cX12_cold 53 = .ok (.iconst 0, 1) := by decide +kernel
theorem dX12_cold_54 : decode cX12_cold 54 = .ok (.invokevirtual 117, 3) := by decide +kernel
theorem dX12_cold_57 : decode cX12_cold 57 = .ok (.iload_n 2, 1) := by decide +kernel
theorem dX12_cold_58 : decode cX12_cold 58 = .ok (.invokestatic 182, 3) := by decide +kernel
theorem dX12_cold_61 : decode cX12_cold 61 = .ok (.ireturn, 1) := by decide +kernel
abbrev cX12_follows : ByteArray := prog_14_method_84_code
def yX12_follows : MethodName := ⟨RX12, "follows", "(I)I"⟩
theorem dX12_follows_0 : decode cX12_follows 0 = .ok (.iload_n 1, 1) := by decide +kernel
theorem dX12_follows_1 : decode cX12_follows 1 = .ok (.bipush (-2), 2) := by decide +kernel
theorem dX12_follows_3 : decode cX12_follows 3 = .ok (.if_icmp .ge 7, 3) := by decide +kernel
theorem dX12_follows_6 : decode cX12_follows 6 = .ok (.sipush (-1001), 3) := by decide +kernel
theorem dX12_follows_9 : decode cX12_follows 9 = .ok (.ireturn, 1) := by decide +kernel
theorem dX12_follows_10 : decode cX12_follows 10 = .ok (.aload_n 0, 1) := by decide +kernel
theorem dX12_follows_11 : decode cX12_follows 11 = .ok (.invokevirtual 79, 3) := by decide +kernel
theorem dX12_follows_14 : decode cX12_follows 14 = .ok (.istore_n 2, 1) := by decide +kernel
theorem dX12_follows_15 : decode cX12_follows 15 = .ok (.iload_n 2, 1) := by decide +kernel
theorem dX12_follows_16 : decode cX12_follows 16 = .ok (.ifCond .ne 7, 3) := by decide +kernel
theorem dX12_follows_19 : decode cX12_follows 19 = .ok (.sipush (-1002), 3) := by decide +kernel
theorem dX12_follows_22 : decode cX12_follows 22 = .ok (.ireturn, 1) := by decide +kernel
theorem dX12_follows_23 : decode cX12_follows 23 = .ok (.iconst 0, 1) := by decide +kernel
theorem dX12_follows_24 : decode cX12_follows 24 = .ok (.istore_n 3, 1) := by decide +kernel
theorem dX12_follows_25 : decode cX12_follows 25 = .ok (.iconst 0, 1) := by decide +kernel
theorem dX12_follows_26 : decode cX12_follows 26 = .ok (.istore 4, 2) := by decide +kernel
theorem dX12_follows_28 : decode cX12_follows 28 = .ok (.iconst 0, 1) := by decide +kernel
theorem dX12_follows_29 : decode cX12_follows 29 = .ok (.istore 5, 2) := by decide +kernel
theorem dX12_follows_31 : decode cX12_follows 31 = .ok (.iload 5, 2) := by decide +kernel
theorem dX12_follows_33 : decode cX12_follows 33 = .ok (.iconst 1, 1) := by decide +kernel
theorem dX12_follows_34 : decode cX12_follows 34 = .ok (.iadd, 1) := by decide +kernel
theorem dX12_follows_35 : decode cX12_follows 35 = .ok (.aload_n 0, 1) := by decide +kernel
theorem dX12_follows_36 : decode cX12_follows 36 = .ok (.getfield 9, 3) := by decide +kernel
theorem dX12_follows_39 : decode cX12_follows 39 = .ok (.bipush 18, 2) := by decide +kernel
theorem dX12_follows_41 : decode cX12_follows 41 = .ok (.iaload, 1) := by decide +kernel
theorem dX12_follows_42 : decode cX12_follows 42 = .ok (.if_icmp .ge 132, 3) := by decide +kernel
theorem dX12_follows_45 : decode cX12_follows 45 = .ok (.aload_n 0, 1) := by decide +kernel
theorem dX12_follows_46 : decode cX12_follows 46 = .ok (.getfield 9, 3) := by decide +kernel
theorem dX12_follows_49 : decode cX12_follows 49 = .ok (.sipush 8607, 3) := by decide +kernel
theorem dX12_follows_52 : decode cX12_follows 52 = .ok (.iload 5, 2) := by decide +kernel
theorem dX12_follows_54 : decode cX12_follows 54 = .ok (.iadd, 1) := by decide +kernel
theorem dX12_follows_55 : decode cX12_follows 55 = .ok (.iaload, 1) := by decide +kernel
theorem dX12_follows_56 : decode cX12_follows 56 = .ok (.iload_n 2, 1) := by decide +kernel
theorem dX12_follows_57 : decode cX12_follows 57 = .ok (.if_icmp .eq 6, 3) := by decide +kernel
theorem dX12_follows_60 : decode cX12_follows 60 = .ok (.goto 108, 3) := by decide +kernel
theorem dX12_follows_63 : decode cX12_follows 63 = .ok (.iconst 0, 1) := by decide +kernel
theorem dX12_follows_64 : decode cX12_follows 64 = .ok (.istore 6, 2) := by decide +kernel
theorem dX12_follows_66 : decode cX12_follows 66 = .ok (.iconst 0, 1) := by decide +kernel
theorem dX12_follows_67 : decode cX12_follows 67 = .ok (.istore 7, 2) := by decide +kernel
theorem dX12_follows_69 : decode cX12_follows 69 = .ok (.iload 7, 2) := by decide +kernel
theorem dX12_follows_71 : decode cX12_follows 71 = .ok (.iconst 1, 1) := by decide +kernel
theorem dX12_follows_72 : decode cX12_follows 72 = .ok (.iadd, 1) := by decide +kernel
theorem dX12_follows_73 : decode cX12_follows 73 = .ok (.aload_n 0, 1) := by decide +kernel
theorem dX12_follows_74 : decode cX12_follows 74 = .ok (.getfield 9, 3) := by decide +kernel
theorem dX12_follows_77 : decode cX12_follows 77 = .ok (.bipush 18, 2) := by decide +kernel
theorem dX12_follows_79 : decode cX12_follows 79 = .ok (.iaload, 1) := by decide +kernel
theorem dX12_follows_80 : decode cX12_follows 80 = .ok (.if_icmp .ge 63, 3) := by decide +kernel
theorem dX12_follows_83 : decode cX12_follows 83 = .ok (.iload 6, 2) := by decide +kernel
theorem dX12_follows_85 : decode cX12_follows 85 = .ok (.aload_n 0, 1) := by decide +kernel
theorem dX12_follows_86 : decode cX12_follows 86 = .ok (.getfield 9, 3) := by decide +kernel
theorem dX12_follows_89 : decode cX12_follows 89 = .ok (.sipush 8607, 3) := by decide +kernel
theorem dX12_follows_92 : decode cX12_follows 92 = .ok (.iload 7, 2) := by decide +kernel
theorem dX12_follows_94 : decode cX12_follows 94 = .ok (.iadd, 1) := by decide +kernel
theorem dX12_follows_95 : decode cX12_follows 95 = .ok (.iaload, 1) := by decide +kernel
theorem dX12_follows_96 : decode cX12_follows 96 = .ok (.iload_n 2, 1) := by decide +kernel
theorem dX12_follows_97 : decode cX12_follows 97 = .ok (.if_icmp .ne 36, 3) := by decide +kernel
theorem dX12_follows_100 : decode cX12_follows 100 = .ok (.aload_n 0, 1) := by decide +kernel
theorem dX12_follows_101 : decode cX12_follows 101 = .ok (.getfield 9, 3) := by decide +kernel
theorem dX12_follows_104 : decode cX12_follows 104 = .ok (.sipush 8607, 3) := by decide +kernel
theorem dX12_follows_107 : decode cX12_follows 107 = .ok (.iload 7, 2) := by decide +kernel
theorem dX12_follows_109 : decode cX12_follows 109 = .ok (.iadd, 1) := by decide +kernel
theorem dX12_follows_110 : decode cX12_follows 110 = .ok (.iconst 1, 1) := by decide +kernel
theorem dX12_follows_111 : decode cX12_follows 111 = .ok (.iadd, 1) := by decide +kernel
theorem dX12_follows_112 : decode cX12_follows 112 = .ok (.iaload, 1) := by decide +kernel
theorem dX12_follows_113 : decode cX12_follows 113 = .ok (.aload_n 0, 1) := by decide +kernel
theorem dX12_follows_114 : decode cX12_follows 114 = .ok (.getfield 9, 3) := by decide +kernel
theorem dX12_follows_117 : decode cX12_follows 117 = .ok (.sipush 8607, 3) := by decide +kernel
theorem dX12_follows_120 : decode cX12_follows 120 = .ok (.iload 5, 2) := by decide +kernel
theorem dX12_follows_122 : decode cX12_follows 122 = .ok (.iadd, 1) := by decide +kernel
theorem dX12_follows_123 : decode cX12_follows 123 = .ok (.iconst 1, 1) := by decide +kernel
theorem dX12_follows_124 : decode cX12_follows 124 = .ok (.iadd, 1) := by decide +kernel
theorem dX12_follows_125 : decode cX12_follows 125 = .ok (.iaload, 1) := by decide +kernel
theorem dX12_follows_126 : decode cX12_follows 126 = .ok (.if_icmp .ne 7, 3) := by decide +kernel
theorem dX12_follows_129 : decode cX12_follows 129 = .ok (.iconst 1, 1) := by decide +kernel
theorem dX12_follows_130 : decode cX12_follows 130 = .ok (.goto 4, 3) := by decide +kernel
theorem dX12_follows_133 : decode cX12_follows 133 = .ok (.iconst 0, 1) := by decide +kernel
theorem dX12_follows_134 : decode cX12_follows 134 = .ok (.iadd, 1) := by decide +kernel
theorem dX12_follows_135 : decode cX12_follows 135 = .ok (.istore 6, 2) := by decide +kernel
theorem dX12_follows_137 : decode cX12_follows 137 = .ok (.iinc 7 1, 3) := by decide +kernel
theorem dX12_follows_140 : decode cX12_follows 140 = .ok (.goto (-71), 3) := by decide +kernel
theorem dX12_follows_143 : decode cX12_follows 143 = .ok (.iload 6, 2) := by decide +kernel
theorem dX12_follows_145 : decode cX12_follows 145 = .ok (.iload 4, 2) := by decide +kernel
theorem dX12_follows_147 : decode cX12_follows 147 = .ok (.if_icmp .le 21, 3) := by decide +kernel
theorem dX12_follows_150 : decode cX12_follows 150 = .ok (.iload 6, 2) := by decide +kernel
theorem dX12_follows_152 : decode cX12_follows 152 = .ok (.istore 4, 2) := by decide +kernel
theorem dX12_follows_154 : decode cX12_follows 154 = .ok (.aload_n 0, 1) := by decide +kernel
theorem dX12_follows_155 : decode cX12_follows 155 = .ok (.getfield 9, 3) := by decide +kernel
theorem dX12_follows_158 : decode cX12_follows 158 = .ok (.sipush 8607, 3) := by decide +kernel
theorem dX12_follows_161 : decode cX12_follows 161 = .ok (.iload 5, 2) := by decide +kernel
theorem dX12_follows_163 : decode cX12_follows 163 = .ok (.iadd, 1) := by decide +kernel
theorem dX12_follows_164 : decode cX12_follows 164 = .ok (.iconst 1, 1) := by decide +kernel
theorem dX12_follows_165 : decode cX12_follows 165 = .ok (.iadd, 1) := by decide +kernel
theorem dX12_follows_166 : decode cX12_follows 166 = .ok (.iaload, 1) := by decide +kernel
theorem dX12_follows_167 : decode cX12_follows 167 = .ok (.istore_n 3, 1) := by decide +kernel
theorem dX12_follows_168 : decode cX12_follows 168 = .ok (.iinc 5 1, 3) := by decide +kernel
theorem dX12_follows_171 : decode cX12_follows 171 = .ok (.goto (-140), 3) := by decide +kernel
theorem dX12_follows_174 : decode cX12_follows 174 = .ok (.iload_n 1, 1) := by decide +kernel
theorem dX12_follows_175 : decode cX12_follows 175 = .ok (.iconst (-1), 1) := by decide +kernel
theorem dX12_follows_176 : decode cX12_follows 176 = .ok (.if_icmp .ne 6, 3) := by decide +kernel
theorem dX12_follows_179 : decode cX12_follows 179 = .ok (.iload 4, 2) := by decide +kernel
theorem dX12_follows_181 : decode cX12_follows 181 = .ok (.ireturn, 1) := by decide +kernel
theorem dX12_follows_182 : decode cX12_follows 182 = .ok (.iload 4, 2) := by decide +kernel
theorem dX12_follows_184 : decode cX12_follows 184 = .ok (.ifCond .ne 9, 3) := by decide +kernel
theorem dX12_follows_187 : decode cX12_follows 187 = .ok (.sipush (-1003), 3) := by decide +kernel
theorem dX12_follows_190 : decode cX12_follows 190 = .ok (.goto 18, 3) := by decide +kernel
theorem dX12_follows_193 : decode cX12_follows 193 = .ok (.iload_n 3, 1) := by decide +kernel
theorem dX12_follows_194 : decode cX12_follows 194 = .ok (.iload_n 1, 1) := by decide +kernel
theorem dX12_follows_195 : decode cX12_follows 195 = .ok (.bipush (-2), 2) := by decide +kernel
theorem dX12_follows_197 : decode cX12_follows 197 = .ok (.if_icmp .ne 7, 3) := by decide +kernel
theorem dX12_follows_200 : decode cX12_follows 200 = .ok (.iconst (-1), 1) := by decide +kernel
theorem dX12_follows_201 : decode cX12_follows 201 = .ok (.goto 4, 3) := by decide +kernel
theorem dX12_follows_204 : decode cX12_follows 204 = .ok (.iload_n 1, 1) := by decide +kernel
theorem dX12_follows_205 : decode cX12_follows 205 = .ok (.invokestatic 182, 3) := by decide +kernel
theorem dX12_follows_208 : decode cX12_follows 208 = .ok (.ireturn, 1) := by decide +kernel
abbrev cX12_isReplay : ByteArray := prog_14_method_91_code
def yX12_isReplay : MethodName := ⟨RX12, "isReplay", "(II)Z"⟩
theorem dX12_isReplay_0 : decode cX12_isReplay 0 = .ok (.iload_n 0, 1) := by decide +kernel
theorem dX12_isReplay_1 : decode cX12_isReplay 1 = .ok (.iconst 0, 1) := by decide +kernel
theorem dX12_isReplay_2 : decode cX12_isReplay 2 = .ok (.iconst 3, 1) := by decide +kernel
theorem dX12_isReplay_3 : decode cX12_isReplay 3 = .ok (.invokestatic 38, 3) := by decide +kernel
theorem dX12_isReplay_6 : decode cX12_isReplay 6 = .ok (.ifCond .eq 17, 3) := by decide +kernel
theorem dX12_isReplay_9 : decode cX12_isReplay 9 = .ok (.iload_n 1, 1) := by decide +kernel
theorem dX12_isReplay_10 : decode cX12_isReplay 10 = .ok (.iconst 1, 1) := by decide +kernel
theorem dX12_isReplay_11 : decode cX12_isReplay 11 = .ok (.bipush 12, 2) := by decide +kernel
theorem dX12_isReplay_13 : decode cX12_isReplay 13 = .ok (.invokestatic 38, 3) := by decide +kernel
theorem dX12_isReplay_16 : decode cX12_isReplay 16 = .ok (.ifCond .eq 7, 3) := by decide +kernel
theorem dX12_isReplay_19 : decode cX12_isReplay 19 = .ok (.iconst 1, 1) := by decide +kernel
theorem dX12_isReplay_20 : decode cX12_isReplay 20 = .ok (.goto 4, 3) := by decide +kernel
theorem dX12_isReplay_23 : decode cX12_isReplay 23 = .ok (.iconst 0, 1) := by decide +kernel
theorem dX12_isReplay_24 : decode cX12_isReplay 24 = .ok (.ireturn, 1) := by decide +kernel
abbrev cX12_against : ByteArray := prog_14_method_89_code
def yX12_against : MethodName := ⟨RX12, "against", "(III)I"⟩
theorem dX12_against_0 : decode cX12_against 0 = .ok (.iload_n 1, 1) := by decide +kernel
theorem dX12_against_1 : decode cX12_against 1 = .ok (.iconst 2, 1) := by decide +kernel
theorem dX12_against_2 : decode cX12_against 2 = .ok (.if_icmp .ne 17, 3) := by decide +kernel
theorem dX12_against_5 : decode cX12_against 5 = .ok (.aload_n 0, 1) := by decide +kernel
theorem dX12_against_6 : decode cX12_against 6 = .ok (.getfield 35, 3) := by decide +kernel
theorem dX12_against_9 : decode cX12_against 9 = .ok (.iload_n 2, 1) := by decide +kernel
theorem dX12_against_10 : decode cX12_against 10 = .ok (.iaload, 1) := by decide +kernel
theorem dX12_against_11 : decode cX12_against 11 = .ok (.aload_n 0, 1) := by decide +kernel
theorem dX12_against_12 : decode cX12_against 12 = .ok (.getfield 35, 3) := by decide +kernel
theorem dX12_against_15 : decode cX12_against 15 = .ok (.iload_n 3, 1) := by decide +kernel
theorem dX12_against_16 : decode cX12_against 16 = .ok (.iaload, 1) := by decide +kernel
theorem dX12_against_17 : decode cX12_against 17 = .ok (.isub, 1) := by decide +kernel
theorem dX12_against_18 : decode cX12_against 18 = .ok (.ireturn, 1) := by decide +kernel
theorem dX12_against_19 : decode cX12_against 19 = .ok (.iload_n 1, 1) := by decide +kernel
theorem dX12_against_20 : decode cX12_against 20 = .ok (.ifCond .eq 18, 3) := by decide +kernel
theorem dX12_against_23 : decode cX12_against 23 = .ok (.aload_n 0, 1) := by decide +kernel
theorem dX12_against_24 : decode cX12_against 24 = .ok (.getfield 29, 3) := by decide +kernel
theorem dX12_against_27 : decode cX12_against 27 = .ok (.iload_n 2, 1) := by decide +kernel
theorem dX12_against_28 : decode cX12_against 28 = .ok (.iaload, 1) := by decide +kernel
theorem dX12_against_29 : decode cX12_against 29 = .ok (.aload_n 0, 1) := by decide +kernel
theorem dX12_against_30 : decode cX12_against 30 = .ok (.getfield 29, 3) := by decide +kernel
theorem dX12_against_33 : decode cX12_against 33 = .ok (.iload_n 3, 1) := by decide +kernel
theorem dX12_against_34 : decode cX12_against 34 = .ok (.iaload, 1) := by decide +kernel
theorem dX12_against_35 : decode cX12_against 35 = .ok (.if_icmp .ne 19, 3) := by decide +kernel
theorem dX12_against_38 : decode cX12_against 38 = .ok (.aload_n 0, 1) := by decide +kernel
theorem dX12_against_39 : decode cX12_against 39 = .ok (.getfield 32, 3) := by decide +kernel
theorem dX12_against_42 : decode cX12_against 42 = .ok (.iload_n 2, 1) := by decide +kernel
theorem dX12_against_43 : decode cX12_against 43 = .ok (.iaload, 1) := by decide +kernel
theorem dX12_against_44 : decode cX12_against 44 = .ok (.aload_n 0, 1) := by decide +kernel
theorem dX12_against_45 : decode cX12_against 45 = .ok (.getfield 32, 3) := by decide +kernel
theorem dX12_against_48 : decode cX12_against 48 = .ok (.iload_n 3, 1) := by decide +kernel
theorem dX12_against_49 : decode cX12_against 49 = .ok (.iaload, 1) := by decide +kernel
theorem dX12_against_50 : decode cX12_against 50 = .ok (.isub, 1) := by decide +kernel
theorem dX12_against_51 : decode cX12_against 51 = .ok (.goto 16, 3) := by decide +kernel
theorem dX12_against_54 : decode cX12_against 54 = .ok (.aload_n 0, 1) := by decide +kernel
theorem dX12_against_55 : decode cX12_against 55 = .ok (.getfield 29, 3) := by decide +kernel
theorem dX12_against_58 : decode cX12_against 58 = .ok (.iload_n 2, 1) := by decide +kernel
theorem dX12_against_59 : decode cX12_against 59 = .ok (.iaload, 1) := by decide +kernel
theorem dX12_against_60 : decode cX12_against 60 = .ok (.aload_n 0, 1) := by decide +kernel
theorem dX12_against_61 : decode cX12_against 61 = .ok (.getfield 29, 3) := by decide +kernel
theorem dX12_against_64 : decode cX12_against 64 = .ok (.iload_n 3, 1) := by decide +kernel
theorem dX12_against_65 : decode cX12_against 65 = .ok (.iaload, 1) := by decide +kernel
theorem dX12_against_66 : decode cX12_against 66 = .ok (.isub, 1) := by decide +kernel
theorem dX12_against_67 : decode cX12_against 67 = .ok (.ireturn, 1) := by decide +kernel
theorem kw_1239 : Cond.fieldLink "FrequencyShelfModel" 32 "FrequencyShelfModel" "lasts" "[I" ∈ TB := tb_at 1239 (by decide +kernel) (by decide +kernel)
theorem fl_X12_32 : mF RX12 32 11 12 := ⟨RX12, TX12, 14, tyX12, rfl, by decide, in_X12, kw_1239, tyX12_ok, nmX12⟩
theorem kw_1238 : Cond.fieldLink "FrequencyShelfModel" 29 "FrequencyShelfModel" "counts" "[I" ∈ TB := tb_at 1238 (by decide +kernel) (by decide +kernel)
theorem fl_X12_29 : mF RX12 29 11 11 := ⟨RX12, TX12, 14, tyX12, rfl, by decide, in_X12, kw_1238, tyX12_ok, nmX12⟩
theorem kw_1240 : Cond.fieldLink "FrequencyShelfModel" 35 "FrequencyShelfModel" "cames" "[I" ∈ TB := tb_at 1240 (by decide +kernel) (by decide +kernel)
theorem fl_X12_35 : mF RX12 35 11 13 := ⟨RX12, TX12, 14, tyX12, rfl, by decide, in_X12, kw_1240, tyX12_ok, nmX12⟩
abbrev cX12_goes : ByteArray := prog_14_method_90_code
def yX12_goes : MethodName := ⟨RX12, "goes", "(II)I"⟩
theorem dX12_goes_0 : decode cX12_goes 0 = .ok (.iconst 0, 1) := by decide +kernel
theorem dX12_goes_1 : decode cX12_goes 1 = .ok (.istore_n 3, 1) := by decide +kernel
theorem dX12_goes_2 : decode cX12_goes 2 = .ok (.iconst 0, 1) := by decide +kernel
theorem dX12_goes_3 : decode cX12_goes 3 = .ok (.istore 4, 2) := by decide +kernel
theorem dX12_goes_5 : decode cX12_goes 5 = .ok (.iconst 0, 1) := by decide +kernel
theorem dX12_goes_6 : decode cX12_goes 6 = .ok (.istore 5, 2) := by decide +kernel
theorem dX12_goes_8 : decode cX12_goes 8 = .ok (.iload 5, 2) := by decide +kernel
theorem dX12_goes_10 : decode cX12_goes 10 = .ok (.aload_n 0, 1) := by decide +kernel
theorem dX12_goes_11 : decode cX12_goes 11 = .ok (.getfield 260, 3) := by decide +kernel
theorem dX12_goes_14 : decode cX12_goes 14 = .ok (.if_icmp .ge 199, 3) := by decide +kernel
theorem dX12_goes_17 : decode cX12_goes 17 = .ok (.iconst 0, 1) := by decide +kernel
theorem dX12_goes_18 : decode cX12_goes 18 = .ok (.istore 6, 2) := by decide +kernel
theorem dX12_goes_20 : decode cX12_goes 20 = .ok (.iload 6, 2) := by decide +kernel
theorem dX12_goes_22 : decode cX12_goes 22 = .ok (.iload_n 3, 1) := by decide +kernel
theorem dX12_goes_23 : decode cX12_goes 23 = .ok (.if_icmp .ge 26, 3) := by decide +kernel
theorem dX12_goes_26 : decode cX12_goes 26 = .ok (.aload_n 0, 1) := by decide +kernel
theorem dX12_goes_27 : decode cX12_goes 27 = .ok (.getfield 26, 3) := by decide +kernel
theorem dX12_goes_30 : decode cX12_goes 30 = .ok (.iload 6, 2) := by decide +kernel
theorem dX12_goes_32 : decode cX12_goes 32 = .ok (.iaload, 1) := by decide +kernel
theorem dX12_goes_33 : decode cX12_goes 33 = .ok (.aload_n 0, 1) := by decide +kernel
theorem dX12_goes_34 : decode cX12_goes 34 = .ok (.getfield 23, 3) := by decide +kernel
theorem dX12_goes_37 : decode cX12_goes 37 = .ok (.iload 5, 2) := by decide +kernel
theorem dX12_goes_39 : decode cX12_goes 39 = .ok (.iaload, 1) := by decide +kernel
theorem dX12_goes_40 : decode cX12_goes 40 = .ok (.if_icmp .eq 9, 3) := by decide +kernel
theorem dX12_goes_43 : decode cX12_goes 43 = .ok (.iinc 6 1, 3) := by decide +kernel
theorem dX12_goes_46 : decode cX12_goes 46 = .ok (.goto (-26), 3) := by decide +kernel
theorem dX12_goes_49 : decode cX12_goes 49 = .ok (.iload 6, 2) := by decide +kernel
theorem dX12_goes_51 : decode cX12_goes 51 = .ok (.iload_n 3, 1) := by decide +kernel
theorem dX12_goes_52 : decode cX12_goes 52 = .ok (.if_icmp .ge 20, 3) := by decide +kernel
theorem dX12_goes_55 : decode cX12_goes 55 = .ok (.iinc 4 1, 3) := by decide +kernel
theorem dX12_goes_58 : decode cX12_goes 58 = .ok (.aload_n 0, 1) := by decide +kernel
theorem dX12_goes_59 : decode cX12_goes 59 = .ok (.getfield 29, 3) := by decide +kernel
theorem dX12_goes_62 : decode cX12_goes 62 = .ok (.iload 6, 2) := by decide +kernel
theorem dX12_goes_64 : decode cX12_goes 64 = .ok (.dup2, 1) := by decide +kernel
theorem dX12_goes_65 : decode cX12_goes 65 = .ok (.iaload, 1) := by decide +kernel
theorem dX12_goes_66 : decode cX12_goes 66 = .ok (.iconst 1, 1) := by decide +kernel
theorem dX12_goes_67 : decode cX12_goes 67 = .ok (.iadd, 1) := by decide +kernel
theorem dX12_goes_68 : decode cX12_goes 68 = .ok (.iastore, 1) := by decide +kernel
theorem dX12_goes_69 : decode cX12_goes 69 = .ok (.goto 84, 3) := by decide +kernel
theorem dX12_goes_72 : decode cX12_goes 72 = .ok (.iload_n 3, 1) := by decide +kernel
theorem dX12_goes_73 : decode cX12_goes 73 = .ok (.iload_n 2, 1) := by decide +kernel
theorem dX12_goes_74 : decode cX12_goes 74 = .ok (.if_icmp .ne 45, 3) := by decide +kernel
theorem dX12_goes_77 : decode cX12_goes 77 = .ok (.iconst 0, 1) := by decide +kernel
theorem dX12_goes_78 : decode cX12_goes 78 = .ok (.istore 6, 2) := by decide +kernel
theorem dX12_goes_80 : decode cX12_goes 80 = .ok (.iconst 1, 1) := by decide +kernel
theorem dX12_goes_81 : decode cX12_goes 81 = .ok (.istore 7, 2) := by decide +kernel
theorem dX12_goes_83 : decode cX12_goes 83 = .ok (.iload 7, 2) := by decide +kernel
theorem dX12_goes_85 : decode cX12_goes 85 = .ok (.iload_n 3, 1) := by decide +kernel
theorem dX12_goes_86 : decode cX12_goes 86 = .ok (.if_icmp .ge 30, 3) := by decide +kernel
theorem dX12_goes_89 : decode cX12_goes 89 = .ok (.aload_n 0, 1) := by decide +kernel
theorem dX12_goes_90 : decode cX12_goes 90 = .ok (.iload_n 1, 1) := by decide +kernel
theorem dX12_goes_91 : decode cX12_goes 91 = .ok (.iload 7, 2) := by decide +kernel
theorem dX12_goes_93 : decode cX12_goes 93 = .ok (.iload 6, 2) := by decide +kernel
theorem dX12_goes_95 : decode cX12_goes 95 = .ok (.invokevirtual 263, 3) := by decide +kernel
theorem dX12_goes_98 : decode cX12_goes 98 = .ok (.ifCond .ge 8, 3) := by decide +kernel
theorem dX12_goes_101 : decode cX12_goes 101 = .ok (.iload 7, 2) := by decide +kernel
theorem dX12_goes_103 : decode cX12_goes 103 = .ok (.goto 5, 3) := by decide +kernel
theorem dX12_goes_106 : decode cX12_goes 106 = .ok (.iload 6, 2) := by decide +kernel
theorem dX12_goes_108 : decode cX12_goes 108 = .ok (.istore 6, 2) := by decide +kernel
theorem dX12_goes_110 : decode cX12_goes 110 = .ok (.iinc 7 1, 3) := by decide +kernel
theorem dX12_goes_113 : decode cX12_goes 113 = .ok (.goto (-30), 3) := by decide +kernel
theorem dX12_goes_116 : decode cX12_goes 116 = .ok (.goto 6, 3) := by decide +kernel
theorem dX12_goes_119 : decode cX12_goes 119 = .ok (.iinc 3 1, 3) := by decide +kernel
theorem dX12_goes_122 : decode cX12_goes 122 = .ok (.aload_n 0, 1) := by decide +kernel
theorem dX12_goes_123 : decode cX12_goes 123 = .ok (.getfield 26, 3) := by decide +kernel
theorem dX12_goes_126 : decode cX12_goes 126 = .ok (.iload 6, 2) := by decide +kernel
theorem dX12_goes_128 : decode cX12_goes 128 = .ok (.aload_n 0, 1) := by decide +kernel
theorem dX12_goes_129 : decode cX12_goes 129 = .ok (.getfield 23, 3) := by decide +kernel
theorem dX12_goes_132 : decode cX12_goes 132 = .ok (.iload 5, 2) := by decide +kernel
theorem dX12_goes_134 : decode cX12_goes 134 = .ok (.iaload, 1) := by decide +kernel
theorem dX12_goes_135 : decode cX12_goes 135 = .ok (.iastore, 1) := by decide +kernel
theorem dX12_goes_136 : decode cX12_goes 136 = .ok (.aload_n 0, 1) := by decide +kernel
theorem dX12_goes_137 : decode cX12_goes 137 = .ok (.getfield 29, 3) := by decide +kernel
theorem dX12_goes_140 : decode cX12_goes 140 = .ok (.iload 6, 2) := by decide +kernel
theorem dX12_goes_142 : decode cX12_goes 142 = .ok (.iconst 1, 1) := by decide +kernel
theorem dX12_goes_143 : decode cX12_goes 143 = .ok (.iastore, 1) := by decide +kernel
theorem dX12_goes_144 : decode cX12_goes 144 = .ok (.aload_n 0, 1) := by decide +kernel
theorem dX12_goes_145 : decode cX12_goes 145 = .ok (.getfield 35, 3) := by decide +kernel
theorem dX12_goes_148 : decode cX12_goes 148 = .ok (.iload 6, 2) := by decide +kernel
theorem dX12_goes_150 : decode cX12_goes 150 = .ok (.iload 5, 2) := by decide +kernel
theorem dX12_goes_152 : decode cX12_goes 152 = .ok (.iastore, 1) := by decide +kernel
theorem dX12_goes_153 : decode cX12_goes 153 = .ok (.aload_n 0, 1) := by decide +kernel
theorem dX12_goes_154 : decode cX12_goes 154 = .ok (.getfield 32, 3) := by decide +kernel
theorem dX12_goes_157 : decode cX12_goes 157 = .ok (.iload 6, 2) := by decide +kernel
theorem dX12_goes_159 : decode cX12_goes 159 = .ok (.iload 5, 2) := by decide +kernel
theorem dX12_goes_161 : decode cX12_goes 161 = .ok (.iastore, 1) := by decide +kernel
theorem dX12_goes_162 : decode cX12_goes 162 = .ok (.iconst 0, 1) := by decide +kernel
theorem dX12_goes_163 : decode cX12_goes 163 = .ok (.istore 7, 2) := by decide +kernel
theorem dX12_goes_165 : decode cX12_goes 165 = .ok (.iload 7, 2) := by decide +kernel
theorem dX12_goes_167 : decode cX12_goes 167 = .ok (.iload_n 3, 1) := by decide +kernel
theorem dX12_goes_168 : decode cX12_goes 168 = .ok (.if_icmp .ge 39, 3) := by decide +kernel
theorem dX12_goes_171 : decode cX12_goes 171 = .ok (.iload_n 1, 1) := by decide +kernel
theorem dX12_goes_172 : decode cX12_goes 172 = .ok (.iconst 3, 1) := by decide +kernel
theorem dX12_goes_173 : decode cX12_goes 173 = .ok (.if_icmp .ne 34, 3) := by decide +kernel
theorem dX12_goes_176 : decode cX12_goes 176 = .ok (.iload 5, 2) := by decide +kernel
theorem dX12_goes_178 : decode cX12_goes 178 = .ok (.iconst 1, 1) := by decide +kernel
theorem dX12_goes_179 : decode cX12_goes 179 = .ok (.iadd, 1) := by decide +kernel
theorem dX12_goes_180 : decode cX12_goes 180 = .ok (.aload_n 0, 1) := by decide +kernel
theorem dX12_goes_181 : decode cX12_goes 181 = .ok (.getfield 9, 3) := by decide +kernel
theorem dX12_goes_184 : decode cX12_goes 184 = .ok (.iconst 1, 1) := by decide +kernel
theorem dX12_goes_185 : decode cX12_goes 185 = .ok (.iaload, 1) := by decide +kernel
theorem dX12_goes_186 : decode cX12_goes 186 = .ok (.irem, 1) := by decide +kernel
theorem dX12_goes_187 : decode cX12_goes 187 = .ok (.ifCond .ne 20, 3) := by decide +kernel
theorem dX12_goes_190 : decode cX12_goes 190 = .ok (.aload_n 0, 1) := by decide +kernel
theorem dX12_goes_191 : decode cX12_goes 191 = .ok (.getfield 29, 3) := by decide +kernel
theorem dX12_goes_194 : decode cX12_goes 194 = .ok (.iload 7, 2) := by decide +kernel
theorem dX12_goes_196 : decode cX12_goes 196 = .ok (.dup2, 1) := by decide +kernel
theorem dX12_goes_197 : decode cX12_goes 197 = .ok (.iaload, 1) := by decide +kernel
theorem dX12_goes_198 : decode cX12_goes 198 = .ok (.iconst 2, 1) := by decide +kernel
theorem dX12_goes_199 : decode cX12_goes 199 = .ok (.idiv, 1) := by decide +kernel
theorem dX12_goes_200 : decode cX12_goes 200 = .ok (.iastore, 1) := by decide +kernel
theorem dX12_goes_201 : decode cX12_goes 201 = .ok (.iinc 7 1, 3) := by decide +kernel
theorem dX12_goes_204 : decode cX12_goes 204 = .ok (.goto (-39), 3) := by decide +kernel
theorem dX12_goes_207 : decode cX12_goes 207 = .ok (.iinc 5 1, 3) := by decide +kernel
theorem dX12_goes_210 : decode cX12_goes 210 = .ok (.goto (-202), 3) := by decide +kernel
theorem dX12_goes_213 : decode cX12_goes 213 = .ok (.iload 4, 2) := by decide +kernel
theorem dX12_goes_215 : decode cX12_goes 215 = .ok (.ireturn, 1) := by decide +kernel
theorem kw_1236 : Cond.fieldLink "FrequencyShelfModel" 260 "FrequencyShelfModel" "askedMany" "I" ∈ TB := tb_at 1236 (by decide +kernel) (by decide +kernel)
theorem fl_X12_260 : mF RX12 260 11 9 := ⟨RX12, TX12, 14, tyX12, rfl, by decide, in_X12, kw_1236, tyX12_ok, nmX12⟩
theorem kw_1237 : Cond.fieldLink "FrequencyShelfModel" 26 "FrequencyShelfModel" "there" "[I" ∈ TB := tb_at 1237 (by decide +kernel) (by decide +kernel)
theorem fl_X12_26 : mF RX12 26 11 10 := ⟨RX12, TX12, 14, tyX12, rfl, by decide, in_X12, kw_1237, tyX12_ok, nmX12⟩
theorem kw_1235 : Cond.fieldLink "FrequencyShelfModel" 23 "FrequencyShelfModel" "asked" "[I" ∈ TB := tb_at 1235 (by decide +kernel) (by decide +kernel)
theorem fl_X12_23 : mF RX12 23 11 8 := ⟨RX12, TX12, 14, tyX12, rfl, by decide, in_X12, kw_1235, tyX12_ok, nmX12⟩
theorem kw_1640 : Cond.methodLink "FrequencyShelfModel" 263 yX12_against ∈ TB := tb_at 1640 (by decide +kernel) (by decide +kernel)
theorem kw_1643 : Cond.code yX12_against cX12_against 4 (some .int) ∈ TB := tb_at 1643 (by decide +kernel) (by decide +kernel)
theorem kw_1642 : Cond.instanceMethod yX12_against ∈ TB := tb_at 1642 (by decide +kernel) (by decide +kernel)
theorem kw_61 : Cond.selects "FrequencyShelfModel" yX12_against yX12_against ∈ TB := tb_at 61 (by decide +kernel) (by decide +kernel)
theorem cv_X12_against : Cond.code yX12_against cX12_against 4 (some .int) ∈ TB ∧ Cond.instanceMethod yX12_against ∈ TB ∧ Cond.selects "FrequencyShelfModel" yX12_against yX12_against ∈ TB ∧ Cond.initialized "FrequencyShelfModel" ∈ TB := ⟨kw_1643, kw_1642, kw_61, kw_75⟩
abbrev cX12_replay : ByteArray := prog_14_method_92_code
def yX12_replay : MethodName := ⟨RX12, "replay", "(II)I"⟩
theorem dX12_replay_0 : decode cX12_replay 0 = .ok (.iload_n 1, 1) := by decide +kernel
theorem dX12_replay_1 : decode cX12_replay 1 = .ok (.iload_n 2, 1) := by decide +kernel
theorem dX12_replay_2 : decode cX12_replay 2 = .ok (.invokestatic 266, 3) := by decide +kernel
theorem dX12_replay_5 : decode cX12_replay 5 = .ok (.ifCond .ne 7, 3) := by decide +kernel
theorem dX12_replay_8 : decode cX12_replay 8 = .ok (.sipush (-1001), 3) := by decide +kernel
theorem dX12_replay_11 : decode cX12_replay 11 = .ok (.ireturn, 1) := by decide +kernel
theorem dX12_replay_12 : decode cX12_replay 12 = .ok (.aload_n 0, 1) := by decide +kernel
theorem dX12_replay_13 : decode cX12_replay 13 = .ok (.iconst 0, 1) := by decide +kernel
theorem dX12_replay_14 : decode cX12_replay 14 = .ok (.putfield 260, 3) := by decide +kernel
theorem dX12_replay_17 : decode cX12_replay 17 = .ok (.iconst 0, 1) := by decide +kernel
theorem dX12_replay_18 : decode cX12_replay 18 = .ok (.istore_n 3, 1) := by decide +kernel
theorem dX12_replay_19 : decode cX12_replay 19 = .ok (.iconst 1, 1) := by decide +kernel
theorem dX12_replay_20 : decode cX12_replay 20 = .ok (.istore 4, 2) := by decide +kernel
theorem dX12_replay_22 : decode cX12_replay 22 = .ok (.iconst 1, 1) := by decide +kernel
theorem dX12_replay_23 : decode cX12_replay 23 = .ok (.istore 5, 2) := by decide +kernel
theorem dX12_replay_25 : decode cX12_replay 25 = .ok (.iload 4, 2) := by decide +kernel
theorem dX12_replay_27 : decode cX12_replay 27 = .ok (.ifCond .eq 137, 3) := by decide +kernel
theorem dX12_replay_30 : decode cX12_replay 30 = .ok (.iload 5, 2) := by decide +kernel
theorem dX12_replay_32 : decode cX12_replay 32 = .ok (.ifCond .eq 132, 3) := by decide +kernel
theorem dX12_replay_35 : decode cX12_replay 35 = .ok (.aload_n 0, 1) := by decide +kernel
theorem dX12_replay_36 : decode cX12_replay 36 = .ok (.iload_n 3, 1) := by decide +kernel
theorem dX12_replay_37 : decode cX12_replay 37 = .ok (.invokevirtual 57, 3) := by decide +kernel
theorem dX12_replay_40 : decode cX12_replay 40 = .ok (.istore 6, 2) := by decide +kernel
theorem dX12_replay_42 : decode cX12_replay 42 = .ok (.iload 6, 2) := by decide +kernel
theorem dX12_replay_44 : decode cX12_replay 44 = .ok (.ifCond .eq 7, 3) := by decide +kernel
theorem dX12_replay_47 : decode cX12_replay 47 = .ok (.iconst 1, 1) := by decide +kernel
theorem dX12_replay_48 : decode cX12_replay 48 = .ok (.goto 4, 3) := by decide +kernel
theorem dX12_replay_51 : decode cX12_replay 51 = .ok (.iconst 0, 1) := by decide +kernel
theorem dX12_replay_52 : decode cX12_replay 52 = .ok (.istore 4, 2) := by decide +kernel
theorem dX12_replay_54 : decode cX12_replay 54 = .ok (.iload 4, 2) := by decide +kernel
theorem dX12_replay_56 : decode cX12_replay 56 = .ok (.ifCond .eq 24, 3) := by decide +kernel
theorem dX12_replay_59 : decode cX12_replay 59 = .ok (.aload_n 0, 1) := by decide +kernel
theorem dX12_replay_60 : decode cX12_replay 60 = .ok (.getfield 23, 3) := by decide +kernel
theorem dX12_replay_63 : decode cX12_replay 63 = .ok (.aload_n 0, 1) := by decide +kernel
theorem dX12_replay_64 : decode cX12_replay 64 = .ok (.getfield 260, 3) := by decide +kernel
theorem dX12_replay_67 : decode cX12_replay 67 = .ok (.iload 6, 2) := by decide +kernel
theorem dX12_replay_69 : decode cX12_replay 69 = .ok (.iastore, 1) := by decide +kernel
theorem dX12_replay_70 : decode cX12_replay 70 = .ok (.aload_n 0, 1) := by decide +kernel
theorem dX12_replay_71 : decode cX12_replay 71 = .ok (.dup, 1) := by decide +kernel
theorem dX12_replay_72 : decode cX12_replay 72 = .ok (.getfield 260, 3) := by decide +kernel
theorem dX12_replay_75 : decode cX12_replay 75 = .ok (.iconst 1, 1) := by decide +kernel
theorem dX12_replay_76 : decode cX12_replay 76 = .ok (.iadd, 1) := by decide +kernel
theorem dX12_replay_77 : decode cX12_replay 77 = .ok (.putfield 260, 3) := by decide +kernel
theorem dX12_replay_80 : decode cX12_replay 80 = .ok (.aload_n 0, 1) := by decide +kernel
theorem dX12_replay_81 : decode cX12_replay 81 = .ok (.getfield 50, 3) := by decide +kernel
theorem dX12_replay_84 : decode cX12_replay 84 = .ok (.aload_n 0, 1) := by decide +kernel
theorem dX12_replay_85 : decode cX12_replay 85 = .ok (.getfield 54, 3) := by decide +kernel
theorem dX12_replay_88 : decode cX12_replay 88 = .ok (.if_icmp .ge 7, 3) := by decide +kernel
theorem dX12_replay_91 : decode cX12_replay 91 = .ok (.iconst 1, 1) := by decide +kernel
theorem dX12_replay_92 : decode cX12_replay 92 = .ok (.goto 4, 3) := by decide +kernel
theorem dX12_replay_95 : decode cX12_replay 95 = .ok (.iconst 0, 1) := by decide +kernel
theorem dX12_replay_96 : decode cX12_replay 96 = .ok (.istore 5, 2) := by decide +kernel
theorem dX12_replay_98 : decode cX12_replay 98 = .ok (.iload 4, 2) := by decide +kernel
theorem dX12_replay_100 : decode cX12_replay 100 = .ok (.ifCond .eq 26, 3) := by decide +kernel
theorem dX12_replay_103 : decode cX12_replay 103 = .ok (.iload 5, 2) := by decide +kernel
theorem dX12_replay_105 : decode cX12_replay 105 = .ok (.ifCond .eq 17, 3) := by decide +kernel
theorem dX12_replay_108 : decode cX12_replay 108 = .ok (.aload_n 0, 1) := by decide +kernel
theorem dX12_replay_109 : decode cX12_replay 109 = .ok (.getfield 16, 3) := by decide +kernel
theorem dX12_replay_112 : decode cX12_replay 112 = .ok (.aload_n 0, 1) := by decide +kernel
theorem dX12_replay_113 : decode cX12_replay 113 = .ok (.getfield 50, 3) := by decide +kernel
theorem dX12_replay_116 : decode cX12_replay 116 = .ok (.baload, 1) := by decide +kernel
theorem dX12_replay_117 : decode cX12_replay 117 = .ok (.bipush 32, 2) := by decide +kernel
theorem dX12_replay_119 : decode cX12_replay 119 = .ok (.if_icmp .ne 7, 3) := by decide +kernel
theorem dX12_replay_122 : decode cX12_replay 122 = .ok (.iconst 1, 1) := by decide +kernel
theorem dX12_replay_123 : decode cX12_replay 123 = .ok (.goto 4, 3) := by decide +kernel
theorem dX12_replay_126 : decode cX12_replay 126 = .ok (.iconst 0, 1) := by decide +kernel
theorem dX12_replay_127 : decode cX12_replay 127 = .ok (.istore 4, 2) := by decide +kernel
theorem dX12_replay_129 : decode cX12_replay 129 = .ok (.aload_n 0, 1) := by decide +kernel
theorem dX12_replay_130 : decode cX12_replay 130 = .ok (.getfield 50, 3) := by decide +kernel
theorem dX12_replay_133 : decode cX12_replay 133 = .ok (.iconst 1, 1) := by decide +kernel
theorem dX12_replay_134 : decode cX12_replay 134 = .ok (.iadd, 1) := by decide +kernel
theorem dX12_replay_135 : decode cX12_replay 135 = .ok (.istore_n 3, 1) := by decide +kernel
theorem dX12_replay_136 : decode cX12_replay 136 = .ok (.iload 4, 2) := by decide +kernel
theorem dX12_replay_138 : decode cX12_replay 138 = .ok (.ifCond .eq 20, 3) := by decide +kernel
theorem dX12_replay_141 : decode cX12_replay 141 = .ok (.iload 5, 2) := by decide +kernel
theorem dX12_replay_143 : decode cX12_replay 143 = .ok (.ifCond .eq 11, 3) := by decide +kernel
theorem dX12_replay_146 : decode cX12_replay 146 = .ok (.iload_n 3, 1) := by decide +kernel
theorem dX12_replay_147 : decode cX12_replay 147 = .ok (.aload_n 0, 1) := by decide +kernel
theorem dX12_replay_148 : decode cX12_replay 148 = .ok (.getfield 54, 3) := by decide +kernel
theorem dX12_replay_151 : decode cX12_replay 151 = .ok (.if_icmp .eq 7, 3) := by decide +kernel
theorem dX12_replay_154 : decode cX12_replay 154 = .ok (.iconst 1, 1) := by decide +kernel
theorem dX12_replay_155 : decode cX12_replay 155 = .ok (.goto 4, 3) := by decide +kernel
theorem dX12_replay_158 : decode cX12_replay 158 = .ok (.iconst 0, 1) := by decide +kernel
theorem dX12_replay_159 : decode cX12_replay 159 = .ok (.istore 4, 2) := by decide +kernel
theorem dX12_replay_161 : decode cX12_replay 161 = .ok (.goto (-136), 3) := by decide +kernel
theorem dX12_replay_164 : decode cX12_replay 164 = .ok (.aload_n 0, 1) := by decide +kernel
theorem dX12_replay_165 : decode cX12_replay 165 = .ok (.iconst 0, 1) := by decide +kernel
theorem dX12_replay_166 : decode cX12_replay 166 = .ok (.putfield 54, 3) := by decide +kernel
theorem dX12_replay_169 : decode cX12_replay 169 = .ok (.iload 4, 2) := by decide +kernel
theorem dX12_replay_171 : decode cX12_replay 171 = .ok (.ifCond .eq 12, 3) := by decide +kernel
theorem dX12_replay_174 : decode cX12_replay 174 = .ok (.aload_n 0, 1) := by decide +kernel
theorem dX12_replay_175 : decode cX12_replay 175 = .ok (.iload_n 1, 1) := by decide +kernel
theorem dX12_replay_176 : decode cX12_replay 176 = .ok (.iload_n 2, 1) := by decide +kernel
theorem dX12_replay_177 : decode cX12_replay 177 = .ok (.invokevirtual 269, 3) := by decide +kernel
theorem dX12_replay_180 : decode cX12_replay 180 = .ok (.goto 6, 3) := by decide +kernel
theorem dX12_replay_183 : decode cX12_replay 183 = .ok (.sipush (-1002), 3) := by decide +kernel
theorem dX12_replay_186 : decode cX12_replay 186 = .ok (.ireturn, 1) := by decide +kernel
theorem kw_1633 : Cond.methodLink "FrequencyShelfModel" 266 yX12_isReplay ∈ TB := tb_at 1633 (by decide +kernel) (by decide +kernel)
theorem kw_1635 : Cond.code yX12_isReplay cX12_isReplay 2 (some .boolean) ∈ TB := tb_at 1635 (by decide +kernel) (by decide +kernel)
theorem kw_1634 : Cond.static yX12_isReplay ∈ TB := tb_at 1634 (by decide +kernel) (by decide +kernel)
theorem cs_X12_isReplay : Cond.code yX12_isReplay cX12_isReplay 2 (some .boolean) ∈ TB ∧ Cond.static yX12_isReplay ∈ TB ∧ Cond.initialized "FrequencyShelfModel" ∈ TB := ⟨kw_1635, kw_1634, kw_75⟩
theorem fi_X12_9 : mFi 11 9 := fun _ _ _ h => by cases h; exact ⟨rfl, by decide +kernel⟩
theorem kw_1636 : Cond.methodLink "FrequencyShelfModel" 269 yX12_goes ∈ TB := tb_at 1636 (by decide +kernel) (by decide +kernel)
theorem kw_1639 : Cond.code yX12_goes cX12_goes 8 (some .int) ∈ TB := tb_at 1639 (by decide +kernel) (by decide +kernel)
theorem kw_1638 : Cond.instanceMethod yX12_goes ∈ TB := tb_at 1638 (by decide +kernel) (by decide +kernel)
theorem kw_60 : Cond.selects "FrequencyShelfModel" yX12_goes yX12_goes ∈ TB := tb_at 60 (by decide +kernel) (by decide +kernel)
theorem cv_X12_goes : Cond.code yX12_goes cX12_goes 8 (some .int) ∈ TB ∧ Cond.instanceMethod yX12_goes ∈ TB ∧ Cond.selects "FrequencyShelfModel" yX12_goes yX12_goes ∈ TB ∧ Cond.initialized "FrequencyShelfModel" ∈ TB := ⟨kw_1639, kw_1638, kw_60, kw_75⟩
abbrev cX12_replayed : ByteArray := prog_14_method_93_code
def yX12_replayed : MethodName := ⟨RX12, "replayed", "(II)I"⟩
theorem dX12_replayed_0 : decode cX12_replayed 0 = .ok (.iload_n 1, 1) := by decide +kernel
theorem dX12_replayed_1 : decode cX12_replayed 1 = .ok (.iload_n 2, 1) := by decide +kernel
theorem dX12_replayed_2 : decode cX12_replayed 2 = .ok (.invokestatic 266, 3) := by decide +kernel
theorem dX12_replayed_5 : decode cX12_replayed 5 = .ok (.ifCond .ne 7, 3) := by decide +kernel
theorem dX12_replayed_8 : decode cX12_replayed 8 = .ok (.sipush (-1001), 3) := by decide +kernel
theorem dX12_replayed_11 : decode cX12_replayed 11 = .ok (.ireturn, 1) := by decide +kernel
theorem dX12_replayed_12 : decode cX12_replayed 12 = .ok (.aload_n 0, 1) := by decide +kernel
theorem dX12_replayed_13 : decode cX12_replayed 13 = .ok (.aload_n 0, 1) := by decide +kernel
theorem dX12_replayed_14 : decode cX12_replayed 14 = .ok (.getfield 9, 3) := by decide +kernel
theorem dX12_replayed_17 : decode cX12_replayed 17 = .ok (.bipush 18, 2) := by decide +kernel
theorem dX12_replayed_19 : decode cX12_replayed 19 = .ok (.iaload, 1) := by decide +kernel
theorem dX12_replayed_20 : decode cX12_replayed 20 = .ok (.putfield 260, 3) := by decide +kernel
theorem dX12_replayed_23 : decode cX12_replayed 23 = .ok (.iconst 0, 1) := by decide +kernel
theorem dX12_replayed_24 : decode cX12_replayed 24 = .ok (.istore_n 3, 1) := by decide +kernel
theorem dX12_replayed_25 : decode cX12_replayed 25 = .ok (.iload_n 3, 1) := by decide +kernel
theorem dX12_replayed_26 : decode cX12_replayed 26 = .ok (.aload_n 0, 1) := by decide +kernel
theorem dX12_replayed_27 : decode cX12_replayed 27 = .ok (.getfield 260, 3) := by decide +kernel
theorem dX12_replayed_30 : decode cX12_replayed 30 = .ok (.if_icmp .ge 25, 3) := by decide +kernel
theorem dX12_replayed_33 : decode cX12_replayed 33 = .ok (.aload_n 0, 1) := by decide +kernel
theorem dX12_replayed_34 : decode cX12_replayed 34 = .ok (.getfield 23, 3) := by decide +kernel
theorem dX12_replayed_37 : decode cX12_replayed 37 = .ok (.iload_n 3, 1) := by decide +kernel
theorem dX12_replayed_38 : decode cX12_replayed 38 = .ok (.aload_n 0, 1) := by decide +kernel
theorem dX12_replayed_39 : decode cX12_replayed 39 = .ok (.getfield 9, 3) := by decide +kernel
theorem dX12_replayed_42 : decode cX12_replayed 42 = .ok (.sipush 8607, 3) := by decide +kernel
theorem dX12_replayed_45 : decode cX12_replayed 45 = .ok (.iload_n 3, 1) := by decide +kernel
theorem dX12_replayed_46 : decode cX12_replayed 46 = .ok (.iadd, 1) := by decide +kernel
theorem dX12_replayed_47 : decode cX12_replayed 47 = .ok (.iaload, 1) := by decide +kernel
theorem dX12_replayed_48 : decode cX12_replayed 48 = .ok (.iastore, 1) := by decide +kernel
theorem dX12_replayed_49 : decode cX12_replayed 49 = .ok (.iinc 3 1, 3) := by decide +kernel
theorem dX12_replayed_52 : decode cX12_replayed 52 = .ok (.goto (-27), 3) := by decide +kernel
theorem dX12_replayed_55 : decode cX12_replayed 55 = .ok (.aload_n 0, 1) := by decide +kernel
theorem dX12_replayed_56 : decode cX12_replayed 56 = .ok (.iload_n 1, 1) := by decide +kernel
theorem dX12_replayed_57 : decode cX12_replayed 57 = .ok (.iload_n 2, 1) := by decide +kernel
theorem dX12_replayed_58 : decode cX12_replayed 58 = .ok (.invokevirtual 269, 3) := by decide +kernel
theorem dX12_replayed_61 : decode cX12_replayed 61 = .ok (.ireturn, 1) := by decide +kernel
abbrev cX12_book : ByteArray := prog_14_method_94_code
def yX12_book : MethodName := ⟨RX12, "book", "(II)J"⟩
theorem dX12_book_0 : decode cX12_book 0 = .ok (.iload_n 1, 1) := by decide +kernel
theorem dX12_book_1 : decode cX12_book 1 = .ok (.ifCond .lt 12, 3) := by decide +kernel
theorem dX12_book_4 : decode cX12_book 4 = .ok (.iload_n 2, 1) := by decide +kernel
theorem dX12_book_5 : decode cX12_book 5 = .ok (.iconst 0, 1) := by decide +kernel
theorem dX12_book_6 : decode cX12_book 6 = .ok (.iconst 2, 1) := by decide +kernel
theorem dX12_book_7 : decode cX12_book 7 = .ok (.invokestatic 38, 3) := by decide +kernel
theorem dX12_book_10 : decode cX12_book 10 = .ok (.ifCond .ne 7, 3) := by decide +kernel
theorem dX12_book_13 : decode cX12_book 13 = .ok (.ldc2_w 272, 3) := by decide +kernel
theorem dX12_book_16 : decode cX12_book 16 = .ok (.lreturn, 1) := by decide +kernel
theorem dX12_book_17 : decode cX12_book 17 = .ok (.iload_n 1, 1) := by decide +kernel
theorem dX12_book_18 : decode cX12_book 18 = .ok (.aload_n 0, 1) := by decide +kernel
theorem dX12_book_19 : decode cX12_book 19 = .ok (.getfield 9, 3) := by decide +kernel
theorem dX12_book_22 : decode cX12_book 22 = .ok (.bipush 19, 2) := by decide +kernel
theorem dX12_book_24 : decode cX12_book 24 = .ok (.iaload, 1) := by decide +kernel
theorem dX12_book_25 : decode cX12_book 25 = .ok (.if_icmp .ge 21, 3) := by decide +kernel
theorem dX12_book_28 : decode cX12_book 28 = .ok (.aload_n 0, 1) := by decide +kernel
theorem dX12_book_29 : decode cX12_book 29 = .ok (.getfield 9, 3) := by decide +kernel
theorem dX12_book_32 : decode cX12_book 32 = .ok (.sipush 8667, 3) := by decide +kernel
theorem dX12_book_35 : decode cX12_book 35 = .ok (.iconst 3, 1) := by decide +kernel
theorem dX12_book_36 : decode cX12_book 36 = .ok (.iload_n 1, 1) := by decide +kernel
theorem dX12_book_37 : decode cX12_book 37 = .ok (.imul, 1) := by decide +kernel
theorem dX12_book_38 : decode cX12_book 38 = .ok (.iadd, 1) := by decide +kernel
theorem dX12_book_39 : decode cX12_book 39 = .ok (.iload_n 2, 1) := by decide +kernel
theorem dX12_book_40 : decode cX12_book 40 = .ok (.iadd, 1) := by decide +kernel
theorem dX12_book_41 : decode cX12_book 41 = .ok (.iaload, 1) := by decide +kernel
theorem dX12_book_42 : decode cX12_book 42 = .ok (.i2l, 1) := by decide +kernel
theorem dX12_book_43 : decode cX12_book 43 = .ok (.goto 6, 3) := by decide +kernel
theorem dX12_book_46 : decode cX12_book 46 = .ok (.ldc2_w 274, 3) := by decide +kernel
theorem dX12_book_49 : decode cX12_book 49 = .ok (.lreturn, 1) := by decide +kernel
theorem kw_1652 : Cond.constantLong "FrequencyShelfModel" 272 (-1001) ∈ TB := tb_at 1652 (by decide +kernel) (by decide +kernel)
theorem kw_1653 : Cond.constantLong "FrequencyShelfModel" 274 (-1003) ∈ TB := tb_at 1653 (by decide +kernel) (by decide +kernel)
abbrev cX12_led : ByteArray := prog_14_method_95_code
def yX12_led : MethodName := ⟨RX12, "led", "(I)J"⟩
theorem dX12_led_0 : decode cX12_led 0 = .ok (.iload_n 1, 1) := by decide +kernel
theorem dX12_led_1 : decode cX12_led 1 = .ok (.iconst 0, 1) := by decide +kernel
theorem dX12_led_2 : decode cX12_led 2 = .ok (.bipush 13, 2) := by decide +kernel
theorem dX12_led_4 : decode cX12_led 4 = .ok (.invokestatic 38, 3) := by decide +kernel
theorem dX12_led_7 : decode cX12_led 7 = .ok (.ifCond .eq 16, 3) := by decide +kernel
theorem dX12_led_10 : decode cX12_led 10 = .ok (.aload_n 0, 1) := by decide +kernel
theorem dX12_led_11 : decode cX12_led 11 = .ok (.getfield 9, 3) := by decide +kernel
theorem dX12_led_14 : decode cX12_led 14 = .ok (.bipush 20, 2) := by decide +kernel
theorem dX12_led_16 : decode cX12_led 16 = .ok (.iload_n 1, 1) := by decide +kernel
theorem dX12_led_17 : decode cX12_led 17 = .ok (.iadd, 1) := by decide +kernel
theorem dX12_led_18 : decode cX12_led 18 = .ok (.iaload, 1) := by decide +kernel
theorem dX12_led_19 : decode cX12_led 19 = .ok (.i2l, 1) := by decide +kernel
theorem dX12_led_20 : decode cX12_led 20 = .ok (.goto 6, 3) := by decide +kernel
theorem dX12_led_23 : decode cX12_led 23 = .ok (.ldc2_w 272, 3) := by decide +kernel
theorem dX12_led_26 : decode cX12_led 26 = .ok (.lreturn, 1) := by decide +kernel
abbrev cX12_lays : ByteArray := prog_14_method_3_code
def yX12_lays : MethodName := ⟨RX12, "lays", "([I[I)V"⟩
theorem dX12_lays_0 : decode cX12_lays 0 = .ok (.iconst 0, 1) := by decide +kernel
theorem dX12_lays_1 : decode cX12_lays 1 = .ok (.istore_n 2, 1) := by decide +kernel
theorem dX12_lays_2 : decode cX12_lays 2 = .ok (.iload_n 2, 1) := by decide +kernel
theorem dX12_lays_3 : decode cX12_lays 3 = .ok (.sipush 8787, 3) := by decide +kernel
theorem dX12_lays_6 : decode cX12_lays 6 = .ok (.if_icmp .ge 15, 3) := by decide +kernel
theorem dX12_lays_9 : decode cX12_lays 9 = .ok (.aload_n 1, 1) := by decide +kernel
theorem dX12_lays_10 : decode cX12_lays 10 = .ok (.iload_n 2, 1) := by decide +kernel
theorem dX12_lays_11 : decode cX12_lays 11 = .ok (.aload_n 0, 1) := by decide +kernel
theorem dX12_lays_12 : decode cX12_lays 12 = .ok (.iload_n 2, 1) := by decide +kernel
theorem dX12_lays_13 : decode cX12_lays 13 = .ok (.iaload, 1) := by decide +kernel
theorem dX12_lays_14 : decode cX12_lays 14 = .ok (.iastore, 1) := by decide +kernel
theorem dX12_lays_15 : decode cX12_lays 15 = .ok (.iinc 2 1, 3) := by decide +kernel
theorem dX12_lays_18 : decode cX12_lays 18 = .ok (.goto (-16), 3) := by decide +kernel
theorem dX12_lays_21 : decode cX12_lays 21 = .ok (.return_, 1) := by decide +kernel
abbrev cX12_image : ByteArray := prog_14_method_96_code
def yX12_image : MethodName := ⟨RX12, "image", "()I"⟩
theorem dX12_image_0 : decode cX12_image 0 = .ok (.aload_n 0, 1) := by decide +kernel
theorem dX12_image_1 : decode cX12_image 1 = .ok (.getfield 9, 3) := by decide +kernel
theorem dX12_image_4 : decode cX12_image 4 = .ok (.aload_n 0, 1) := by decide +kernel
theorem dX12_image_5 : decode cX12_image 5 = .ok (.getfield 13, 3) := by decide +kernel
theorem dX12_image_8 : decode cX12_image 8 = .ok (.invokestatic 276, 3) := by decide +kernel
theorem dX12_image_11 : decode cX12_image 11 = .ok (.aload_n 0, 1) := by decide +kernel
theorem dX12_image_12 : decode cX12_image 12 = .ok (.iconst 1, 1) := by decide +kernel
theorem dX12_image_13 : decode cX12_image 13 = .ok (.putfield 280, 3) := by decide +kernel
theorem dX12_image_16 : decode cX12_image 16 = .ok (.aload_n 0, 1) := by decide +kernel
theorem dX12_image_17 : decode cX12_image 17 = .ok (.getfield 9, 3) := by decide +kernel
theorem dX12_image_20 : decode cX12_image 20 = .ok (.bipush 13, 2) := by decide +kernel
theorem dX12_image_22 : decode cX12_image 22 = .ok (.iaload, 1) := by decide +kernel
theorem dX12_image_23 : decode cX12_image 23 = .ok (.ireturn, 1) := by decide +kernel
theorem kw_1228 : Cond.fieldLink "FrequencyShelfModel" 13 "FrequencyShelfModel" "kept" "[I" ∈ TB := tb_at 1228 (by decide +kernel) (by decide +kernel)
theorem fl_X12_13 : mF RX12 13 11 1 := ⟨RX12, TX12, 14, tyX12, rfl, by decide, in_X12, kw_1228, tyX12_ok, nmX12⟩
theorem kw_1662 : Cond.methodLink "FrequencyShelfModel" 276 yX12_lays ∈ TB := tb_at 1662 (by decide +kernel) (by decide +kernel)
theorem kw_1664 : Cond.code yX12_lays cX12_lays 3 none ∈ TB := tb_at 1664 (by decide +kernel) (by decide +kernel)
theorem kw_1663 : Cond.static yX12_lays ∈ TB := tb_at 1663 (by decide +kernel) (by decide +kernel)
theorem cs_X12_lays : Cond.code yX12_lays cX12_lays 3 none ∈ TB ∧ Cond.static yX12_lays ∈ TB ∧ Cond.initialized "FrequencyShelfModel" ∈ TB := ⟨kw_1664, kw_1663, kw_75⟩
theorem kw_1229 : Cond.fieldLink "FrequencyShelfModel" 280 "FrequencyShelfModel" "isKept" "Z" ∈ TB := tb_at 1229 (by decide +kernel) (by decide +kernel)
theorem fl_X12_280 : mF RX12 280 11 2 := ⟨RX12, TX12, 14, tyX12, rfl, by decide, in_X12, kw_1229, tyX12_ok, nmX12⟩
theorem fz_X12_2 : mFz 11 2 .boolean := fun _ _ _ h => by cases h; exact ⟨rfl, by decide +kernel⟩
abbrev cX12_back : ByteArray := prog_14_method_97_code
def yX12_back : MethodName := ⟨RX12, "back", "()I"⟩
theorem dX12_back_0 : decode cX12_back 0 = .ok (.aload_n 0, 1) := by decide +kernel
theorem dX12_back_1 : decode cX12_back 1 = .ok (.getfield 280, 3) := by decide +kernel
theorem dX12_back_4 : decode cX12_back 4 = .ok (.ifCond .ne 7, 3) := by decide +kernel
theorem dX12_back_7 : decode cX12_back 7 = .ok (.sipush (-1005), 3) := by decide +kernel
theorem dX12_back_10 : decode cX12_back 10 = .ok (.ireturn, 1) := by decide +kernel
theorem dX12_back_11 : decode cX12_back 11 = .ok (.aload_n 0, 1) := by decide +kernel
theorem dX12_back_12 : decode cX12_back 12 = .ok (.getfield 13, 3) := by decide +kernel
theorem dX12_back_15 : decode cX12_back 15 = .ok (.aload_n 0, 1) := by decide +kernel
theorem dX12_back_16 : decode cX12_back 16 = .ok (.getfield 9, 3) := by decide +kernel
theorem dX12_back_19 : decode cX12_back 19 = .ok (.invokestatic 276, 3) := by decide +kernel
theorem dX12_back_22 : decode cX12_back 22 = .ok (.aload_n 0, 1) := by decide +kernel
theorem dX12_back_23 : decode cX12_back 23 = .ok (.getfield 9, 3) := by decide +kernel
theorem dX12_back_26 : decode cX12_back 26 = .ok (.bipush 13, 2) := by decide +kernel
theorem dX12_back_28 : decode cX12_back 28 = .ok (.iaload, 1) := by decide +kernel
theorem dX12_back_29 : decode cX12_back 29 = .ok (.ireturn, 1) := by decide +kernel
abbrev cX12_count : ByteArray := prog_14_method_98_code
def yX12_count : MethodName := ⟨RX12, "count", "(I)I"⟩
theorem dX12_count_0 : decode cX12_count 0 = .ok (.iconst 0, 1) := by decide +kernel
theorem dX12_count_1 : decode cX12_count 1 = .ok (.istore_n 2, 1) := by decide +kernel
theorem dX12_count_2 : decode cX12_count 2 = .ok (.iload_n 1, 1) := by decide +kernel
theorem dX12_count_3 : decode cX12_count 3 = .ok (.tableswitch 208 0 9 #[53, 61, 66, 72, 78, 83, 91, 128, 161, 200], 53) := by decide +kernel
theorem dX12_count_56 : decode cX12_count 56 = .ok (.aload_n 0, 1) := by decide +kernel
theorem dX12_count_57 : decode cX12_count 57 = .ok (.getfield 9, 3) := by decide +kernel
theorem dX12_count_60 : decode cX12_count 60 = .ok (.bipush 13, 2) := by decide +kernel
theorem dX12_count_62 : decode cX12_count 62 = .ok (.iaload, 1) := by decide +kernel
theorem dX12_count_63 : decode cX12_count 63 = .ok (.ireturn, 1) := by decide +kernel
theorem dX12_count_64 : decode cX12_count 64 = .ok (.aload_n 0, 1) := by decide +kernel
theorem dX12_count_65 : decode cX12_count 65 = .ok (.invokevirtual 120, 3) := by decide +kernel
theorem dX12_count_68 : decode cX12_count 68 = .ok (.ireturn, 1) := by decide +kernel
theorem dX12_count_69 : decode cX12_count 69 = .ok (.aload_n 0, 1) := by decide +kernel
theorem dX12_count_70 : decode cX12_count 70 = .ok (.iconst 2, 1) := by decide +kernel
theorem dX12_count_71 : decode cX12_count 71 = .ok (.invokevirtual 153, 3) := by decide +kernel
theorem dX12_count_74 : decode cX12_count 74 = .ok (.ireturn, 1) := by decide +kernel
theorem dX12_count_75 : decode cX12_count 75 = .ok (.aload_n 0, 1) := by decide +kernel
theorem dX12_count_76 : decode cX12_count 76 = .ok (.iconst 1, 1) := by decide +kernel
theorem dX12_count_77 : decode cX12_count 77 = .ok (.invokevirtual 153, 3) := by decide +kernel
theorem dX12_count_80 : decode cX12_count 80 = .ok (.ireturn, 1) := by decide +kernel
theorem dX12_count_81 : decode cX12_count 81 = .ok (.aload_n 0, 1) := by decide +kernel
theorem dX12_count_82 : decode cX12_count 82 = .ok (.getfield 54, 3) := by decide +kernel
theorem dX12_count_85 : decode cX12_count 85 = .ok (.ireturn, 1) := by decide +kernel
theorem dX12_count_86 : decode cX12_count 86 = .ok (.aload_n 0, 1) := by decide +kernel
theorem dX12_count_87 : decode cX12_count 87 = .ok (.getfield 9, 3) := by decide +kernel
theorem dX12_count_90 : decode cX12_count 90 = .ok (.bipush 8, 2) := by decide +kernel
theorem dX12_count_92 : decode cX12_count 92 = .ok (.iaload, 1) := by decide +kernel
theorem dX12_count_93 : decode cX12_count 93 = .ok (.ireturn, 1) := by decide +kernel
theorem dX12_count_94 : decode cX12_count 94 = .ok (.iconst 0, 1) := by decide +kernel
theorem dX12_count_95 : decode cX12_count 95 = .ok (.istore_n 3, 1) := by decide +kernel
theorem dX12_count_96 : decode cX12_count 96 = .ok (.iload_n 3, 1) := by decide +kernel
theorem dX12_count_97 : decode cX12_count 97 = .ok (.aload_n 0, 1) := by decide +kernel
theorem dX12_count_98 : decode cX12_count 98 = .ok (.getfield 9, 3) := by decide +kernel
theorem dX12_count_101 : decode cX12_count 101 = .ok (.bipush 13, 2) := by decide +kernel
theorem dX12_count_103 : decode cX12_count 103 = .ok (.iaload, 1) := by decide +kernel
theorem dX12_count_104 : decode cX12_count 104 = .ok (.if_icmp .ge 25, 3) := by decide +kernel
theorem dX12_count_107 : decode cX12_count 107 = .ok (.iload_n 2, 1) := by decide +kernel
theorem dX12_count_108 : decode cX12_count 108 = .ok (.aload_n 0, 1) := by decide +kernel
theorem dX12_count_109 : decode cX12_count 109 = .ok (.iload_n 3, 1) := by decide +kernel
theorem dX12_count_110 : decode cX12_count 110 = .ok (.invokevirtual 93, 3) := by decide +kernel
theorem dX12_count_113 : decode cX12_count 113 = .ok (.ifCond .eq 7, 3) := by decide +kernel
theorem dX12_count_116 : decode cX12_count 116 = .ok (.iconst 1, 1) := by decide +kernel
theorem dX12_count_117 : decode cX12_count 117 = .ok (.goto 4, 3) := by decide +kernel
theorem dX12_count_120 : decode cX12_count 120 = .ok (.iconst 0, 1) := by decide +kernel
theorem dX12_count_121 : decode cX12_count 121 = .ok (.iadd, 1) := by decide +kernel
theorem dX12_count_122 : decode cX12_count 122 = .ok (.istore_n 2, 1) := by decide +kernel
theorem dX12_count_123 : decode cX12_count 123 = .ok (.iinc 3 1, 3) := by decide +kernel
theorem dX12_count_126 : decode cX12_count 126 = .ok (.goto (-30), 3) := by decide +kernel
theorem dX12_count_129 : decode cX12_count 129 = .ok (.iload_n 2, 1) := by decide +kernel
theorem dX12_count_130 : decode cX12_count 130 = .ok (.ireturn, 1) := by decide +kernel
theorem dX12_count_131 : decode cX12_count 131 = .ok (.iconst 0, 1) := by decide +kernel
theorem dX12_count_132 : decode cX12_count 132 = .ok (.istore_n 3, 1) := by decide +kernel
theorem dX12_count_133 : decode cX12_count 133 = .ok (.iload_n 3, 1) := by decide +kernel
theorem dX12_count_134 : decode cX12_count 134 = .ok (.bipush 16, 2) := by decide +kernel
theorem dX12_count_136 : decode cX12_count 136 = .ok (.if_icmp .ge 26, 3) := by decide +kernel
theorem dX12_count_139 : decode cX12_count 139 = .ok (.iload_n 2, 1) := by decide +kernel
theorem dX12_count_140 : decode cX12_count 140 = .ok (.aload_n 0, 1) := by decide +kernel
theorem dX12_count_141 : decode cX12_count 141 = .ok (.iload_n 3, 1) := by decide +kernel
theorem dX12_count_142 : decode cX12_count 142 = .ok (.iconst 1, 1) := by decide +kernel
theorem dX12_count_143 : decode cX12_count 143 = .ok (.invokevirtual 284, 3) := by decide +kernel
theorem dX12_count_146 : decode cX12_count 146 = .ok (.ifCond .le 7, 3) := by decide +kernel
theorem dX12_count_149 : decode cX12_count 149 = .ok (.iconst 1, 1) := by decide +kernel
theorem dX12_count_150 : decode cX12_count 150 = .ok (.goto 4, 3) := by decide +kernel
theorem dX12_count_153 : decode cX12_count 153 = .ok (.iconst 0, 1) := by decide +kernel
theorem dX12_count_154 : decode cX12_count 154 = .ok (.iadd, 1) := by decide +kernel
theorem dX12_count_155 : decode cX12_count 155 = .ok (.istore_n 2, 1) := by decide +kernel
theorem dX12_count_156 : decode cX12_count 156 = .ok (.iinc 3 1, 3) := by decide +kernel
theorem dX12_count_159 : decode cX12_count 159 = .ok (.goto (-26), 3) := by decide +kernel
theorem dX12_count_162 : decode cX12_count 162 = .ok (.iload_n 2, 1) := by decide +kernel
theorem dX12_count_163 : decode cX12_count 163 = .ok (.ireturn, 1) := by decide +kernel
theorem dX12_count_164 : decode cX12_count 164 = .ok (.iconst 0, 1) := by decide +kernel
theorem dX12_count_165 : decode cX12_count 165 = .ok (.istore_n 3, 1) := by decide +kernel
theorem dX12_count_166 : decode cX12_count 166 = .ok (.iload_n 3, 1) := by decide +kernel
theorem dX12_count_167 : decode cX12_count 167 = .ok (.aload_n 0, 1) := by decide +kernel
theorem dX12_count_168 : decode cX12_count 168 = .ok (.getfield 9, 3) := by decide +kernel
theorem dX12_count_171 : decode cX12_count 171 = .ok (.bipush 13, 2) := by decide +kernel
theorem dX12_count_173 : decode cX12_count 173 = .ok (.iaload, 1) := by decide +kernel
theorem dX12_count_174 : decode cX12_count 174 = .ok (.if_icmp .ge 27, 3) := by decide +kernel
theorem dX12_count_177 : decode cX12_count 177 = .ok (.iload_n 2, 1) := by decide +kernel
theorem dX12_count_178 : decode cX12_count 178 = .ok (.aload_n 0, 1) := by decide +kernel
theorem dX12_count_179 : decode cX12_count 179 = .ok (.iload_n 3, 1) := by decide +kernel
theorem dX12_count_180 : decode cX12_count 180 = .ok (.bipush 8, 2) := by decide +kernel
theorem dX12_count_182 : decode cX12_count 182 = .ok (.invokevirtual 86, 3) := by decide +kernel
theorem dX12_count_185 : decode cX12_count 185 = .ok (.ifCond .eq 7, 3) := by decide +kernel
theorem dX12_count_188 : decode cX12_count 188 = .ok (.iconst 1, 1) := by decide +kernel
theorem dX12_count_189 : decode cX12_count 189 = .ok (.goto 4, 3) := by decide +kernel
theorem dX12_count_192 : decode cX12_count 192 = .ok (.iconst 0, 1) := by decide +kernel
theorem dX12_count_193 : decode cX12_count 193 = .ok (.iadd, 1) := by decide +kernel
theorem dX12_count_194 : decode cX12_count 194 = .ok (.istore_n 2, 1) := by decide +kernel
theorem dX12_count_195 : decode cX12_count 195 = .ok (.iinc 3 1, 3) := by decide +kernel
theorem dX12_count_198 : decode cX12_count 198 = .ok (.goto (-32), 3) := by decide +kernel
theorem dX12_count_201 : decode cX12_count 201 = .ok (.iload_n 2, 1) := by decide +kernel
theorem dX12_count_202 : decode cX12_count 202 = .ok (.ireturn, 1) := by decide +kernel
theorem dX12_count_203 : decode cX12_count 203 = .ok (.aload_n 0, 1) := by decide +kernel
theorem dX12_count_204 : decode cX12_count 204 = .ok (.getfield 9, 3) := by decide +kernel
theorem dX12_count_207 : decode cX12_count 207 = .ok (.bipush 14, 2) := by decide +kernel
theorem dX12_count_209 : decode cX12_count 209 = .ok (.iaload, 1) := by decide +kernel
theorem dX12_count_210 : decode cX12_count 210 = .ok (.ireturn, 1) := by decide +kernel
theorem dX12_count_211 : decode cX12_count 211 = .ok (.sipush (-1001), 3) := by decide +kernel
theorem dX12_count_214 : decode cX12_count 214 = .ok (.ireturn, 1) := by decide +kernel
theorem kw_1673 : Cond.methodLink "FrequencyShelfModel" 284 yX12_box ∈ TB := tb_at 1673 (by decide +kernel) (by decide +kernel)
theorem kw_1515 : Cond.code yX12_box cX12_box 5 (some .int) ∈ TB := tb_at 1515 (by decide +kernel) (by decide +kernel)
theorem kw_1513 : Cond.instanceMethod yX12_box ∈ TB := tb_at 1513 (by decide +kernel) (by decide +kernel)
theorem kw_1514 : Cond.selects "FrequencyShelfModel" yX12_box yX12_box ∈ TB := tb_at 1514 (by decide +kernel) (by decide +kernel)
theorem cv_X12_box : Cond.code yX12_box cX12_box 5 (some .int) ∈ TB ∧ Cond.instanceMethod yX12_box ∈ TB ∧ Cond.selects "FrequencyShelfModel" yX12_box yX12_box ∈ TB ∧ Cond.initialized "FrequencyShelfModel" ∈ TB := ⟨kw_1515, kw_1513, kw_1514, kw_75⟩
-- X12_running
def po_X12_running (E : mE) (h : Nat) (a_g : Nat) (a_kept : Nat) (a_tape : Nat) (a_written : Nat) (a_asked : Nat) (a_there : Nat) (a_counts : Nat) (a_lasts : Nat) (a_cames : Nat)  (g : Nat → Int32) (kept : Nat → Int32) (isKept : Int32) (tape : Nat → Int32) (taped : Int32) (spot : Int32) (written : Nat → Int32) (writtenMany : Int32) (asked : Nat → Int32) (askedMany : Int32) (there : Nat → Int32) (counts : Nat → Int32) (lasts : Nat → Int32) (cames : Nat → Int32)  (o : Int32) : Option Value → va_W → Prop := (fun (v : Option Value) (w' : va_W) => v = some (.int o) ∧ w' = [(h, .inr (11, [.ref a_g, .ref a_kept, .int isKept, .ref a_tape, .int taped, .int spot, .ref a_written, .int writtenMany, .ref a_asked, .int askedMany, .ref a_there, .ref a_counts, .ref a_lasts, .ref a_cames])), (a_g, .inl (E.2.1, 8787, .inl g)), (a_kept, .inl (E.2.1, 8787, .inl kept)), (a_tape, .inl (E.2.2.1, 60, .inl tape)), (a_written, .inl (E.2.1, 40, .inl written)), (a_asked, .inl (E.2.1, 60, .inl asked)), (a_there, .inl (E.2.1, 12, .inl there)), (a_counts, .inl (E.2.1, 12, .inl counts)), (a_lasts, .inl (E.2.1, 12, .inl lasts)), (a_cames, .inl (E.2.1, 12, .inl cames))])
noncomputable def F_X12_running (N : Nat)  (g : Nat → Int32) (x1 : Int32) : Option (Int32) :=
  bd (F_X12_loadOf N g x1) (fun o_1 =>
  if (o_1 < 0 : Prop) then
  some ((-1))
  else
  bd (F_X12_loadAt g o_1 1) (fun o_2 =>
  if (o_2 = 2 : Prop) then
  some (o_1)
  else
  some ((-1))))
set_option maxHeartbeats 4000000 in
set_option maxRecDepth 100000 in
theorem d_X12_running (E : mE) (l : Launch) (N : Nat) (h : Nat) (a_g : Nat) (a_kept : Nat) (a_tape : Nat) (a_written : Nat) (a_asked : Nat) (a_there : Nat) (a_counts : Nat) (a_lasts : Nat) (a_cames : Nat)  (g : Nat → Int32) (kept : Nat → Int32) (isKept : Int32) (tape : Nat → Int32) (taped : Int32) (spot : Int32) (written : Nat → Int32) (writtenMany : Int32) (asked : Nat → Int32) (askedMany : Int32) (there : Nat → Int32) (counts : Nat → Int32) (lasts : Nat → Int32) (cames : Nat → Int32)  (x1 : Int32)  (o : Int32) (hf : F_X12_running N g x1 = some o) : MX E l yX12_running cX12_running 3 (some .int) ({ frames := 2, cells := 0, slots := 0, locals := 44 } : Room) [.ref h, .int x1] [(h, .inr (11, [.ref a_g, .ref a_kept, .int isKept, .ref a_tape, .int taped, .int spot, .ref a_written, .int writtenMany, .ref a_asked, .int askedMany, .ref a_there, .ref a_counts, .ref a_lasts, .ref a_cames])), (a_g, .inl (E.2.1, 8787, .inl g)), (a_kept, .inl (E.2.1, 8787, .inl kept)), (a_tape, .inl (E.2.2.1, 60, .inl tape)), (a_written, .inl (E.2.1, 40, .inl written)), (a_asked, .inl (E.2.1, 60, .inl asked)), (a_there, .inl (E.2.1, 12, .inl there)), (a_counts, .inl (E.2.1, 12, .inl counts)), (a_lasts, .inl (E.2.1, 12, .inl lasts)), (a_cames, .inl (E.2.1, 12, .inl cames))] (po_X12_running E h a_g a_kept a_tape a_written a_asked a_there a_counts a_lasts a_cames g kept isKept tape taped spot written writtenMany asked askedMany there counts lasts cames o) := by
  refine mx_intro (by decide +kernel) (Nat.le_of_ble_eq_true rfl) ?_
  intro p e s m args below meth c A Q ls B w hl
  obtain ⟨hx, hb, hml, hown, hts⟩ := id B.1
  unfold F_X12_running at hf
  have hl : lv_has ls 3 [(0, .ref h), (1, .int x1)] := hl
  refine lv_aload_n hx hb dX12_running_0 rfl (lv_at hl 0 rfl) ?_
  refine lv_iload_n hx hb dX12_running_1 rfl (lv_at hl 1 rfl) ?_
  obtain ⟨o_1, hq, hf⟩ := bd_e hf
  refine mx_callV (As := [.int x1]) (rest := []) (wr := []) (d_X12_loadOf E l N h a_g a_kept a_tape a_written a_asked a_there a_counts a_lasts a_cames g kept isKept tape taped spot written writtenMany asked askedMany there counts lasts cames x1  o_1 hq) B w [0, 1, 2, 3, 4, 5, 6, 7, 8, 9] [] rfl rfl (by decide) (by decide) (by decide) 0 rfl rfl cv_X12_loadOf kw_1410 1 (by decide +kernel) ⟨Nat.le_of_ble_eq_true rfl, Nat.le_of_ble_eq_true rfl⟩ rfl hl.1 rfl (Nat.le_of_ble_eq_true rfl) dX12_running_2 rfl rfl ⟨Nat.zero_le _, Nat.zero_le _⟩ (fun v w' H locs hpo w => ?_)
  clear hq
  obtain ⟨rfl, rfl⟩ := hpo
  have w : mW E A s [(h, .inr (11, [.ref a_g, .ref a_kept, .int isKept, .ref a_tape, .int taped, .int spot, .ref a_written, .int writtenMany, .ref a_asked, .int askedMany, .ref a_there, .ref a_counts, .ref a_lasts, .ref a_cames])), (a_g, .inl (E.2.1, 8787, .inl g)), (a_kept, .inl (E.2.1, 8787, .inl kept)), (a_tape, .inl (E.2.2.1, 60, .inl tape)), (a_written, .inl (E.2.1, 40, .inl written)), (a_asked, .inl (E.2.1, 60, .inl asked)), (a_there, .inl (E.2.1, 12, .inl there)), (a_counts, .inl (E.2.1, 12, .inl counts)), (a_lasts, .inl (E.2.1, 12, .inl lasts)), (a_cames, .inl (E.2.1, 12, .inl cames))] H locs := w
  refine lv_istore_n (lv' := [(2, .int o_1), (0, .ref h), (1, .int x1)]) hx hb dX12_running_5 rfl hl (by decide) rfl (fun ls hl => ?_)
  refine lv_iload_n hx hb dX12_running_6 rfl (lv_at hl 0 rfl) ?_
  refine lv_if_lt (tgt := 24) hx hb dX12_running_7 (by decide) (fun hc => ?_) (fun hc => ?_)
  · have hf := it_t hc hf
    refine lv_iconst (v := (-1)) hx hb dX12_running_24 (by decide) ?_
    cases hf
    exact mx_iret B w ⟨rfl, rfl⟩ dX12_running_25
  · have hf := it_f hc hf
    refine lv_aload_n hx hb dX12_running_10 rfl (lv_at hl 1 rfl) ?_
    refine lv_iload_n hx hb dX12_running_11 rfl (lv_at hl 0 rfl) ?_
    refine lv_iconst (v := 1) hx hb dX12_running_12 (by decide) ?_
    obtain ⟨o_2, hq, hf⟩ := bd_e hf
    refine mx_callV (As := [.int o_1, .int 1]) (rest := []) (wr := []) (d_X12_loadAt E l  h a_g a_kept a_tape a_written a_asked a_there a_counts a_lasts a_cames g kept isKept tape taped spot written writtenMany asked askedMany there counts lasts cames o_1 1  o_2 hq) B w [0, 1, 2, 3, 4, 5, 6, 7, 8, 9] [] rfl rfl (by decide) (by decide) (by decide) 0 rfl rfl cv_X12_loadAt kw_1385 2 (by decide +kernel) ⟨Nat.le_of_ble_eq_true rfl, Nat.le_of_ble_eq_true rfl⟩ rfl hl.1 rfl (Nat.le_of_ble_eq_true rfl) dX12_running_13 rfl rfl ⟨Nat.zero_le _, Nat.zero_le _⟩ (fun v w' H locs hpo w => ?_)
    clear hq
    obtain ⟨rfl, rfl⟩ := hpo
    have w : mW E A s [(h, .inr (11, [.ref a_g, .ref a_kept, .int isKept, .ref a_tape, .int taped, .int spot, .ref a_written, .int writtenMany, .ref a_asked, .int askedMany, .ref a_there, .ref a_counts, .ref a_lasts, .ref a_cames])), (a_g, .inl (E.2.1, 8787, .inl g)), (a_kept, .inl (E.2.1, 8787, .inl kept)), (a_tape, .inl (E.2.2.1, 60, .inl tape)), (a_written, .inl (E.2.1, 40, .inl written)), (a_asked, .inl (E.2.1, 60, .inl asked)), (a_there, .inl (E.2.1, 12, .inl there)), (a_counts, .inl (E.2.1, 12, .inl counts)), (a_lasts, .inl (E.2.1, 12, .inl lasts)), (a_cames, .inl (E.2.1, 12, .inl cames))] H locs := w
    refine lv_iconst (v := 2) hx hb dX12_running_16 (by decide) ?_
    refine lv_icmp_ne (tgt := 24) hx hb dX12_running_17 (by decide) (fun hc => ?_) (fun hc => ?_)
    · have hf := it_f hc hf
      refine lv_iconst (v := (-1)) hx hb dX12_running_24 (by decide) ?_
      cases hf
      exact mx_iret B w ⟨rfl, rfl⟩ dX12_running_25
    · have hf := it_t hc hf
      refine lv_iload_n hx hb dX12_running_20 rfl (lv_at hl 0 rfl) ?_
      refine lv_goto (tgt := 25) hx hb dX12_running_21 (by decide) ?_
      cases hf
      exact mx_iret B w ⟨rfl, rfl⟩ dX12_running_25
-- X12_renews
def po_X12_renews (E : mE) (h : Nat) (a_g : Nat) (a_kept : Nat) (a_tape : Nat) (a_written : Nat) (a_asked : Nat) (a_there : Nat) (a_counts : Nat) (a_lasts : Nat) (a_cames : Nat)  (g : Nat → Int32) (kept : Nat → Int32) (isKept : Int32) (tape : Nat → Int32) (taped : Int32) (spot : Int32) (written : Nat → Int32) (writtenMany : Int32) (asked : Nat → Int32) (askedMany : Int32) (there : Nat → Int32) (counts : Nat → Int32) (lasts : Nat → Int32) (cames : Nat → Int32)  (o : Int32 × (Nat → Int32)) : Option Value → va_W → Prop := (fun (v : Option Value) (w' : va_W) => v = some (.int o.1) ∧ w' = [(h, .inr (11, [.ref a_g, .ref a_kept, .int isKept, .ref a_tape, .int taped, .int spot, .ref a_written, .int writtenMany, .ref a_asked, .int askedMany, .ref a_there, .ref a_counts, .ref a_lasts, .ref a_cames])), (a_g, .inl (E.2.1, 8787, .inl o.2)), (a_kept, .inl (E.2.1, 8787, .inl kept)), (a_tape, .inl (E.2.2.1, 60, .inl tape)), (a_written, .inl (E.2.1, 40, .inl written)), (a_asked, .inl (E.2.1, 60, .inl asked)), (a_there, .inl (E.2.1, 12, .inl there)), (a_counts, .inl (E.2.1, 12, .inl counts)), (a_lasts, .inl (E.2.1, 12, .inl lasts)), (a_cames, .inl (E.2.1, 12, .inl cames))])
noncomputable def J_X12_renews_62 (N : Nat)   (x1 : Int32) (x3 : Int32) (x4 : Int32) (x5 : Int32) (g : Nat → Int32) : Option (Int32 × (Nat → Int32)) :=
  bd (F_X12_sets g x1 2 x3) (fun o_4 =>
  bd (F_X12_sets o_4 x1 3 x4) (fun o_5 =>
  ld o_5 8787 8 (fun v_6 =>
  bd (F_X12_sets o_5 x1 4 v_6) (fun o_7 =>
  bd (F_X12_makesRoom N o_7 0 x5) (fun o_8 =>
  bd (F_X12_happens N o_8 4 x5) (fun o_9 =>
  some (1, o_9)))))))
set_option maxHeartbeats 4000000 in
set_option maxRecDepth 100000 in
theorem j_X12_renews_62 {E : mE} {l : Launch} {p : Program} {e : Env} {s : State} {m : MethodId} {args : Array Value} {below : List Frame} {meth : Method} {c : Code} {A : Nat → Prop} {Q : State → Prop} {N : Nat} {h : Nat} {a_g : Nat} {a_kept : Nat} {a_tape : Nat} {a_written : Nat} {a_asked : Nat} {a_there : Nat} {a_counts : Nat} {a_lasts : Nat} {a_cames : Nat}  {g0 : Nat → Int32} {kept : Nat → Int32} {isKept : Int32} {tape : Nat → Int32} {taped : Int32} {spot : Int32} {written : Nat → Int32} {writtenMany : Int32} {asked : Nat → Int32} {askedMany : Int32} {there : Nat → Int32} {counts : Nat → Int32} {lasts : Nat → Int32} {cames : Nat → Int32}  {o : Int32 × (Nat → Int32)} (B : mB E yX12_renews cX12_renews 6 (some .boolean) 0 0 (po_X12_renews E h a_g a_kept a_tape a_written a_asked a_there a_counts a_lasts a_cames g0 kept isKept tape taped spot written writtenMany asked askedMany there counts lasts cames o) p s m args below meth c A Q) {x1 : Int32} {x3 : Int32} {x4 : Int32} {x5 : Int32} {g : Nat → Int32}    {H : Heap} {locs : List Loc} {ls : Array Slot} (hf : J_X12_renews_62 N x1 x3 x4 x5 g = some o)  (w : mW E A s [(h, .inr (11, [.ref a_g, .ref a_kept, .int isKept, .ref a_tape, .int taped, .int spot, .ref a_written, .int writtenMany, .ref a_asked, .int askedMany, .ref a_there, .ref a_counts, .ref a_lasts, .ref a_cames])), (a_g, .inl (E.2.1, 8787, .inl g)), (a_kept, .inl (E.2.1, 8787, .inl kept)), (a_tape, .inl (E.2.2.1, 60, .inl tape)), (a_written, .inl (E.2.1, 40, .inl written)), (a_asked, .inl (E.2.1, 60, .inl asked)), (a_there, .inl (E.2.1, 12, .inl there)), (a_counts, .inl (E.2.1, 12, .inl counts)), (a_lasts, .inl (E.2.1, 12, .inl lasts)), (a_cames, .inl (E.2.1, 12, .inl cames))] H locs) (hl : lv_has ls 6 [(0, .ref h), (1, .int x1), (3, .int x3), (4, .int x4), (5, .int x5)]) : W p l e ({ frames := 8, cells := 0, slots := 0, locals := 181 } : Room) s m args below meth c H locs 0 0 Q (F0 m 62 ls []) := by
  obtain ⟨hx, hb, hml, hown, hts⟩ := id B.1
  unfold J_X12_renews_62 at hf
  refine lv_aload_n hx hb dX12_renews_62 rfl (lv_at hl 0 rfl) ?_
  refine lv_iload_n hx hb dX12_renews_63 rfl (lv_at hl 1 rfl) ?_
  refine lv_iconst (v := 2) hx hb dX12_renews_64 (by decide) ?_
  refine lv_iload_n hx hb dX12_renews_65 rfl (lv_at hl 2 rfl) ?_
  obtain ⟨o_4, hq, hf⟩ := bd_e hf
  refine mx_callV (As := [.int x1, .int 2, .int x3]) (rest := []) (wr := []) (d_X12_sets E l  h a_g a_kept a_tape a_written a_asked a_there a_counts a_lasts a_cames g kept isKept tape taped spot written writtenMany asked askedMany there counts lasts cames x1 2 x3  o_4 hq) B w [0, 1, 2, 3, 4, 5, 6, 7, 8, 9] [] rfl rfl (by decide) (by decide) (by decide) 0 rfl rfl cv_X12_sets kw_1430 3 (by decide +kernel) ⟨Nat.le_of_ble_eq_true rfl, Nat.le_of_ble_eq_true rfl⟩ rfl hl.1 rfl (Nat.le_of_ble_eq_true rfl) dX12_renews_66 rfl rfl ⟨Nat.zero_le _, Nat.zero_le _⟩ (fun v w' H locs hpo w => ?_)
  clear hq
  obtain ⟨rfl, rfl⟩ := hpo
  have w : mW E A s [(h, .inr (11, [.ref a_g, .ref a_kept, .int isKept, .ref a_tape, .int taped, .int spot, .ref a_written, .int writtenMany, .ref a_asked, .int askedMany, .ref a_there, .ref a_counts, .ref a_lasts, .ref a_cames])), (a_g, .inl (E.2.1, 8787, .inl o_4)), (a_kept, .inl (E.2.1, 8787, .inl kept)), (a_tape, .inl (E.2.2.1, 60, .inl tape)), (a_written, .inl (E.2.1, 40, .inl written)), (a_asked, .inl (E.2.1, 60, .inl asked)), (a_there, .inl (E.2.1, 12, .inl there)), (a_counts, .inl (E.2.1, 12, .inl counts)), (a_lasts, .inl (E.2.1, 12, .inl lasts)), (a_cames, .inl (E.2.1, 12, .inl cames))] H locs := w
  refine lv_aload_n hx hb dX12_renews_69 rfl (lv_at hl 0 rfl) ?_
  refine lv_iload_n hx hb dX12_renews_70 rfl (lv_at hl 1 rfl) ?_
  refine lv_iconst (v := 3) hx hb dX12_renews_71 (by decide) ?_
  refine lv_iload hx hb dX12_renews_72 (lv_at hl 3 rfl) ?_
  obtain ⟨o_5, hq, hf⟩ := bd_e hf
  refine mx_callV (As := [.int x1, .int 3, .int x4]) (rest := []) (wr := []) (d_X12_sets E l  h a_g a_kept a_tape a_written a_asked a_there a_counts a_lasts a_cames o_4 kept isKept tape taped spot written writtenMany asked askedMany there counts lasts cames x1 3 x4  o_5 hq) B w [0, 1, 2, 3, 4, 5, 6, 7, 8, 9] [] rfl rfl (by decide) (by decide) (by decide) 0 rfl rfl cv_X12_sets kw_1430 3 (by decide +kernel) ⟨Nat.le_of_ble_eq_true rfl, Nat.le_of_ble_eq_true rfl⟩ rfl hl.1 rfl (Nat.le_of_ble_eq_true rfl) dX12_renews_74 rfl rfl ⟨Nat.zero_le _, Nat.zero_le _⟩ (fun v w' H locs hpo w => ?_)
  clear hq
  obtain ⟨rfl, rfl⟩ := hpo
  have w : mW E A s [(h, .inr (11, [.ref a_g, .ref a_kept, .int isKept, .ref a_tape, .int taped, .int spot, .ref a_written, .int writtenMany, .ref a_asked, .int askedMany, .ref a_there, .ref a_counts, .ref a_lasts, .ref a_cames])), (a_g, .inl (E.2.1, 8787, .inl o_5)), (a_kept, .inl (E.2.1, 8787, .inl kept)), (a_tape, .inl (E.2.2.1, 60, .inl tape)), (a_written, .inl (E.2.1, 40, .inl written)), (a_asked, .inl (E.2.1, 60, .inl asked)), (a_there, .inl (E.2.1, 12, .inl there)), (a_counts, .inl (E.2.1, 12, .inl counts)), (a_lasts, .inl (E.2.1, 12, .inl lasts)), (a_cames, .inl (E.2.1, 12, .inl cames))] H locs := w
  refine lv_aload_n hx hb dX12_renews_77 rfl (lv_at hl 0 rfl) ?_
  refine lv_iload_n hx hb dX12_renews_78 rfl (lv_at hl 1 rfl) ?_
  refine lv_iconst (v := 4) hx hb dX12_renews_79 (by decide) ?_
  refine lv_aload_n hx hb dX12_renews_80 rfl (lv_at hl 0 rfl) ?_
  refine mx_get B w 0 fl_X12_9 rfl rfl dX12_renews_81 ?_
  refine lv_bipush (v := 8) hx hb dX12_renews_84 (by decide) ?_
  obtain ⟨hin, hf⟩ := ld_e hf
  refine mx_iald B w 1 rfl hin dX12_renews_86 (fun v_6 ev => ?_)
  have hf := hf _ ev; clear ev
  obtain ⟨o_7, hq, hf⟩ := bd_e hf
  refine mx_callV (As := [.int x1, .int 4, .int v_6]) (rest := []) (wr := []) (d_X12_sets E l  h a_g a_kept a_tape a_written a_asked a_there a_counts a_lasts a_cames o_5 kept isKept tape taped spot written writtenMany asked askedMany there counts lasts cames x1 4 v_6  o_7 hq) B w [0, 1, 2, 3, 4, 5, 6, 7, 8, 9] [] rfl rfl (by decide) (by decide) (by decide) 0 rfl rfl cv_X12_sets kw_1430 3 (by decide +kernel) ⟨Nat.le_of_ble_eq_true rfl, Nat.le_of_ble_eq_true rfl⟩ rfl hl.1 rfl (Nat.le_of_ble_eq_true rfl) dX12_renews_87 rfl rfl ⟨Nat.zero_le _, Nat.zero_le _⟩ (fun v w' H locs hpo w => ?_)
  clear hq
  obtain ⟨rfl, rfl⟩ := hpo
  have w : mW E A s [(h, .inr (11, [.ref a_g, .ref a_kept, .int isKept, .ref a_tape, .int taped, .int spot, .ref a_written, .int writtenMany, .ref a_asked, .int askedMany, .ref a_there, .ref a_counts, .ref a_lasts, .ref a_cames])), (a_g, .inl (E.2.1, 8787, .inl o_7)), (a_kept, .inl (E.2.1, 8787, .inl kept)), (a_tape, .inl (E.2.2.1, 60, .inl tape)), (a_written, .inl (E.2.1, 40, .inl written)), (a_asked, .inl (E.2.1, 60, .inl asked)), (a_there, .inl (E.2.1, 12, .inl there)), (a_counts, .inl (E.2.1, 12, .inl counts)), (a_lasts, .inl (E.2.1, 12, .inl lasts)), (a_cames, .inl (E.2.1, 12, .inl cames))] H locs := w
  refine lv_aload_n hx hb dX12_renews_90 rfl (lv_at hl 0 rfl) ?_
  refine lv_iconst (v := 0) hx hb dX12_renews_91 (by decide) ?_
  refine lv_iload hx hb dX12_renews_92 (lv_at hl 4 rfl) ?_
  obtain ⟨o_8, hq, hf⟩ := bd_e hf
  refine mx_callV (As := [.int 0, .int x5]) (rest := []) (wr := []) (d_X12_makesRoom E l N h a_g a_kept a_tape a_written a_asked a_there a_counts a_lasts a_cames o_7 kept isKept tape taped spot written writtenMany asked askedMany there counts lasts cames 0 x5  o_8 hq) B w [0, 1, 2, 3, 4, 5, 6, 7, 8, 9] [] rfl rfl (by decide) (by decide) (by decide) 0 rfl rfl cv_X12_makesRoom kw_1317 2 (by decide +kernel) ⟨Nat.le_of_ble_eq_true rfl, Nat.le_of_ble_eq_true rfl⟩ rfl hl.1 rfl (Nat.le_of_ble_eq_true rfl) dX12_renews_94 rfl rfl ⟨Nat.zero_le _, Nat.zero_le _⟩ (fun v w' H locs hpo w => ?_)
  clear hq
  obtain ⟨rfl, rfl⟩ := hpo
  have w : mW E A s [(h, .inr (11, [.ref a_g, .ref a_kept, .int isKept, .ref a_tape, .int taped, .int spot, .ref a_written, .int writtenMany, .ref a_asked, .int askedMany, .ref a_there, .ref a_counts, .ref a_lasts, .ref a_cames])), (a_g, .inl (E.2.1, 8787, .inl o_8)), (a_kept, .inl (E.2.1, 8787, .inl kept)), (a_tape, .inl (E.2.2.1, 60, .inl tape)), (a_written, .inl (E.2.1, 40, .inl written)), (a_asked, .inl (E.2.1, 60, .inl asked)), (a_there, .inl (E.2.1, 12, .inl there)), (a_counts, .inl (E.2.1, 12, .inl counts)), (a_lasts, .inl (E.2.1, 12, .inl lasts)), (a_cames, .inl (E.2.1, 12, .inl cames))] H locs := w
  refine lv_aload_n hx hb dX12_renews_97 rfl (lv_at hl 0 rfl) ?_
  refine lv_iconst (v := 4) hx hb dX12_renews_98 (by decide) ?_
  refine lv_iload hx hb dX12_renews_99 (lv_at hl 4 rfl) ?_
  obtain ⟨o_9, hq, hf⟩ := bd_e hf
  refine mx_callV (As := [.int 4, .int x5]) (rest := []) (wr := []) (d_X12_happens E l N h a_g a_kept a_tape a_written a_asked a_there a_counts a_lasts a_cames o_8 kept isKept tape taped spot written writtenMany asked askedMany there counts lasts cames 4 x5  o_9 hq) B w [0, 1, 2, 3, 4, 5, 6, 7, 8, 9] [] rfl rfl (by decide) (by decide) (by decide) 0 rfl rfl cv_X12_happens kw_1373 2 (by decide +kernel) ⟨Nat.le_of_ble_eq_true rfl, Nat.le_of_ble_eq_true rfl⟩ rfl hl.1 rfl (Nat.le_of_ble_eq_true rfl) dX12_renews_101 rfl rfl ⟨Nat.zero_le _, Nat.zero_le _⟩ (fun v w' H locs hpo w => ?_)
  clear hq
  obtain ⟨rfl, rfl⟩ := hpo
  have w : mW E A s [(h, .inr (11, [.ref a_g, .ref a_kept, .int isKept, .ref a_tape, .int taped, .int spot, .ref a_written, .int writtenMany, .ref a_asked, .int askedMany, .ref a_there, .ref a_counts, .ref a_lasts, .ref a_cames])), (a_g, .inl (E.2.1, 8787, .inl o_9)), (a_kept, .inl (E.2.1, 8787, .inl kept)), (a_tape, .inl (E.2.2.1, 60, .inl tape)), (a_written, .inl (E.2.1, 40, .inl written)), (a_asked, .inl (E.2.1, 60, .inl asked)), (a_there, .inl (E.2.1, 12, .inl there)), (a_counts, .inl (E.2.1, 12, .inl counts)), (a_lasts, .inl (E.2.1, 12, .inl lasts)), (a_cames, .inl (E.2.1, 12, .inl cames))] H locs := w
  refine lv_iconst (v := 1) hx hb dX12_renews_104 (by decide) ?_
  cases hf
  exact mx_zret B w rfl ⟨rfl, rfl⟩ dX12_renews_105
noncomputable def F_X12_renews (N : Nat)  (g : Nat → Int32) (x1 : Int32) (x2 : Int32) (x3 : Int32) (x4 : Int32) : Option (Int32 × (Nat → Int32)) :=
  bd (F_X12_at g x1 0) (fun o_1 =>
  ld g 8787 0 (fun v_2 =>
  if (x3 ≤ v_2 : Prop) then
  bd (F_X12_at g x1 8) (fun o_3 =>
  if (o_3 = 0 : Prop) then
  bd (F_X12_sets g x1 1 x2) (fun o_10 =>
  J_X12_renews_62 N x1 x3 x4 o_1 o_10)
  else
  J_X12_renews_62 N x1 x3 x4 o_1 g)
  else
  ld g 8787 27 (fun v_11 =>
  sto g 8787 27 (v_11 + 1) (fun g_12 =>
  bd (F_X12_leaves N g_12 x1 7) (fun o_13 =>
  bd (F_X12_happens N o_13 5 o_1) (fun o_14 =>
  some (0, o_14)))))))
set_option maxHeartbeats 4000000 in
set_option maxRecDepth 100000 in
theorem d_X12_renews (E : mE) (l : Launch) (N : Nat) (h : Nat) (a_g : Nat) (a_kept : Nat) (a_tape : Nat) (a_written : Nat) (a_asked : Nat) (a_there : Nat) (a_counts : Nat) (a_lasts : Nat) (a_cames : Nat)  (g : Nat → Int32) (kept : Nat → Int32) (isKept : Int32) (tape : Nat → Int32) (taped : Int32) (spot : Int32) (written : Nat → Int32) (writtenMany : Int32) (asked : Nat → Int32) (askedMany : Int32) (there : Nat → Int32) (counts : Nat → Int32) (lasts : Nat → Int32) (cames : Nat → Int32)  (x1 : Int32) (x2 : Int32) (x3 : Int32) (x4 : Int32)  (o : Int32 × (Nat → Int32)) (hf : F_X12_renews N g x1 x2 x3 x4 = some o) : MX E l yX12_renews cX12_renews 6 (some .boolean) ({ frames := 8, cells := 0, slots := 0, locals := 181 } : Room) [.ref h, .int x1, .int x2, .int x3, .int x4] [(h, .inr (11, [.ref a_g, .ref a_kept, .int isKept, .ref a_tape, .int taped, .int spot, .ref a_written, .int writtenMany, .ref a_asked, .int askedMany, .ref a_there, .ref a_counts, .ref a_lasts, .ref a_cames])), (a_g, .inl (E.2.1, 8787, .inl g)), (a_kept, .inl (E.2.1, 8787, .inl kept)), (a_tape, .inl (E.2.2.1, 60, .inl tape)), (a_written, .inl (E.2.1, 40, .inl written)), (a_asked, .inl (E.2.1, 60, .inl asked)), (a_there, .inl (E.2.1, 12, .inl there)), (a_counts, .inl (E.2.1, 12, .inl counts)), (a_lasts, .inl (E.2.1, 12, .inl lasts)), (a_cames, .inl (E.2.1, 12, .inl cames))] (po_X12_renews E h a_g a_kept a_tape a_written a_asked a_there a_counts a_lasts a_cames g kept isKept tape taped spot written writtenMany asked askedMany there counts lasts cames o) := by
  refine mx_intro (by decide +kernel) (Nat.le_of_ble_eq_true rfl) ?_
  intro p e s m args below meth c A Q ls B w hl
  obtain ⟨hx, hb, hml, hown, hts⟩ := id B.1
  unfold F_X12_renews at hf
  have hl : lv_has ls 6 [(0, .ref h), (1, .int x1), (2, .int x2), (3, .int x3), (4, .int x4)] := hl
  refine lv_aload_n hx hb dX12_renews_0 rfl (lv_at hl 0 rfl) ?_
  refine lv_iload_n hx hb dX12_renews_1 rfl (lv_at hl 1 rfl) ?_
  refine lv_iconst (v := 0) hx hb dX12_renews_2 (by decide) ?_
  obtain ⟨o_1, hq, hf⟩ := bd_e hf
  refine mx_callV (As := [.int x1, .int 0]) (rest := []) (wr := []) (d_X12_at E l  h a_g a_kept a_tape a_written a_asked a_there a_counts a_lasts a_cames g kept isKept tape taped spot written writtenMany asked askedMany there counts lasts cames x1 0  o_1 hq) B w [0, 1, 2, 3, 4, 5, 6, 7, 8, 9] [] rfl rfl (by decide) (by decide) (by decide) 0 rfl rfl cv_X12_at kw_1325 2 (by decide +kernel) ⟨Nat.le_of_ble_eq_true rfl, Nat.le_of_ble_eq_true rfl⟩ rfl hl.1 rfl (Nat.le_of_ble_eq_true rfl) dX12_renews_3 rfl rfl ⟨Nat.zero_le _, Nat.zero_le _⟩ (fun v w' H locs hpo w => ?_)
  clear hq
  obtain ⟨rfl, rfl⟩ := hpo
  have w : mW E A s [(h, .inr (11, [.ref a_g, .ref a_kept, .int isKept, .ref a_tape, .int taped, .int spot, .ref a_written, .int writtenMany, .ref a_asked, .int askedMany, .ref a_there, .ref a_counts, .ref a_lasts, .ref a_cames])), (a_g, .inl (E.2.1, 8787, .inl g)), (a_kept, .inl (E.2.1, 8787, .inl kept)), (a_tape, .inl (E.2.2.1, 60, .inl tape)), (a_written, .inl (E.2.1, 40, .inl written)), (a_asked, .inl (E.2.1, 60, .inl asked)), (a_there, .inl (E.2.1, 12, .inl there)), (a_counts, .inl (E.2.1, 12, .inl counts)), (a_lasts, .inl (E.2.1, 12, .inl lasts)), (a_cames, .inl (E.2.1, 12, .inl cames))] H locs := w
  refine lv_istore (lv' := [(5, .int o_1), (0, .ref h), (1, .int x1), (2, .int x2), (3, .int x3), (4, .int x4)]) hx hb dX12_renews_6 hl (by decide) rfl (fun ls hl => ?_)
  refine lv_iload_n hx hb dX12_renews_8 rfl (lv_at hl 4 rfl) ?_
  refine lv_aload_n hx hb dX12_renews_9 rfl (lv_at hl 1 rfl) ?_
  refine mx_get B w 0 fl_X12_9 rfl rfl dX12_renews_10 ?_
  refine lv_iconst (v := 0) hx hb dX12_renews_13 (by decide) ?_
  obtain ⟨hin, hf⟩ := ld_e hf
  refine mx_iald B w 1 rfl hin dX12_renews_14 (fun v_2 ev => ?_)
  have hf := hf _ ev; clear ev
  refine lv_icmp_le (tgt := 45) hx hb dX12_renews_15 (by decide) (fun hc => ?_) (fun hc => ?_)
  · have hf := it_t hc hf
    refine lv_aload_n hx hb dX12_renews_45 rfl (lv_at hl 1 rfl) ?_
    refine lv_iload_n hx hb dX12_renews_46 rfl (lv_at hl 2 rfl) ?_
    refine lv_bipush (v := 8) hx hb dX12_renews_47 (by decide) ?_
    obtain ⟨o_3, hq, hf⟩ := bd_e hf
    refine mx_callV (As := [.int x1, .int 8]) (rest := []) (wr := []) (d_X12_at E l  h a_g a_kept a_tape a_written a_asked a_there a_counts a_lasts a_cames g kept isKept tape taped spot written writtenMany asked askedMany there counts lasts cames x1 8  o_3 hq) B w [0, 1, 2, 3, 4, 5, 6, 7, 8, 9] [] rfl rfl (by decide) (by decide) (by decide) 0 rfl rfl cv_X12_at kw_1325 2 (by decide +kernel) ⟨Nat.le_of_ble_eq_true rfl, Nat.le_of_ble_eq_true rfl⟩ rfl hl.1 rfl (Nat.le_of_ble_eq_true rfl) dX12_renews_49 rfl rfl ⟨Nat.zero_le _, Nat.zero_le _⟩ (fun v w' H locs hpo w => ?_)
    clear hq
    obtain ⟨rfl, rfl⟩ := hpo
    have w : mW E A s [(h, .inr (11, [.ref a_g, .ref a_kept, .int isKept, .ref a_tape, .int taped, .int spot, .ref a_written, .int writtenMany, .ref a_asked, .int askedMany, .ref a_there, .ref a_counts, .ref a_lasts, .ref a_cames])), (a_g, .inl (E.2.1, 8787, .inl g)), (a_kept, .inl (E.2.1, 8787, .inl kept)), (a_tape, .inl (E.2.2.1, 60, .inl tape)), (a_written, .inl (E.2.1, 40, .inl written)), (a_asked, .inl (E.2.1, 60, .inl asked)), (a_there, .inl (E.2.1, 12, .inl there)), (a_counts, .inl (E.2.1, 12, .inl counts)), (a_lasts, .inl (E.2.1, 12, .inl lasts)), (a_cames, .inl (E.2.1, 12, .inl cames))] H locs := w
    refine lv_if_ne (tgt := 62) hx hb dX12_renews_52 (by decide) (fun hc => ?_) (fun hc => ?_)
    · have hf := it_f hc hf
      exact j_X12_renews_62 B   hf  w (lv_sub hl [1, 2, 4, 5, 0] rfl)
    · have hf := it_t hc hf
      refine lv_aload_n hx hb dX12_renews_55 rfl (lv_at hl 1 rfl) ?_
      refine lv_iload_n hx hb dX12_renews_56 rfl (lv_at hl 2 rfl) ?_
      refine lv_iconst (v := 1) hx hb dX12_renews_57 (by decide) ?_
      refine lv_iload_n hx hb dX12_renews_58 rfl (lv_at hl 3 rfl) ?_
      obtain ⟨o_10, hq, hf⟩ := bd_e hf
      refine mx_callV (As := [.int x1, .int 1, .int x2]) (rest := []) (wr := []) (d_X12_sets E l  h a_g a_kept a_tape a_written a_asked a_there a_counts a_lasts a_cames g kept isKept tape taped spot written writtenMany asked askedMany there counts lasts cames x1 1 x2  o_10 hq) B w [0, 1, 2, 3, 4, 5, 6, 7, 8, 9] [] rfl rfl (by decide) (by decide) (by decide) 0 rfl rfl cv_X12_sets kw_1430 3 (by decide +kernel) ⟨Nat.le_of_ble_eq_true rfl, Nat.le_of_ble_eq_true rfl⟩ rfl hl.1 rfl (Nat.le_of_ble_eq_true rfl) dX12_renews_59 rfl rfl ⟨Nat.zero_le _, Nat.zero_le _⟩ (fun v w' H locs hpo w => ?_)
      clear hq
      obtain ⟨rfl, rfl⟩ := hpo
      have w : mW E A s [(h, .inr (11, [.ref a_g, .ref a_kept, .int isKept, .ref a_tape, .int taped, .int spot, .ref a_written, .int writtenMany, .ref a_asked, .int askedMany, .ref a_there, .ref a_counts, .ref a_lasts, .ref a_cames])), (a_g, .inl (E.2.1, 8787, .inl o_10)), (a_kept, .inl (E.2.1, 8787, .inl kept)), (a_tape, .inl (E.2.2.1, 60, .inl tape)), (a_written, .inl (E.2.1, 40, .inl written)), (a_asked, .inl (E.2.1, 60, .inl asked)), (a_there, .inl (E.2.1, 12, .inl there)), (a_counts, .inl (E.2.1, 12, .inl counts)), (a_lasts, .inl (E.2.1, 12, .inl lasts)), (a_cames, .inl (E.2.1, 12, .inl cames))] H locs := w
      exact j_X12_renews_62 B   hf  w (lv_sub hl [1, 2, 4, 5, 0] rfl)
  · have hf := it_f hc hf
    refine lv_aload_n hx hb dX12_renews_18 rfl (lv_at hl 1 rfl) ?_
    refine mx_get B w 0 fl_X12_9 rfl rfl dX12_renews_19 ?_
    refine lv_bipush (v := 27) hx hb dX12_renews_22 (by decide) ?_
    refine lv_dup2_11 hx hb dX12_renews_24 rfl rfl ?_
    obtain ⟨hin, hf⟩ := ld_e hf
    refine mx_iald B w 1 rfl hin dX12_renews_25 (fun v_11 ev => ?_)
    have hf := hf _ ev; clear ev
    refine lv_iconst (v := 1) hx hb dX12_renews_26 (by decide) ?_
    refine lv_iadd hx hb dX12_renews_27 ?_
    obtain ⟨hin, hf⟩ := sto_e hf
    refine mx_iast B w 1 rfl hin dX12_renews_28 (fun g_12 H locs ev w => ?_)
    have hf := hf _ ev; clear ev
    have w : mW E A s [(h, .inr (11, [.ref a_g, .ref a_kept, .int isKept, .ref a_tape, .int taped, .int spot, .ref a_written, .int writtenMany, .ref a_asked, .int askedMany, .ref a_there, .ref a_counts, .ref a_lasts, .ref a_cames])), (a_g, .inl (E.2.1, 8787, .inl g_12)), (a_kept, .inl (E.2.1, 8787, .inl kept)), (a_tape, .inl (E.2.2.1, 60, .inl tape)), (a_written, .inl (E.2.1, 40, .inl written)), (a_asked, .inl (E.2.1, 60, .inl asked)), (a_there, .inl (E.2.1, 12, .inl there)), (a_counts, .inl (E.2.1, 12, .inl counts)), (a_lasts, .inl (E.2.1, 12, .inl lasts)), (a_cames, .inl (E.2.1, 12, .inl cames))] H locs := w
    refine lv_aload_n hx hb dX12_renews_29 rfl (lv_at hl 1 rfl) ?_
    refine lv_iload_n hx hb dX12_renews_30 rfl (lv_at hl 2 rfl) ?_
    refine lv_bipush (v := 7) hx hb dX12_renews_31 (by decide) ?_
    obtain ⟨o_13, hq, hf⟩ := bd_e hf
    refine mx_callV (As := [.int x1, .int 7]) (rest := []) (wr := []) (d_X12_leaves E l N h a_g a_kept a_tape a_written a_asked a_there a_counts a_lasts a_cames g_12 kept isKept tape taped spot written writtenMany asked askedMany there counts lasts cames x1 7  o_13 hq) B w [0, 1, 2, 3, 4, 5, 6, 7, 8, 9] [] rfl rfl (by decide) (by decide) (by decide) 0 rfl rfl cv_X12_leaves kw_1361 2 (by decide +kernel) ⟨Nat.le_of_ble_eq_true rfl, Nat.le_of_ble_eq_true rfl⟩ rfl hl.1 rfl (Nat.le_of_ble_eq_true rfl) dX12_renews_33 rfl rfl ⟨Nat.zero_le _, Nat.zero_le _⟩ (fun v w' H locs hpo w => ?_)
    clear hq
    obtain ⟨rfl, rfl⟩ := hpo
    have w : mW E A s [(h, .inr (11, [.ref a_g, .ref a_kept, .int isKept, .ref a_tape, .int taped, .int spot, .ref a_written, .int writtenMany, .ref a_asked, .int askedMany, .ref a_there, .ref a_counts, .ref a_lasts, .ref a_cames])), (a_g, .inl (E.2.1, 8787, .inl o_13)), (a_kept, .inl (E.2.1, 8787, .inl kept)), (a_tape, .inl (E.2.2.1, 60, .inl tape)), (a_written, .inl (E.2.1, 40, .inl written)), (a_asked, .inl (E.2.1, 60, .inl asked)), (a_there, .inl (E.2.1, 12, .inl there)), (a_counts, .inl (E.2.1, 12, .inl counts)), (a_lasts, .inl (E.2.1, 12, .inl lasts)), (a_cames, .inl (E.2.1, 12, .inl cames))] H locs := w
    refine lv_aload_n hx hb dX12_renews_36 rfl (lv_at hl 1 rfl) ?_
    refine lv_iconst (v := 5) hx hb dX12_renews_37 (by decide) ?_
    refine lv_iload hx hb dX12_renews_38 (lv_at hl 0 rfl) ?_
    obtain ⟨o_14, hq, hf⟩ := bd_e hf
    refine mx_callV (As := [.int 5, .int o_1]) (rest := []) (wr := []) (d_X12_happens E l N h a_g a_kept a_tape a_written a_asked a_there a_counts a_lasts a_cames o_13 kept isKept tape taped spot written writtenMany asked askedMany there counts lasts cames 5 o_1  o_14 hq) B w [0, 1, 2, 3, 4, 5, 6, 7, 8, 9] [] rfl rfl (by decide) (by decide) (by decide) 0 rfl rfl cv_X12_happens kw_1373 2 (by decide +kernel) ⟨Nat.le_of_ble_eq_true rfl, Nat.le_of_ble_eq_true rfl⟩ rfl hl.1 rfl (Nat.le_of_ble_eq_true rfl) dX12_renews_40 rfl rfl ⟨Nat.zero_le _, Nat.zero_le _⟩ (fun v w' H locs hpo w => ?_)
    clear hq
    obtain ⟨rfl, rfl⟩ := hpo
    have w : mW E A s [(h, .inr (11, [.ref a_g, .ref a_kept, .int isKept, .ref a_tape, .int taped, .int spot, .ref a_written, .int writtenMany, .ref a_asked, .int askedMany, .ref a_there, .ref a_counts, .ref a_lasts, .ref a_cames])), (a_g, .inl (E.2.1, 8787, .inl o_14)), (a_kept, .inl (E.2.1, 8787, .inl kept)), (a_tape, .inl (E.2.2.1, 60, .inl tape)), (a_written, .inl (E.2.1, 40, .inl written)), (a_asked, .inl (E.2.1, 60, .inl asked)), (a_there, .inl (E.2.1, 12, .inl there)), (a_counts, .inl (E.2.1, 12, .inl counts)), (a_lasts, .inl (E.2.1, 12, .inl lasts)), (a_cames, .inl (E.2.1, 12, .inl cames))] H locs := w
    refine lv_iconst (v := 0) hx hb dX12_renews_43 (by decide) ?_
    cases hf
    exact mx_zret B w rfl ⟨rfl, rfl⟩ dX12_renews_44
-- X12_came
def po_X12_came (E : mE) (h : Nat) (a_g : Nat) (a_kept : Nat) (a_tape : Nat) (a_written : Nat) (a_asked : Nat) (a_there : Nat) (a_counts : Nat) (a_lasts : Nat) (a_cames : Nat)  (g : Nat → Int32) (kept : Nat → Int32) (isKept : Int32) (tape : Nat → Int32) (taped : Int32) (spot : Int32) (written : Nat → Int32) (writtenMany : Int32) (asked : Nat → Int32) (askedMany : Int32) (there : Nat → Int32) (counts : Nat → Int32) (lasts : Nat → Int32) (cames : Nat → Int32)  (o : Int32 × (Nat → Int32) × Int32 × Int32) : Option Value → va_W → Prop := (fun (v : Option Value) (w' : va_W) => v = some (.int o.1) ∧ w' = [(h, .inr (11, [.ref a_g, .ref a_kept, .int isKept, .ref a_tape, .int o.2.2.1, .int o.2.2.2, .ref a_written, .int writtenMany, .ref a_asked, .int askedMany, .ref a_there, .ref a_counts, .ref a_lasts, .ref a_cames])), (a_g, .inl (E.2.1, 8787, .inl o.2.1)), (a_kept, .inl (E.2.1, 8787, .inl kept)), (a_tape, .inl (E.2.2.1, 60, .inl tape)), (a_written, .inl (E.2.1, 40, .inl written)), (a_asked, .inl (E.2.1, 60, .inl asked)), (a_there, .inl (E.2.1, 12, .inl there)), (a_counts, .inl (E.2.1, 12, .inl counts)), (a_lasts, .inl (E.2.1, 12, .inl lasts)), (a_cames, .inl (E.2.1, 12, .inl cames))])
noncomputable def J_X12_came_173 (N : Nat)   (t1 : Int32) (t2 : Int32) (t3 : Int32) (x6 : Int32) (g : Nat → Int32) (tape : Nat → Int32) (taped : Int32) (spot : Int32) : Option (Int32 × (Nat → Int32) × Int32 × Int32) :=
  sto g 8787 t1 (t2 + t3) (fun g_14 =>
  bd (F_X12_runs N g_14) (fun o_15 =>
  some (x6, o_15, taped, spot)))
set_option maxHeartbeats 4000000 in
set_option maxRecDepth 100000 in
theorem j_X12_came_173 {E : mE} {l : Launch} {p : Program} {e : Env} {s : State} {m : MethodId} {args : Array Value} {below : List Frame} {meth : Method} {c : Code} {A : Nat → Prop} {Q : State → Prop} {N : Nat} {h : Nat} {a_g : Nat} {a_kept : Nat} {a_tape : Nat} {a_written : Nat} {a_asked : Nat} {a_there : Nat} {a_counts : Nat} {a_lasts : Nat} {a_cames : Nat}  {g0 : Nat → Int32} {kept : Nat → Int32} {isKept : Int32} {tape : Nat → Int32} {taped0 : Int32} {spot0 : Int32} {written : Nat → Int32} {writtenMany : Int32} {asked : Nat → Int32} {askedMany : Int32} {there : Nat → Int32} {counts : Nat → Int32} {lasts : Nat → Int32} {cames : Nat → Int32}  {o : Int32 × (Nat → Int32) × Int32 × Int32} (B : mB E yX12_came cX12_came 10 (some .int) 0 0 (po_X12_came E h a_g a_kept a_tape a_written a_asked a_there a_counts a_lasts a_cames g0 kept isKept tape taped0 spot0 written writtenMany asked askedMany there counts lasts cames o) p s m args below meth c A Q) {t1 : Int32} {t2 : Int32} {t3 : Int32} {x6 : Int32} {g : Nat → Int32} {taped : Int32} {spot : Int32}    {H : Heap} {locs : List Loc} {ls : Array Slot} (hf : J_X12_came_173 N t1 t2 t3 x6 g tape taped spot = some o)  (w : mW E A s [(h, .inr (11, [.ref a_g, .ref a_kept, .int isKept, .ref a_tape, .int taped, .int spot, .ref a_written, .int writtenMany, .ref a_asked, .int askedMany, .ref a_there, .ref a_counts, .ref a_lasts, .ref a_cames])), (a_g, .inl (E.2.1, 8787, .inl g)), (a_kept, .inl (E.2.1, 8787, .inl kept)), (a_tape, .inl (E.2.2.1, 60, .inl tape)), (a_written, .inl (E.2.1, 40, .inl written)), (a_asked, .inl (E.2.1, 60, .inl asked)), (a_there, .inl (E.2.1, 12, .inl there)), (a_counts, .inl (E.2.1, 12, .inl counts)), (a_lasts, .inl (E.2.1, 12, .inl lasts)), (a_cames, .inl (E.2.1, 12, .inl cames))] H locs) (hl : lv_has ls 10 [(0, .ref h), (6, .int x6)]) : W p l e ({ frames := 9, cells := 0, slots := 0, locals := 207 } : Room) s m args below meth c H locs 0 0 Q (F0 m 173 ls [.int t3, .int t2, .int t1, .ref a_g]) := by
  obtain ⟨hx, hb, hml, hown, hts⟩ := id B.1
  unfold J_X12_came_173 at hf
  refine lv_iadd hx hb dX12_came_173 ?_
  obtain ⟨hin, hf⟩ := sto_e hf
  refine mx_iast B w 1 rfl hin dX12_came_174 (fun g_14 H locs ev w => ?_)
  have hf := hf _ ev; clear ev
  have w : mW E A s [(h, .inr (11, [.ref a_g, .ref a_kept, .int isKept, .ref a_tape, .int taped, .int spot, .ref a_written, .int writtenMany, .ref a_asked, .int askedMany, .ref a_there, .ref a_counts, .ref a_lasts, .ref a_cames])), (a_g, .inl (E.2.1, 8787, .inl g_14)), (a_kept, .inl (E.2.1, 8787, .inl kept)), (a_tape, .inl (E.2.2.1, 60, .inl tape)), (a_written, .inl (E.2.1, 40, .inl written)), (a_asked, .inl (E.2.1, 60, .inl asked)), (a_there, .inl (E.2.1, 12, .inl there)), (a_counts, .inl (E.2.1, 12, .inl counts)), (a_lasts, .inl (E.2.1, 12, .inl lasts)), (a_cames, .inl (E.2.1, 12, .inl cames))] H locs := w
  refine lv_aload_n hx hb dX12_came_175 rfl (lv_at hl 0 rfl) ?_
  obtain ⟨o_15, hq, hf⟩ := bd_e hf
  refine mx_callV (As := []) (rest := []) (wr := []) (d_X12_runs E l N h a_g a_kept a_tape a_written a_asked a_there a_counts a_lasts a_cames g_14 kept isKept tape taped spot written writtenMany asked askedMany there counts lasts cames   o_15 hq) B w [0, 1, 2, 3, 4, 5, 6, 7, 8, 9] [] rfl rfl (by decide) (by decide) (by decide) 0 rfl rfl cv_X12_runs kw_1377 0 (by decide +kernel) ⟨Nat.le_of_ble_eq_true rfl, Nat.le_of_ble_eq_true rfl⟩ rfl hl.1 rfl (Nat.le_of_ble_eq_true rfl) dX12_came_176 rfl rfl ⟨Nat.zero_le _, Nat.zero_le _⟩ (fun v w' H locs hpo w => ?_)
  clear hq
  obtain ⟨rfl, rfl⟩ := hpo
  have w : mW E A s [(h, .inr (11, [.ref a_g, .ref a_kept, .int isKept, .ref a_tape, .int taped, .int spot, .ref a_written, .int writtenMany, .ref a_asked, .int askedMany, .ref a_there, .ref a_counts, .ref a_lasts, .ref a_cames])), (a_g, .inl (E.2.1, 8787, .inl o_15)), (a_kept, .inl (E.2.1, 8787, .inl kept)), (a_tape, .inl (E.2.2.1, 60, .inl tape)), (a_written, .inl (E.2.1, 40, .inl written)), (a_asked, .inl (E.2.1, 60, .inl asked)), (a_there, .inl (E.2.1, 12, .inl there)), (a_counts, .inl (E.2.1, 12, .inl counts)), (a_lasts, .inl (E.2.1, 12, .inl lasts)), (a_cames, .inl (E.2.1, 12, .inl cames))] H locs := w
  refine lv_iload hx hb dX12_came_179 (lv_at hl 1 rfl) ?_
  cases hf
  exact mx_iret B w ⟨rfl, rfl⟩ dX12_came_181
noncomputable def J_X12_came_153 (N : Nat)   (t0 : Int32) (x6 : Int32) (g : Nat → Int32) (tape : Nat → Int32) (taped : Int32) (spot : Int32) : Option (Int32 × (Nat → Int32) × Int32 × Int32) :=
  ld g 8787 26 (fun v_13 =>
  if (t0 = 0 : Prop) then
  J_X12_came_173 N 26 v_13 1 x6 g tape taped spot
  else
  J_X12_came_173 N 26 v_13 0 x6 g tape taped spot)
set_option maxHeartbeats 4000000 in
set_option maxRecDepth 100000 in
theorem j_X12_came_153 {E : mE} {l : Launch} {p : Program} {e : Env} {s : State} {m : MethodId} {args : Array Value} {below : List Frame} {meth : Method} {c : Code} {A : Nat → Prop} {Q : State → Prop} {N : Nat} {h : Nat} {a_g : Nat} {a_kept : Nat} {a_tape : Nat} {a_written : Nat} {a_asked : Nat} {a_there : Nat} {a_counts : Nat} {a_lasts : Nat} {a_cames : Nat}  {g0 : Nat → Int32} {kept : Nat → Int32} {isKept : Int32} {tape : Nat → Int32} {taped0 : Int32} {spot0 : Int32} {written : Nat → Int32} {writtenMany : Int32} {asked : Nat → Int32} {askedMany : Int32} {there : Nat → Int32} {counts : Nat → Int32} {lasts : Nat → Int32} {cames : Nat → Int32}  {o : Int32 × (Nat → Int32) × Int32 × Int32} (B : mB E yX12_came cX12_came 10 (some .int) 0 0 (po_X12_came E h a_g a_kept a_tape a_written a_asked a_there a_counts a_lasts a_cames g0 kept isKept tape taped0 spot0 written writtenMany asked askedMany there counts lasts cames o) p s m args below meth c A Q) {t0 : Int32} {x6 : Int32} {g : Nat → Int32} {taped : Int32} {spot : Int32}    {H : Heap} {locs : List Loc} {ls : Array Slot} (hf : J_X12_came_153 N t0 x6 g tape taped spot = some o)  (w : mW E A s [(h, .inr (11, [.ref a_g, .ref a_kept, .int isKept, .ref a_tape, .int taped, .int spot, .ref a_written, .int writtenMany, .ref a_asked, .int askedMany, .ref a_there, .ref a_counts, .ref a_lasts, .ref a_cames])), (a_g, .inl (E.2.1, 8787, .inl g)), (a_kept, .inl (E.2.1, 8787, .inl kept)), (a_tape, .inl (E.2.2.1, 60, .inl tape)), (a_written, .inl (E.2.1, 40, .inl written)), (a_asked, .inl (E.2.1, 60, .inl asked)), (a_there, .inl (E.2.1, 12, .inl there)), (a_counts, .inl (E.2.1, 12, .inl counts)), (a_lasts, .inl (E.2.1, 12, .inl lasts)), (a_cames, .inl (E.2.1, 12, .inl cames))] H locs) (hl : lv_has ls 10 [(0, .ref h), (6, .int x6)]) : W p l e ({ frames := 9, cells := 0, slots := 0, locals := 207 } : Room) s m args below meth c H locs 0 0 Q (F0 m 153 ls [.int t0]) := by
  obtain ⟨hx, hb, hml, hown, hts⟩ := id B.1
  unfold J_X12_came_153 at hf
  refine lv_istore (lv' := [(9, .int t0), (0, .ref h), (6, .int x6)]) hx hb dX12_came_153 hl (by decide) rfl (fun ls hl => ?_)
  refine lv_aload_n hx hb dX12_came_155 rfl (lv_at hl 1 rfl) ?_
  refine mx_get B w 0 fl_X12_9 rfl rfl dX12_came_156 ?_
  refine lv_bipush (v := 26) hx hb dX12_came_159 (by decide) ?_
  refine lv_dup2_11 hx hb dX12_came_161 rfl rfl ?_
  obtain ⟨hin, hf⟩ := ld_e hf
  refine mx_iald B w 1 rfl hin dX12_came_162 (fun v_13 ev => ?_)
  have hf := hf _ ev; clear ev
  refine lv_iload hx hb dX12_came_163 (lv_at hl 0 rfl) ?_
  refine lv_if_eq (tgt := 172) hx hb dX12_came_165 (by decide) (fun hc => ?_) (fun hc => ?_)
  · have hf := it_t hc hf
    refine lv_iconst (v := 1) hx hb dX12_came_172 (by decide) ?_
    exact j_X12_came_173 B   hf  w (lv_sub hl [1, 2] rfl)
  · have hf := it_f hc hf
    refine lv_iconst (v := 0) hx hb dX12_came_168 (by decide) ?_
    refine lv_goto (tgt := 173) hx hb dX12_came_169 (by decide) ?_
    exact j_X12_came_173 B   hf  w (lv_sub hl [1, 2] rfl)
noncomputable def J_X12_came_112 (N : Nat)   (x1 : Int32) (x2 : Int32) (x3 : Int32) (x4 : Int32) (x6 : Int32) (g : Nat → Int32) (tape : Nat → Int32) (taped : Int32) (spot : Int32) : Option (Int32 × (Nat → Int32) × Int32 × Int32) :=
  bd (F_X12_entryOf N g x4) (fun o_10 =>
  if (o_10 < 0 : Prop) then
  ld g 8787 8 (fun v_11 =>
  bd (F_X12_letsIn N g x4 x1 x2 x3 v_11) (fun o_12 =>
  J_X12_came_153 N o_12.1 x6 o_12.2 tape taped spot))
  else
  bd (F_X12_renews N g o_10 x1 x2 x3) (fun o_16 =>
  J_X12_came_153 N o_16.1 x6 o_16.2 tape taped spot))
set_option maxHeartbeats 4000000 in
set_option maxRecDepth 100000 in
theorem j_X12_came_112 {E : mE} {l : Launch} {p : Program} {e : Env} {s : State} {m : MethodId} {args : Array Value} {below : List Frame} {meth : Method} {c : Code} {A : Nat → Prop} {Q : State → Prop} {N : Nat} {h : Nat} {a_g : Nat} {a_kept : Nat} {a_tape : Nat} {a_written : Nat} {a_asked : Nat} {a_there : Nat} {a_counts : Nat} {a_lasts : Nat} {a_cames : Nat}  {g0 : Nat → Int32} {kept : Nat → Int32} {isKept : Int32} {tape : Nat → Int32} {taped0 : Int32} {spot0 : Int32} {written : Nat → Int32} {writtenMany : Int32} {asked : Nat → Int32} {askedMany : Int32} {there : Nat → Int32} {counts : Nat → Int32} {lasts : Nat → Int32} {cames : Nat → Int32}  {o : Int32 × (Nat → Int32) × Int32 × Int32} (B : mB E yX12_came cX12_came 10 (some .int) 0 0 (po_X12_came E h a_g a_kept a_tape a_written a_asked a_there a_counts a_lasts a_cames g0 kept isKept tape taped0 spot0 written writtenMany asked askedMany there counts lasts cames o) p s m args below meth c A Q) {x1 : Int32} {x2 : Int32} {x3 : Int32} {x4 : Int32} {x6 : Int32} {g : Nat → Int32} {taped : Int32} {spot : Int32}    {H : Heap} {locs : List Loc} {ls : Array Slot} (hf : J_X12_came_112 N x1 x2 x3 x4 x6 g tape taped spot = some o)  (w : mW E A s [(h, .inr (11, [.ref a_g, .ref a_kept, .int isKept, .ref a_tape, .int taped, .int spot, .ref a_written, .int writtenMany, .ref a_asked, .int askedMany, .ref a_there, .ref a_counts, .ref a_lasts, .ref a_cames])), (a_g, .inl (E.2.1, 8787, .inl g)), (a_kept, .inl (E.2.1, 8787, .inl kept)), (a_tape, .inl (E.2.2.1, 60, .inl tape)), (a_written, .inl (E.2.1, 40, .inl written)), (a_asked, .inl (E.2.1, 60, .inl asked)), (a_there, .inl (E.2.1, 12, .inl there)), (a_counts, .inl (E.2.1, 12, .inl counts)), (a_lasts, .inl (E.2.1, 12, .inl lasts)), (a_cames, .inl (E.2.1, 12, .inl cames))] H locs) (hl : lv_has ls 10 [(0, .ref h), (1, .int x1), (2, .int x2), (3, .int x3), (4, .int x4), (6, .int x6)]) : W p l e ({ frames := 9, cells := 0, slots := 0, locals := 207 } : Room) s m args below meth c H locs 0 0 Q (F0 m 112 ls []) := by
  obtain ⟨hx, hb, hml, hown, hts⟩ := id B.1
  unfold J_X12_came_112 at hf
  refine lv_aload_n hx hb dX12_came_112 rfl (lv_at hl 0 rfl) ?_
  refine lv_iload hx hb dX12_came_113 (lv_at hl 4 rfl) ?_
  obtain ⟨o_10, hq, hf⟩ := bd_e hf
  refine mx_callV (As := [.int x4]) (rest := []) (wr := []) (d_X12_entryOf E l N h a_g a_kept a_tape a_written a_asked a_there a_counts a_lasts a_cames g kept isKept tape taped spot written writtenMany asked askedMany there counts lasts cames x4  o_10 hq) B w [0, 1, 2, 3, 4, 5, 6, 7, 8, 9] [] rfl rfl (by decide) (by decide) (by decide) 0 rfl rfl cv_X12_entryOf kw_1422 1 (by decide +kernel) ⟨Nat.le_of_ble_eq_true rfl, Nat.le_of_ble_eq_true rfl⟩ rfl hl.1 rfl (Nat.le_of_ble_eq_true rfl) dX12_came_115 rfl rfl ⟨Nat.zero_le _, Nat.zero_le _⟩ (fun v w' H locs hpo w => ?_)
  clear hq
  obtain ⟨rfl, rfl⟩ := hpo
  have w : mW E A s [(h, .inr (11, [.ref a_g, .ref a_kept, .int isKept, .ref a_tape, .int taped, .int spot, .ref a_written, .int writtenMany, .ref a_asked, .int askedMany, .ref a_there, .ref a_counts, .ref a_lasts, .ref a_cames])), (a_g, .inl (E.2.1, 8787, .inl g)), (a_kept, .inl (E.2.1, 8787, .inl kept)), (a_tape, .inl (E.2.2.1, 60, .inl tape)), (a_written, .inl (E.2.1, 40, .inl written)), (a_asked, .inl (E.2.1, 60, .inl asked)), (a_there, .inl (E.2.1, 12, .inl there)), (a_counts, .inl (E.2.1, 12, .inl counts)), (a_lasts, .inl (E.2.1, 12, .inl lasts)), (a_cames, .inl (E.2.1, 12, .inl cames))] H locs := w
  refine lv_istore (lv' := [(8, .int o_10), (0, .ref h), (1, .int x1), (2, .int x2), (3, .int x3), (4, .int x4), (6, .int x6)]) hx hb dX12_came_118 hl (by decide) rfl (fun ls hl => ?_)
  refine lv_iload hx hb dX12_came_120 (lv_at hl 0 rfl) ?_
  refine lv_if_lt (tgt := 137) hx hb dX12_came_122 (by decide) (fun hc => ?_) (fun hc => ?_)
  · have hf := it_t hc hf
    refine lv_aload_n hx hb dX12_came_137 rfl (lv_at hl 1 rfl) ?_
    refine lv_iload hx hb dX12_came_138 (lv_at hl 5 rfl) ?_
    refine lv_iload_n hx hb dX12_came_140 rfl (lv_at hl 2 rfl) ?_
    refine lv_iload_n hx hb dX12_came_141 rfl (lv_at hl 3 rfl) ?_
    refine lv_iload_n hx hb dX12_came_142 rfl (lv_at hl 4 rfl) ?_
    refine lv_aload_n hx hb dX12_came_143 rfl (lv_at hl 1 rfl) ?_
    refine mx_get B w 0 fl_X12_9 rfl rfl dX12_came_144 ?_
    refine lv_bipush (v := 8) hx hb dX12_came_147 (by decide) ?_
    obtain ⟨hin, hf⟩ := ld_e hf
    refine mx_iald B w 1 rfl hin dX12_came_149 (fun v_11 ev => ?_)
    have hf := hf _ ev; clear ev
    obtain ⟨o_12, hq, hf⟩ := bd_e hf
    refine mx_callV (As := [.int x4, .int x1, .int x2, .int x3, .int v_11]) (rest := []) (wr := []) (d_X12_letsIn E l N h a_g a_kept a_tape a_written a_asked a_there a_counts a_lasts a_cames g kept isKept tape taped spot written writtenMany asked askedMany there counts lasts cames x4 x1 x2 x3 v_11  o_12 hq) B w [0, 1, 2, 3, 4, 5, 6, 7, 8, 9] [] rfl rfl (by decide) (by decide) (by decide) 0 rfl rfl cv_X12_letsIn kw_1434 5 (by decide +kernel) ⟨Nat.le_of_ble_eq_true rfl, Nat.le_of_ble_eq_true rfl⟩ rfl hl.1 rfl (Nat.le_of_ble_eq_true rfl) dX12_came_150 rfl rfl ⟨Nat.zero_le _, Nat.zero_le _⟩ (fun v w' H locs hpo w => ?_)
    clear hq
    obtain ⟨rfl, rfl⟩ := hpo
    have w : mW E A s [(h, .inr (11, [.ref a_g, .ref a_kept, .int isKept, .ref a_tape, .int taped, .int spot, .ref a_written, .int writtenMany, .ref a_asked, .int askedMany, .ref a_there, .ref a_counts, .ref a_lasts, .ref a_cames])), (a_g, .inl (E.2.1, 8787, .inl o_12.2)), (a_kept, .inl (E.2.1, 8787, .inl kept)), (a_tape, .inl (E.2.2.1, 60, .inl tape)), (a_written, .inl (E.2.1, 40, .inl written)), (a_asked, .inl (E.2.1, 60, .inl asked)), (a_there, .inl (E.2.1, 12, .inl there)), (a_counts, .inl (E.2.1, 12, .inl counts)), (a_lasts, .inl (E.2.1, 12, .inl lasts)), (a_cames, .inl (E.2.1, 12, .inl cames))] H locs := w
    exact j_X12_came_153 B   hf  w (lv_sub hl [1, 6] rfl)
  · have hf := it_f hc hf
    refine lv_aload_n hx hb dX12_came_125 rfl (lv_at hl 1 rfl) ?_
    refine lv_iload hx hb dX12_came_126 (lv_at hl 0 rfl) ?_
    refine lv_iload_n hx hb dX12_came_128 rfl (lv_at hl 2 rfl) ?_
    refine lv_iload_n hx hb dX12_came_129 rfl (lv_at hl 3 rfl) ?_
    refine lv_iload_n hx hb dX12_came_130 rfl (lv_at hl 4 rfl) ?_
    obtain ⟨o_16, hq, hf⟩ := bd_e hf
    refine mx_callV (As := [.int o_10, .int x1, .int x2, .int x3]) (rest := []) (wr := []) (d_X12_renews E l N h a_g a_kept a_tape a_written a_asked a_there a_counts a_lasts a_cames g kept isKept tape taped spot written writtenMany asked askedMany there counts lasts cames o_10 x1 x2 x3  o_16 hq) B w [0, 1, 2, 3, 4, 5, 6, 7, 8, 9] [] rfl rfl (by decide) (by decide) (by decide) 0 rfl rfl cv_X12_renews kw_1426 4 (by decide +kernel) ⟨Nat.le_of_ble_eq_true rfl, Nat.le_of_ble_eq_true rfl⟩ rfl hl.1 rfl (Nat.le_of_ble_eq_true rfl) dX12_came_131 rfl rfl ⟨Nat.zero_le _, Nat.zero_le _⟩ (fun v w' H locs hpo w => ?_)
    clear hq
    obtain ⟨rfl, rfl⟩ := hpo
    have w : mW E A s [(h, .inr (11, [.ref a_g, .ref a_kept, .int isKept, .ref a_tape, .int taped, .int spot, .ref a_written, .int writtenMany, .ref a_asked, .int askedMany, .ref a_there, .ref a_counts, .ref a_lasts, .ref a_cames])), (a_g, .inl (E.2.1, 8787, .inl o_16.2)), (a_kept, .inl (E.2.1, 8787, .inl kept)), (a_tape, .inl (E.2.2.1, 60, .inl tape)), (a_written, .inl (E.2.1, 40, .inl written)), (a_asked, .inl (E.2.1, 60, .inl asked)), (a_there, .inl (E.2.1, 12, .inl there)), (a_counts, .inl (E.2.1, 12, .inl counts)), (a_lasts, .inl (E.2.1, 12, .inl lasts)), (a_cames, .inl (E.2.1, 12, .inl cames))] H locs := w
    refine lv_goto (tgt := 153) hx hb dX12_came_134 (by decide) ?_
    exact j_X12_came_153 B   hf  w (lv_sub hl [1, 6] rfl)
noncomputable def F_X12_came (N : Nat)  (g : Nat → Int32) (tape : Nat → Int32) (taped : Int32) (spot : Int32) (x1 : Int32) (x2 : Int32) (x3 : Int32) : Option (Int32 × (Nat → Int32) × Int32 × Int32) :=
  bd (F_X12_in x1 0 99999) (fun o_1 =>
  if (o_1 = 0 : Prop) then
  some ((-1001), g, taped, spot)
  else
  bd (F_X12_in x2 1 20) (fun o_2 =>
  if (o_2 = 0 : Prop) then
  some ((-1001), g, taped, spot)
  else
  bd (F_X12_in x3 0 255) (fun o_3 =>
  if (o_3 = 0 : Prop) then
  some ((-1001), g, taped, spot)
  else
  bd (F_X12_takesKey N tape taped spot) (fun o_4 =>
  if (o_4.1 = 0 : Prop) then
  some ((-1002), g, o_4.2.1, o_4.2.2)
  else
  bd (F_X12_running N g o_4.1) (fun o_5 =>
  if (0 ≤ o_5 : Prop) then
  bd (F_X12_delivers N g o_5 x1) (fun o_6 =>
  ld o_6.2 8787 24 (fun v_7 =>
  sto o_6.2 8787 24 (v_7 + 1) (fun g_8 =>
  bd (F_X12_coldOf N g_8 o_4.1) (fun o_9 =>
  if (o_9 < 0 : Prop) then
  J_X12_came_112 N x1 x2 x3 o_4.1 o_6.1 g_8 tape o_4.2.1 o_4.2.2
  else
  bd (F_X12_takesOut N g_8 14 1898 5 o_9) (fun o_17 =>
  J_X12_came_112 N x1 x2 x3 o_4.1 o_6.1 o_17 tape o_4.2.1 o_4.2.2)))))
  else
  some ((-1005), g, o_4.2.1, o_4.2.2))))))
set_option maxHeartbeats 4000000 in
set_option maxRecDepth 100000 in
theorem d_X12_came (E : mE) (l : Launch) (N : Nat) (h : Nat) (a_g : Nat) (a_kept : Nat) (a_tape : Nat) (a_written : Nat) (a_asked : Nat) (a_there : Nat) (a_counts : Nat) (a_lasts : Nat) (a_cames : Nat)  (g : Nat → Int32) (kept : Nat → Int32) (isKept : Int32) (tape : Nat → Int32) (taped : Int32) (spot : Int32) (written : Nat → Int32) (writtenMany : Int32) (asked : Nat → Int32) (askedMany : Int32) (there : Nat → Int32) (counts : Nat → Int32) (lasts : Nat → Int32) (cames : Nat → Int32)  (x1 : Int32) (x2 : Int32) (x3 : Int32)  (o : Int32 × (Nat → Int32) × Int32 × Int32) (hf : F_X12_came N g tape taped spot x1 x2 x3 = some o) : MX E l yX12_came cX12_came 10 (some .int) ({ frames := 9, cells := 0, slots := 0, locals := 207 } : Room) [.ref h, .int x1, .int x2, .int x3] [(h, .inr (11, [.ref a_g, .ref a_kept, .int isKept, .ref a_tape, .int taped, .int spot, .ref a_written, .int writtenMany, .ref a_asked, .int askedMany, .ref a_there, .ref a_counts, .ref a_lasts, .ref a_cames])), (a_g, .inl (E.2.1, 8787, .inl g)), (a_kept, .inl (E.2.1, 8787, .inl kept)), (a_tape, .inl (E.2.2.1, 60, .inl tape)), (a_written, .inl (E.2.1, 40, .inl written)), (a_asked, .inl (E.2.1, 60, .inl asked)), (a_there, .inl (E.2.1, 12, .inl there)), (a_counts, .inl (E.2.1, 12, .inl counts)), (a_lasts, .inl (E.2.1, 12, .inl lasts)), (a_cames, .inl (E.2.1, 12, .inl cames))] (po_X12_came E h a_g a_kept a_tape a_written a_asked a_there a_counts a_lasts a_cames g kept isKept tape taped spot written writtenMany asked askedMany there counts lasts cames o) := by
  refine mx_intro (by decide +kernel) (Nat.le_of_ble_eq_true rfl) ?_
  intro p e s m args below meth c A Q ls B w hl
  obtain ⟨hx, hb, hml, hown, hts⟩ := id B.1
  unfold F_X12_came at hf
  have hl : lv_has ls 10 [(0, .ref h), (1, .int x1), (2, .int x2), (3, .int x3)] := hl
  refine lv_iload_n hx hb dX12_came_0 rfl (lv_at hl 1 rfl) ?_
  refine lv_iconst (v := 0) hx hb dX12_came_1 (by decide) ?_
  refine lv_ldc hx hb hown (hts _ kw_1393) dX12_came_2 ?_
  obtain ⟨o_1, hq, hf⟩ := bd_e hf
  refine mx_callS (As := [.int x1, .int 0, .int 99999]) (rest := []) (wr := [(h, .inr (11, [.ref a_g, .ref a_kept, .int isKept, .ref a_tape, .int taped, .int spot, .ref a_written, .int writtenMany, .ref a_asked, .int askedMany, .ref a_there, .ref a_counts, .ref a_lasts, .ref a_cames])), (a_g, .inl (E.2.1, 8787, .inl g)), (a_kept, .inl (E.2.1, 8787, .inl kept)), (a_tape, .inl (E.2.2.1, 60, .inl tape)), (a_written, .inl (E.2.1, 40, .inl written)), (a_asked, .inl (E.2.1, 60, .inl asked)), (a_there, .inl (E.2.1, 12, .inl there)), (a_counts, .inl (E.2.1, 12, .inl counts)), (a_lasts, .inl (E.2.1, 12, .inl lasts)), (a_cames, .inl (E.2.1, 12, .inl cames))]) (d_X12_in E l   x1 0 99999  o_1 hq) B w [] [0, 1, 2, 3, 4, 5, 6, 7, 8, 9] rfl rfl (by decide) (by decide) (by decide) cs_X12_in kw_1274 3 (by decide +kernel) ⟨Nat.le_of_ble_eq_true rfl, Nat.le_of_ble_eq_true rfl⟩ rfl hl.1 rfl (Nat.le_of_ble_eq_true rfl) dX12_came_4 rfl rfl ⟨Nat.zero_le _, Nat.zero_le _⟩ (fun v w' H locs hpo w => ?_)
  clear hq
  obtain ⟨rfl, rfl⟩ := hpo
  have w : mW E A s [(h, .inr (11, [.ref a_g, .ref a_kept, .int isKept, .ref a_tape, .int taped, .int spot, .ref a_written, .int writtenMany, .ref a_asked, .int askedMany, .ref a_there, .ref a_counts, .ref a_lasts, .ref a_cames])), (a_g, .inl (E.2.1, 8787, .inl g)), (a_kept, .inl (E.2.1, 8787, .inl kept)), (a_tape, .inl (E.2.2.1, 60, .inl tape)), (a_written, .inl (E.2.1, 40, .inl written)), (a_asked, .inl (E.2.1, 60, .inl asked)), (a_there, .inl (E.2.1, 12, .inl there)), (a_counts, .inl (E.2.1, 12, .inl counts)), (a_lasts, .inl (E.2.1, 12, .inl lasts)), (a_cames, .inl (E.2.1, 12, .inl cames))] H locs := w
  refine lv_if_eq (tgt := 31) hx hb dX12_came_7 (by decide) (fun hc => ?_) (fun hc => ?_)
  · have hf := it_t hc hf
    refine lv_sipush (v := (-1001)) hx hb dX12_came_31 (by decide) ?_
    cases hf
    exact mx_iret B w ⟨rfl, rfl⟩ dX12_came_34
  · have hf := it_f hc hf
    refine lv_iload_n hx hb dX12_came_10 rfl (lv_at hl 2 rfl) ?_
    refine lv_iconst (v := 1) hx hb dX12_came_11 (by decide) ?_
    refine lv_bipush (v := 20) hx hb dX12_came_12 (by decide) ?_
    obtain ⟨o_2, hq, hf⟩ := bd_e hf
    refine mx_callS (As := [.int x2, .int 1, .int 20]) (rest := []) (wr := [(h, .inr (11, [.ref a_g, .ref a_kept, .int isKept, .ref a_tape, .int taped, .int spot, .ref a_written, .int writtenMany, .ref a_asked, .int askedMany, .ref a_there, .ref a_counts, .ref a_lasts, .ref a_cames])), (a_g, .inl (E.2.1, 8787, .inl g)), (a_kept, .inl (E.2.1, 8787, .inl kept)), (a_tape, .inl (E.2.2.1, 60, .inl tape)), (a_written, .inl (E.2.1, 40, .inl written)), (a_asked, .inl (E.2.1, 60, .inl asked)), (a_there, .inl (E.2.1, 12, .inl there)), (a_counts, .inl (E.2.1, 12, .inl counts)), (a_lasts, .inl (E.2.1, 12, .inl lasts)), (a_cames, .inl (E.2.1, 12, .inl cames))]) (d_X12_in E l   x2 1 20  o_2 hq) B w [] [0, 1, 2, 3, 4, 5, 6, 7, 8, 9] rfl rfl (by decide) (by decide) (by decide) cs_X12_in kw_1274 3 (by decide +kernel) ⟨Nat.le_of_ble_eq_true rfl, Nat.le_of_ble_eq_true rfl⟩ rfl hl.1 rfl (Nat.le_of_ble_eq_true rfl) dX12_came_14 rfl rfl ⟨Nat.zero_le _, Nat.zero_le _⟩ (fun v w' H locs hpo w => ?_)
    clear hq
    obtain ⟨rfl, rfl⟩ := hpo
    have w : mW E A s [(h, .inr (11, [.ref a_g, .ref a_kept, .int isKept, .ref a_tape, .int taped, .int spot, .ref a_written, .int writtenMany, .ref a_asked, .int askedMany, .ref a_there, .ref a_counts, .ref a_lasts, .ref a_cames])), (a_g, .inl (E.2.1, 8787, .inl g)), (a_kept, .inl (E.2.1, 8787, .inl kept)), (a_tape, .inl (E.2.2.1, 60, .inl tape)), (a_written, .inl (E.2.1, 40, .inl written)), (a_asked, .inl (E.2.1, 60, .inl asked)), (a_there, .inl (E.2.1, 12, .inl there)), (a_counts, .inl (E.2.1, 12, .inl counts)), (a_lasts, .inl (E.2.1, 12, .inl lasts)), (a_cames, .inl (E.2.1, 12, .inl cames))] H locs := w
    refine lv_if_eq (tgt := 31) hx hb dX12_came_17 (by decide) (fun hc => ?_) (fun hc => ?_)
    · have hf := it_t hc hf
      refine lv_sipush (v := (-1001)) hx hb dX12_came_31 (by decide) ?_
      cases hf
      exact mx_iret B w ⟨rfl, rfl⟩ dX12_came_34
    · have hf := it_f hc hf
      refine lv_iload_n hx hb dX12_came_20 rfl (lv_at hl 3 rfl) ?_
      refine lv_iconst (v := 0) hx hb dX12_came_21 (by decide) ?_
      refine lv_sipush (v := 255) hx hb dX12_came_22 (by decide) ?_
      obtain ⟨o_3, hq, hf⟩ := bd_e hf
      refine mx_callS (As := [.int x3, .int 0, .int 255]) (rest := []) (wr := [(h, .inr (11, [.ref a_g, .ref a_kept, .int isKept, .ref a_tape, .int taped, .int spot, .ref a_written, .int writtenMany, .ref a_asked, .int askedMany, .ref a_there, .ref a_counts, .ref a_lasts, .ref a_cames])), (a_g, .inl (E.2.1, 8787, .inl g)), (a_kept, .inl (E.2.1, 8787, .inl kept)), (a_tape, .inl (E.2.2.1, 60, .inl tape)), (a_written, .inl (E.2.1, 40, .inl written)), (a_asked, .inl (E.2.1, 60, .inl asked)), (a_there, .inl (E.2.1, 12, .inl there)), (a_counts, .inl (E.2.1, 12, .inl counts)), (a_lasts, .inl (E.2.1, 12, .inl lasts)), (a_cames, .inl (E.2.1, 12, .inl cames))]) (d_X12_in E l   x3 0 255  o_3 hq) B w [] [0, 1, 2, 3, 4, 5, 6, 7, 8, 9] rfl rfl (by decide) (by decide) (by decide) cs_X12_in kw_1274 3 (by decide +kernel) ⟨Nat.le_of_ble_eq_true rfl, Nat.le_of_ble_eq_true rfl⟩ rfl hl.1 rfl (Nat.le_of_ble_eq_true rfl) dX12_came_25 rfl rfl ⟨Nat.zero_le _, Nat.zero_le _⟩ (fun v w' H locs hpo w => ?_)
      clear hq
      obtain ⟨rfl, rfl⟩ := hpo
      have w : mW E A s [(h, .inr (11, [.ref a_g, .ref a_kept, .int isKept, .ref a_tape, .int taped, .int spot, .ref a_written, .int writtenMany, .ref a_asked, .int askedMany, .ref a_there, .ref a_counts, .ref a_lasts, .ref a_cames])), (a_g, .inl (E.2.1, 8787, .inl g)), (a_kept, .inl (E.2.1, 8787, .inl kept)), (a_tape, .inl (E.2.2.1, 60, .inl tape)), (a_written, .inl (E.2.1, 40, .inl written)), (a_asked, .inl (E.2.1, 60, .inl asked)), (a_there, .inl (E.2.1, 12, .inl there)), (a_counts, .inl (E.2.1, 12, .inl counts)), (a_lasts, .inl (E.2.1, 12, .inl lasts)), (a_cames, .inl (E.2.1, 12, .inl cames))] H locs := w
      refine lv_if_ne (tgt := 35) hx hb dX12_came_28 (by decide) (fun hc => ?_) (fun hc => ?_)
      · have hf := it_f hc hf
        refine lv_aload_n hx hb dX12_came_35 rfl (lv_at hl 0 rfl) ?_
        obtain ⟨o_4, hq, hf⟩ := bd_e hf
        refine mx_callV (As := []) (rest := []) (wr := []) (d_X12_takesKey E l N h a_g a_kept a_tape a_written a_asked a_there a_counts a_lasts a_cames g kept isKept tape taped spot written writtenMany asked askedMany there counts lasts cames   o_4 hq) B w [0, 1, 2, 3, 4, 5, 6, 7, 8, 9] [] rfl rfl (by decide) (by decide) (by decide) 0 rfl rfl cv_X12_takesKey kw_1281 0 (by decide +kernel) ⟨Nat.le_of_ble_eq_true rfl, Nat.le_of_ble_eq_true rfl⟩ rfl hl.1 rfl (Nat.le_of_ble_eq_true rfl) dX12_came_36 rfl rfl ⟨Nat.zero_le _, Nat.zero_le _⟩ (fun v w' H locs hpo w => ?_)
        clear hq
        obtain ⟨rfl, rfl⟩ := hpo
        have w : mW E A s [(h, .inr (11, [.ref a_g, .ref a_kept, .int isKept, .ref a_tape, .int o_4.2.1, .int o_4.2.2, .ref a_written, .int writtenMany, .ref a_asked, .int askedMany, .ref a_there, .ref a_counts, .ref a_lasts, .ref a_cames])), (a_g, .inl (E.2.1, 8787, .inl g)), (a_kept, .inl (E.2.1, 8787, .inl kept)), (a_tape, .inl (E.2.2.1, 60, .inl tape)), (a_written, .inl (E.2.1, 40, .inl written)), (a_asked, .inl (E.2.1, 60, .inl asked)), (a_there, .inl (E.2.1, 12, .inl there)), (a_counts, .inl (E.2.1, 12, .inl counts)), (a_lasts, .inl (E.2.1, 12, .inl lasts)), (a_cames, .inl (E.2.1, 12, .inl cames))] H locs := w
        refine lv_istore (lv' := [(4, .int o_4.1), (0, .ref h), (1, .int x1), (2, .int x2), (3, .int x3)]) hx hb dX12_came_39 hl (by decide) rfl (fun ls hl => ?_)
        refine lv_iload hx hb dX12_came_41 (lv_at hl 0 rfl) ?_
        refine lv_if_ne (tgt := 50) hx hb dX12_came_43 (by decide) (fun hc => ?_) (fun hc => ?_)
        · have hf := it_f hc hf
          refine lv_aload_n hx hb dX12_came_50 rfl (lv_at hl 1 rfl) ?_
          refine lv_iload hx hb dX12_came_51 (lv_at hl 0 rfl) ?_
          obtain ⟨o_5, hq, hf⟩ := bd_e hf
          refine mx_callV (As := [.int o_4.1]) (rest := []) (wr := []) (d_X12_running E l N h a_g a_kept a_tape a_written a_asked a_there a_counts a_lasts a_cames g kept isKept tape o_4.2.1 o_4.2.2 written writtenMany asked askedMany there counts lasts cames o_4.1  o_5 hq) B w [0, 1, 2, 3, 4, 5, 6, 7, 8, 9] [] rfl rfl (by decide) (by decide) (by decide) 0 rfl rfl cv_X12_running kw_1406 1 (by decide +kernel) ⟨Nat.le_of_ble_eq_true rfl, Nat.le_of_ble_eq_true rfl⟩ rfl hl.1 rfl (Nat.le_of_ble_eq_true rfl) dX12_came_53 rfl rfl ⟨Nat.zero_le _, Nat.zero_le _⟩ (fun v w' H locs hpo w => ?_)
          clear hq
          obtain ⟨rfl, rfl⟩ := hpo
          have w : mW E A s [(h, .inr (11, [.ref a_g, .ref a_kept, .int isKept, .ref a_tape, .int o_4.2.1, .int o_4.2.2, .ref a_written, .int writtenMany, .ref a_asked, .int askedMany, .ref a_there, .ref a_counts, .ref a_lasts, .ref a_cames])), (a_g, .inl (E.2.1, 8787, .inl g)), (a_kept, .inl (E.2.1, 8787, .inl kept)), (a_tape, .inl (E.2.2.1, 60, .inl tape)), (a_written, .inl (E.2.1, 40, .inl written)), (a_asked, .inl (E.2.1, 60, .inl asked)), (a_there, .inl (E.2.1, 12, .inl there)), (a_counts, .inl (E.2.1, 12, .inl counts)), (a_lasts, .inl (E.2.1, 12, .inl lasts)), (a_cames, .inl (E.2.1, 12, .inl cames))] H locs := w
          refine lv_istore (lv' := [(5, .int o_5), (4, .int o_4.1), (0, .ref h), (1, .int x1), (2, .int x2), (3, .int x3)]) hx hb dX12_came_56 hl (by decide) rfl (fun ls hl => ?_)
          refine lv_iload hx hb dX12_came_58 (lv_at hl 0 rfl) ?_
          refine lv_if_ge (tgt := 67) hx hb dX12_came_60 (by decide) (fun hc => ?_) (fun hc => ?_)
          · have hf := it_t hc hf
            refine lv_aload_n hx hb dX12_came_67 rfl (lv_at hl 2 rfl) ?_
            refine lv_iload hx hb dX12_came_68 (lv_at hl 0 rfl) ?_
            refine lv_iload_n hx hb dX12_came_70 rfl (lv_at hl 3 rfl) ?_
            obtain ⟨o_6, hq, hf⟩ := bd_e hf
            refine mx_callV (As := [.int o_5, .int x1]) (rest := []) (wr := []) (d_X12_delivers E l N h a_g a_kept a_tape a_written a_asked a_there a_counts a_lasts a_cames g kept isKept tape o_4.2.1 o_4.2.2 written writtenMany asked askedMany there counts lasts cames o_5 x1  o_6 hq) B w [0, 1, 2, 3, 4, 5, 6, 7, 8, 9] [] rfl rfl (by decide) (by decide) (by decide) 0 rfl rfl cv_X12_delivers kw_1398 2 (by decide +kernel) ⟨Nat.le_of_ble_eq_true rfl, Nat.le_of_ble_eq_true rfl⟩ rfl hl.1 rfl (Nat.le_of_ble_eq_true rfl) dX12_came_71 rfl rfl ⟨Nat.zero_le _, Nat.zero_le _⟩ (fun v w' H locs hpo w => ?_)
            clear hq
            obtain ⟨rfl, rfl⟩ := hpo
            have w : mW E A s [(h, .inr (11, [.ref a_g, .ref a_kept, .int isKept, .ref a_tape, .int o_4.2.1, .int o_4.2.2, .ref a_written, .int writtenMany, .ref a_asked, .int askedMany, .ref a_there, .ref a_counts, .ref a_lasts, .ref a_cames])), (a_g, .inl (E.2.1, 8787, .inl o_6.2)), (a_kept, .inl (E.2.1, 8787, .inl kept)), (a_tape, .inl (E.2.2.1, 60, .inl tape)), (a_written, .inl (E.2.1, 40, .inl written)), (a_asked, .inl (E.2.1, 60, .inl asked)), (a_there, .inl (E.2.1, 12, .inl there)), (a_counts, .inl (E.2.1, 12, .inl counts)), (a_lasts, .inl (E.2.1, 12, .inl lasts)), (a_cames, .inl (E.2.1, 12, .inl cames))] H locs := w
            refine lv_istore (lv' := [(6, .int o_6.1), (5, .int o_5), (4, .int o_4.1), (0, .ref h), (1, .int x1), (2, .int x2), (3, .int x3)]) hx hb dX12_came_74 hl (by decide) rfl (fun ls hl => ?_)
            refine lv_aload_n hx hb dX12_came_76 rfl (lv_at hl 3 rfl) ?_
            refine mx_get B w 0 fl_X12_9 rfl rfl dX12_came_77 ?_
            refine lv_bipush (v := 24) hx hb dX12_came_80 (by decide) ?_
            refine lv_dup2_11 hx hb dX12_came_82 rfl rfl ?_
            obtain ⟨hin, hf⟩ := ld_e hf
            refine mx_iald B w 1 rfl hin dX12_came_83 (fun v_7 ev => ?_)
            have hf := hf _ ev; clear ev
            refine lv_iconst (v := 1) hx hb dX12_came_84 (by decide) ?_
            refine lv_iadd hx hb dX12_came_85 ?_
            obtain ⟨hin, hf⟩ := sto_e hf
            refine mx_iast B w 1 rfl hin dX12_came_86 (fun g_8 H locs ev w => ?_)
            have hf := hf _ ev; clear ev
            have w : mW E A s [(h, .inr (11, [.ref a_g, .ref a_kept, .int isKept, .ref a_tape, .int o_4.2.1, .int o_4.2.2, .ref a_written, .int writtenMany, .ref a_asked, .int askedMany, .ref a_there, .ref a_counts, .ref a_lasts, .ref a_cames])), (a_g, .inl (E.2.1, 8787, .inl g_8)), (a_kept, .inl (E.2.1, 8787, .inl kept)), (a_tape, .inl (E.2.2.1, 60, .inl tape)), (a_written, .inl (E.2.1, 40, .inl written)), (a_asked, .inl (E.2.1, 60, .inl asked)), (a_there, .inl (E.2.1, 12, .inl there)), (a_counts, .inl (E.2.1, 12, .inl counts)), (a_lasts, .inl (E.2.1, 12, .inl lasts)), (a_cames, .inl (E.2.1, 12, .inl cames))] H locs := w
            refine lv_aload_n hx hb dX12_came_87 rfl (lv_at hl 3 rfl) ?_
            refine lv_iload hx hb dX12_came_88 (lv_at hl 2 rfl) ?_
            obtain ⟨o_9, hq, hf⟩ := bd_e hf
            refine mx_callV (As := [.int o_4.1]) (rest := []) (wr := []) (d_X12_coldOf E l N h a_g a_kept a_tape a_written a_asked a_there a_counts a_lasts a_cames g_8 kept isKept tape o_4.2.1 o_4.2.2 written writtenMany asked askedMany there counts lasts cames o_4.1  o_9 hq) B w [0, 1, 2, 3, 4, 5, 6, 7, 8, 9] [] rfl rfl (by decide) (by decide) (by decide) 0 rfl rfl cv_X12_coldOf kw_1414 1 (by decide +kernel) ⟨Nat.le_of_ble_eq_true rfl, Nat.le_of_ble_eq_true rfl⟩ rfl hl.1 rfl (Nat.le_of_ble_eq_true rfl) dX12_came_90 rfl rfl ⟨Nat.zero_le _, Nat.zero_le _⟩ (fun v w' H locs hpo w => ?_)
            clear hq
            obtain ⟨rfl, rfl⟩ := hpo
            have w : mW E A s [(h, .inr (11, [.ref a_g, .ref a_kept, .int isKept, .ref a_tape, .int o_4.2.1, .int o_4.2.2, .ref a_written, .int writtenMany, .ref a_asked, .int askedMany, .ref a_there, .ref a_counts, .ref a_lasts, .ref a_cames])), (a_g, .inl (E.2.1, 8787, .inl g_8)), (a_kept, .inl (E.2.1, 8787, .inl kept)), (a_tape, .inl (E.2.2.1, 60, .inl tape)), (a_written, .inl (E.2.1, 40, .inl written)), (a_asked, .inl (E.2.1, 60, .inl asked)), (a_there, .inl (E.2.1, 12, .inl there)), (a_counts, .inl (E.2.1, 12, .inl counts)), (a_lasts, .inl (E.2.1, 12, .inl lasts)), (a_cames, .inl (E.2.1, 12, .inl cames))] H locs := w
            refine lv_istore (lv' := [(7, .int o_9), (6, .int o_6.1), (5, .int o_5), (4, .int o_4.1), (0, .ref h), (1, .int x1), (2, .int x2), (3, .int x3)]) hx hb dX12_came_93 hl (by decide) rfl (fun ls hl => ?_)
            refine lv_iload hx hb dX12_came_95 (lv_at hl 0 rfl) ?_
            refine lv_if_lt (tgt := 112) hx hb dX12_came_97 (by decide) (fun hc => ?_) (fun hc => ?_)
            · have hf := it_t hc hf
              exact j_X12_came_112 B   hf  w (lv_sub hl [4, 5, 6, 7, 3, 1] rfl)
            · have hf := it_f hc hf
              refine lv_aload_n hx hb dX12_came_100 rfl (lv_at hl 4 rfl) ?_
              refine lv_bipush (v := 14) hx hb dX12_came_101 (by decide) ?_
              refine lv_sipush (v := 1898) hx hb dX12_came_103 (by decide) ?_
              refine lv_iconst (v := 5) hx hb dX12_came_106 (by decide) ?_
              refine lv_iload hx hb dX12_came_107 (lv_at hl 0 rfl) ?_
              obtain ⟨o_17, hq, hf⟩ := bd_e hf
              refine mx_callV (As := [.int 14, .int 1898, .int 5, .int o_9]) (rest := []) (wr := []) (d_X12_takesOut E l N h a_g a_kept a_tape a_written a_asked a_there a_counts a_lasts a_cames g_8 kept isKept tape o_4.2.1 o_4.2.2 written writtenMany asked askedMany there counts lasts cames 14 1898 5 o_9  o_17 hq) B w [0, 1, 2, 3, 4, 5, 6, 7, 8, 9] [] rfl rfl (by decide) (by decide) (by decide) 0 rfl rfl cv_X12_takesOut kw_1357 4 (by decide +kernel) ⟨Nat.le_of_ble_eq_true rfl, Nat.le_of_ble_eq_true rfl⟩ rfl hl.1 rfl (Nat.le_of_ble_eq_true rfl) dX12_came_109 rfl rfl ⟨Nat.zero_le _, Nat.zero_le _⟩ (fun v w' H locs hpo w => ?_)
              clear hq
              obtain ⟨rfl, rfl⟩ := hpo
              have w : mW E A s [(h, .inr (11, [.ref a_g, .ref a_kept, .int isKept, .ref a_tape, .int o_4.2.1, .int o_4.2.2, .ref a_written, .int writtenMany, .ref a_asked, .int askedMany, .ref a_there, .ref a_counts, .ref a_lasts, .ref a_cames])), (a_g, .inl (E.2.1, 8787, .inl o_17)), (a_kept, .inl (E.2.1, 8787, .inl kept)), (a_tape, .inl (E.2.2.1, 60, .inl tape)), (a_written, .inl (E.2.1, 40, .inl written)), (a_asked, .inl (E.2.1, 60, .inl asked)), (a_there, .inl (E.2.1, 12, .inl there)), (a_counts, .inl (E.2.1, 12, .inl counts)), (a_lasts, .inl (E.2.1, 12, .inl lasts)), (a_cames, .inl (E.2.1, 12, .inl cames))] H locs := w
              exact j_X12_came_112 B   hf  w (lv_sub hl [4, 5, 6, 7, 3, 1] rfl)
          · have hf := it_f hc hf
            refine lv_sipush (v := (-1005)) hx hb dX12_came_63 (by decide) ?_
            cases hf
            exact mx_iret B w ⟨rfl, rfl⟩ dX12_came_66
        · have hf := it_t hc hf
          refine lv_sipush (v := (-1002)) hx hb dX12_came_46 (by decide) ?_
          cases hf
          exact mx_iret B w ⟨rfl, rfl⟩ dX12_came_49
      · have hf := it_t hc hf
        refine lv_sipush (v := (-1001)) hx hb dX12_came_31 (by decide) ?_
        cases hf
        exact mx_iret B w ⟨rfl, rfl⟩ dX12_came_34
-- X12_failed
def po_X12_failed (E : mE) (h : Nat) (a_g : Nat) (a_kept : Nat) (a_tape : Nat) (a_written : Nat) (a_asked : Nat) (a_there : Nat) (a_counts : Nat) (a_lasts : Nat) (a_cames : Nat)  (g : Nat → Int32) (kept : Nat → Int32) (isKept : Int32) (tape : Nat → Int32) (taped : Int32) (spot : Int32) (written : Nat → Int32) (writtenMany : Int32) (asked : Nat → Int32) (askedMany : Int32) (there : Nat → Int32) (counts : Nat → Int32) (lasts : Nat → Int32) (cames : Nat → Int32)  (o : Int32 × (Nat → Int32) × Int32 × Int32) : Option Value → va_W → Prop := (fun (v : Option Value) (w' : va_W) => v = some (.int o.1) ∧ w' = [(h, .inr (11, [.ref a_g, .ref a_kept, .int isKept, .ref a_tape, .int o.2.2.1, .int o.2.2.2, .ref a_written, .int writtenMany, .ref a_asked, .int askedMany, .ref a_there, .ref a_counts, .ref a_lasts, .ref a_cames])), (a_g, .inl (E.2.1, 8787, .inl o.2.1)), (a_kept, .inl (E.2.1, 8787, .inl kept)), (a_tape, .inl (E.2.2.1, 60, .inl tape)), (a_written, .inl (E.2.1, 40, .inl written)), (a_asked, .inl (E.2.1, 60, .inl asked)), (a_there, .inl (E.2.1, 12, .inl there)), (a_counts, .inl (E.2.1, 12, .inl counts)), (a_lasts, .inl (E.2.1, 12, .inl lasts)), (a_cames, .inl (E.2.1, 12, .inl cames))])
noncomputable def F_X12_failed (N : Nat)  (g : Nat → Int32) (tape : Nat → Int32) (taped : Int32) (spot : Int32) (x1 : Int32) : Option (Int32 × (Nat → Int32) × Int32 × Int32) :=
  bd (F_X12_in x1 1 99) (fun o_1 =>
  if (o_1 = 0 : Prop) then
  some ((-1001), g, taped, spot)
  else
  bd (F_X12_takesKey N tape taped spot) (fun o_2 =>
  if (o_2.1 = 0 : Prop) then
  some ((-1002), g, o_2.2.1, o_2.2.2)
  else
  bd (F_X12_running N g o_2.1) (fun o_3 =>
  if (0 ≤ o_3 : Prop) then
  bd (F_X12_fails N g o_3 x1) (fun o_4 =>
  some (o_4.1, o_4.2, o_2.2.1, o_2.2.2))
  else
  some ((-1005), g, o_2.2.1, o_2.2.2))))
set_option maxHeartbeats 4000000 in
set_option maxRecDepth 100000 in
theorem d_X12_failed (E : mE) (l : Launch) (N : Nat) (h : Nat) (a_g : Nat) (a_kept : Nat) (a_tape : Nat) (a_written : Nat) (a_asked : Nat) (a_there : Nat) (a_counts : Nat) (a_lasts : Nat) (a_cames : Nat)  (g : Nat → Int32) (kept : Nat → Int32) (isKept : Int32) (tape : Nat → Int32) (taped : Int32) (spot : Int32) (written : Nat → Int32) (writtenMany : Int32) (asked : Nat → Int32) (askedMany : Int32) (there : Nat → Int32) (counts : Nat → Int32) (lasts : Nat → Int32) (cames : Nat → Int32)  (x1 : Int32)  (o : Int32 × (Nat → Int32) × Int32 × Int32) (hf : F_X12_failed N g tape taped spot x1 = some o) : MX E l yX12_failed cX12_failed 4 (some .int) ({ frames := 6, cells := 0, slots := 0, locals := 137 } : Room) [.ref h, .int x1] [(h, .inr (11, [.ref a_g, .ref a_kept, .int isKept, .ref a_tape, .int taped, .int spot, .ref a_written, .int writtenMany, .ref a_asked, .int askedMany, .ref a_there, .ref a_counts, .ref a_lasts, .ref a_cames])), (a_g, .inl (E.2.1, 8787, .inl g)), (a_kept, .inl (E.2.1, 8787, .inl kept)), (a_tape, .inl (E.2.2.1, 60, .inl tape)), (a_written, .inl (E.2.1, 40, .inl written)), (a_asked, .inl (E.2.1, 60, .inl asked)), (a_there, .inl (E.2.1, 12, .inl there)), (a_counts, .inl (E.2.1, 12, .inl counts)), (a_lasts, .inl (E.2.1, 12, .inl lasts)), (a_cames, .inl (E.2.1, 12, .inl cames))] (po_X12_failed E h a_g a_kept a_tape a_written a_asked a_there a_counts a_lasts a_cames g kept isKept tape taped spot written writtenMany asked askedMany there counts lasts cames o) := by
  refine mx_intro (by decide +kernel) (Nat.le_of_ble_eq_true rfl) ?_
  intro p e s m args below meth c A Q ls B w hl
  obtain ⟨hx, hb, hml, hown, hts⟩ := id B.1
  unfold F_X12_failed at hf
  have hl : lv_has ls 4 [(0, .ref h), (1, .int x1)] := hl
  refine lv_iload_n hx hb dX12_failed_0 rfl (lv_at hl 1 rfl) ?_
  refine lv_iconst (v := 1) hx hb dX12_failed_1 (by decide) ?_
  refine lv_bipush (v := 99) hx hb dX12_failed_2 (by decide) ?_
  obtain ⟨o_1, hq, hf⟩ := bd_e hf
  refine mx_callS (As := [.int x1, .int 1, .int 99]) (rest := []) (wr := [(h, .inr (11, [.ref a_g, .ref a_kept, .int isKept, .ref a_tape, .int taped, .int spot, .ref a_written, .int writtenMany, .ref a_asked, .int askedMany, .ref a_there, .ref a_counts, .ref a_lasts, .ref a_cames])), (a_g, .inl (E.2.1, 8787, .inl g)), (a_kept, .inl (E.2.1, 8787, .inl kept)), (a_tape, .inl (E.2.2.1, 60, .inl tape)), (a_written, .inl (E.2.1, 40, .inl written)), (a_asked, .inl (E.2.1, 60, .inl asked)), (a_there, .inl (E.2.1, 12, .inl there)), (a_counts, .inl (E.2.1, 12, .inl counts)), (a_lasts, .inl (E.2.1, 12, .inl lasts)), (a_cames, .inl (E.2.1, 12, .inl cames))]) (d_X12_in E l   x1 1 99  o_1 hq) B w [] [0, 1, 2, 3, 4, 5, 6, 7, 8, 9] rfl rfl (by decide) (by decide) (by decide) cs_X12_in kw_1274 3 (by decide +kernel) ⟨Nat.le_of_ble_eq_true rfl, Nat.le_of_ble_eq_true rfl⟩ rfl hl.1 rfl (Nat.le_of_ble_eq_true rfl) dX12_failed_4 rfl rfl ⟨Nat.zero_le _, Nat.zero_le _⟩ (fun v w' H locs hpo w => ?_)
  clear hq
  obtain ⟨rfl, rfl⟩ := hpo
  have w : mW E A s [(h, .inr (11, [.ref a_g, .ref a_kept, .int isKept, .ref a_tape, .int taped, .int spot, .ref a_written, .int writtenMany, .ref a_asked, .int askedMany, .ref a_there, .ref a_counts, .ref a_lasts, .ref a_cames])), (a_g, .inl (E.2.1, 8787, .inl g)), (a_kept, .inl (E.2.1, 8787, .inl kept)), (a_tape, .inl (E.2.2.1, 60, .inl tape)), (a_written, .inl (E.2.1, 40, .inl written)), (a_asked, .inl (E.2.1, 60, .inl asked)), (a_there, .inl (E.2.1, 12, .inl there)), (a_counts, .inl (E.2.1, 12, .inl counts)), (a_lasts, .inl (E.2.1, 12, .inl lasts)), (a_cames, .inl (E.2.1, 12, .inl cames))] H locs := w
  refine lv_if_ne (tgt := 14) hx hb dX12_failed_7 (by decide) (fun hc => ?_) (fun hc => ?_)
  · have hf := it_f hc hf
    refine lv_aload_n hx hb dX12_failed_14 rfl (lv_at hl 0 rfl) ?_
    obtain ⟨o_2, hq, hf⟩ := bd_e hf
    refine mx_callV (As := []) (rest := []) (wr := []) (d_X12_takesKey E l N h a_g a_kept a_tape a_written a_asked a_there a_counts a_lasts a_cames g kept isKept tape taped spot written writtenMany asked askedMany there counts lasts cames   o_2 hq) B w [0, 1, 2, 3, 4, 5, 6, 7, 8, 9] [] rfl rfl (by decide) (by decide) (by decide) 0 rfl rfl cv_X12_takesKey kw_1281 0 (by decide +kernel) ⟨Nat.le_of_ble_eq_true rfl, Nat.le_of_ble_eq_true rfl⟩ rfl hl.1 rfl (Nat.le_of_ble_eq_true rfl) dX12_failed_15 rfl rfl ⟨Nat.zero_le _, Nat.zero_le _⟩ (fun v w' H locs hpo w => ?_)
    clear hq
    obtain ⟨rfl, rfl⟩ := hpo
    have w : mW E A s [(h, .inr (11, [.ref a_g, .ref a_kept, .int isKept, .ref a_tape, .int o_2.2.1, .int o_2.2.2, .ref a_written, .int writtenMany, .ref a_asked, .int askedMany, .ref a_there, .ref a_counts, .ref a_lasts, .ref a_cames])), (a_g, .inl (E.2.1, 8787, .inl g)), (a_kept, .inl (E.2.1, 8787, .inl kept)), (a_tape, .inl (E.2.2.1, 60, .inl tape)), (a_written, .inl (E.2.1, 40, .inl written)), (a_asked, .inl (E.2.1, 60, .inl asked)), (a_there, .inl (E.2.1, 12, .inl there)), (a_counts, .inl (E.2.1, 12, .inl counts)), (a_lasts, .inl (E.2.1, 12, .inl lasts)), (a_cames, .inl (E.2.1, 12, .inl cames))] H locs := w
    refine lv_istore_n (lv' := [(2, .int o_2.1), (0, .ref h), (1, .int x1)]) hx hb dX12_failed_18 rfl hl (by decide) rfl (fun ls hl => ?_)
    refine lv_iload_n hx hb dX12_failed_19 rfl (lv_at hl 0 rfl) ?_
    refine lv_if_ne (tgt := 27) hx hb dX12_failed_20 (by decide) (fun hc => ?_) (fun hc => ?_)
    · have hf := it_f hc hf
      refine lv_aload_n hx hb dX12_failed_27 rfl (lv_at hl 1 rfl) ?_
      refine lv_iload_n hx hb dX12_failed_28 rfl (lv_at hl 0 rfl) ?_
      obtain ⟨o_3, hq, hf⟩ := bd_e hf
      refine mx_callV (As := [.int o_2.1]) (rest := []) (wr := []) (d_X12_running E l N h a_g a_kept a_tape a_written a_asked a_there a_counts a_lasts a_cames g kept isKept tape o_2.2.1 o_2.2.2 written writtenMany asked askedMany there counts lasts cames o_2.1  o_3 hq) B w [0, 1, 2, 3, 4, 5, 6, 7, 8, 9] [] rfl rfl (by decide) (by decide) (by decide) 0 rfl rfl cv_X12_running kw_1406 1 (by decide +kernel) ⟨Nat.le_of_ble_eq_true rfl, Nat.le_of_ble_eq_true rfl⟩ rfl hl.1 rfl (Nat.le_of_ble_eq_true rfl) dX12_failed_29 rfl rfl ⟨Nat.zero_le _, Nat.zero_le _⟩ (fun v w' H locs hpo w => ?_)
      clear hq
      obtain ⟨rfl, rfl⟩ := hpo
      have w : mW E A s [(h, .inr (11, [.ref a_g, .ref a_kept, .int isKept, .ref a_tape, .int o_2.2.1, .int o_2.2.2, .ref a_written, .int writtenMany, .ref a_asked, .int askedMany, .ref a_there, .ref a_counts, .ref a_lasts, .ref a_cames])), (a_g, .inl (E.2.1, 8787, .inl g)), (a_kept, .inl (E.2.1, 8787, .inl kept)), (a_tape, .inl (E.2.2.1, 60, .inl tape)), (a_written, .inl (E.2.1, 40, .inl written)), (a_asked, .inl (E.2.1, 60, .inl asked)), (a_there, .inl (E.2.1, 12, .inl there)), (a_counts, .inl (E.2.1, 12, .inl counts)), (a_lasts, .inl (E.2.1, 12, .inl lasts)), (a_cames, .inl (E.2.1, 12, .inl cames))] H locs := w
      refine lv_istore_n (lv' := [(3, .int o_3), (2, .int o_2.1), (0, .ref h), (1, .int x1)]) hx hb dX12_failed_32 rfl hl (by decide) rfl (fun ls hl => ?_)
      refine lv_iload_n hx hb dX12_failed_33 rfl (lv_at hl 0 rfl) ?_
      refine lv_if_ge (tgt := 43) hx hb dX12_failed_34 (by decide) (fun hc => ?_) (fun hc => ?_)
      · have hf := it_t hc hf
        refine lv_aload_n hx hb dX12_failed_43 rfl (lv_at hl 2 rfl) ?_
        refine lv_iload_n hx hb dX12_failed_44 rfl (lv_at hl 0 rfl) ?_
        refine lv_iload_n hx hb dX12_failed_45 rfl (lv_at hl 3 rfl) ?_
        obtain ⟨o_4, hq, hf⟩ := bd_e hf
        refine mx_callV (As := [.int o_3, .int x1]) (rest := []) (wr := []) (d_X12_fails E l N h a_g a_kept a_tape a_written a_asked a_there a_counts a_lasts a_cames g kept isKept tape o_2.2.1 o_2.2.2 written writtenMany asked askedMany there counts lasts cames o_3 x1  o_4 hq) B w [0, 1, 2, 3, 4, 5, 6, 7, 8, 9] [] rfl rfl (by decide) (by decide) (by decide) 0 rfl rfl cv_X12_fails kw_1394 2 (by decide +kernel) ⟨Nat.le_of_ble_eq_true rfl, Nat.le_of_ble_eq_true rfl⟩ rfl hl.1 rfl (Nat.le_of_ble_eq_true rfl) dX12_failed_46 rfl rfl ⟨Nat.zero_le _, Nat.zero_le _⟩ (fun v w' H locs hpo w => ?_)
        clear hq
        obtain ⟨rfl, rfl⟩ := hpo
        have w : mW E A s [(h, .inr (11, [.ref a_g, .ref a_kept, .int isKept, .ref a_tape, .int o_2.2.1, .int o_2.2.2, .ref a_written, .int writtenMany, .ref a_asked, .int askedMany, .ref a_there, .ref a_counts, .ref a_lasts, .ref a_cames])), (a_g, .inl (E.2.1, 8787, .inl o_4.2)), (a_kept, .inl (E.2.1, 8787, .inl kept)), (a_tape, .inl (E.2.2.1, 60, .inl tape)), (a_written, .inl (E.2.1, 40, .inl written)), (a_asked, .inl (E.2.1, 60, .inl asked)), (a_there, .inl (E.2.1, 12, .inl there)), (a_counts, .inl (E.2.1, 12, .inl counts)), (a_lasts, .inl (E.2.1, 12, .inl lasts)), (a_cames, .inl (E.2.1, 12, .inl cames))] H locs := w
        cases hf
        exact mx_iret B w ⟨rfl, rfl⟩ dX12_failed_49
      · have hf := it_f hc hf
        refine lv_sipush (v := (-1005)) hx hb dX12_failed_37 (by decide) ?_
        refine lv_goto (tgt := 49) hx hb dX12_failed_40 (by decide) ?_
        cases hf
        exact mx_iret B w ⟨rfl, rfl⟩ dX12_failed_49
    · have hf := it_t hc hf
      refine lv_sipush (v := (-1002)) hx hb dX12_failed_23 (by decide) ?_
      cases hf
      exact mx_iret B w ⟨rfl, rfl⟩ dX12_failed_26
  · have hf := it_t hc hf
    refine lv_sipush (v := (-1001)) hx hb dX12_failed_10 (by decide) ?_
    cases hf
    exact mx_iret B w ⟨rfl, rfl⟩ dX12_failed_13
-- X12_told
def po_X12_told (E : mE) (h : Nat) (a_g : Nat) (a_kept : Nat) (a_tape : Nat) (a_written : Nat) (a_asked : Nat) (a_there : Nat) (a_counts : Nat) (a_lasts : Nat) (a_cames : Nat)  (g : Nat → Int32) (kept : Nat → Int32) (isKept : Int32) (tape : Nat → Int32) (taped : Int32) (spot : Int32) (written : Nat → Int32) (writtenMany : Int32) (asked : Nat → Int32) (askedMany : Int32) (there : Nat → Int32) (counts : Nat → Int32) (lasts : Nat → Int32) (cames : Nat → Int32)  (o : Int32) : Option Value → va_W → Prop := (fun (v : Option Value) (w' : va_W) => v = some (.int o) ∧ w' = [(h, .inr (11, [.ref a_g, .ref a_kept, .int isKept, .ref a_tape, .int taped, .int spot, .ref a_written, .int writtenMany, .ref a_asked, .int askedMany, .ref a_there, .ref a_counts, .ref a_lasts, .ref a_cames])), (a_g, .inl (E.2.1, 8787, .inl g)), (a_kept, .inl (E.2.1, 8787, .inl kept)), (a_tape, .inl (E.2.2.1, 60, .inl tape)), (a_written, .inl (E.2.1, 40, .inl written)), (a_asked, .inl (E.2.1, 60, .inl asked)), (a_there, .inl (E.2.1, 12, .inl there)), (a_counts, .inl (E.2.1, 12, .inl counts)), (a_lasts, .inl (E.2.1, 12, .inl lasts)), (a_cames, .inl (E.2.1, 12, .inl cames))])
noncomputable def F_X12_told (N : Nat)  (g : Nat → Int32) (x1 : Int32) (x2 : Int32) : Option (Int32) :=
  if (x1 < ((-1)) : Prop) then
  some ((-1001))
  else
  if (((-1)) ≤ x2 : Prop) then
  if (x1 = ((-1)) : Prop) then
  ld g 8787 16 (fun v_4 =>
  some (v_4))
  else
  ld g 8787 16 (fun v_1 =>
  if (v_1 ≤ x1 : Prop) then
  some ((-1003))
  else
  ld g 8787 (8467 + x1) (fun v_2 =>
  bd (F_X12_keyTells N v_2 x2) (fun o_3 =>
  some (o_3))))
  else
  some ((-1001))
set_option maxHeartbeats 4000000 in
set_option maxRecDepth 100000 in
theorem d_X12_told (E : mE) (l : Launch) (N : Nat) (h : Nat) (a_g : Nat) (a_kept : Nat) (a_tape : Nat) (a_written : Nat) (a_asked : Nat) (a_there : Nat) (a_counts : Nat) (a_lasts : Nat) (a_cames : Nat)  (g : Nat → Int32) (kept : Nat → Int32) (isKept : Int32) (tape : Nat → Int32) (taped : Int32) (spot : Int32) (written : Nat → Int32) (writtenMany : Int32) (asked : Nat → Int32) (askedMany : Int32) (there : Nat → Int32) (counts : Nat → Int32) (lasts : Nat → Int32) (cames : Nat → Int32)  (x1 : Int32) (x2 : Int32)  (o : Int32) (hf : F_X12_told N g x1 x2 = some o) : MX E l yX12_told cX12_told 3 (some .int) ({ frames := 3, cells := 0, slots := 0, locals := 67 } : Room) [.ref h, .int x1, .int x2] [(h, .inr (11, [.ref a_g, .ref a_kept, .int isKept, .ref a_tape, .int taped, .int spot, .ref a_written, .int writtenMany, .ref a_asked, .int askedMany, .ref a_there, .ref a_counts, .ref a_lasts, .ref a_cames])), (a_g, .inl (E.2.1, 8787, .inl g)), (a_kept, .inl (E.2.1, 8787, .inl kept)), (a_tape, .inl (E.2.2.1, 60, .inl tape)), (a_written, .inl (E.2.1, 40, .inl written)), (a_asked, .inl (E.2.1, 60, .inl asked)), (a_there, .inl (E.2.1, 12, .inl there)), (a_counts, .inl (E.2.1, 12, .inl counts)), (a_lasts, .inl (E.2.1, 12, .inl lasts)), (a_cames, .inl (E.2.1, 12, .inl cames))] (po_X12_told E h a_g a_kept a_tape a_written a_asked a_there a_counts a_lasts a_cames g kept isKept tape taped spot written writtenMany asked askedMany there counts lasts cames o) := by
  refine mx_intro (by decide +kernel) (Nat.le_of_ble_eq_true rfl) ?_
  intro p e s m args below meth c A Q ls B w hl
  obtain ⟨hx, hb, hml, hown, hts⟩ := id B.1
  unfold F_X12_told at hf
  have hl : lv_has ls 3 [(0, .ref h), (1, .int x1), (2, .int x2)] := hl
  refine lv_iload_n hx hb dX12_told_0 rfl (lv_at hl 1 rfl) ?_
  refine lv_iconst (v := (-1)) hx hb dX12_told_1 (by decide) ?_
  refine lv_icmp_lt (tgt := 10) hx hb dX12_told_2 (by decide) (fun hc => ?_) (fun hc => ?_)
  · have hf := it_t hc hf
    refine lv_sipush (v := (-1001)) hx hb dX12_told_10 (by decide) ?_
    cases hf
    exact mx_iret B w ⟨rfl, rfl⟩ dX12_told_13
  · have hf := it_f hc hf
    refine lv_iload_n hx hb dX12_told_5 rfl (lv_at hl 2 rfl) ?_
    refine lv_iconst (v := (-1)) hx hb dX12_told_6 (by decide) ?_
    refine lv_icmp_ge (tgt := 14) hx hb dX12_told_7 (by decide) (fun hc => ?_) (fun hc => ?_)
    · have hf := it_t hc hf
      refine lv_iload_n hx hb dX12_told_14 rfl (lv_at hl 1 rfl) ?_
      refine lv_iconst (v := (-1)) hx hb dX12_told_15 (by decide) ?_
      refine lv_icmp_ne (tgt := 27) hx hb dX12_told_16 (by decide) (fun hc => ?_) (fun hc => ?_)
      · have hf := it_f hc hf
        refine lv_iload_n hx hb dX12_told_27 rfl (lv_at hl 1 rfl) ?_
        refine lv_aload_n hx hb dX12_told_28 rfl (lv_at hl 0 rfl) ?_
        refine mx_get B w 0 fl_X12_9 rfl rfl dX12_told_29 ?_
        refine lv_bipush (v := 16) hx hb dX12_told_32 (by decide) ?_
        obtain ⟨hin, hf⟩ := ld_e hf
        refine mx_iald B w 1 rfl hin dX12_told_34 (fun v_1 ev => ?_)
        have hf := hf _ ev; clear ev
        refine lv_icmp_ge (tgt := 55) hx hb dX12_told_35 (by decide) (fun hc => ?_) (fun hc => ?_)
        · have hf := it_t hc hf
          refine lv_sipush (v := (-1003)) hx hb dX12_told_55 (by decide) ?_
          cases hf
          exact mx_iret B w ⟨rfl, rfl⟩ dX12_told_58
        · have hf := it_f hc hf
          refine lv_aload_n hx hb dX12_told_38 rfl (lv_at hl 0 rfl) ?_
          refine mx_get B w 0 fl_X12_9 rfl rfl dX12_told_39 ?_
          refine lv_sipush (v := 8467) hx hb dX12_told_42 (by decide) ?_
          refine lv_iload_n hx hb dX12_told_45 rfl (lv_at hl 1 rfl) ?_
          refine lv_iadd hx hb dX12_told_46 ?_
          obtain ⟨hin, hf⟩ := ld_e hf
          refine mx_iald B w 1 rfl hin dX12_told_47 (fun v_2 ev => ?_)
          have hf := hf _ ev; clear ev
          refine lv_iload_n hx hb dX12_told_48 rfl (lv_at hl 2 rfl) ?_
          obtain ⟨o_3, hq, hf⟩ := bd_e hf
          refine mx_callS (As := [.int v_2, .int x2]) (rest := []) (wr := [(h, .inr (11, [.ref a_g, .ref a_kept, .int isKept, .ref a_tape, .int taped, .int spot, .ref a_written, .int writtenMany, .ref a_asked, .int askedMany, .ref a_there, .ref a_counts, .ref a_lasts, .ref a_cames])), (a_g, .inl (E.2.1, 8787, .inl g)), (a_kept, .inl (E.2.1, 8787, .inl kept)), (a_tape, .inl (E.2.2.1, 60, .inl tape)), (a_written, .inl (E.2.1, 40, .inl written)), (a_asked, .inl (E.2.1, 60, .inl asked)), (a_there, .inl (E.2.1, 12, .inl there)), (a_counts, .inl (E.2.1, 12, .inl counts)), (a_lasts, .inl (E.2.1, 12, .inl lasts)), (a_cames, .inl (E.2.1, 12, .inl cames))]) (d_X12_keyTells E l N  v_2 x2  o_3 hq) B w [] [0, 1, 2, 3, 4, 5, 6, 7, 8, 9] rfl rfl (by decide) (by decide) (by decide) cs_X12_keyTells kw_1450 2 (by decide +kernel) ⟨Nat.le_of_ble_eq_true rfl, Nat.le_of_ble_eq_true rfl⟩ rfl hl.1 rfl (Nat.le_of_ble_eq_true rfl) dX12_told_49 rfl rfl ⟨Nat.zero_le _, Nat.zero_le _⟩ (fun v w' H locs hpo w => ?_)
          clear hq
          obtain ⟨rfl, rfl⟩ := hpo
          have w : mW E A s [(h, .inr (11, [.ref a_g, .ref a_kept, .int isKept, .ref a_tape, .int taped, .int spot, .ref a_written, .int writtenMany, .ref a_asked, .int askedMany, .ref a_there, .ref a_counts, .ref a_lasts, .ref a_cames])), (a_g, .inl (E.2.1, 8787, .inl g)), (a_kept, .inl (E.2.1, 8787, .inl kept)), (a_tape, .inl (E.2.2.1, 60, .inl tape)), (a_written, .inl (E.2.1, 40, .inl written)), (a_asked, .inl (E.2.1, 60, .inl asked)), (a_there, .inl (E.2.1, 12, .inl there)), (a_counts, .inl (E.2.1, 12, .inl counts)), (a_lasts, .inl (E.2.1, 12, .inl lasts)), (a_cames, .inl (E.2.1, 12, .inl cames))] H locs := w
          refine lv_goto (tgt := 58) hx hb dX12_told_52 (by decide) ?_
          cases hf
          exact mx_iret B w ⟨rfl, rfl⟩ dX12_told_58
      · have hf := it_t hc hf
        refine lv_aload_n hx hb dX12_told_19 rfl (lv_at hl 0 rfl) ?_
        refine mx_get B w 0 fl_X12_9 rfl rfl dX12_told_20 ?_
        refine lv_bipush (v := 16) hx hb dX12_told_23 (by decide) ?_
        obtain ⟨hin, hf⟩ := ld_e hf
        refine mx_iald B w 1 rfl hin dX12_told_25 (fun v_4 ev => ?_)
        have hf := hf _ ev; clear ev
        cases hf
        exact mx_iret B w ⟨rfl, rfl⟩ dX12_told_26
    · have hf := it_f hc hf
      refine lv_sipush (v := (-1001)) hx hb dX12_told_10 (by decide) ?_
      cases hf
      exact mx_iret B w ⟨rfl, rfl⟩ dX12_told_13
-- X12_load
def po_X12_load (E : mE) (h : Nat) (a_g : Nat) (a_kept : Nat) (a_tape : Nat) (a_written : Nat) (a_asked : Nat) (a_there : Nat) (a_counts : Nat) (a_lasts : Nat) (a_cames : Nat)  (g : Nat → Int32) (kept : Nat → Int32) (isKept : Int32) (tape : Nat → Int32) (taped : Int32) (spot : Int32) (written : Nat → Int32) (writtenMany : Int32) (asked : Nat → Int32) (askedMany : Int32) (there : Nat → Int32) (counts : Nat → Int32) (lasts : Nat → Int32) (cames : Nat → Int32)  (o : Int32 × Int32 × Int32) : Option Value → va_W → Prop := (fun (v : Option Value) (w' : va_W) => v = some (.int o.1) ∧ w' = [(h, .inr (11, [.ref a_g, .ref a_kept, .int isKept, .ref a_tape, .int o.2.1, .int o.2.2, .ref a_written, .int writtenMany, .ref a_asked, .int askedMany, .ref a_there, .ref a_counts, .ref a_lasts, .ref a_cames])), (a_g, .inl (E.2.1, 8787, .inl g)), (a_kept, .inl (E.2.1, 8787, .inl kept)), (a_tape, .inl (E.2.2.1, 60, .inl tape)), (a_written, .inl (E.2.1, 40, .inl written)), (a_asked, .inl (E.2.1, 60, .inl asked)), (a_there, .inl (E.2.1, 12, .inl there)), (a_counts, .inl (E.2.1, 12, .inl counts)), (a_lasts, .inl (E.2.1, 12, .inl lasts)), (a_cames, .inl (E.2.1, 12, .inl cames))])
noncomputable def J_X12_load_51 (N : Nat)   (t1 : Int32) (t2 : Int32) (g : Nat → Int32) (tape : Nat → Int32) (taped : Int32) (spot : Int32) : Option (Int32 × Int32 × Int32) :=
  bd (F_X12_loadAt g t1 t2) (fun o_5 =>
  some (o_5, taped, spot))
set_option maxHeartbeats 4000000 in
set_option maxRecDepth 100000 in
theorem j_X12_load_51 {E : mE} {l : Launch} {p : Program} {e : Env} {s : State} {m : MethodId} {args : Array Value} {below : List Frame} {meth : Method} {c : Code} {A : Nat → Prop} {Q : State → Prop} {N : Nat} {h : Nat} {a_g : Nat} {a_kept : Nat} {a_tape : Nat} {a_written : Nat} {a_asked : Nat} {a_there : Nat} {a_counts : Nat} {a_lasts : Nat} {a_cames : Nat}  {g : Nat → Int32} {kept : Nat → Int32} {isKept : Int32} {tape : Nat → Int32} {taped0 : Int32} {spot0 : Int32} {written : Nat → Int32} {writtenMany : Int32} {asked : Nat → Int32} {askedMany : Int32} {there : Nat → Int32} {counts : Nat → Int32} {lasts : Nat → Int32} {cames : Nat → Int32}  {o : Int32 × Int32 × Int32} (B : mB E yX12_load cX12_load 4 (some .int) 0 0 (po_X12_load E h a_g a_kept a_tape a_written a_asked a_there a_counts a_lasts a_cames g kept isKept tape taped0 spot0 written writtenMany asked askedMany there counts lasts cames o) p s m args below meth c A Q) {t1 : Int32} {t2 : Int32} {taped : Int32} {spot : Int32}    {H : Heap} {locs : List Loc} {ls : Array Slot} (hf : J_X12_load_51 N t1 t2 g tape taped spot = some o)  (w : mW E A s [(h, .inr (11, [.ref a_g, .ref a_kept, .int isKept, .ref a_tape, .int taped, .int spot, .ref a_written, .int writtenMany, .ref a_asked, .int askedMany, .ref a_there, .ref a_counts, .ref a_lasts, .ref a_cames])), (a_g, .inl (E.2.1, 8787, .inl g)), (a_kept, .inl (E.2.1, 8787, .inl kept)), (a_tape, .inl (E.2.2.1, 60, .inl tape)), (a_written, .inl (E.2.1, 40, .inl written)), (a_asked, .inl (E.2.1, 60, .inl asked)), (a_there, .inl (E.2.1, 12, .inl there)), (a_counts, .inl (E.2.1, 12, .inl counts)), (a_lasts, .inl (E.2.1, 12, .inl lasts)), (a_cames, .inl (E.2.1, 12, .inl cames))] H locs) (hl : lv_has ls 4 []) : W p l e ({ frames := 3, cells := 0, slots := 0, locals := 66 } : Room) s m args below meth c H locs 0 0 Q (F0 m 51 ls [.int t2, .int t1, .ref h]) := by
  obtain ⟨hx, hb, hml, hown, hts⟩ := id B.1
  unfold J_X12_load_51 at hf
  obtain ⟨o_5, hq, hf⟩ := bd_e hf
  refine mx_callV (As := [.int t1, .int t2]) (rest := []) (wr := []) (d_X12_loadAt E l  h a_g a_kept a_tape a_written a_asked a_there a_counts a_lasts a_cames g kept isKept tape taped spot written writtenMany asked askedMany there counts lasts cames t1 t2  o_5 hq) B w [0, 1, 2, 3, 4, 5, 6, 7, 8, 9] [] rfl rfl (by decide) (by decide) (by decide) 0 rfl rfl cv_X12_loadAt kw_1385 2 (by decide +kernel) ⟨Nat.le_of_ble_eq_true rfl, Nat.le_of_ble_eq_true rfl⟩ rfl hl.1 rfl (Nat.le_of_ble_eq_true rfl) dX12_load_51 rfl rfl ⟨Nat.zero_le _, Nat.zero_le _⟩ (fun v w' H locs hpo w => ?_)
  clear hq
  obtain ⟨rfl, rfl⟩ := hpo
  have w : mW E A s [(h, .inr (11, [.ref a_g, .ref a_kept, .int isKept, .ref a_tape, .int taped, .int spot, .ref a_written, .int writtenMany, .ref a_asked, .int askedMany, .ref a_there, .ref a_counts, .ref a_lasts, .ref a_cames])), (a_g, .inl (E.2.1, 8787, .inl g)), (a_kept, .inl (E.2.1, 8787, .inl kept)), (a_tape, .inl (E.2.2.1, 60, .inl tape)), (a_written, .inl (E.2.1, 40, .inl written)), (a_asked, .inl (E.2.1, 60, .inl asked)), (a_there, .inl (E.2.1, 12, .inl there)), (a_counts, .inl (E.2.1, 12, .inl counts)), (a_lasts, .inl (E.2.1, 12, .inl lasts)), (a_cames, .inl (E.2.1, 12, .inl cames))] H locs := w
  cases hf
  exact mx_iret B w ⟨rfl, rfl⟩ dX12_load_54
noncomputable def F_X12_load (N : Nat)  (g : Nat → Int32) (tape : Nat → Int32) (taped : Int32) (spot : Int32) (x1 : Int32) : Option (Int32 × Int32 × Int32) :=
  if (0 ≤ x1 : Prop) then
  bd (F_X12_takesKey N tape taped spot) (fun o_1 =>
  if (o_1.1 = 0 : Prop) then
  some ((-1002), o_1.2.1, o_1.2.2)
  else
  bd (F_X12_loadOf N g o_1.1) (fun o_2 =>
  if (2 ≤ x1 : Prop) then
  if (o_2 < 0 : Prop) then
  some ((-1003), o_1.2.1, o_1.2.2)
  else
  bd (F_X12_loadAt g o_2 3) (fun o_3 =>
  if (o_3 ≤ (x1 - 2) : Prop) then
  some ((-1003), o_1.2.1, o_1.2.2)
  else
  bd (F_X12_loadAt g o_2 ((4 + x1) - 2)) (fun o_4 =>
  some (o_4, o_1.2.1, o_1.2.2)))
  else
  if (0 ≤ o_2 : Prop) then
  if (x1 = 0 : Prop) then
  J_X12_load_51 N o_2 1 g tape o_1.2.1 o_1.2.2
  else
  J_X12_load_51 N o_2 3 g tape o_1.2.1 o_1.2.2
  else
  some (0, o_1.2.1, o_1.2.2)))
  else
  some ((-1001), taped, spot)
set_option maxHeartbeats 4000000 in
set_option maxRecDepth 100000 in
theorem d_X12_load (E : mE) (l : Launch) (N : Nat) (h : Nat) (a_g : Nat) (a_kept : Nat) (a_tape : Nat) (a_written : Nat) (a_asked : Nat) (a_there : Nat) (a_counts : Nat) (a_lasts : Nat) (a_cames : Nat)  (g : Nat → Int32) (kept : Nat → Int32) (isKept : Int32) (tape : Nat → Int32) (taped : Int32) (spot : Int32) (written : Nat → Int32) (writtenMany : Int32) (asked : Nat → Int32) (askedMany : Int32) (there : Nat → Int32) (counts : Nat → Int32) (lasts : Nat → Int32) (cames : Nat → Int32)  (x1 : Int32)  (o : Int32 × Int32 × Int32) (hf : F_X12_load N g tape taped spot x1 = some o) : MX E l yX12_load cX12_load 4 (some .int) ({ frames := 3, cells := 0, slots := 0, locals := 66 } : Room) [.ref h, .int x1] [(h, .inr (11, [.ref a_g, .ref a_kept, .int isKept, .ref a_tape, .int taped, .int spot, .ref a_written, .int writtenMany, .ref a_asked, .int askedMany, .ref a_there, .ref a_counts, .ref a_lasts, .ref a_cames])), (a_g, .inl (E.2.1, 8787, .inl g)), (a_kept, .inl (E.2.1, 8787, .inl kept)), (a_tape, .inl (E.2.2.1, 60, .inl tape)), (a_written, .inl (E.2.1, 40, .inl written)), (a_asked, .inl (E.2.1, 60, .inl asked)), (a_there, .inl (E.2.1, 12, .inl there)), (a_counts, .inl (E.2.1, 12, .inl counts)), (a_lasts, .inl (E.2.1, 12, .inl lasts)), (a_cames, .inl (E.2.1, 12, .inl cames))] (po_X12_load E h a_g a_kept a_tape a_written a_asked a_there a_counts a_lasts a_cames g kept isKept tape taped spot written writtenMany asked askedMany there counts lasts cames o) := by
  refine mx_intro (by decide +kernel) (Nat.le_of_ble_eq_true rfl) ?_
  intro p e s m args below meth c A Q ls B w hl
  obtain ⟨hx, hb, hml, hown, hts⟩ := id B.1
  unfold F_X12_load at hf
  have hl : lv_has ls 4 [(0, .ref h), (1, .int x1)] := hl
  refine lv_iload_n hx hb dX12_load_0 rfl (lv_at hl 1 rfl) ?_
  refine lv_if_ge (tgt := 8) hx hb dX12_load_1 (by decide) (fun hc => ?_) (fun hc => ?_)
  · have hf := it_t hc hf
    refine lv_aload_n hx hb dX12_load_8 rfl (lv_at hl 0 rfl) ?_
    obtain ⟨o_1, hq, hf⟩ := bd_e hf
    refine mx_callV (As := []) (rest := []) (wr := []) (d_X12_takesKey E l N h a_g a_kept a_tape a_written a_asked a_there a_counts a_lasts a_cames g kept isKept tape taped spot written writtenMany asked askedMany there counts lasts cames   o_1 hq) B w [0, 1, 2, 3, 4, 5, 6, 7, 8, 9] [] rfl rfl (by decide) (by decide) (by decide) 0 rfl rfl cv_X12_takesKey kw_1281 0 (by decide +kernel) ⟨Nat.le_of_ble_eq_true rfl, Nat.le_of_ble_eq_true rfl⟩ rfl hl.1 rfl (Nat.le_of_ble_eq_true rfl) dX12_load_9 rfl rfl ⟨Nat.zero_le _, Nat.zero_le _⟩ (fun v w' H locs hpo w => ?_)
    clear hq
    obtain ⟨rfl, rfl⟩ := hpo
    have w : mW E A s [(h, .inr (11, [.ref a_g, .ref a_kept, .int isKept, .ref a_tape, .int o_1.2.1, .int o_1.2.2, .ref a_written, .int writtenMany, .ref a_asked, .int askedMany, .ref a_there, .ref a_counts, .ref a_lasts, .ref a_cames])), (a_g, .inl (E.2.1, 8787, .inl g)), (a_kept, .inl (E.2.1, 8787, .inl kept)), (a_tape, .inl (E.2.2.1, 60, .inl tape)), (a_written, .inl (E.2.1, 40, .inl written)), (a_asked, .inl (E.2.1, 60, .inl asked)), (a_there, .inl (E.2.1, 12, .inl there)), (a_counts, .inl (E.2.1, 12, .inl counts)), (a_lasts, .inl (E.2.1, 12, .inl lasts)), (a_cames, .inl (E.2.1, 12, .inl cames))] H locs := w
    refine lv_istore_n (lv' := [(2, .int o_1.1), (0, .ref h), (1, .int x1)]) hx hb dX12_load_12 rfl hl (by decide) rfl (fun ls hl => ?_)
    refine lv_iload_n hx hb dX12_load_13 rfl (lv_at hl 0 rfl) ?_
    refine lv_if_ne (tgt := 21) hx hb dX12_load_14 (by decide) (fun hc => ?_) (fun hc => ?_)
    · have hf := it_f hc hf
      refine lv_aload_n hx hb dX12_load_21 rfl (lv_at hl 1 rfl) ?_
      refine lv_iload_n hx hb dX12_load_22 rfl (lv_at hl 0 rfl) ?_
      obtain ⟨o_2, hq, hf⟩ := bd_e hf
      refine mx_callV (As := [.int o_1.1]) (rest := []) (wr := []) (d_X12_loadOf E l N h a_g a_kept a_tape a_written a_asked a_there a_counts a_lasts a_cames g kept isKept tape o_1.2.1 o_1.2.2 written writtenMany asked askedMany there counts lasts cames o_1.1  o_2 hq) B w [0, 1, 2, 3, 4, 5, 6, 7, 8, 9] [] rfl rfl (by decide) (by decide) (by decide) 0 rfl rfl cv_X12_loadOf kw_1410 1 (by decide +kernel) ⟨Nat.le_of_ble_eq_true rfl, Nat.le_of_ble_eq_true rfl⟩ rfl hl.1 rfl (Nat.le_of_ble_eq_true rfl) dX12_load_23 rfl rfl ⟨Nat.zero_le _, Nat.zero_le _⟩ (fun v w' H locs hpo w => ?_)
      clear hq
      obtain ⟨rfl, rfl⟩ := hpo
      have w : mW E A s [(h, .inr (11, [.ref a_g, .ref a_kept, .int isKept, .ref a_tape, .int o_1.2.1, .int o_1.2.2, .ref a_written, .int writtenMany, .ref a_asked, .int askedMany, .ref a_there, .ref a_counts, .ref a_lasts, .ref a_cames])), (a_g, .inl (E.2.1, 8787, .inl g)), (a_kept, .inl (E.2.1, 8787, .inl kept)), (a_tape, .inl (E.2.2.1, 60, .inl tape)), (a_written, .inl (E.2.1, 40, .inl written)), (a_asked, .inl (E.2.1, 60, .inl asked)), (a_there, .inl (E.2.1, 12, .inl there)), (a_counts, .inl (E.2.1, 12, .inl counts)), (a_lasts, .inl (E.2.1, 12, .inl lasts)), (a_cames, .inl (E.2.1, 12, .inl cames))] H locs := w
      refine lv_istore_n (lv' := [(3, .int o_2), (2, .int o_1.1), (0, .ref h), (1, .int x1)]) hx hb dX12_load_26 rfl hl (by decide) rfl (fun ls hl => ?_)
      refine lv_iload_n hx hb dX12_load_27 rfl (lv_at hl 3 rfl) ?_
      refine lv_iconst (v := 2) hx hb dX12_load_28 (by decide) ?_
      refine lv_icmp_ge (tgt := 55) hx hb dX12_load_29 (by decide) (fun hc => ?_) (fun hc => ?_)
      · have hf := it_t hc hf
        refine lv_iload_n hx hb dX12_load_55 rfl (lv_at hl 0 rfl) ?_
        refine lv_if_lt (tgt := 84) hx hb dX12_load_56 (by decide) (fun hc => ?_) (fun hc => ?_)
        · have hf := it_t hc hf
          refine lv_sipush (v := (-1003)) hx hb dX12_load_84 (by decide) ?_
          cases hf
          exact mx_iret B w ⟨rfl, rfl⟩ dX12_load_87
        · have hf := it_f hc hf
          refine lv_iload_n hx hb dX12_load_59 rfl (lv_at hl 3 rfl) ?_
          refine lv_iconst (v := 2) hx hb dX12_load_60 (by decide) ?_
          refine lv_isub hx hb dX12_load_61 ?_
          refine lv_aload_n hx hb dX12_load_62 rfl (lv_at hl 2 rfl) ?_
          refine lv_iload_n hx hb dX12_load_63 rfl (lv_at hl 0 rfl) ?_
          refine lv_iconst (v := 3) hx hb dX12_load_64 (by decide) ?_
          obtain ⟨o_3, hq, hf⟩ := bd_e hf
          refine mx_callV (As := [.int o_2, .int 3]) (rest := [.int (x1 - 2)]) (wr := []) (d_X12_loadAt E l  h a_g a_kept a_tape a_written a_asked a_there a_counts a_lasts a_cames g kept isKept tape o_1.2.1 o_1.2.2 written writtenMany asked askedMany there counts lasts cames o_2 3  o_3 hq) B w [0, 1, 2, 3, 4, 5, 6, 7, 8, 9] [] rfl rfl (by decide) (by decide) (by decide) 0 rfl rfl cv_X12_loadAt kw_1385 2 (by decide +kernel) ⟨Nat.le_of_ble_eq_true rfl, Nat.le_of_ble_eq_true rfl⟩ rfl hl.1 rfl (Nat.le_of_ble_eq_true rfl) dX12_load_65 rfl rfl ⟨Nat.zero_le _, Nat.zero_le _⟩ (fun v w' H locs hpo w => ?_)
          clear hq
          obtain ⟨rfl, rfl⟩ := hpo
          have w : mW E A s [(h, .inr (11, [.ref a_g, .ref a_kept, .int isKept, .ref a_tape, .int o_1.2.1, .int o_1.2.2, .ref a_written, .int writtenMany, .ref a_asked, .int askedMany, .ref a_there, .ref a_counts, .ref a_lasts, .ref a_cames])), (a_g, .inl (E.2.1, 8787, .inl g)), (a_kept, .inl (E.2.1, 8787, .inl kept)), (a_tape, .inl (E.2.2.1, 60, .inl tape)), (a_written, .inl (E.2.1, 40, .inl written)), (a_asked, .inl (E.2.1, 60, .inl asked)), (a_there, .inl (E.2.1, 12, .inl there)), (a_counts, .inl (E.2.1, 12, .inl counts)), (a_lasts, .inl (E.2.1, 12, .inl lasts)), (a_cames, .inl (E.2.1, 12, .inl cames))] H locs := w
          refine lv_icmp_ge (tgt := 84) hx hb dX12_load_68 (by decide) (fun hc => ?_) (fun hc => ?_)
          · have hf := it_t hc hf
            refine lv_sipush (v := (-1003)) hx hb dX12_load_84 (by decide) ?_
            cases hf
            exact mx_iret B w ⟨rfl, rfl⟩ dX12_load_87
          · have hf := it_f hc hf
            refine lv_aload_n hx hb dX12_load_71 rfl (lv_at hl 2 rfl) ?_
            refine lv_iload_n hx hb dX12_load_72 rfl (lv_at hl 0 rfl) ?_
            refine lv_iconst (v := 4) hx hb dX12_load_73 (by decide) ?_
            refine lv_iload_n hx hb dX12_load_74 rfl (lv_at hl 3 rfl) ?_
            refine lv_iadd hx hb dX12_load_75 ?_
            refine lv_iconst (v := 2) hx hb dX12_load_76 (by decide) ?_
            refine lv_isub hx hb dX12_load_77 ?_
            obtain ⟨o_4, hq, hf⟩ := bd_e hf
            refine mx_callV (As := [.int o_2, .int ((4 + x1) - 2)]) (rest := []) (wr := []) (d_X12_loadAt E l  h a_g a_kept a_tape a_written a_asked a_there a_counts a_lasts a_cames g kept isKept tape o_1.2.1 o_1.2.2 written writtenMany asked askedMany there counts lasts cames o_2 ((4 + x1) - 2)  o_4 hq) B w [0, 1, 2, 3, 4, 5, 6, 7, 8, 9] [] rfl rfl (by decide) (by decide) (by decide) 0 rfl rfl cv_X12_loadAt kw_1385 2 (by decide +kernel) ⟨Nat.le_of_ble_eq_true rfl, Nat.le_of_ble_eq_true rfl⟩ rfl hl.1 rfl (Nat.le_of_ble_eq_true rfl) dX12_load_78 rfl rfl ⟨Nat.zero_le _, Nat.zero_le _⟩ (fun v w' H locs hpo w => ?_)
            clear hq
            obtain ⟨rfl, rfl⟩ := hpo
            have w : mW E A s [(h, .inr (11, [.ref a_g, .ref a_kept, .int isKept, .ref a_tape, .int o_1.2.1, .int o_1.2.2, .ref a_written, .int writtenMany, .ref a_asked, .int askedMany, .ref a_there, .ref a_counts, .ref a_lasts, .ref a_cames])), (a_g, .inl (E.2.1, 8787, .inl g)), (a_kept, .inl (E.2.1, 8787, .inl kept)), (a_tape, .inl (E.2.2.1, 60, .inl tape)), (a_written, .inl (E.2.1, 40, .inl written)), (a_asked, .inl (E.2.1, 60, .inl asked)), (a_there, .inl (E.2.1, 12, .inl there)), (a_counts, .inl (E.2.1, 12, .inl counts)), (a_lasts, .inl (E.2.1, 12, .inl lasts)), (a_cames, .inl (E.2.1, 12, .inl cames))] H locs := w
            refine lv_goto (tgt := 87) hx hb dX12_load_81 (by decide) ?_
            cases hf
            exact mx_iret B w ⟨rfl, rfl⟩ dX12_load_87
      · have hf := it_f hc hf
        refine lv_iload_n hx hb dX12_load_32 rfl (lv_at hl 0 rfl) ?_
        refine lv_if_ge (tgt := 40) hx hb dX12_load_33 (by decide) (fun hc => ?_) (fun hc => ?_)
        · have hf := it_t hc hf
          refine lv_aload_n hx hb dX12_load_40 rfl (lv_at hl 2 rfl) ?_
          refine lv_iload_n hx hb dX12_load_41 rfl (lv_at hl 0 rfl) ?_
          refine lv_iload_n hx hb dX12_load_42 rfl (lv_at hl 3 rfl) ?_
          refine lv_if_ne (tgt := 50) hx hb dX12_load_43 (by decide) (fun hc => ?_) (fun hc => ?_)
          · have hf := it_f hc hf
            refine lv_iconst (v := 3) hx hb dX12_load_50 (by decide) ?_
            exact j_X12_load_51 B   hf  w (lv_sub hl [] rfl)
          · have hf := it_t hc hf
            refine lv_iconst (v := 1) hx hb dX12_load_46 (by decide) ?_
            refine lv_goto (tgt := 51) hx hb dX12_load_47 (by decide) ?_
            exact j_X12_load_51 B   hf  w (lv_sub hl [] rfl)
        · have hf := it_f hc hf
          refine lv_iconst (v := 0) hx hb dX12_load_36 (by decide) ?_
          refine lv_goto (tgt := 54) hx hb dX12_load_37 (by decide) ?_
          cases hf
          exact mx_iret B w ⟨rfl, rfl⟩ dX12_load_54
    · have hf := it_t hc hf
      refine lv_sipush (v := (-1002)) hx hb dX12_load_17 (by decide) ?_
      cases hf
      exact mx_iret B w ⟨rfl, rfl⟩ dX12_load_20
  · have hf := it_f hc hf
    refine lv_sipush (v := (-1001)) hx hb dX12_load_4 (by decide) ?_
    cases hf
    exact mx_iret B w ⟨rfl, rfl⟩ dX12_load_7
-- X12_entry
def po_X12_entry (E : mE) (h : Nat) (a_g : Nat) (a_kept : Nat) (a_tape : Nat) (a_written : Nat) (a_asked : Nat) (a_there : Nat) (a_counts : Nat) (a_lasts : Nat) (a_cames : Nat)  (g : Nat → Int32) (kept : Nat → Int32) (isKept : Int32) (tape : Nat → Int32) (taped : Int32) (spot : Int32) (written : Nat → Int32) (writtenMany : Int32) (asked : Nat → Int32) (askedMany : Int32) (there : Nat → Int32) (counts : Nat → Int32) (lasts : Nat → Int32) (cames : Nat → Int32)  (o : Int32 × Int32 × Int32) : Option Value → va_W → Prop := (fun (v : Option Value) (w' : va_W) => v = some (.int o.1) ∧ w' = [(h, .inr (11, [.ref a_g, .ref a_kept, .int isKept, .ref a_tape, .int o.2.1, .int o.2.2, .ref a_written, .int writtenMany, .ref a_asked, .int askedMany, .ref a_there, .ref a_counts, .ref a_lasts, .ref a_cames])), (a_g, .inl (E.2.1, 8787, .inl g)), (a_kept, .inl (E.2.1, 8787, .inl kept)), (a_tape, .inl (E.2.2.1, 60, .inl tape)), (a_written, .inl (E.2.1, 40, .inl written)), (a_asked, .inl (E.2.1, 60, .inl asked)), (a_there, .inl (E.2.1, 12, .inl there)), (a_counts, .inl (E.2.1, 12, .inl counts)), (a_lasts, .inl (E.2.1, 12, .inl lasts)), (a_cames, .inl (E.2.1, 12, .inl cames))])
noncomputable def F_X12_entry (N : Nat)  (g : Nat → Int32) (tape : Nat → Int32) (taped : Int32) (spot : Int32) (x1 : Int32) : Option (Int32 × Int32 × Int32) :=
  bd (F_X12_in x1 0 9) (fun o_1 =>
  if (o_1 = 0 : Prop) then
  some ((-1001), taped, spot)
  else
  bd (F_X12_takesKey N tape taped spot) (fun o_2 =>
  if (o_2.1 = 0 : Prop) then
  some ((-1002), o_2.2.1, o_2.2.2)
  else
  bd (F_X12_entryOf N g o_2.1) (fun o_3 =>
  if (0 ≤ o_3 : Prop) then
  if (x1 = 0 : Prop) then
  bd (F_X12_at g o_3 1) (fun o_4 =>
  some (o_4, o_2.2.1, o_2.2.2))
  else
  if (x1 = 1 : Prop) then
  bd (F_X12_at g o_3 2) (fun o_5 =>
  some (o_5, o_2.2.1, o_2.2.2))
  else
  if (x1 = 2 : Prop) then
  bd (F_X12_at g o_3 3) (fun o_6 =>
  some (o_6, o_2.2.1, o_2.2.2))
  else
  if (x1 = 3 : Prop) then
  bd (F_X12_at g o_3 5) (fun o_7 =>
  some (o_7, o_2.2.1, o_2.2.2))
  else
  if (x1 = 4 : Prop) then
  bd (F_X12_at g o_3 6) (fun o_8 =>
  some (o_8, o_2.2.1, o_2.2.2))
  else
  if (x1 = 5 : Prop) then
  bd (F_X12_at g o_3 7) (fun o_9 =>
  some (o_9, o_2.2.1, o_2.2.2))
  else
  if (x1 = 6 : Prop) then
  bd (F_X12_at g o_3 4) (fun o_10 =>
  some (o_10, o_2.2.1, o_2.2.2))
  else
  if (x1 = 7 : Prop) then
  bd (F_X12_isStale g o_3) (fun o_11 =>
  if (o_11 = 0 : Prop) then
  some (0, o_2.2.1, o_2.2.2)
  else
  some (1, o_2.2.1, o_2.2.2))
  else
  if (x1 = 8 : Prop) then
  bd (F_X12_isDue g o_3) (fun o_12 =>
  if (o_12 = 0 : Prop) then
  some (0, o_2.2.1, o_2.2.2)
  else
  some (1, o_2.2.1, o_2.2.2))
  else
  bd (F_X12_at g o_3 8) (fun o_13 =>
  if (o_13 = 0 : Prop) then
  some (0, o_2.2.1, o_2.2.2)
  else
  some (1, o_2.2.1, o_2.2.2))
  else
  some ((-1003), o_2.2.1, o_2.2.2))))
set_option maxHeartbeats 4000000 in
set_option maxRecDepth 100000 in
theorem d_X12_entry (E : mE) (l : Launch) (N : Nat) (h : Nat) (a_g : Nat) (a_kept : Nat) (a_tape : Nat) (a_written : Nat) (a_asked : Nat) (a_there : Nat) (a_counts : Nat) (a_lasts : Nat) (a_cames : Nat)  (g : Nat → Int32) (kept : Nat → Int32) (isKept : Int32) (tape : Nat → Int32) (taped : Int32) (spot : Int32) (written : Nat → Int32) (writtenMany : Int32) (asked : Nat → Int32) (askedMany : Int32) (there : Nat → Int32) (counts : Nat → Int32) (lasts : Nat → Int32) (cames : Nat → Int32)  (x1 : Int32)  (o : Int32 × Int32 × Int32) (hf : F_X12_entry N g tape taped spot x1 = some o) : MX E l yX12_entry cX12_entry 4 (some .int) ({ frames := 3, cells := 0, slots := 0, locals := 66 } : Room) [.ref h, .int x1] [(h, .inr (11, [.ref a_g, .ref a_kept, .int isKept, .ref a_tape, .int taped, .int spot, .ref a_written, .int writtenMany, .ref a_asked, .int askedMany, .ref a_there, .ref a_counts, .ref a_lasts, .ref a_cames])), (a_g, .inl (E.2.1, 8787, .inl g)), (a_kept, .inl (E.2.1, 8787, .inl kept)), (a_tape, .inl (E.2.2.1, 60, .inl tape)), (a_written, .inl (E.2.1, 40, .inl written)), (a_asked, .inl (E.2.1, 60, .inl asked)), (a_there, .inl (E.2.1, 12, .inl there)), (a_counts, .inl (E.2.1, 12, .inl counts)), (a_lasts, .inl (E.2.1, 12, .inl lasts)), (a_cames, .inl (E.2.1, 12, .inl cames))] (po_X12_entry E h a_g a_kept a_tape a_written a_asked a_there a_counts a_lasts a_cames g kept isKept tape taped spot written writtenMany asked askedMany there counts lasts cames o) := by
  refine mx_intro (by decide +kernel) (Nat.le_of_ble_eq_true rfl) ?_
  intro p e s m args below meth c A Q ls B w hl
  obtain ⟨hx, hb, hml, hown, hts⟩ := id B.1
  unfold F_X12_entry at hf
  have hl : lv_has ls 4 [(0, .ref h), (1, .int x1)] := hl
  refine lv_iload_n hx hb dX12_entry_0 rfl (lv_at hl 1 rfl) ?_
  refine lv_iconst (v := 0) hx hb dX12_entry_1 (by decide) ?_
  refine lv_bipush (v := 9) hx hb dX12_entry_2 (by decide) ?_
  obtain ⟨o_1, hq, hf⟩ := bd_e hf
  refine mx_callS (As := [.int x1, .int 0, .int 9]) (rest := []) (wr := [(h, .inr (11, [.ref a_g, .ref a_kept, .int isKept, .ref a_tape, .int taped, .int spot, .ref a_written, .int writtenMany, .ref a_asked, .int askedMany, .ref a_there, .ref a_counts, .ref a_lasts, .ref a_cames])), (a_g, .inl (E.2.1, 8787, .inl g)), (a_kept, .inl (E.2.1, 8787, .inl kept)), (a_tape, .inl (E.2.2.1, 60, .inl tape)), (a_written, .inl (E.2.1, 40, .inl written)), (a_asked, .inl (E.2.1, 60, .inl asked)), (a_there, .inl (E.2.1, 12, .inl there)), (a_counts, .inl (E.2.1, 12, .inl counts)), (a_lasts, .inl (E.2.1, 12, .inl lasts)), (a_cames, .inl (E.2.1, 12, .inl cames))]) (d_X12_in E l   x1 0 9  o_1 hq) B w [] [0, 1, 2, 3, 4, 5, 6, 7, 8, 9] rfl rfl (by decide) (by decide) (by decide) cs_X12_in kw_1274 3 (by decide +kernel) ⟨Nat.le_of_ble_eq_true rfl, Nat.le_of_ble_eq_true rfl⟩ rfl hl.1 rfl (Nat.le_of_ble_eq_true rfl) dX12_entry_4 rfl rfl ⟨Nat.zero_le _, Nat.zero_le _⟩ (fun v w' H locs hpo w => ?_)
  clear hq
  obtain ⟨rfl, rfl⟩ := hpo
  have w : mW E A s [(h, .inr (11, [.ref a_g, .ref a_kept, .int isKept, .ref a_tape, .int taped, .int spot, .ref a_written, .int writtenMany, .ref a_asked, .int askedMany, .ref a_there, .ref a_counts, .ref a_lasts, .ref a_cames])), (a_g, .inl (E.2.1, 8787, .inl g)), (a_kept, .inl (E.2.1, 8787, .inl kept)), (a_tape, .inl (E.2.2.1, 60, .inl tape)), (a_written, .inl (E.2.1, 40, .inl written)), (a_asked, .inl (E.2.1, 60, .inl asked)), (a_there, .inl (E.2.1, 12, .inl there)), (a_counts, .inl (E.2.1, 12, .inl counts)), (a_lasts, .inl (E.2.1, 12, .inl lasts)), (a_cames, .inl (E.2.1, 12, .inl cames))] H locs := w
  refine lv_if_ne (tgt := 14) hx hb dX12_entry_7 (by decide) (fun hc => ?_) (fun hc => ?_)
  · have hf := it_f hc hf
    refine lv_aload_n hx hb dX12_entry_14 rfl (lv_at hl 0 rfl) ?_
    obtain ⟨o_2, hq, hf⟩ := bd_e hf
    refine mx_callV (As := []) (rest := []) (wr := []) (d_X12_takesKey E l N h a_g a_kept a_tape a_written a_asked a_there a_counts a_lasts a_cames g kept isKept tape taped spot written writtenMany asked askedMany there counts lasts cames   o_2 hq) B w [0, 1, 2, 3, 4, 5, 6, 7, 8, 9] [] rfl rfl (by decide) (by decide) (by decide) 0 rfl rfl cv_X12_takesKey kw_1281 0 (by decide +kernel) ⟨Nat.le_of_ble_eq_true rfl, Nat.le_of_ble_eq_true rfl⟩ rfl hl.1 rfl (Nat.le_of_ble_eq_true rfl) dX12_entry_15 rfl rfl ⟨Nat.zero_le _, Nat.zero_le _⟩ (fun v w' H locs hpo w => ?_)
    clear hq
    obtain ⟨rfl, rfl⟩ := hpo
    have w : mW E A s [(h, .inr (11, [.ref a_g, .ref a_kept, .int isKept, .ref a_tape, .int o_2.2.1, .int o_2.2.2, .ref a_written, .int writtenMany, .ref a_asked, .int askedMany, .ref a_there, .ref a_counts, .ref a_lasts, .ref a_cames])), (a_g, .inl (E.2.1, 8787, .inl g)), (a_kept, .inl (E.2.1, 8787, .inl kept)), (a_tape, .inl (E.2.2.1, 60, .inl tape)), (a_written, .inl (E.2.1, 40, .inl written)), (a_asked, .inl (E.2.1, 60, .inl asked)), (a_there, .inl (E.2.1, 12, .inl there)), (a_counts, .inl (E.2.1, 12, .inl counts)), (a_lasts, .inl (E.2.1, 12, .inl lasts)), (a_cames, .inl (E.2.1, 12, .inl cames))] H locs := w
    refine lv_istore_n (lv' := [(2, .int o_2.1), (0, .ref h), (1, .int x1)]) hx hb dX12_entry_18 rfl hl (by decide) rfl (fun ls hl => ?_)
    refine lv_iload_n hx hb dX12_entry_19 rfl (lv_at hl 0 rfl) ?_
    refine lv_if_ne (tgt := 27) hx hb dX12_entry_20 (by decide) (fun hc => ?_) (fun hc => ?_)
    · have hf := it_f hc hf
      refine lv_aload_n hx hb dX12_entry_27 rfl (lv_at hl 1 rfl) ?_
      refine lv_iload_n hx hb dX12_entry_28 rfl (lv_at hl 0 rfl) ?_
      obtain ⟨o_3, hq, hf⟩ := bd_e hf
      refine mx_callV (As := [.int o_2.1]) (rest := []) (wr := []) (d_X12_entryOf E l N h a_g a_kept a_tape a_written a_asked a_there a_counts a_lasts a_cames g kept isKept tape o_2.2.1 o_2.2.2 written writtenMany asked askedMany there counts lasts cames o_2.1  o_3 hq) B w [0, 1, 2, 3, 4, 5, 6, 7, 8, 9] [] rfl rfl (by decide) (by decide) (by decide) 0 rfl rfl cv_X12_entryOf kw_1422 1 (by decide +kernel) ⟨Nat.le_of_ble_eq_true rfl, Nat.le_of_ble_eq_true rfl⟩ rfl hl.1 rfl (Nat.le_of_ble_eq_true rfl) dX12_entry_29 rfl rfl ⟨Nat.zero_le _, Nat.zero_le _⟩ (fun v w' H locs hpo w => ?_)
      clear hq
      obtain ⟨rfl, rfl⟩ := hpo
      have w : mW E A s [(h, .inr (11, [.ref a_g, .ref a_kept, .int isKept, .ref a_tape, .int o_2.2.1, .int o_2.2.2, .ref a_written, .int writtenMany, .ref a_asked, .int askedMany, .ref a_there, .ref a_counts, .ref a_lasts, .ref a_cames])), (a_g, .inl (E.2.1, 8787, .inl g)), (a_kept, .inl (E.2.1, 8787, .inl kept)), (a_tape, .inl (E.2.2.1, 60, .inl tape)), (a_written, .inl (E.2.1, 40, .inl written)), (a_asked, .inl (E.2.1, 60, .inl asked)), (a_there, .inl (E.2.1, 12, .inl there)), (a_counts, .inl (E.2.1, 12, .inl counts)), (a_lasts, .inl (E.2.1, 12, .inl lasts)), (a_cames, .inl (E.2.1, 12, .inl cames))] H locs := w
      refine lv_istore_n (lv' := [(3, .int o_3), (2, .int o_2.1), (0, .ref h), (1, .int x1)]) hx hb dX12_entry_32 rfl hl (by decide) rfl (fun ls hl => ?_)
      refine lv_iload_n hx hb dX12_entry_33 rfl (lv_at hl 0 rfl) ?_
      refine lv_if_ge (tgt := 41) hx hb dX12_entry_34 (by decide) (fun hc => ?_) (fun hc => ?_)
      · have hf := it_t hc hf
        refine lv_iload_n hx hb dX12_entry_41 rfl (lv_at hl 3 rfl) ?_
        by_cases hs0 : x1 = 0
        · have hf := it_t hs0 hf
          refine lv_tableIn (off := 50) (tgt := 92) hx hb dX12_entry_42 (by rw [hs0]; decide) (by rw [hs0]; decide) (by rw [hs0]; decide) (by decide) ?_
          refine lv_aload_n hx hb dX12_entry_92 rfl (lv_at hl 2 rfl) ?_
          refine lv_iload_n hx hb dX12_entry_93 rfl (lv_at hl 0 rfl) ?_
          refine lv_iconst (v := 1) hx hb dX12_entry_94 (by decide) ?_
          obtain ⟨o_4, hq, hf⟩ := bd_e hf
          refine mx_callV (As := [.int o_3, .int 1]) (rest := []) (wr := []) (d_X12_at E l  h a_g a_kept a_tape a_written a_asked a_there a_counts a_lasts a_cames g kept isKept tape o_2.2.1 o_2.2.2 written writtenMany asked askedMany there counts lasts cames o_3 1  o_4 hq) B w [0, 1, 2, 3, 4, 5, 6, 7, 8, 9] [] rfl rfl (by decide) (by decide) (by decide) 0 rfl rfl cv_X12_at kw_1325 2 (by decide +kernel) ⟨Nat.le_of_ble_eq_true rfl, Nat.le_of_ble_eq_true rfl⟩ rfl hl.1 rfl (Nat.le_of_ble_eq_true rfl) dX12_entry_95 rfl rfl ⟨Nat.zero_le _, Nat.zero_le _⟩ (fun v w' H locs hpo w => ?_)
          clear hq
          obtain ⟨rfl, rfl⟩ := hpo
          have w : mW E A s [(h, .inr (11, [.ref a_g, .ref a_kept, .int isKept, .ref a_tape, .int o_2.2.1, .int o_2.2.2, .ref a_written, .int writtenMany, .ref a_asked, .int askedMany, .ref a_there, .ref a_counts, .ref a_lasts, .ref a_cames])), (a_g, .inl (E.2.1, 8787, .inl g)), (a_kept, .inl (E.2.1, 8787, .inl kept)), (a_tape, .inl (E.2.2.1, 60, .inl tape)), (a_written, .inl (E.2.1, 40, .inl written)), (a_asked, .inl (E.2.1, 60, .inl asked)), (a_there, .inl (E.2.1, 12, .inl there)), (a_counts, .inl (E.2.1, 12, .inl counts)), (a_lasts, .inl (E.2.1, 12, .inl lasts)), (a_cames, .inl (E.2.1, 12, .inl cames))] H locs := w
          cases hf
          exact mx_iret B w ⟨rfl, rfl⟩ dX12_entry_98
        · have hf := it_f hs0 hf
          by_cases hs1 : x1 = 1
          · have hf := it_t hs1 hf
            refine lv_tableIn (off := 57) (tgt := 99) hx hb dX12_entry_42 (by rw [hs1]; decide) (by rw [hs1]; decide) (by rw [hs1]; decide) (by decide) ?_
            refine lv_aload_n hx hb dX12_entry_99 rfl (lv_at hl 2 rfl) ?_
            refine lv_iload_n hx hb dX12_entry_100 rfl (lv_at hl 0 rfl) ?_
            refine lv_iconst (v := 2) hx hb dX12_entry_101 (by decide) ?_
            obtain ⟨o_5, hq, hf⟩ := bd_e hf
            refine mx_callV (As := [.int o_3, .int 2]) (rest := []) (wr := []) (d_X12_at E l  h a_g a_kept a_tape a_written a_asked a_there a_counts a_lasts a_cames g kept isKept tape o_2.2.1 o_2.2.2 written writtenMany asked askedMany there counts lasts cames o_3 2  o_5 hq) B w [0, 1, 2, 3, 4, 5, 6, 7, 8, 9] [] rfl rfl (by decide) (by decide) (by decide) 0 rfl rfl cv_X12_at kw_1325 2 (by decide +kernel) ⟨Nat.le_of_ble_eq_true rfl, Nat.le_of_ble_eq_true rfl⟩ rfl hl.1 rfl (Nat.le_of_ble_eq_true rfl) dX12_entry_102 rfl rfl ⟨Nat.zero_le _, Nat.zero_le _⟩ (fun v w' H locs hpo w => ?_)
            clear hq
            obtain ⟨rfl, rfl⟩ := hpo
            have w : mW E A s [(h, .inr (11, [.ref a_g, .ref a_kept, .int isKept, .ref a_tape, .int o_2.2.1, .int o_2.2.2, .ref a_written, .int writtenMany, .ref a_asked, .int askedMany, .ref a_there, .ref a_counts, .ref a_lasts, .ref a_cames])), (a_g, .inl (E.2.1, 8787, .inl g)), (a_kept, .inl (E.2.1, 8787, .inl kept)), (a_tape, .inl (E.2.2.1, 60, .inl tape)), (a_written, .inl (E.2.1, 40, .inl written)), (a_asked, .inl (E.2.1, 60, .inl asked)), (a_there, .inl (E.2.1, 12, .inl there)), (a_counts, .inl (E.2.1, 12, .inl counts)), (a_lasts, .inl (E.2.1, 12, .inl lasts)), (a_cames, .inl (E.2.1, 12, .inl cames))] H locs := w
            cases hf
            exact mx_iret B w ⟨rfl, rfl⟩ dX12_entry_105
          · have hf := it_f hs1 hf
            by_cases hs2 : x1 = 2
            · have hf := it_t hs2 hf
              refine lv_tableIn (off := 64) (tgt := 106) hx hb dX12_entry_42 (by rw [hs2]; decide) (by rw [hs2]; decide) (by rw [hs2]; decide) (by decide) ?_
              refine lv_aload_n hx hb dX12_entry_106 rfl (lv_at hl 2 rfl) ?_
              refine lv_iload_n hx hb dX12_entry_107 rfl (lv_at hl 0 rfl) ?_
              refine lv_iconst (v := 3) hx hb dX12_entry_108 (by decide) ?_
              obtain ⟨o_6, hq, hf⟩ := bd_e hf
              refine mx_callV (As := [.int o_3, .int 3]) (rest := []) (wr := []) (d_X12_at E l  h a_g a_kept a_tape a_written a_asked a_there a_counts a_lasts a_cames g kept isKept tape o_2.2.1 o_2.2.2 written writtenMany asked askedMany there counts lasts cames o_3 3  o_6 hq) B w [0, 1, 2, 3, 4, 5, 6, 7, 8, 9] [] rfl rfl (by decide) (by decide) (by decide) 0 rfl rfl cv_X12_at kw_1325 2 (by decide +kernel) ⟨Nat.le_of_ble_eq_true rfl, Nat.le_of_ble_eq_true rfl⟩ rfl hl.1 rfl (Nat.le_of_ble_eq_true rfl) dX12_entry_109 rfl rfl ⟨Nat.zero_le _, Nat.zero_le _⟩ (fun v w' H locs hpo w => ?_)
              clear hq
              obtain ⟨rfl, rfl⟩ := hpo
              have w : mW E A s [(h, .inr (11, [.ref a_g, .ref a_kept, .int isKept, .ref a_tape, .int o_2.2.1, .int o_2.2.2, .ref a_written, .int writtenMany, .ref a_asked, .int askedMany, .ref a_there, .ref a_counts, .ref a_lasts, .ref a_cames])), (a_g, .inl (E.2.1, 8787, .inl g)), (a_kept, .inl (E.2.1, 8787, .inl kept)), (a_tape, .inl (E.2.2.1, 60, .inl tape)), (a_written, .inl (E.2.1, 40, .inl written)), (a_asked, .inl (E.2.1, 60, .inl asked)), (a_there, .inl (E.2.1, 12, .inl there)), (a_counts, .inl (E.2.1, 12, .inl counts)), (a_lasts, .inl (E.2.1, 12, .inl lasts)), (a_cames, .inl (E.2.1, 12, .inl cames))] H locs := w
              cases hf
              exact mx_iret B w ⟨rfl, rfl⟩ dX12_entry_112
            · have hf := it_f hs2 hf
              by_cases hs3 : x1 = 3
              · have hf := it_t hs3 hf
                refine lv_tableIn (off := 71) (tgt := 113) hx hb dX12_entry_42 (by rw [hs3]; decide) (by rw [hs3]; decide) (by rw [hs3]; decide) (by decide) ?_
                refine lv_aload_n hx hb dX12_entry_113 rfl (lv_at hl 2 rfl) ?_
                refine lv_iload_n hx hb dX12_entry_114 rfl (lv_at hl 0 rfl) ?_
                refine lv_iconst (v := 5) hx hb dX12_entry_115 (by decide) ?_
                obtain ⟨o_7, hq, hf⟩ := bd_e hf
                refine mx_callV (As := [.int o_3, .int 5]) (rest := []) (wr := []) (d_X12_at E l  h a_g a_kept a_tape a_written a_asked a_there a_counts a_lasts a_cames g kept isKept tape o_2.2.1 o_2.2.2 written writtenMany asked askedMany there counts lasts cames o_3 5  o_7 hq) B w [0, 1, 2, 3, 4, 5, 6, 7, 8, 9] [] rfl rfl (by decide) (by decide) (by decide) 0 rfl rfl cv_X12_at kw_1325 2 (by decide +kernel) ⟨Nat.le_of_ble_eq_true rfl, Nat.le_of_ble_eq_true rfl⟩ rfl hl.1 rfl (Nat.le_of_ble_eq_true rfl) dX12_entry_116 rfl rfl ⟨Nat.zero_le _, Nat.zero_le _⟩ (fun v w' H locs hpo w => ?_)
                clear hq
                obtain ⟨rfl, rfl⟩ := hpo
                have w : mW E A s [(h, .inr (11, [.ref a_g, .ref a_kept, .int isKept, .ref a_tape, .int o_2.2.1, .int o_2.2.2, .ref a_written, .int writtenMany, .ref a_asked, .int askedMany, .ref a_there, .ref a_counts, .ref a_lasts, .ref a_cames])), (a_g, .inl (E.2.1, 8787, .inl g)), (a_kept, .inl (E.2.1, 8787, .inl kept)), (a_tape, .inl (E.2.2.1, 60, .inl tape)), (a_written, .inl (E.2.1, 40, .inl written)), (a_asked, .inl (E.2.1, 60, .inl asked)), (a_there, .inl (E.2.1, 12, .inl there)), (a_counts, .inl (E.2.1, 12, .inl counts)), (a_lasts, .inl (E.2.1, 12, .inl lasts)), (a_cames, .inl (E.2.1, 12, .inl cames))] H locs := w
                cases hf
                exact mx_iret B w ⟨rfl, rfl⟩ dX12_entry_119
              · have hf := it_f hs3 hf
                by_cases hs4 : x1 = 4
                · have hf := it_t hs4 hf
                  refine lv_tableIn (off := 78) (tgt := 120) hx hb dX12_entry_42 (by rw [hs4]; decide) (by rw [hs4]; decide) (by rw [hs4]; decide) (by decide) ?_
                  refine lv_aload_n hx hb dX12_entry_120 rfl (lv_at hl 2 rfl) ?_
                  refine lv_iload_n hx hb dX12_entry_121 rfl (lv_at hl 0 rfl) ?_
                  refine lv_bipush (v := 6) hx hb dX12_entry_122 (by decide) ?_
                  obtain ⟨o_8, hq, hf⟩ := bd_e hf
                  refine mx_callV (As := [.int o_3, .int 6]) (rest := []) (wr := []) (d_X12_at E l  h a_g a_kept a_tape a_written a_asked a_there a_counts a_lasts a_cames g kept isKept tape o_2.2.1 o_2.2.2 written writtenMany asked askedMany there counts lasts cames o_3 6  o_8 hq) B w [0, 1, 2, 3, 4, 5, 6, 7, 8, 9] [] rfl rfl (by decide) (by decide) (by decide) 0 rfl rfl cv_X12_at kw_1325 2 (by decide +kernel) ⟨Nat.le_of_ble_eq_true rfl, Nat.le_of_ble_eq_true rfl⟩ rfl hl.1 rfl (Nat.le_of_ble_eq_true rfl) dX12_entry_124 rfl rfl ⟨Nat.zero_le _, Nat.zero_le _⟩ (fun v w' H locs hpo w => ?_)
                  clear hq
                  obtain ⟨rfl, rfl⟩ := hpo
                  have w : mW E A s [(h, .inr (11, [.ref a_g, .ref a_kept, .int isKept, .ref a_tape, .int o_2.2.1, .int o_2.2.2, .ref a_written, .int writtenMany, .ref a_asked, .int askedMany, .ref a_there, .ref a_counts, .ref a_lasts, .ref a_cames])), (a_g, .inl (E.2.1, 8787, .inl g)), (a_kept, .inl (E.2.1, 8787, .inl kept)), (a_tape, .inl (E.2.2.1, 60, .inl tape)), (a_written, .inl (E.2.1, 40, .inl written)), (a_asked, .inl (E.2.1, 60, .inl asked)), (a_there, .inl (E.2.1, 12, .inl there)), (a_counts, .inl (E.2.1, 12, .inl counts)), (a_lasts, .inl (E.2.1, 12, .inl lasts)), (a_cames, .inl (E.2.1, 12, .inl cames))] H locs := w
                  cases hf
                  exact mx_iret B w ⟨rfl, rfl⟩ dX12_entry_127
                · have hf := it_f hs4 hf
                  by_cases hs5 : x1 = 5
                  · have hf := it_t hs5 hf
                    refine lv_tableIn (off := 86) (tgt := 128) hx hb dX12_entry_42 (by rw [hs5]; decide) (by rw [hs5]; decide) (by rw [hs5]; decide) (by decide) ?_
                    refine lv_aload_n hx hb dX12_entry_128 rfl (lv_at hl 2 rfl) ?_
                    refine lv_iload_n hx hb dX12_entry_129 rfl (lv_at hl 0 rfl) ?_
                    refine lv_bipush (v := 7) hx hb dX12_entry_130 (by decide) ?_
                    obtain ⟨o_9, hq, hf⟩ := bd_e hf
                    refine mx_callV (As := [.int o_3, .int 7]) (rest := []) (wr := []) (d_X12_at E l  h a_g a_kept a_tape a_written a_asked a_there a_counts a_lasts a_cames g kept isKept tape o_2.2.1 o_2.2.2 written writtenMany asked askedMany there counts lasts cames o_3 7  o_9 hq) B w [0, 1, 2, 3, 4, 5, 6, 7, 8, 9] [] rfl rfl (by decide) (by decide) (by decide) 0 rfl rfl cv_X12_at kw_1325 2 (by decide +kernel) ⟨Nat.le_of_ble_eq_true rfl, Nat.le_of_ble_eq_true rfl⟩ rfl hl.1 rfl (Nat.le_of_ble_eq_true rfl) dX12_entry_132 rfl rfl ⟨Nat.zero_le _, Nat.zero_le _⟩ (fun v w' H locs hpo w => ?_)
                    clear hq
                    obtain ⟨rfl, rfl⟩ := hpo
                    have w : mW E A s [(h, .inr (11, [.ref a_g, .ref a_kept, .int isKept, .ref a_tape, .int o_2.2.1, .int o_2.2.2, .ref a_written, .int writtenMany, .ref a_asked, .int askedMany, .ref a_there, .ref a_counts, .ref a_lasts, .ref a_cames])), (a_g, .inl (E.2.1, 8787, .inl g)), (a_kept, .inl (E.2.1, 8787, .inl kept)), (a_tape, .inl (E.2.2.1, 60, .inl tape)), (a_written, .inl (E.2.1, 40, .inl written)), (a_asked, .inl (E.2.1, 60, .inl asked)), (a_there, .inl (E.2.1, 12, .inl there)), (a_counts, .inl (E.2.1, 12, .inl counts)), (a_lasts, .inl (E.2.1, 12, .inl lasts)), (a_cames, .inl (E.2.1, 12, .inl cames))] H locs := w
                    cases hf
                    exact mx_iret B w ⟨rfl, rfl⟩ dX12_entry_135
                  · have hf := it_f hs5 hf
                    by_cases hs6 : x1 = 6
                    · have hf := it_t hs6 hf
                      refine lv_tableIn (off := 94) (tgt := 136) hx hb dX12_entry_42 (by rw [hs6]; decide) (by rw [hs6]; decide) (by rw [hs6]; decide) (by decide) ?_
                      refine lv_aload_n hx hb dX12_entry_136 rfl (lv_at hl 2 rfl) ?_
                      refine lv_iload_n hx hb dX12_entry_137 rfl (lv_at hl 0 rfl) ?_
                      refine lv_iconst (v := 4) hx hb dX12_entry_138 (by decide) ?_
                      obtain ⟨o_10, hq, hf⟩ := bd_e hf
                      refine mx_callV (As := [.int o_3, .int 4]) (rest := []) (wr := []) (d_X12_at E l  h a_g a_kept a_tape a_written a_asked a_there a_counts a_lasts a_cames g kept isKept tape o_2.2.1 o_2.2.2 written writtenMany asked askedMany there counts lasts cames o_3 4  o_10 hq) B w [0, 1, 2, 3, 4, 5, 6, 7, 8, 9] [] rfl rfl (by decide) (by decide) (by decide) 0 rfl rfl cv_X12_at kw_1325 2 (by decide +kernel) ⟨Nat.le_of_ble_eq_true rfl, Nat.le_of_ble_eq_true rfl⟩ rfl hl.1 rfl (Nat.le_of_ble_eq_true rfl) dX12_entry_139 rfl rfl ⟨Nat.zero_le _, Nat.zero_le _⟩ (fun v w' H locs hpo w => ?_)
                      clear hq
                      obtain ⟨rfl, rfl⟩ := hpo
                      have w : mW E A s [(h, .inr (11, [.ref a_g, .ref a_kept, .int isKept, .ref a_tape, .int o_2.2.1, .int o_2.2.2, .ref a_written, .int writtenMany, .ref a_asked, .int askedMany, .ref a_there, .ref a_counts, .ref a_lasts, .ref a_cames])), (a_g, .inl (E.2.1, 8787, .inl g)), (a_kept, .inl (E.2.1, 8787, .inl kept)), (a_tape, .inl (E.2.2.1, 60, .inl tape)), (a_written, .inl (E.2.1, 40, .inl written)), (a_asked, .inl (E.2.1, 60, .inl asked)), (a_there, .inl (E.2.1, 12, .inl there)), (a_counts, .inl (E.2.1, 12, .inl counts)), (a_lasts, .inl (E.2.1, 12, .inl lasts)), (a_cames, .inl (E.2.1, 12, .inl cames))] H locs := w
                      cases hf
                      exact mx_iret B w ⟨rfl, rfl⟩ dX12_entry_142
                    · have hf := it_f hs6 hf
                      by_cases hs7 : x1 = 7
                      · have hf := it_t hs7 hf
                        refine lv_tableIn (off := 101) (tgt := 143) hx hb dX12_entry_42 (by rw [hs7]; decide) (by rw [hs7]; decide) (by rw [hs7]; decide) (by decide) ?_
                        refine lv_aload_n hx hb dX12_entry_143 rfl (lv_at hl 2 rfl) ?_
                        refine lv_iload_n hx hb dX12_entry_144 rfl (lv_at hl 0 rfl) ?_
                        obtain ⟨o_11, hq, hf⟩ := bd_e hf
                        refine mx_callV (As := [.int o_3]) (rest := []) (wr := []) (d_X12_isStale E l  h a_g a_kept a_tape a_written a_asked a_there a_counts a_lasts a_cames g kept isKept tape o_2.2.1 o_2.2.2 written writtenMany asked askedMany there counts lasts cames o_3  o_11 hq) B w [0, 1, 2, 3, 4, 5, 6, 7, 8, 9] [] rfl rfl (by decide) (by decide) (by decide) 0 rfl rfl cv_X12_isStale kw_1337 1 (by decide +kernel) ⟨Nat.le_of_ble_eq_true rfl, Nat.le_of_ble_eq_true rfl⟩ rfl hl.1 rfl (Nat.le_of_ble_eq_true rfl) dX12_entry_145 rfl rfl ⟨Nat.zero_le _, Nat.zero_le _⟩ (fun v w' H locs hpo w => ?_)
                        clear hq
                        obtain ⟨rfl, rfl⟩ := hpo
                        have w : mW E A s [(h, .inr (11, [.ref a_g, .ref a_kept, .int isKept, .ref a_tape, .int o_2.2.1, .int o_2.2.2, .ref a_written, .int writtenMany, .ref a_asked, .int askedMany, .ref a_there, .ref a_counts, .ref a_lasts, .ref a_cames])), (a_g, .inl (E.2.1, 8787, .inl g)), (a_kept, .inl (E.2.1, 8787, .inl kept)), (a_tape, .inl (E.2.2.1, 60, .inl tape)), (a_written, .inl (E.2.1, 40, .inl written)), (a_asked, .inl (E.2.1, 60, .inl asked)), (a_there, .inl (E.2.1, 12, .inl there)), (a_counts, .inl (E.2.1, 12, .inl counts)), (a_lasts, .inl (E.2.1, 12, .inl lasts)), (a_cames, .inl (E.2.1, 12, .inl cames))] H locs := w
                        refine lv_if_eq (tgt := 155) hx hb dX12_entry_148 (by decide) (fun hc => ?_) (fun hc => ?_)
                        · have hf := it_t hc hf
                          refine lv_iconst (v := 0) hx hb dX12_entry_155 (by decide) ?_
                          cases hf
                          exact mx_iret B w ⟨rfl, rfl⟩ dX12_entry_156
                        · have hf := it_f hc hf
                          refine lv_iconst (v := 1) hx hb dX12_entry_151 (by decide) ?_
                          refine lv_goto (tgt := 156) hx hb dX12_entry_152 (by decide) ?_
                          cases hf
                          exact mx_iret B w ⟨rfl, rfl⟩ dX12_entry_156
                      · have hf := it_f hs7 hf
                        by_cases hs8 : x1 = 8
                        · have hf := it_t hs8 hf
                          refine lv_tableIn (off := 115) (tgt := 157) hx hb dX12_entry_42 (by rw [hs8]; decide) (by rw [hs8]; decide) (by rw [hs8]; decide) (by decide) ?_
                          refine lv_aload_n hx hb dX12_entry_157 rfl (lv_at hl 2 rfl) ?_
                          refine lv_iload_n hx hb dX12_entry_158 rfl (lv_at hl 0 rfl) ?_
                          obtain ⟨o_12, hq, hf⟩ := bd_e hf
                          refine mx_callV (As := [.int o_3]) (rest := []) (wr := []) (d_X12_isDue E l  h a_g a_kept a_tape a_written a_asked a_there a_counts a_lasts a_cames g kept isKept tape o_2.2.1 o_2.2.2 written writtenMany asked askedMany there counts lasts cames o_3  o_12 hq) B w [0, 1, 2, 3, 4, 5, 6, 7, 8, 9] [] rfl rfl (by decide) (by decide) (by decide) 0 rfl rfl cv_X12_isDue kw_1476 1 (by decide +kernel) ⟨Nat.le_of_ble_eq_true rfl, Nat.le_of_ble_eq_true rfl⟩ rfl hl.1 rfl (Nat.le_of_ble_eq_true rfl) dX12_entry_159 rfl rfl ⟨Nat.zero_le _, Nat.zero_le _⟩ (fun v w' H locs hpo w => ?_)
                          clear hq
                          obtain ⟨rfl, rfl⟩ := hpo
                          have w : mW E A s [(h, .inr (11, [.ref a_g, .ref a_kept, .int isKept, .ref a_tape, .int o_2.2.1, .int o_2.2.2, .ref a_written, .int writtenMany, .ref a_asked, .int askedMany, .ref a_there, .ref a_counts, .ref a_lasts, .ref a_cames])), (a_g, .inl (E.2.1, 8787, .inl g)), (a_kept, .inl (E.2.1, 8787, .inl kept)), (a_tape, .inl (E.2.2.1, 60, .inl tape)), (a_written, .inl (E.2.1, 40, .inl written)), (a_asked, .inl (E.2.1, 60, .inl asked)), (a_there, .inl (E.2.1, 12, .inl there)), (a_counts, .inl (E.2.1, 12, .inl counts)), (a_lasts, .inl (E.2.1, 12, .inl lasts)), (a_cames, .inl (E.2.1, 12, .inl cames))] H locs := w
                          refine lv_if_eq (tgt := 169) hx hb dX12_entry_162 (by decide) (fun hc => ?_) (fun hc => ?_)
                          · have hf := it_t hc hf
                            refine lv_iconst (v := 0) hx hb dX12_entry_169 (by decide) ?_
                            cases hf
                            exact mx_iret B w ⟨rfl, rfl⟩ dX12_entry_170
                          · have hf := it_f hc hf
                            refine lv_iconst (v := 1) hx hb dX12_entry_165 (by decide) ?_
                            refine lv_goto (tgt := 170) hx hb dX12_entry_166 (by decide) ?_
                            cases hf
                            exact mx_iret B w ⟨rfl, rfl⟩ dX12_entry_170
                        · have hf := it_f hs8 hf
                          have hz0 := lv_neT (a := 0) hs0 (by decide)
                          have hz1 := lv_neT (a := 1) hs1 (by decide)
                          have hz2 := lv_neT (a := 2) hs2 (by decide)
                          have hz3 := lv_neT (a := 3) hs3 (by decide)
                          have hz4 := lv_neT (a := 4) hs4 (by decide)
                          have hz5 := lv_neT (a := 5) hs5 (by decide)
                          have hz6 := lv_neT (a := 6) hs6 (by decide)
                          have hz7 := lv_neT (a := 7) hs7 (by decide)
                          have hz8 := lv_neT (a := 8) hs8 (by decide)
                          refine lv_tableOut (tgt := 171) hx hb dX12_entry_42 (by omega) (by decide) ?_
                          refine lv_aload_n hx hb dX12_entry_171 rfl (lv_at hl 2 rfl) ?_
                          refine lv_iload_n hx hb dX12_entry_172 rfl (lv_at hl 0 rfl) ?_
                          refine lv_bipush (v := 8) hx hb dX12_entry_173 (by decide) ?_
                          obtain ⟨o_13, hq, hf⟩ := bd_e hf
                          refine mx_callV (As := [.int o_3, .int 8]) (rest := []) (wr := []) (d_X12_at E l  h a_g a_kept a_tape a_written a_asked a_there a_counts a_lasts a_cames g kept isKept tape o_2.2.1 o_2.2.2 written writtenMany asked askedMany there counts lasts cames o_3 8  o_13 hq) B w [0, 1, 2, 3, 4, 5, 6, 7, 8, 9] [] rfl rfl (by decide) (by decide) (by decide) 0 rfl rfl cv_X12_at kw_1325 2 (by decide +kernel) ⟨Nat.le_of_ble_eq_true rfl, Nat.le_of_ble_eq_true rfl⟩ rfl hl.1 rfl (Nat.le_of_ble_eq_true rfl) dX12_entry_175 rfl rfl ⟨Nat.zero_le _, Nat.zero_le _⟩ (fun v w' H locs hpo w => ?_)
                          clear hq
                          obtain ⟨rfl, rfl⟩ := hpo
                          have w : mW E A s [(h, .inr (11, [.ref a_g, .ref a_kept, .int isKept, .ref a_tape, .int o_2.2.1, .int o_2.2.2, .ref a_written, .int writtenMany, .ref a_asked, .int askedMany, .ref a_there, .ref a_counts, .ref a_lasts, .ref a_cames])), (a_g, .inl (E.2.1, 8787, .inl g)), (a_kept, .inl (E.2.1, 8787, .inl kept)), (a_tape, .inl (E.2.2.1, 60, .inl tape)), (a_written, .inl (E.2.1, 40, .inl written)), (a_asked, .inl (E.2.1, 60, .inl asked)), (a_there, .inl (E.2.1, 12, .inl there)), (a_counts, .inl (E.2.1, 12, .inl counts)), (a_lasts, .inl (E.2.1, 12, .inl lasts)), (a_cames, .inl (E.2.1, 12, .inl cames))] H locs := w
                          refine lv_if_eq (tgt := 185) hx hb dX12_entry_178 (by decide) (fun hc => ?_) (fun hc => ?_)
                          · have hf := it_t hc hf
                            refine lv_iconst (v := 0) hx hb dX12_entry_185 (by decide) ?_
                            cases hf
                            exact mx_iret B w ⟨rfl, rfl⟩ dX12_entry_186
                          · have hf := it_f hc hf
                            refine lv_iconst (v := 1) hx hb dX12_entry_181 (by decide) ?_
                            refine lv_goto (tgt := 186) hx hb dX12_entry_182 (by decide) ?_
                            cases hf
                            exact mx_iret B w ⟨rfl, rfl⟩ dX12_entry_186
      · have hf := it_f hc hf
        refine lv_sipush (v := (-1003)) hx hb dX12_entry_37 (by decide) ?_
        cases hf
        exact mx_iret B w ⟨rfl, rfl⟩ dX12_entry_40
    · have hf := it_t hc hf
      refine lv_sipush (v := (-1002)) hx hb dX12_entry_23 (by decide) ?_
      cases hf
      exact mx_iret B w ⟨rfl, rfl⟩ dX12_entry_26
  · have hf := it_t hc hf
    refine lv_sipush (v := (-1001)) hx hb dX12_entry_10 (by decide) ?_
    cases hf
    exact mx_iret B w ⟨rfl, rfl⟩ dX12_entry_13
-- X12_seen
def po_X12_seen (E : mE) (h : Nat) (a_g : Nat) (a_kept : Nat) (a_tape : Nat) (a_written : Nat) (a_asked : Nat) (a_there : Nat) (a_counts : Nat) (a_lasts : Nat) (a_cames : Nat)  (g : Nat → Int32) (kept : Nat → Int32) (isKept : Int32) (tape : Nat → Int32) (taped : Int32) (spot : Int32) (written : Nat → Int32) (writtenMany : Int32) (asked : Nat → Int32) (askedMany : Int32) (there : Nat → Int32) (counts : Nat → Int32) (lasts : Nat → Int32) (cames : Nat → Int32)  (o : Int32 × Int32 × Int32) : Option Value → va_W → Prop := (fun (v : Option Value) (w' : va_W) => v = some (.int o.1) ∧ w' = [(h, .inr (11, [.ref a_g, .ref a_kept, .int isKept, .ref a_tape, .int o.2.1, .int o.2.2, .ref a_written, .int writtenMany, .ref a_asked, .int askedMany, .ref a_there, .ref a_counts, .ref a_lasts, .ref a_cames])), (a_g, .inl (E.2.1, 8787, .inl g)), (a_kept, .inl (E.2.1, 8787, .inl kept)), (a_tape, .inl (E.2.2.1, 60, .inl tape)), (a_written, .inl (E.2.1, 40, .inl written)), (a_asked, .inl (E.2.1, 60, .inl asked)), (a_there, .inl (E.2.1, 12, .inl there)), (a_counts, .inl (E.2.1, 12, .inl counts)), (a_lasts, .inl (E.2.1, 12, .inl lasts)), (a_cames, .inl (E.2.1, 12, .inl cames))])
noncomputable def F_X12_seen (N : Nat)  (g : Nat → Int32) (tape : Nat → Int32) (taped : Int32) (spot : Int32)  : Option (Int32 × Int32 × Int32) :=
  bd (F_X12_takesKey N tape taped spot) (fun o_1 =>
  if (o_1.1 = 0 : Prop) then
  some ((-1002), o_1.2.1, o_1.2.2)
  else
  bd (F_X12_seenOf N g o_1.1) (fun o_2 =>
  some (o_2, o_1.2.1, o_1.2.2)))
set_option maxHeartbeats 4000000 in
set_option maxRecDepth 100000 in
theorem d_X12_seen (E : mE) (l : Launch) (N : Nat) (h : Nat) (a_g : Nat) (a_kept : Nat) (a_tape : Nat) (a_written : Nat) (a_asked : Nat) (a_there : Nat) (a_counts : Nat) (a_lasts : Nat) (a_cames : Nat)  (g : Nat → Int32) (kept : Nat → Int32) (isKept : Int32) (tape : Nat → Int32) (taped : Int32) (spot : Int32) (written : Nat → Int32) (writtenMany : Int32) (asked : Nat → Int32) (askedMany : Int32) (there : Nat → Int32) (counts : Nat → Int32) (lasts : Nat → Int32) (cames : Nat → Int32)    (o : Int32 × Int32 × Int32) (hf : F_X12_seen N g tape taped spot = some o) : MX E l yX12_seen cX12_seen 2 (some .int) ({ frames := 5, cells := 0, slots := 0, locals := 112 } : Room) [.ref h] [(h, .inr (11, [.ref a_g, .ref a_kept, .int isKept, .ref a_tape, .int taped, .int spot, .ref a_written, .int writtenMany, .ref a_asked, .int askedMany, .ref a_there, .ref a_counts, .ref a_lasts, .ref a_cames])), (a_g, .inl (E.2.1, 8787, .inl g)), (a_kept, .inl (E.2.1, 8787, .inl kept)), (a_tape, .inl (E.2.2.1, 60, .inl tape)), (a_written, .inl (E.2.1, 40, .inl written)), (a_asked, .inl (E.2.1, 60, .inl asked)), (a_there, .inl (E.2.1, 12, .inl there)), (a_counts, .inl (E.2.1, 12, .inl counts)), (a_lasts, .inl (E.2.1, 12, .inl lasts)), (a_cames, .inl (E.2.1, 12, .inl cames))] (po_X12_seen E h a_g a_kept a_tape a_written a_asked a_there a_counts a_lasts a_cames g kept isKept tape taped spot written writtenMany asked askedMany there counts lasts cames o) := by
  refine mx_intro (by decide +kernel) (Nat.le_of_ble_eq_true rfl) ?_
  intro p e s m args below meth c A Q ls B w hl
  obtain ⟨hx, hb, hml, hown, hts⟩ := id B.1
  unfold F_X12_seen at hf
  have hl : lv_has ls 2 [(0, .ref h)] := hl
  refine lv_aload_n hx hb dX12_seen_0 rfl (lv_at hl 0 rfl) ?_
  obtain ⟨o_1, hq, hf⟩ := bd_e hf
  refine mx_callV (As := []) (rest := []) (wr := []) (d_X12_takesKey E l N h a_g a_kept a_tape a_written a_asked a_there a_counts a_lasts a_cames g kept isKept tape taped spot written writtenMany asked askedMany there counts lasts cames   o_1 hq) B w [0, 1, 2, 3, 4, 5, 6, 7, 8, 9] [] rfl rfl (by decide) (by decide) (by decide) 0 rfl rfl cv_X12_takesKey kw_1281 0 (by decide +kernel) ⟨Nat.le_of_ble_eq_true rfl, Nat.le_of_ble_eq_true rfl⟩ rfl hl.1 rfl (Nat.le_of_ble_eq_true rfl) dX12_seen_1 rfl rfl ⟨Nat.zero_le _, Nat.zero_le _⟩ (fun v w' H locs hpo w => ?_)
  clear hq
  obtain ⟨rfl, rfl⟩ := hpo
  have w : mW E A s [(h, .inr (11, [.ref a_g, .ref a_kept, .int isKept, .ref a_tape, .int o_1.2.1, .int o_1.2.2, .ref a_written, .int writtenMany, .ref a_asked, .int askedMany, .ref a_there, .ref a_counts, .ref a_lasts, .ref a_cames])), (a_g, .inl (E.2.1, 8787, .inl g)), (a_kept, .inl (E.2.1, 8787, .inl kept)), (a_tape, .inl (E.2.2.1, 60, .inl tape)), (a_written, .inl (E.2.1, 40, .inl written)), (a_asked, .inl (E.2.1, 60, .inl asked)), (a_there, .inl (E.2.1, 12, .inl there)), (a_counts, .inl (E.2.1, 12, .inl counts)), (a_lasts, .inl (E.2.1, 12, .inl lasts)), (a_cames, .inl (E.2.1, 12, .inl cames))] H locs := w
  refine lv_istore_n (lv' := [(1, .int o_1.1), (0, .ref h)]) hx hb dX12_seen_4 rfl hl (by decide) rfl (fun ls hl => ?_)
  refine lv_iload_n hx hb dX12_seen_5 rfl (lv_at hl 0 rfl) ?_
  refine lv_if_ne (tgt := 15) hx hb dX12_seen_6 (by decide) (fun hc => ?_) (fun hc => ?_)
  · have hf := it_f hc hf
    refine lv_aload_n hx hb dX12_seen_15 rfl (lv_at hl 1 rfl) ?_
    refine lv_iload_n hx hb dX12_seen_16 rfl (lv_at hl 0 rfl) ?_
    obtain ⟨o_2, hq, hf⟩ := bd_e hf
    refine mx_callV (As := [.int o_1.1]) (rest := []) (wr := []) (d_X12_seenOf E l N h a_g a_kept a_tape a_written a_asked a_there a_counts a_lasts a_cames g kept isKept tape o_1.2.1 o_1.2.2 written writtenMany asked askedMany there counts lasts cames o_1.1  o_2 hq) B w [0, 1, 2, 3, 4, 5, 6, 7, 8, 9] [] rfl rfl (by decide) (by decide) (by decide) 0 rfl rfl cv_X12_seenOf kw_1289 1 (by decide +kernel) ⟨Nat.le_of_ble_eq_true rfl, Nat.le_of_ble_eq_true rfl⟩ rfl hl.1 rfl (Nat.le_of_ble_eq_true rfl) dX12_seen_17 rfl rfl ⟨Nat.zero_le _, Nat.zero_le _⟩ (fun v w' H locs hpo w => ?_)
    clear hq
    obtain ⟨rfl, rfl⟩ := hpo
    have w : mW E A s [(h, .inr (11, [.ref a_g, .ref a_kept, .int isKept, .ref a_tape, .int o_1.2.1, .int o_1.2.2, .ref a_written, .int writtenMany, .ref a_asked, .int askedMany, .ref a_there, .ref a_counts, .ref a_lasts, .ref a_cames])), (a_g, .inl (E.2.1, 8787, .inl g)), (a_kept, .inl (E.2.1, 8787, .inl kept)), (a_tape, .inl (E.2.2.1, 60, .inl tape)), (a_written, .inl (E.2.1, 40, .inl written)), (a_asked, .inl (E.2.1, 60, .inl asked)), (a_there, .inl (E.2.1, 12, .inl there)), (a_counts, .inl (E.2.1, 12, .inl counts)), (a_lasts, .inl (E.2.1, 12, .inl lasts)), (a_cames, .inl (E.2.1, 12, .inl cames))] H locs := w
    cases hf
    exact mx_iret B w ⟨rfl, rfl⟩ dX12_seen_20
  · have hf := it_t hc hf
    refine lv_sipush (v := (-1002)) hx hb dX12_seen_9 (by decide) ?_
    refine lv_goto (tgt := 20) hx hb dX12_seen_12 (by decide) ?_
    cases hf
    exact mx_iret B w ⟨rfl, rfl⟩ dX12_seen_20
-- X12_sketch
def po_X12_sketch (E : mE) (h : Nat) (a_g : Nat) (a_kept : Nat) (a_tape : Nat) (a_written : Nat) (a_asked : Nat) (a_there : Nat) (a_counts : Nat) (a_lasts : Nat) (a_cames : Nat)  (g : Nat → Int32) (kept : Nat → Int32) (isKept : Int32) (tape : Nat → Int32) (taped : Int32) (spot : Int32) (written : Nat → Int32) (writtenMany : Int32) (asked : Nat → Int32) (askedMany : Int32) (there : Nat → Int32) (counts : Nat → Int32) (lasts : Nat → Int32) (cames : Nat → Int32)  (o : Int32) : Option Value → va_W → Prop := (fun (v : Option Value) (w' : va_W) => v = some (.int o) ∧ w' = [(h, .inr (11, [.ref a_g, .ref a_kept, .int isKept, .ref a_tape, .int taped, .int spot, .ref a_written, .int writtenMany, .ref a_asked, .int askedMany, .ref a_there, .ref a_counts, .ref a_lasts, .ref a_cames])), (a_g, .inl (E.2.1, 8787, .inl g)), (a_kept, .inl (E.2.1, 8787, .inl kept)), (a_tape, .inl (E.2.2.1, 60, .inl tape)), (a_written, .inl (E.2.1, 40, .inl written)), (a_asked, .inl (E.2.1, 60, .inl asked)), (a_there, .inl (E.2.1, 12, .inl there)), (a_counts, .inl (E.2.1, 12, .inl counts)), (a_lasts, .inl (E.2.1, 12, .inl lasts)), (a_cames, .inl (E.2.1, 12, .inl cames))])
noncomputable def F_X12_sketch  (g : Nat → Int32) (x1 : Int32) (x2 : Int32) : Option (Int32) :=
  bd (F_X12_in x1 0 3) (fun o_1 =>
  if (o_1 = 0 : Prop) then
  some ((-1001))
  else
  bd (F_X12_in x2 0 15) (fun o_2 =>
  if (o_2 = 0 : Prop) then
  some ((-1001))
  else
  ld g 8787 ((34 + (16 * x1)) + x2) (fun v_3 =>
  some (v_3))))
set_option maxHeartbeats 4000000 in
set_option maxRecDepth 100000 in
theorem d_X12_sketch (E : mE) (l : Launch) (h : Nat) (a_g : Nat) (a_kept : Nat) (a_tape : Nat) (a_written : Nat) (a_asked : Nat) (a_there : Nat) (a_counts : Nat) (a_lasts : Nat) (a_cames : Nat)  (g : Nat → Int32) (kept : Nat → Int32) (isKept : Int32) (tape : Nat → Int32) (taped : Int32) (spot : Int32) (written : Nat → Int32) (writtenMany : Int32) (asked : Nat → Int32) (askedMany : Int32) (there : Nat → Int32) (counts : Nat → Int32) (lasts : Nat → Int32) (cames : Nat → Int32)  (x1 : Int32) (x2 : Int32)  (o : Int32) (hf : F_X12_sketch g x1 x2 = some o) : MX E l yX12_sketch cX12_sketch 3 (some .int) ({ frames := 1, cells := 0, slots := 0, locals := 22 } : Room) [.ref h, .int x1, .int x2] [(h, .inr (11, [.ref a_g, .ref a_kept, .int isKept, .ref a_tape, .int taped, .int spot, .ref a_written, .int writtenMany, .ref a_asked, .int askedMany, .ref a_there, .ref a_counts, .ref a_lasts, .ref a_cames])), (a_g, .inl (E.2.1, 8787, .inl g)), (a_kept, .inl (E.2.1, 8787, .inl kept)), (a_tape, .inl (E.2.2.1, 60, .inl tape)), (a_written, .inl (E.2.1, 40, .inl written)), (a_asked, .inl (E.2.1, 60, .inl asked)), (a_there, .inl (E.2.1, 12, .inl there)), (a_counts, .inl (E.2.1, 12, .inl counts)), (a_lasts, .inl (E.2.1, 12, .inl lasts)), (a_cames, .inl (E.2.1, 12, .inl cames))] (po_X12_sketch E h a_g a_kept a_tape a_written a_asked a_there a_counts a_lasts a_cames g kept isKept tape taped spot written writtenMany asked askedMany there counts lasts cames o) := by
  refine mx_intro (by decide +kernel) (Nat.le_of_ble_eq_true rfl) ?_
  intro p e s m args below meth c A Q ls B w hl
  obtain ⟨hx, hb, hml, hown, hts⟩ := id B.1
  unfold F_X12_sketch at hf
  have hl : lv_has ls 3 [(0, .ref h), (1, .int x1), (2, .int x2)] := hl
  refine lv_iload_n hx hb dX12_sketch_0 rfl (lv_at hl 1 rfl) ?_
  refine lv_iconst (v := 0) hx hb dX12_sketch_1 (by decide) ?_
  refine lv_iconst (v := 3) hx hb dX12_sketch_2 (by decide) ?_
  obtain ⟨o_1, hq, hf⟩ := bd_e hf
  refine mx_callS (As := [.int x1, .int 0, .int 3]) (rest := []) (wr := [(h, .inr (11, [.ref a_g, .ref a_kept, .int isKept, .ref a_tape, .int taped, .int spot, .ref a_written, .int writtenMany, .ref a_asked, .int askedMany, .ref a_there, .ref a_counts, .ref a_lasts, .ref a_cames])), (a_g, .inl (E.2.1, 8787, .inl g)), (a_kept, .inl (E.2.1, 8787, .inl kept)), (a_tape, .inl (E.2.2.1, 60, .inl tape)), (a_written, .inl (E.2.1, 40, .inl written)), (a_asked, .inl (E.2.1, 60, .inl asked)), (a_there, .inl (E.2.1, 12, .inl there)), (a_counts, .inl (E.2.1, 12, .inl counts)), (a_lasts, .inl (E.2.1, 12, .inl lasts)), (a_cames, .inl (E.2.1, 12, .inl cames))]) (d_X12_in E l   x1 0 3  o_1 hq) B w [] [0, 1, 2, 3, 4, 5, 6, 7, 8, 9] rfl rfl (by decide) (by decide) (by decide) cs_X12_in kw_1274 3 (by decide +kernel) ⟨Nat.le_of_ble_eq_true rfl, Nat.le_of_ble_eq_true rfl⟩ rfl hl.1 rfl (Nat.le_of_ble_eq_true rfl) dX12_sketch_3 rfl rfl ⟨Nat.zero_le _, Nat.zero_le _⟩ (fun v w' H locs hpo w => ?_)
  clear hq
  obtain ⟨rfl, rfl⟩ := hpo
  have w : mW E A s [(h, .inr (11, [.ref a_g, .ref a_kept, .int isKept, .ref a_tape, .int taped, .int spot, .ref a_written, .int writtenMany, .ref a_asked, .int askedMany, .ref a_there, .ref a_counts, .ref a_lasts, .ref a_cames])), (a_g, .inl (E.2.1, 8787, .inl g)), (a_kept, .inl (E.2.1, 8787, .inl kept)), (a_tape, .inl (E.2.2.1, 60, .inl tape)), (a_written, .inl (E.2.1, 40, .inl written)), (a_asked, .inl (E.2.1, 60, .inl asked)), (a_there, .inl (E.2.1, 12, .inl there)), (a_counts, .inl (E.2.1, 12, .inl counts)), (a_lasts, .inl (E.2.1, 12, .inl lasts)), (a_cames, .inl (E.2.1, 12, .inl cames))] H locs := w
  refine lv_if_eq (tgt := 36) hx hb dX12_sketch_6 (by decide) (fun hc => ?_) (fun hc => ?_)
  · have hf := it_t hc hf
    refine lv_sipush (v := (-1001)) hx hb dX12_sketch_36 (by decide) ?_
    cases hf
    exact mx_iret B w ⟨rfl, rfl⟩ dX12_sketch_39
  · have hf := it_f hc hf
    refine lv_iload_n hx hb dX12_sketch_9 rfl (lv_at hl 2 rfl) ?_
    refine lv_iconst (v := 0) hx hb dX12_sketch_10 (by decide) ?_
    refine lv_bipush (v := 15) hx hb dX12_sketch_11 (by decide) ?_
    obtain ⟨o_2, hq, hf⟩ := bd_e hf
    refine mx_callS (As := [.int x2, .int 0, .int 15]) (rest := []) (wr := [(h, .inr (11, [.ref a_g, .ref a_kept, .int isKept, .ref a_tape, .int taped, .int spot, .ref a_written, .int writtenMany, .ref a_asked, .int askedMany, .ref a_there, .ref a_counts, .ref a_lasts, .ref a_cames])), (a_g, .inl (E.2.1, 8787, .inl g)), (a_kept, .inl (E.2.1, 8787, .inl kept)), (a_tape, .inl (E.2.2.1, 60, .inl tape)), (a_written, .inl (E.2.1, 40, .inl written)), (a_asked, .inl (E.2.1, 60, .inl asked)), (a_there, .inl (E.2.1, 12, .inl there)), (a_counts, .inl (E.2.1, 12, .inl counts)), (a_lasts, .inl (E.2.1, 12, .inl lasts)), (a_cames, .inl (E.2.1, 12, .inl cames))]) (d_X12_in E l   x2 0 15  o_2 hq) B w [] [0, 1, 2, 3, 4, 5, 6, 7, 8, 9] rfl rfl (by decide) (by decide) (by decide) cs_X12_in kw_1274 3 (by decide +kernel) ⟨Nat.le_of_ble_eq_true rfl, Nat.le_of_ble_eq_true rfl⟩ rfl hl.1 rfl (Nat.le_of_ble_eq_true rfl) dX12_sketch_13 rfl rfl ⟨Nat.zero_le _, Nat.zero_le _⟩ (fun v w' H locs hpo w => ?_)
    clear hq
    obtain ⟨rfl, rfl⟩ := hpo
    have w : mW E A s [(h, .inr (11, [.ref a_g, .ref a_kept, .int isKept, .ref a_tape, .int taped, .int spot, .ref a_written, .int writtenMany, .ref a_asked, .int askedMany, .ref a_there, .ref a_counts, .ref a_lasts, .ref a_cames])), (a_g, .inl (E.2.1, 8787, .inl g)), (a_kept, .inl (E.2.1, 8787, .inl kept)), (a_tape, .inl (E.2.2.1, 60, .inl tape)), (a_written, .inl (E.2.1, 40, .inl written)), (a_asked, .inl (E.2.1, 60, .inl asked)), (a_there, .inl (E.2.1, 12, .inl there)), (a_counts, .inl (E.2.1, 12, .inl counts)), (a_lasts, .inl (E.2.1, 12, .inl lasts)), (a_cames, .inl (E.2.1, 12, .inl cames))] H locs := w
    refine lv_if_eq (tgt := 36) hx hb dX12_sketch_16 (by decide) (fun hc => ?_) (fun hc => ?_)
    · have hf := it_t hc hf
      refine lv_sipush (v := (-1001)) hx hb dX12_sketch_36 (by decide) ?_
      cases hf
      exact mx_iret B w ⟨rfl, rfl⟩ dX12_sketch_39
    · have hf := it_f hc hf
      refine lv_aload_n hx hb dX12_sketch_19 rfl (lv_at hl 0 rfl) ?_
      refine mx_get B w 0 fl_X12_9 rfl rfl dX12_sketch_20 ?_
      refine lv_bipush (v := 34) hx hb dX12_sketch_23 (by decide) ?_
      refine lv_bipush (v := 16) hx hb dX12_sketch_25 (by decide) ?_
      refine lv_iload_n hx hb dX12_sketch_27 rfl (lv_at hl 1 rfl) ?_
      refine lv_imul hx hb dX12_sketch_28 ?_
      refine lv_iadd hx hb dX12_sketch_29 ?_
      refine lv_iload_n hx hb dX12_sketch_30 rfl (lv_at hl 2 rfl) ?_
      refine lv_iadd hx hb dX12_sketch_31 ?_
      obtain ⟨hin, hf⟩ := ld_e hf
      refine mx_iald B w 1 rfl hin dX12_sketch_32 (fun v_3 ev => ?_)
      have hf := hf _ ev; clear ev
      refine lv_goto (tgt := 39) hx hb dX12_sketch_33 (by decide) ?_
      cases hf
      exact mx_iret B w ⟨rfl, rfl⟩ dX12_sketch_39
-- X12_beginsWith
def po_X12_beginsWith (E : mE)     (o : Int32) : Option Value → va_W → Prop := (fun (v : Option Value) (w' : va_W) => v = some (.int o) ∧ w' = [])
noncomputable def K_X12_beginsWith_2 (N : Nat)  (rec : Int32 → Option (Int32)) (k15 : Int32 → Option (Int32)) (x1 : Int32)  (x2 : Int32)  : Option (Int32) :=
  if (x2 ≤ x1 : Prop) then
  k15 x2
  else
  lt (x2 / 27) (fun x2_1 =>
  rec x2_1)
noncomputable def L_X12_beginsWith_2 (N : Nat)  (k15 : Int32 → Option (Int32)) (x1 : Int32)  (n : Nat) : Int32 → Option (Int32) :=
  Nat.rec (motive := fun _ => Int32 → Option (Int32)) (fun _ => none) (fun _ rec => K_X12_beginsWith_2 N rec k15 x1) n
set_option maxHeartbeats 4000000 in
set_option maxRecDepth 100000 in
theorem l_X12_beginsWith_2 {E : mE} {l : Launch} {p : Program} {e : Env} {s : State} {m : MethodId} {args : Array Value} {below : List Frame} {meth : Method} {c : Code} {A : Nat → Prop} {Q : State → Prop} {N : Nat}     {o : Int32} (B : mB E yX12_beginsWith cX12_beginsWith 3 (some .boolean) 0 0 (po_X12_beginsWith E o) p s m args below meth c A Q)   {x1 : Int32} (k15 : Int32 → Option (Int32))  (hk15 : ∀ (x2 : Int32)   (H : Heap) (locs : List Loc) (ls : Array Slot), k15 x2 = some o → mW E A s [] H locs → lv_has ls 3 [(1, .int x1), (2, .int x2)] → W p l e ({ frames := 0, cells := 0, slots := 0, locals := 0 } : Room) s m args below meth c H locs 0 0 Q (F0 m 15 ls [])) : ∀ n : Nat, ∀ (x2 : Int32)   (H : Heap) (locs : List Loc) (ls : Array Slot), L_X12_beginsWith_2 N k15 x1 n x2 = some o → mW E A s [] H locs → lv_has ls 3 [(1, .int x1), (2, .int x2)] → W p l e ({ frames := 0, cells := 0, slots := 0, locals := 0 } : Room) s m args below meth c H locs 0 0 Q (F0 m 2 ls []) := by
  obtain ⟨hx, hb, hml, hown, hts⟩ := id B.1
  intro n
  induction n with
  | zero =>
    intro x2 H locs ls hf w hl
    exact nomatch hf
  | succ n hrec =>
    intro x2 H locs ls hf w hl
    have hf : K_X12_beginsWith_2 N (L_X12_beginsWith_2 N k15 x1 n) k15 x1 x2 = some o := hf
    unfold K_X12_beginsWith_2 at hf
    refine lv_iload_n hx hb dX12_beginsWith_2 rfl (lv_at hl 1 rfl) ?_
    refine lv_iload_n hx hb dX12_beginsWith_3 rfl (lv_at hl 0 rfl) ?_
    refine lv_icmp_le (tgt := 15) hx hb dX12_beginsWith_4 (by decide) (fun hc => ?_) (fun hc => ?_)
    · have hf := it_t hc hf
      exact hk15 _ _ _ _ hf  w (lv_sub hl [0, 1] rfl)
    · have hf := it_f hc hf
      refine lv_iload_n hx hb dX12_beginsWith_7 rfl (lv_at hl 1 rfl) ?_
      refine lv_bipush (v := 27) hx hb dX12_beginsWith_8 (by decide) ?_
      refine lv_idiv hx hb dX12_beginsWith_10 (by decide) ?_
      refine lv_topi (fun x2_1 ev => ?_)
      have hf := lt_n ev hf; clear ev
      refine lv_istore_n (lv' := [(2, .int x2_1), (1, .int x1)]) hx hb dX12_beginsWith_11 rfl hl (by decide) rfl (fun ls hl => ?_)
      refine lv_goto (tgt := 2) hx hb dX12_beginsWith_12 (by decide) ?_
      exact hrec _ _ _ _ hf  w (lv_sub hl [1, 0] rfl)
noncomputable def F_X12_beginsWith (N : Nat)   (x0 : Int32) (x1 : Int32) : Option (Int32) :=
  L_X12_beginsWith_2 N (fun x2 => if (x2 = x1 : Prop) then
  some (1)
  else
  some (0)) x1 N x0
set_option maxHeartbeats 4000000 in
set_option maxRecDepth 100000 in
theorem d_X12_beginsWith (E : mE) (l : Launch) (N : Nat)     (x0 : Int32) (x1 : Int32)  (o : Int32) (hf : F_X12_beginsWith N x0 x1 = some o) : MX E l yX12_beginsWith cX12_beginsWith 3 (some .boolean) ({ frames := 0, cells := 0, slots := 0, locals := 0 } : Room) [.int x0, .int x1] [] (po_X12_beginsWith E o) := by
  refine mx_intro (by decide +kernel) (Nat.le_of_ble_eq_true rfl) ?_
  intro p e s m args below meth c A Q ls B w hl
  obtain ⟨hx, hb, hml, hown, hts⟩ := id B.1
  unfold F_X12_beginsWith at hf
  have hl : lv_has ls 3 [(0, .int x0), (1, .int x1)] := hl
  refine lv_iload_n hx hb dX12_beginsWith_0 rfl (lv_at hl 0 rfl) ?_
  refine lv_istore_n (lv' := [(2, .int x0), (0, .int x0), (1, .int x1)]) hx hb dX12_beginsWith_1 rfl hl (by decide) rfl (fun ls hl => ?_)
  refine l_X12_beginsWith_2 B _  ?_ N _ _ _ _ hf  w (lv_sub hl [2, 0] rfl)
  · intro x2 H locs ls hf w hl
    refine lv_iload_n hx hb dX12_beginsWith_15 rfl (lv_at hl 1 rfl) ?_
    refine lv_iload_n hx hb dX12_beginsWith_16 rfl (lv_at hl 0 rfl) ?_
    refine lv_icmp_ne (tgt := 24) hx hb dX12_beginsWith_17 (by decide) (fun hc => ?_) (fun hc => ?_)
    · have hf := it_f hc hf
      refine lv_iconst (v := 0) hx hb dX12_beginsWith_24 (by decide) ?_
      cases hf
      exact mx_zret B w rfl ⟨rfl, rfl⟩ dX12_beginsWith_25
    · have hf := it_t hc hf
      refine lv_iconst (v := 1) hx hb dX12_beginsWith_20 (by decide) ?_
      refine lv_goto (tgt := 25) hx hb dX12_beginsWith_21 (by decide) ?_
      cases hf
      exact mx_zret B w rfl ⟨rfl, rfl⟩ dX12_beginsWith_25
-- X12_isMeant
def po_X12_isMeant (E : mE) (h : Nat) (a_g : Nat) (a_kept : Nat) (a_tape : Nat) (a_written : Nat) (a_asked : Nat) (a_there : Nat) (a_counts : Nat) (a_lasts : Nat) (a_cames : Nat)  (g : Nat → Int32) (kept : Nat → Int32) (isKept : Int32) (tape : Nat → Int32) (taped : Int32) (spot : Int32) (written : Nat → Int32) (writtenMany : Int32) (asked : Nat → Int32) (askedMany : Int32) (there : Nat → Int32) (counts : Nat → Int32) (lasts : Nat → Int32) (cames : Nat → Int32)  (o : Int32) : Option Value → va_W → Prop := (fun (v : Option Value) (w' : va_W) => v = some (.int o) ∧ w' = [(h, .inr (11, [.ref a_g, .ref a_kept, .int isKept, .ref a_tape, .int taped, .int spot, .ref a_written, .int writtenMany, .ref a_asked, .int askedMany, .ref a_there, .ref a_counts, .ref a_lasts, .ref a_cames])), (a_g, .inl (E.2.1, 8787, .inl g)), (a_kept, .inl (E.2.1, 8787, .inl kept)), (a_tape, .inl (E.2.2.1, 60, .inl tape)), (a_written, .inl (E.2.1, 40, .inl written)), (a_asked, .inl (E.2.1, 60, .inl asked)), (a_there, .inl (E.2.1, 12, .inl there)), (a_counts, .inl (E.2.1, 12, .inl counts)), (a_lasts, .inl (E.2.1, 12, .inl lasts)), (a_cames, .inl (E.2.1, 12, .inl cames))])
noncomputable def F_X12_isMeant (N : Nat)  (g : Nat → Int32) (x1 : Int32) (x2 : Int32) (x3 : Int32) : Option (Int32) :=
  if (x1 = 0 : Prop) then
  ld g 8787 (x3 + 0) (fun v_1 =>
  if (v_1 = x2 : Prop) then
  some (1)
  else
  some (0))
  else
  if (x1 = 1 : Prop) then
  ld g 8787 (x3 + 3) (fun v_2 =>
  if (((v_2 >>> (x2 &&& 31)) &&& 1) = 1 : Prop) then
  some (1)
  else
  some (0))
  else
  if (x1 = 2 : Prop) then
  ld g 8787 (x3 + 0) (fun v_3 =>
  bd (F_X12_beginsWith N v_3 x2) (fun o_4 =>
  ck (o_4 = 0 ∨ o_4 = 1) (some (o_4))))
  else
  ld g 8787 (x3 + 4) (fun v_5 =>
  bd (F_X12_isOver g v_5) (fun o_6 =>
  ck (o_6 = 0 ∨ o_6 = 1) (some (o_6))))
set_option maxHeartbeats 4000000 in
set_option maxRecDepth 100000 in
theorem d_X12_isMeant (E : mE) (l : Launch) (N : Nat) (h : Nat) (a_g : Nat) (a_kept : Nat) (a_tape : Nat) (a_written : Nat) (a_asked : Nat) (a_there : Nat) (a_counts : Nat) (a_lasts : Nat) (a_cames : Nat)  (g : Nat → Int32) (kept : Nat → Int32) (isKept : Int32) (tape : Nat → Int32) (taped : Int32) (spot : Int32) (written : Nat → Int32) (writtenMany : Int32) (asked : Nat → Int32) (askedMany : Int32) (there : Nat → Int32) (counts : Nat → Int32) (lasts : Nat → Int32) (cames : Nat → Int32)  (x1 : Int32) (x2 : Int32) (x3 : Int32)  (o : Int32) (hf : F_X12_isMeant N g x1 x2 x3 = some o) : MX E l yX12_isMeant cX12_isMeant 4 (some .boolean) ({ frames := 1, cells := 0, slots := 0, locals := 22 } : Room) [.ref h, .int x1, .int x2, .int x3] [(h, .inr (11, [.ref a_g, .ref a_kept, .int isKept, .ref a_tape, .int taped, .int spot, .ref a_written, .int writtenMany, .ref a_asked, .int askedMany, .ref a_there, .ref a_counts, .ref a_lasts, .ref a_cames])), (a_g, .inl (E.2.1, 8787, .inl g)), (a_kept, .inl (E.2.1, 8787, .inl kept)), (a_tape, .inl (E.2.2.1, 60, .inl tape)), (a_written, .inl (E.2.1, 40, .inl written)), (a_asked, .inl (E.2.1, 60, .inl asked)), (a_there, .inl (E.2.1, 12, .inl there)), (a_counts, .inl (E.2.1, 12, .inl counts)), (a_lasts, .inl (E.2.1, 12, .inl lasts)), (a_cames, .inl (E.2.1, 12, .inl cames))] (po_X12_isMeant E h a_g a_kept a_tape a_written a_asked a_there a_counts a_lasts a_cames g kept isKept tape taped spot written writtenMany asked askedMany there counts lasts cames o) := by
  refine mx_intro (by decide +kernel) (Nat.le_of_ble_eq_true rfl) ?_
  intro p e s m args below meth c A Q ls B w hl
  obtain ⟨hx, hb, hml, hown, hts⟩ := id B.1
  unfold F_X12_isMeant at hf
  have hl : lv_has ls 4 [(0, .ref h), (1, .int x1), (2, .int x2), (3, .int x3)] := hl
  refine lv_iload_n hx hb dX12_isMeant_0 rfl (lv_at hl 1 rfl) ?_
  by_cases hs0 : x1 = 0
  · have hf := it_t hs0 hf
    refine lv_tableIn (off := 27) (tgt := 28) hx hb dX12_isMeant_1 (by rw [hs0]; decide) (by rw [hs0]; decide) (by rw [hs0]; decide) (by decide) ?_
    refine lv_aload_n hx hb dX12_isMeant_28 rfl (lv_at hl 0 rfl) ?_
    refine mx_get B w 0 fl_X12_9 rfl rfl dX12_isMeant_29 ?_
    refine lv_iload_n hx hb dX12_isMeant_32 rfl (lv_at hl 3 rfl) ?_
    refine lv_iconst (v := 0) hx hb dX12_isMeant_33 (by decide) ?_
    refine lv_iadd hx hb dX12_isMeant_34 ?_
    obtain ⟨hin, hf⟩ := ld_e hf
    refine mx_iald B w 1 rfl hin dX12_isMeant_35 (fun v_1 ev => ?_)
    have hf := hf _ ev; clear ev
    refine lv_iload_n hx hb dX12_isMeant_36 rfl (lv_at hl 2 rfl) ?_
    refine lv_icmp_ne (tgt := 44) hx hb dX12_isMeant_37 (by decide) (fun hc => ?_) (fun hc => ?_)
    · have hf := it_f hc hf
      refine lv_iconst (v := 0) hx hb dX12_isMeant_44 (by decide) ?_
      cases hf
      exact mx_zret B w rfl ⟨rfl, rfl⟩ dX12_isMeant_45
    · have hf := it_t hc hf
      refine lv_iconst (v := 1) hx hb dX12_isMeant_40 (by decide) ?_
      refine lv_goto (tgt := 45) hx hb dX12_isMeant_41 (by decide) ?_
      cases hf
      exact mx_zret B w rfl ⟨rfl, rfl⟩ dX12_isMeant_45
  · have hf := it_f hs0 hf
    by_cases hs1 : x1 = 1
    · have hf := it_t hs1 hf
      refine lv_tableIn (off := 45) (tgt := 46) hx hb dX12_isMeant_1 (by rw [hs1]; decide) (by rw [hs1]; decide) (by rw [hs1]; decide) (by decide) ?_
      refine lv_aload_n hx hb dX12_isMeant_46 rfl (lv_at hl 0 rfl) ?_
      refine mx_get B w 0 fl_X12_9 rfl rfl dX12_isMeant_47 ?_
      refine lv_iload_n hx hb dX12_isMeant_50 rfl (lv_at hl 3 rfl) ?_
      refine lv_iconst (v := 3) hx hb dX12_isMeant_51 (by decide) ?_
      refine lv_iadd hx hb dX12_isMeant_52 ?_
      obtain ⟨hin, hf⟩ := ld_e hf
      refine mx_iald B w 1 rfl hin dX12_isMeant_53 (fun v_2 ev => ?_)
      have hf := hf _ ev; clear ev
      refine lv_iload_n hx hb dX12_isMeant_54 rfl (lv_at hl 2 rfl) ?_
      refine lv_ishr hx hb dX12_isMeant_55 ?_
      refine lv_iconst (v := 1) hx hb dX12_isMeant_56 (by decide) ?_
      refine lv_iand hx hb dX12_isMeant_57 ?_
      refine lv_iconst (v := 1) hx hb dX12_isMeant_58 (by decide) ?_
      refine lv_icmp_ne (tgt := 66) hx hb dX12_isMeant_59 (by decide) (fun hc => ?_) (fun hc => ?_)
      · have hf := it_f hc hf
        refine lv_iconst (v := 0) hx hb dX12_isMeant_66 (by decide) ?_
        cases hf
        exact mx_zret B w rfl ⟨rfl, rfl⟩ dX12_isMeant_67
      · have hf := it_t hc hf
        refine lv_iconst (v := 1) hx hb dX12_isMeant_62 (by decide) ?_
        refine lv_goto (tgt := 67) hx hb dX12_isMeant_63 (by decide) ?_
        cases hf
        exact mx_zret B w rfl ⟨rfl, rfl⟩ dX12_isMeant_67
    · have hf := it_f hs1 hf
      by_cases hs2 : x1 = 2
      · have hf := it_t hs2 hf
        refine lv_tableIn (off := 67) (tgt := 68) hx hb dX12_isMeant_1 (by rw [hs2]; decide) (by rw [hs2]; decide) (by rw [hs2]; decide) (by decide) ?_
        refine lv_aload_n hx hb dX12_isMeant_68 rfl (lv_at hl 0 rfl) ?_
        refine mx_get B w 0 fl_X12_9 rfl rfl dX12_isMeant_69 ?_
        refine lv_iload_n hx hb dX12_isMeant_72 rfl (lv_at hl 3 rfl) ?_
        refine lv_iconst (v := 0) hx hb dX12_isMeant_73 (by decide) ?_
        refine lv_iadd hx hb dX12_isMeant_74 ?_
        obtain ⟨hin, hf⟩ := ld_e hf
        refine mx_iald B w 1 rfl hin dX12_isMeant_75 (fun v_3 ev => ?_)
        have hf := hf _ ev; clear ev
        refine lv_iload_n hx hb dX12_isMeant_76 rfl (lv_at hl 2 rfl) ?_
        obtain ⟨o_4, hq, hf⟩ := bd_e hf
        refine mx_callS (As := [.int v_3, .int x2]) (rest := []) (wr := [(h, .inr (11, [.ref a_g, .ref a_kept, .int isKept, .ref a_tape, .int taped, .int spot, .ref a_written, .int writtenMany, .ref a_asked, .int askedMany, .ref a_there, .ref a_counts, .ref a_lasts, .ref a_cames])), (a_g, .inl (E.2.1, 8787, .inl g)), (a_kept, .inl (E.2.1, 8787, .inl kept)), (a_tape, .inl (E.2.2.1, 60, .inl tape)), (a_written, .inl (E.2.1, 40, .inl written)), (a_asked, .inl (E.2.1, 60, .inl asked)), (a_there, .inl (E.2.1, 12, .inl there)), (a_counts, .inl (E.2.1, 12, .inl counts)), (a_lasts, .inl (E.2.1, 12, .inl lasts)), (a_cames, .inl (E.2.1, 12, .inl cames))]) (d_X12_beginsWith E l N  v_3 x2  o_4 hq) B w [] [0, 1, 2, 3, 4, 5, 6, 7, 8, 9] rfl rfl (by decide) (by decide) (by decide) cs_X12_beginsWith kw_1552 2 (by decide +kernel) ⟨Nat.le_of_ble_eq_true rfl, Nat.le_of_ble_eq_true rfl⟩ rfl hl.1 rfl (Nat.le_of_ble_eq_true rfl) dX12_isMeant_77 rfl rfl ⟨Nat.zero_le _, Nat.zero_le _⟩ (fun v w' H locs hpo w => ?_)
        clear hq
        obtain ⟨rfl, rfl⟩ := hpo
        have w : mW E A s [(h, .inr (11, [.ref a_g, .ref a_kept, .int isKept, .ref a_tape, .int taped, .int spot, .ref a_written, .int writtenMany, .ref a_asked, .int askedMany, .ref a_there, .ref a_counts, .ref a_lasts, .ref a_cames])), (a_g, .inl (E.2.1, 8787, .inl g)), (a_kept, .inl (E.2.1, 8787, .inl kept)), (a_tape, .inl (E.2.2.1, 60, .inl tape)), (a_written, .inl (E.2.1, 40, .inl written)), (a_asked, .inl (E.2.1, 60, .inl asked)), (a_there, .inl (E.2.1, 12, .inl there)), (a_counts, .inl (E.2.1, 12, .inl counts)), (a_lasts, .inl (E.2.1, 12, .inl lasts)), (a_cames, .inl (E.2.1, 12, .inl cames))] H locs := w
        obtain ⟨hz, hf⟩ := ck_e hf
        cases hf
        exact mx_zret B w (nar_z hz) ⟨rfl, rfl⟩ dX12_isMeant_80
      · have hf := it_f hs2 hf
        have hz0 := lv_neT (a := 0) hs0 (by decide)
        have hz1 := lv_neT (a := 1) hs1 (by decide)
        have hz2 := lv_neT (a := 2) hs2 (by decide)
        refine lv_tableOut (tgt := 81) hx hb dX12_isMeant_1 (by omega) (by decide) ?_
        refine lv_aload_n hx hb dX12_isMeant_81 rfl (lv_at hl 0 rfl) ?_
        refine lv_aload_n hx hb dX12_isMeant_82 rfl (lv_at hl 0 rfl) ?_
        refine mx_get B w 0 fl_X12_9 rfl rfl dX12_isMeant_83 ?_
        refine lv_iload_n hx hb dX12_isMeant_86 rfl (lv_at hl 3 rfl) ?_
        refine lv_iconst (v := 4) hx hb dX12_isMeant_87 (by decide) ?_
        refine lv_iadd hx hb dX12_isMeant_88 ?_
        obtain ⟨hin, hf⟩ := ld_e hf
        refine mx_iald B w 1 rfl hin dX12_isMeant_89 (fun v_5 ev => ?_)
        have hf := hf _ ev; clear ev
        obtain ⟨o_6, hq, hf⟩ := bd_e hf
        refine mx_callV (As := [.int v_5]) (rest := []) (wr := []) (d_X12_isOver E l  h a_g a_kept a_tape a_written a_asked a_there a_counts a_lasts a_cames g kept isKept tape taped spot written writtenMany asked askedMany there counts lasts cames v_5  o_6 hq) B w [0, 1, 2, 3, 4, 5, 6, 7, 8, 9] [] rfl rfl (by decide) (by decide) (by decide) 0 rfl rfl cv_X12_isOver kw_1341 1 (by decide +kernel) ⟨Nat.le_of_ble_eq_true rfl, Nat.le_of_ble_eq_true rfl⟩ rfl hl.1 rfl (Nat.le_of_ble_eq_true rfl) dX12_isMeant_90 rfl rfl ⟨Nat.zero_le _, Nat.zero_le _⟩ (fun v w' H locs hpo w => ?_)
        clear hq
        obtain ⟨rfl, rfl⟩ := hpo
        have w : mW E A s [(h, .inr (11, [.ref a_g, .ref a_kept, .int isKept, .ref a_tape, .int taped, .int spot, .ref a_written, .int writtenMany, .ref a_asked, .int askedMany, .ref a_there, .ref a_counts, .ref a_lasts, .ref a_cames])), (a_g, .inl (E.2.1, 8787, .inl g)), (a_kept, .inl (E.2.1, 8787, .inl kept)), (a_tape, .inl (E.2.2.1, 60, .inl tape)), (a_written, .inl (E.2.1, 40, .inl written)), (a_asked, .inl (E.2.1, 60, .inl asked)), (a_there, .inl (E.2.1, 12, .inl there)), (a_counts, .inl (E.2.1, 12, .inl counts)), (a_lasts, .inl (E.2.1, 12, .inl lasts)), (a_cames, .inl (E.2.1, 12, .inl cames))] H locs := w
        obtain ⟨hz, hf⟩ := ck_e hf
        cases hf
        exact mx_zret B w (nar_z hz) ⟨rfl, rfl⟩ dX12_isMeant_93
-- X12_drops
def po_X12_drops (E : mE) (h : Nat) (a_g : Nat) (a_kept : Nat) (a_tape : Nat) (a_written : Nat) (a_asked : Nat) (a_there : Nat) (a_counts : Nat) (a_lasts : Nat) (a_cames : Nat)  (g : Nat → Int32) (kept : Nat → Int32) (isKept : Int32) (tape : Nat → Int32) (taped : Int32) (spot : Int32) (written : Nat → Int32) (writtenMany : Int32) (asked : Nat → Int32) (askedMany : Int32) (there : Nat → Int32) (counts : Nat → Int32) (lasts : Nat → Int32) (cames : Nat → Int32)  (o : Int32 × (Nat → Int32)) : Option Value → va_W → Prop := (fun (v : Option Value) (w' : va_W) => v = some (.int o.1) ∧ w' = [(h, .inr (11, [.ref a_g, .ref a_kept, .int isKept, .ref a_tape, .int taped, .int spot, .ref a_written, .int writtenMany, .ref a_asked, .int askedMany, .ref a_there, .ref a_counts, .ref a_lasts, .ref a_cames])), (a_g, .inl (E.2.1, 8787, .inl o.2)), (a_kept, .inl (E.2.1, 8787, .inl kept)), (a_tape, .inl (E.2.2.1, 60, .inl tape)), (a_written, .inl (E.2.1, 40, .inl written)), (a_asked, .inl (E.2.1, 60, .inl asked)), (a_there, .inl (E.2.1, 12, .inl there)), (a_counts, .inl (E.2.1, 12, .inl counts)), (a_lasts, .inl (E.2.1, 12, .inl lasts)), (a_cames, .inl (E.2.1, 12, .inl cames))])
noncomputable def K_X12_drops_6 (N : Nat)  (rec : Int32 → Int32 → (Nat → Int32) → (Option (Int32 × (Nat → Int32)))) (k54 : Int32 → (Nat → Int32) → (Option (Int32 × (Nat → Int32)))) (x1 : Int32) (x2 : Int32) (x3 : Int32)  (x4 : Int32) (x5 : Int32) (g : Nat → Int32) : Option (Int32 × (Nat → Int32)) :=
  ld g 8787 13 (fun v_1 =>
  if (v_1 ≤ x5 : Prop) then
  k54 x4 g
  else
  bd (F_X12_isMeant N g x1 x2 (98 + (x5 * 9))) (fun o_2 =>
  if (o_2 = 0 : Prop) then
  lt (x5 + 1) (fun x5_3 =>
  rec x4 x5_3 g)
  else
  bd (F_X12_leaves N g x5 x3) (fun o_4 =>
  lt (x4 + 1) (fun x4_5 =>
  rec x4_5 x5 o_4))))
noncomputable def L_X12_drops_6 (N : Nat)  (k54 : Int32 → (Nat → Int32) → (Option (Int32 × (Nat → Int32)))) (x1 : Int32) (x2 : Int32) (x3 : Int32)  (n : Nat) : Int32 → Int32 → (Nat → Int32) → (Option (Int32 × (Nat → Int32))) :=
  Nat.rec (motive := fun _ => Int32 → Int32 → (Nat → Int32) → (Option (Int32 × (Nat → Int32)))) (fun _ _ _ => none) (fun _ rec => K_X12_drops_6 N rec k54 x1 x2 x3) n
set_option maxHeartbeats 4000000 in
set_option maxRecDepth 100000 in
theorem l_X12_drops_6 {E : mE} {l : Launch} {p : Program} {e : Env} {s : State} {m : MethodId} {args : Array Value} {below : List Frame} {meth : Method} {c : Code} {A : Nat → Prop} {Q : State → Prop} {N : Nat} {h : Nat} {a_g : Nat} {a_kept : Nat} {a_tape : Nat} {a_written : Nat} {a_asked : Nat} {a_there : Nat} {a_counts : Nat} {a_lasts : Nat} {a_cames : Nat}  {g0 : Nat → Int32} {kept : Nat → Int32} {isKept : Int32} {tape : Nat → Int32} {taped : Int32} {spot : Int32} {written : Nat → Int32} {writtenMany : Int32} {asked : Nat → Int32} {askedMany : Int32} {there : Nat → Int32} {counts : Nat → Int32} {lasts : Nat → Int32} {cames : Nat → Int32}  {o : Int32 × (Nat → Int32)} (B : mB E yX12_drops cX12_drops 7 (some .int) 0 0 (po_X12_drops E h a_g a_kept a_tape a_written a_asked a_there a_counts a_lasts a_cames g0 kept isKept tape taped spot written writtenMany asked askedMany there counts lasts cames o) p s m args below meth c A Q)   {x1 : Int32} {x2 : Int32} {x3 : Int32} (k54 : Int32 → (Nat → Int32) → (Option (Int32 × (Nat → Int32))))  (hk54 : ∀ (x4 : Int32) (g : Nat → Int32)  (H : Heap) (locs : List Loc) (ls : Array Slot), k54 x4 g = some o → mW E A s [(h, .inr (11, [.ref a_g, .ref a_kept, .int isKept, .ref a_tape, .int taped, .int spot, .ref a_written, .int writtenMany, .ref a_asked, .int askedMany, .ref a_there, .ref a_counts, .ref a_lasts, .ref a_cames])), (a_g, .inl (E.2.1, 8787, .inl g)), (a_kept, .inl (E.2.1, 8787, .inl kept)), (a_tape, .inl (E.2.2.1, 60, .inl tape)), (a_written, .inl (E.2.1, 40, .inl written)), (a_asked, .inl (E.2.1, 60, .inl asked)), (a_there, .inl (E.2.1, 12, .inl there)), (a_counts, .inl (E.2.1, 12, .inl counts)), (a_lasts, .inl (E.2.1, 12, .inl lasts)), (a_cames, .inl (E.2.1, 12, .inl cames))] H locs → lv_has ls 7 [(0, .ref h), (1, .int x1), (2, .int x2), (4, .int x4)] → W p l e ({ frames := 6, cells := 0, slots := 0, locals := 136 } : Room) s m args below meth c H locs 0 0 Q (F0 m 54 ls [])) : ∀ n : Nat, ∀ (x4 : Int32) (x5 : Int32) (g : Nat → Int32)  (H : Heap) (locs : List Loc) (ls : Array Slot), L_X12_drops_6 N k54 x1 x2 x3 n x4 x5 g = some o → mW E A s [(h, .inr (11, [.ref a_g, .ref a_kept, .int isKept, .ref a_tape, .int taped, .int spot, .ref a_written, .int writtenMany, .ref a_asked, .int askedMany, .ref a_there, .ref a_counts, .ref a_lasts, .ref a_cames])), (a_g, .inl (E.2.1, 8787, .inl g)), (a_kept, .inl (E.2.1, 8787, .inl kept)), (a_tape, .inl (E.2.2.1, 60, .inl tape)), (a_written, .inl (E.2.1, 40, .inl written)), (a_asked, .inl (E.2.1, 60, .inl asked)), (a_there, .inl (E.2.1, 12, .inl there)), (a_counts, .inl (E.2.1, 12, .inl counts)), (a_lasts, .inl (E.2.1, 12, .inl lasts)), (a_cames, .inl (E.2.1, 12, .inl cames))] H locs → lv_has ls 7 [(0, .ref h), (1, .int x1), (2, .int x2), (3, .int x3), (4, .int x4), (5, .int x5)] → W p l e ({ frames := 6, cells := 0, slots := 0, locals := 136 } : Room) s m args below meth c H locs 0 0 Q (F0 m 6 ls []) := by
  obtain ⟨hx, hb, hml, hown, hts⟩ := id B.1
  intro n
  induction n with
  | zero =>
    intro x4 x5 g H locs ls hf w hl
    exact nomatch hf
  | succ n hrec =>
    intro x4 x5 g H locs ls hf w hl
    have hf : K_X12_drops_6 N (L_X12_drops_6 N k54 x1 x2 x3 n) k54 x1 x2 x3 x4 x5 g = some o := hf
    unfold K_X12_drops_6 at hf
    refine lv_iload hx hb dX12_drops_6 (lv_at hl 5 rfl) ?_
    refine lv_aload_n hx hb dX12_drops_8 rfl (lv_at hl 0 rfl) ?_
    refine mx_get B w 0 fl_X12_9 rfl rfl dX12_drops_9 ?_
    refine lv_bipush (v := 13) hx hb dX12_drops_12 (by decide) ?_
    obtain ⟨hin, hf⟩ := ld_e hf
    refine mx_iald B w 1 rfl hin dX12_drops_14 (fun v_1 ev => ?_)
    have hf := hf _ ev; clear ev
    refine lv_icmp_ge (tgt := 54) hx hb dX12_drops_15 (by decide) (fun hc => ?_) (fun hc => ?_)
    · have hf := it_t hc hf
      exact hk54 _ _ _ _ _ hf  w (lv_sub hl [0, 1, 2, 4] rfl)
    · have hf := it_f hc hf
      refine lv_aload_n hx hb dX12_drops_18 rfl (lv_at hl 0 rfl) ?_
      refine lv_iload_n hx hb dX12_drops_19 rfl (lv_at hl 1 rfl) ?_
      refine lv_iload_n hx hb dX12_drops_20 rfl (lv_at hl 2 rfl) ?_
      refine lv_bipush (v := 98) hx hb dX12_drops_21 (by decide) ?_
      refine lv_iload hx hb dX12_drops_23 (lv_at hl 5 rfl) ?_
      refine lv_bipush (v := 9) hx hb dX12_drops_25 (by decide) ?_
      refine lv_imul hx hb dX12_drops_27 ?_
      refine lv_iadd hx hb dX12_drops_28 ?_
      obtain ⟨o_2, hq, hf⟩ := bd_e hf
      refine mx_callV (As := [.int x1, .int x2, .int (98 + (x5 * 9))]) (rest := []) (wr := []) (d_X12_isMeant E l N h a_g a_kept a_tape a_written a_asked a_there a_counts a_lasts a_cames g kept isKept tape taped spot written writtenMany asked askedMany there counts lasts cames x1 x2 (98 + (x5 * 9))  o_2 hq) B w [0, 1, 2, 3, 4, 5, 6, 7, 8, 9] [] rfl rfl (by decide) (by decide) (by decide) 0 rfl rfl cv_X12_isMeant kw_1548 3 (by decide +kernel) ⟨Nat.le_of_ble_eq_true rfl, Nat.le_of_ble_eq_true rfl⟩ rfl hl.1 rfl (Nat.le_of_ble_eq_true rfl) dX12_drops_29 rfl rfl ⟨Nat.zero_le _, Nat.zero_le _⟩ (fun v w' H locs hpo w => ?_)
      clear hq
      obtain ⟨rfl, rfl⟩ := hpo
      have w : mW E A s [(h, .inr (11, [.ref a_g, .ref a_kept, .int isKept, .ref a_tape, .int taped, .int spot, .ref a_written, .int writtenMany, .ref a_asked, .int askedMany, .ref a_there, .ref a_counts, .ref a_lasts, .ref a_cames])), (a_g, .inl (E.2.1, 8787, .inl g)), (a_kept, .inl (E.2.1, 8787, .inl kept)), (a_tape, .inl (E.2.2.1, 60, .inl tape)), (a_written, .inl (E.2.1, 40, .inl written)), (a_asked, .inl (E.2.1, 60, .inl asked)), (a_there, .inl (E.2.1, 12, .inl there)), (a_counts, .inl (E.2.1, 12, .inl counts)), (a_lasts, .inl (E.2.1, 12, .inl lasts)), (a_cames, .inl (E.2.1, 12, .inl cames))] H locs := w
      refine lv_if_eq (tgt := 48) hx hb dX12_drops_32 (by decide) (fun hc => ?_) (fun hc => ?_)
      · have hf := it_t hc hf
        obtain ⟨x5_3, ev⟩ : ∃ y : Int32, y = x5 + 1 := ⟨_, rfl⟩
        refine lv_iinc (v := x5_3) (lv' := [(5, .int x5_3), (0, .ref h), (1, .int x1), (2, .int x2), (3, .int x3), (4, .int x4)]) hx hb dX12_drops_48 hl (k := 5) rfl (by rw [ev]; rfl) (by decide) rfl (fun ls hl => ?_)
        have hf := lt_n ev hf; clear ev
        refine lv_goto (tgt := 6) hx hb dX12_drops_51 (by decide) ?_
        exact hrec _ _ _ _ _ _ hf  w (lv_sub hl [1, 2, 3, 4, 5, 0] rfl)
      · have hf := it_f hc hf
        refine lv_aload_n hx hb dX12_drops_35 rfl (lv_at hl 0 rfl) ?_
        refine lv_iload hx hb dX12_drops_36 (lv_at hl 5 rfl) ?_
        refine lv_iload_n hx hb dX12_drops_38 rfl (lv_at hl 3 rfl) ?_
        obtain ⟨o_4, hq, hf⟩ := bd_e hf
        refine mx_callV (As := [.int x5, .int x3]) (rest := []) (wr := []) (d_X12_leaves E l N h a_g a_kept a_tape a_written a_asked a_there a_counts a_lasts a_cames g kept isKept tape taped spot written writtenMany asked askedMany there counts lasts cames x5 x3  o_4 hq) B w [0, 1, 2, 3, 4, 5, 6, 7, 8, 9] [] rfl rfl (by decide) (by decide) (by decide) 0 rfl rfl cv_X12_leaves kw_1361 2 (by decide +kernel) ⟨Nat.le_of_ble_eq_true rfl, Nat.le_of_ble_eq_true rfl⟩ rfl hl.1 rfl (Nat.le_of_ble_eq_true rfl) dX12_drops_39 rfl rfl ⟨Nat.zero_le _, Nat.zero_le _⟩ (fun v w' H locs hpo w => ?_)
        clear hq
        obtain ⟨rfl, rfl⟩ := hpo
        have w : mW E A s [(h, .inr (11, [.ref a_g, .ref a_kept, .int isKept, .ref a_tape, .int taped, .int spot, .ref a_written, .int writtenMany, .ref a_asked, .int askedMany, .ref a_there, .ref a_counts, .ref a_lasts, .ref a_cames])), (a_g, .inl (E.2.1, 8787, .inl o_4)), (a_kept, .inl (E.2.1, 8787, .inl kept)), (a_tape, .inl (E.2.2.1, 60, .inl tape)), (a_written, .inl (E.2.1, 40, .inl written)), (a_asked, .inl (E.2.1, 60, .inl asked)), (a_there, .inl (E.2.1, 12, .inl there)), (a_counts, .inl (E.2.1, 12, .inl counts)), (a_lasts, .inl (E.2.1, 12, .inl lasts)), (a_cames, .inl (E.2.1, 12, .inl cames))] H locs := w
        obtain ⟨x4_5, ev⟩ : ∃ y : Int32, y = x4 + 1 := ⟨_, rfl⟩
        refine lv_iinc (v := x4_5) (lv' := [(4, .int x4_5), (0, .ref h), (1, .int x1), (2, .int x2), (3, .int x3), (5, .int x5)]) hx hb dX12_drops_42 hl (k := 4) rfl (by rw [ev]; rfl) (by decide) rfl (fun ls hl => ?_)
        have hf := lt_n ev hf; clear ev
        refine lv_goto (tgt := 6) hx hb dX12_drops_45 (by decide) ?_
        exact hrec _ _ _ _ _ _ hf  w (lv_sub hl [1, 2, 3, 4, 0, 5] rfl)
noncomputable def K_X12_drops_57 (N : Nat)  (rec : Int32 → Int32 → (Nat → Int32) → (Option (Int32 × (Nat → Int32)))) (k110 : Int32 → (Nat → Int32) → (Option (Int32 × (Nat → Int32)))) (x1 : Int32) (x2 : Int32)  (x4 : Int32) (x6 : Int32) (g : Nat → Int32) : Option (Int32 × (Nat → Int32)) :=
  ld g 8787 14 (fun v_6 =>
  if (v_6 ≤ x6 : Prop) then
  k110 x4 g
  else
  bd (F_X12_isMeant N g x1 x2 (1898 + (x6 * 5))) (fun o_7 =>
  if (o_7 = 0 : Prop) then
  lt (x6 + 1) (fun x6_8 =>
  rec x4 x6_8 g)
  else
  bd (F_X12_takesOut N g 14 1898 5 x6) (fun o_9 =>
  lt (x4 + 1) (fun x4_10 =>
  rec x4_10 x6 o_9))))
noncomputable def L_X12_drops_57 (N : Nat)  (k110 : Int32 → (Nat → Int32) → (Option (Int32 × (Nat → Int32)))) (x1 : Int32) (x2 : Int32)  (n : Nat) : Int32 → Int32 → (Nat → Int32) → (Option (Int32 × (Nat → Int32))) :=
  Nat.rec (motive := fun _ => Int32 → Int32 → (Nat → Int32) → (Option (Int32 × (Nat → Int32)))) (fun _ _ _ => none) (fun _ rec => K_X12_drops_57 N rec k110 x1 x2) n
set_option maxHeartbeats 4000000 in
set_option maxRecDepth 100000 in
theorem l_X12_drops_57 {E : mE} {l : Launch} {p : Program} {e : Env} {s : State} {m : MethodId} {args : Array Value} {below : List Frame} {meth : Method} {c : Code} {A : Nat → Prop} {Q : State → Prop} {N : Nat} {h : Nat} {a_g : Nat} {a_kept : Nat} {a_tape : Nat} {a_written : Nat} {a_asked : Nat} {a_there : Nat} {a_counts : Nat} {a_lasts : Nat} {a_cames : Nat}  {g0 : Nat → Int32} {kept : Nat → Int32} {isKept : Int32} {tape : Nat → Int32} {taped : Int32} {spot : Int32} {written : Nat → Int32} {writtenMany : Int32} {asked : Nat → Int32} {askedMany : Int32} {there : Nat → Int32} {counts : Nat → Int32} {lasts : Nat → Int32} {cames : Nat → Int32}  {o : Int32 × (Nat → Int32)} (B : mB E yX12_drops cX12_drops 7 (some .int) 0 0 (po_X12_drops E h a_g a_kept a_tape a_written a_asked a_there a_counts a_lasts a_cames g0 kept isKept tape taped spot written writtenMany asked askedMany there counts lasts cames o) p s m args below meth c A Q)   {x1 : Int32} {x2 : Int32} (k110 : Int32 → (Nat → Int32) → (Option (Int32 × (Nat → Int32))))  (hk110 : ∀ (x4 : Int32) (g : Nat → Int32)  (H : Heap) (locs : List Loc) (ls : Array Slot), k110 x4 g = some o → mW E A s [(h, .inr (11, [.ref a_g, .ref a_kept, .int isKept, .ref a_tape, .int taped, .int spot, .ref a_written, .int writtenMany, .ref a_asked, .int askedMany, .ref a_there, .ref a_counts, .ref a_lasts, .ref a_cames])), (a_g, .inl (E.2.1, 8787, .inl g)), (a_kept, .inl (E.2.1, 8787, .inl kept)), (a_tape, .inl (E.2.2.1, 60, .inl tape)), (a_written, .inl (E.2.1, 40, .inl written)), (a_asked, .inl (E.2.1, 60, .inl asked)), (a_there, .inl (E.2.1, 12, .inl there)), (a_counts, .inl (E.2.1, 12, .inl counts)), (a_lasts, .inl (E.2.1, 12, .inl lasts)), (a_cames, .inl (E.2.1, 12, .inl cames))] H locs → lv_has ls 7 [(4, .int x4)] → W p l e ({ frames := 6, cells := 0, slots := 0, locals := 136 } : Room) s m args below meth c H locs 0 0 Q (F0 m 110 ls [])) : ∀ n : Nat, ∀ (x4 : Int32) (x6 : Int32) (g : Nat → Int32)  (H : Heap) (locs : List Loc) (ls : Array Slot), L_X12_drops_57 N k110 x1 x2 n x4 x6 g = some o → mW E A s [(h, .inr (11, [.ref a_g, .ref a_kept, .int isKept, .ref a_tape, .int taped, .int spot, .ref a_written, .int writtenMany, .ref a_asked, .int askedMany, .ref a_there, .ref a_counts, .ref a_lasts, .ref a_cames])), (a_g, .inl (E.2.1, 8787, .inl g)), (a_kept, .inl (E.2.1, 8787, .inl kept)), (a_tape, .inl (E.2.2.1, 60, .inl tape)), (a_written, .inl (E.2.1, 40, .inl written)), (a_asked, .inl (E.2.1, 60, .inl asked)), (a_there, .inl (E.2.1, 12, .inl there)), (a_counts, .inl (E.2.1, 12, .inl counts)), (a_lasts, .inl (E.2.1, 12, .inl lasts)), (a_cames, .inl (E.2.1, 12, .inl cames))] H locs → lv_has ls 7 [(0, .ref h), (1, .int x1), (2, .int x2), (4, .int x4), (6, .int x6)] → W p l e ({ frames := 6, cells := 0, slots := 0, locals := 136 } : Room) s m args below meth c H locs 0 0 Q (F0 m 57 ls []) := by
  obtain ⟨hx, hb, hml, hown, hts⟩ := id B.1
  intro n
  induction n with
  | zero =>
    intro x4 x6 g H locs ls hf w hl
    exact nomatch hf
  | succ n hrec =>
    intro x4 x6 g H locs ls hf w hl
    have hf : K_X12_drops_57 N (L_X12_drops_57 N k110 x1 x2 n) k110 x1 x2 x4 x6 g = some o := hf
    unfold K_X12_drops_57 at hf
    refine lv_iload hx hb dX12_drops_57 (lv_at hl 4 rfl) ?_
    refine lv_aload_n hx hb dX12_drops_59 rfl (lv_at hl 0 rfl) ?_
    refine mx_get B w 0 fl_X12_9 rfl rfl dX12_drops_60 ?_
    refine lv_bipush (v := 14) hx hb dX12_drops_63 (by decide) ?_
    obtain ⟨hin, hf⟩ := ld_e hf
    refine mx_iald B w 1 rfl hin dX12_drops_65 (fun v_6 ev => ?_)
    have hf := hf _ ev; clear ev
    refine lv_icmp_ge (tgt := 110) hx hb dX12_drops_66 (by decide) (fun hc => ?_) (fun hc => ?_)
    · have hf := it_t hc hf
      exact hk110 _ _ _ _ _ hf  w (lv_sub hl [3] rfl)
    · have hf := it_f hc hf
      refine lv_aload_n hx hb dX12_drops_69 rfl (lv_at hl 0 rfl) ?_
      refine lv_iload_n hx hb dX12_drops_70 rfl (lv_at hl 1 rfl) ?_
      refine lv_iload_n hx hb dX12_drops_71 rfl (lv_at hl 2 rfl) ?_
      refine lv_sipush (v := 1898) hx hb dX12_drops_72 (by decide) ?_
      refine lv_iload hx hb dX12_drops_75 (lv_at hl 4 rfl) ?_
      refine lv_iconst (v := 5) hx hb dX12_drops_77 (by decide) ?_
      refine lv_imul hx hb dX12_drops_78 ?_
      refine lv_iadd hx hb dX12_drops_79 ?_
      obtain ⟨o_7, hq, hf⟩ := bd_e hf
      refine mx_callV (As := [.int x1, .int x2, .int (1898 + (x6 * 5))]) (rest := []) (wr := []) (d_X12_isMeant E l N h a_g a_kept a_tape a_written a_asked a_there a_counts a_lasts a_cames g kept isKept tape taped spot written writtenMany asked askedMany there counts lasts cames x1 x2 (1898 + (x6 * 5))  o_7 hq) B w [0, 1, 2, 3, 4, 5, 6, 7, 8, 9] [] rfl rfl (by decide) (by decide) (by decide) 0 rfl rfl cv_X12_isMeant kw_1548 3 (by decide +kernel) ⟨Nat.le_of_ble_eq_true rfl, Nat.le_of_ble_eq_true rfl⟩ rfl hl.1 rfl (Nat.le_of_ble_eq_true rfl) dX12_drops_80 rfl rfl ⟨Nat.zero_le _, Nat.zero_le _⟩ (fun v w' H locs hpo w => ?_)
      clear hq
      obtain ⟨rfl, rfl⟩ := hpo
      have w : mW E A s [(h, .inr (11, [.ref a_g, .ref a_kept, .int isKept, .ref a_tape, .int taped, .int spot, .ref a_written, .int writtenMany, .ref a_asked, .int askedMany, .ref a_there, .ref a_counts, .ref a_lasts, .ref a_cames])), (a_g, .inl (E.2.1, 8787, .inl g)), (a_kept, .inl (E.2.1, 8787, .inl kept)), (a_tape, .inl (E.2.2.1, 60, .inl tape)), (a_written, .inl (E.2.1, 40, .inl written)), (a_asked, .inl (E.2.1, 60, .inl asked)), (a_there, .inl (E.2.1, 12, .inl there)), (a_counts, .inl (E.2.1, 12, .inl counts)), (a_lasts, .inl (E.2.1, 12, .inl lasts)), (a_cames, .inl (E.2.1, 12, .inl cames))] H locs := w
      refine lv_if_eq (tgt := 104) hx hb dX12_drops_83 (by decide) (fun hc => ?_) (fun hc => ?_)
      · have hf := it_t hc hf
        obtain ⟨x6_8, ev⟩ : ∃ y : Int32, y = x6 + 1 := ⟨_, rfl⟩
        refine lv_iinc (v := x6_8) (lv' := [(6, .int x6_8), (0, .ref h), (1, .int x1), (2, .int x2), (4, .int x4)]) hx hb dX12_drops_104 hl (k := 4) rfl (by rw [ev]; rfl) (by decide) rfl (fun ls hl => ?_)
        have hf := lt_n ev hf; clear ev
        refine lv_goto (tgt := 57) hx hb dX12_drops_107 (by decide) ?_
        exact hrec _ _ _ _ _ _ hf  w (lv_sub hl [1, 2, 3, 4, 0] rfl)
      · have hf := it_f hc hf
        refine lv_aload_n hx hb dX12_drops_86 rfl (lv_at hl 0 rfl) ?_
        refine lv_bipush (v := 14) hx hb dX12_drops_87 (by decide) ?_
        refine lv_sipush (v := 1898) hx hb dX12_drops_89 (by decide) ?_
        refine lv_iconst (v := 5) hx hb dX12_drops_92 (by decide) ?_
        refine lv_iload hx hb dX12_drops_93 (lv_at hl 4 rfl) ?_
        obtain ⟨o_9, hq, hf⟩ := bd_e hf
        refine mx_callV (As := [.int 14, .int 1898, .int 5, .int x6]) (rest := []) (wr := []) (d_X12_takesOut E l N h a_g a_kept a_tape a_written a_asked a_there a_counts a_lasts a_cames g kept isKept tape taped spot written writtenMany asked askedMany there counts lasts cames 14 1898 5 x6  o_9 hq) B w [0, 1, 2, 3, 4, 5, 6, 7, 8, 9] [] rfl rfl (by decide) (by decide) (by decide) 0 rfl rfl cv_X12_takesOut kw_1357 4 (by decide +kernel) ⟨Nat.le_of_ble_eq_true rfl, Nat.le_of_ble_eq_true rfl⟩ rfl hl.1 rfl (Nat.le_of_ble_eq_true rfl) dX12_drops_95 rfl rfl ⟨Nat.zero_le _, Nat.zero_le _⟩ (fun v w' H locs hpo w => ?_)
        clear hq
        obtain ⟨rfl, rfl⟩ := hpo
        have w : mW E A s [(h, .inr (11, [.ref a_g, .ref a_kept, .int isKept, .ref a_tape, .int taped, .int spot, .ref a_written, .int writtenMany, .ref a_asked, .int askedMany, .ref a_there, .ref a_counts, .ref a_lasts, .ref a_cames])), (a_g, .inl (E.2.1, 8787, .inl o_9)), (a_kept, .inl (E.2.1, 8787, .inl kept)), (a_tape, .inl (E.2.2.1, 60, .inl tape)), (a_written, .inl (E.2.1, 40, .inl written)), (a_asked, .inl (E.2.1, 60, .inl asked)), (a_there, .inl (E.2.1, 12, .inl there)), (a_counts, .inl (E.2.1, 12, .inl counts)), (a_lasts, .inl (E.2.1, 12, .inl lasts)), (a_cames, .inl (E.2.1, 12, .inl cames))] H locs := w
        obtain ⟨x4_10, ev⟩ : ∃ y : Int32, y = x4 + 1 := ⟨_, rfl⟩
        refine lv_iinc (v := x4_10) (lv' := [(4, .int x4_10), (0, .ref h), (1, .int x1), (2, .int x2), (6, .int x6)]) hx hb dX12_drops_98 hl (k := 3) rfl (by rw [ev]; rfl) (by decide) rfl (fun ls hl => ?_)
        have hf := lt_n ev hf; clear ev
        refine lv_goto (tgt := 57) hx hb dX12_drops_101 (by decide) ?_
        exact hrec _ _ _ _ _ _ hf  w (lv_sub hl [1, 2, 3, 0, 4] rfl)
noncomputable def F_X12_drops (N : Nat)  (g : Nat → Int32) (x1 : Int32) (x2 : Int32) (x3 : Int32) : Option (Int32 × (Nat → Int32)) :=
  L_X12_drops_6 N (fun x4 g => L_X12_drops_57 N (fun x4 g => some (x4, g)) x1 x2 N x4 0 g) x1 x2 x3 N 0 0 g
set_option maxHeartbeats 4000000 in
set_option maxRecDepth 100000 in
theorem d_X12_drops (E : mE) (l : Launch) (N : Nat) (h : Nat) (a_g : Nat) (a_kept : Nat) (a_tape : Nat) (a_written : Nat) (a_asked : Nat) (a_there : Nat) (a_counts : Nat) (a_lasts : Nat) (a_cames : Nat)  (g : Nat → Int32) (kept : Nat → Int32) (isKept : Int32) (tape : Nat → Int32) (taped : Int32) (spot : Int32) (written : Nat → Int32) (writtenMany : Int32) (asked : Nat → Int32) (askedMany : Int32) (there : Nat → Int32) (counts : Nat → Int32) (lasts : Nat → Int32) (cames : Nat → Int32)  (x1 : Int32) (x2 : Int32) (x3 : Int32)  (o : Int32 × (Nat → Int32)) (hf : F_X12_drops N g x1 x2 x3 = some o) : MX E l yX12_drops cX12_drops 7 (some .int) ({ frames := 6, cells := 0, slots := 0, locals := 136 } : Room) [.ref h, .int x1, .int x2, .int x3] [(h, .inr (11, [.ref a_g, .ref a_kept, .int isKept, .ref a_tape, .int taped, .int spot, .ref a_written, .int writtenMany, .ref a_asked, .int askedMany, .ref a_there, .ref a_counts, .ref a_lasts, .ref a_cames])), (a_g, .inl (E.2.1, 8787, .inl g)), (a_kept, .inl (E.2.1, 8787, .inl kept)), (a_tape, .inl (E.2.2.1, 60, .inl tape)), (a_written, .inl (E.2.1, 40, .inl written)), (a_asked, .inl (E.2.1, 60, .inl asked)), (a_there, .inl (E.2.1, 12, .inl there)), (a_counts, .inl (E.2.1, 12, .inl counts)), (a_lasts, .inl (E.2.1, 12, .inl lasts)), (a_cames, .inl (E.2.1, 12, .inl cames))] (po_X12_drops E h a_g a_kept a_tape a_written a_asked a_there a_counts a_lasts a_cames g kept isKept tape taped spot written writtenMany asked askedMany there counts lasts cames o) := by
  refine mx_intro (by decide +kernel) (Nat.le_of_ble_eq_true rfl) ?_
  intro p e s m args below meth c A Q ls B w hl
  obtain ⟨hx, hb, hml, hown, hts⟩ := id B.1
  unfold F_X12_drops at hf
  have hl : lv_has ls 7 [(0, .ref h), (1, .int x1), (2, .int x2), (3, .int x3)] := hl
  refine lv_iconst (v := 0) hx hb dX12_drops_0 (by decide) ?_
  refine lv_istore (lv' := [(4, .int 0), (0, .ref h), (1, .int x1), (2, .int x2), (3, .int x3)]) hx hb dX12_drops_1 hl (by decide) rfl (fun ls hl => ?_)
  refine lv_iconst (v := 0) hx hb dX12_drops_3 (by decide) ?_
  refine lv_istore (lv' := [(5, .int 0), (4, .int 0), (0, .ref h), (1, .int x1), (2, .int x2), (3, .int x3)]) hx hb dX12_drops_4 hl (by decide) rfl (fun ls hl => ?_)
  refine l_X12_drops_6 B _  ?_ N _ _ _ _ _ _ hf  w (lv_sub hl [2, 3, 4, 5, 1, 0] rfl)
  · intro x4 g H locs ls hf w hl
    refine lv_iconst (v := 0) hx hb dX12_drops_54 (by decide) ?_
    refine lv_istore (lv' := [(6, .int 0), (0, .ref h), (1, .int x1), (2, .int x2), (4, .int x4)]) hx hb dX12_drops_55 hl (by decide) rfl (fun ls hl => ?_)
    refine l_X12_drops_57 B _  ?_ N _ _ _ _ _ _ hf  w (lv_sub hl [1, 2, 3, 4, 0] rfl)
    · intro x4 g H locs ls hf w hl
      refine lv_iload hx hb dX12_drops_110 (lv_at hl 0 rfl) ?_
      cases hf
      exact mx_iret B w ⟨rfl, rfl⟩ dX12_drops_112
-- X12_drop
def po_X12_drop (E : mE) (h : Nat) (a_g : Nat) (a_kept : Nat) (a_tape : Nat) (a_written : Nat) (a_asked : Nat) (a_there : Nat) (a_counts : Nat) (a_lasts : Nat) (a_cames : Nat)  (g : Nat → Int32) (kept : Nat → Int32) (isKept : Int32) (tape : Nat → Int32) (taped : Int32) (spot : Int32) (written : Nat → Int32) (writtenMany : Int32) (asked : Nat → Int32) (askedMany : Int32) (there : Nat → Int32) (counts : Nat → Int32) (lasts : Nat → Int32) (cames : Nat → Int32)  (o : Int32 × (Nat → Int32) × Int32 × Int32) : Option Value → va_W → Prop := (fun (v : Option Value) (w' : va_W) => v = some (.int o.1) ∧ w' = [(h, .inr (11, [.ref a_g, .ref a_kept, .int isKept, .ref a_tape, .int o.2.2.1, .int o.2.2.2, .ref a_written, .int writtenMany, .ref a_asked, .int askedMany, .ref a_there, .ref a_counts, .ref a_lasts, .ref a_cames])), (a_g, .inl (E.2.1, 8787, .inl o.2.1)), (a_kept, .inl (E.2.1, 8787, .inl kept)), (a_tape, .inl (E.2.2.1, 60, .inl tape)), (a_written, .inl (E.2.1, 40, .inl written)), (a_asked, .inl (E.2.1, 60, .inl asked)), (a_there, .inl (E.2.1, 12, .inl there)), (a_counts, .inl (E.2.1, 12, .inl counts)), (a_lasts, .inl (E.2.1, 12, .inl lasts)), (a_cames, .inl (E.2.1, 12, .inl cames))])
noncomputable def F_X12_drop (N : Nat)  (g : Nat → Int32) (tape : Nat → Int32) (taped : Int32) (spot : Int32)  : Option (Int32 × (Nat → Int32) × Int32 × Int32) :=
  bd (F_X12_takesKey N tape taped spot) (fun o_1 =>
  if (o_1.1 = 0 : Prop) then
  some ((-1002), g, o_1.2.1, o_1.2.2)
  else
  bd (F_X12_drops N g 0 o_1.1 9) (fun o_2 =>
  some (o_2.1, o_2.2, o_1.2.1, o_1.2.2)))
set_option maxHeartbeats 4000000 in
set_option maxRecDepth 100000 in
theorem d_X12_drop (E : mE) (l : Launch) (N : Nat) (h : Nat) (a_g : Nat) (a_kept : Nat) (a_tape : Nat) (a_written : Nat) (a_asked : Nat) (a_there : Nat) (a_counts : Nat) (a_lasts : Nat) (a_cames : Nat)  (g : Nat → Int32) (kept : Nat → Int32) (isKept : Int32) (tape : Nat → Int32) (taped : Int32) (spot : Int32) (written : Nat → Int32) (writtenMany : Int32) (asked : Nat → Int32) (askedMany : Int32) (there : Nat → Int32) (counts : Nat → Int32) (lasts : Nat → Int32) (cames : Nat → Int32)    (o : Int32 × (Nat → Int32) × Int32 × Int32) (hf : F_X12_drop N g tape taped spot = some o) : MX E l yX12_drop cX12_drop 2 (some .int) ({ frames := 7, cells := 0, slots := 0, locals := 162 } : Room) [.ref h] [(h, .inr (11, [.ref a_g, .ref a_kept, .int isKept, .ref a_tape, .int taped, .int spot, .ref a_written, .int writtenMany, .ref a_asked, .int askedMany, .ref a_there, .ref a_counts, .ref a_lasts, .ref a_cames])), (a_g, .inl (E.2.1, 8787, .inl g)), (a_kept, .inl (E.2.1, 8787, .inl kept)), (a_tape, .inl (E.2.2.1, 60, .inl tape)), (a_written, .inl (E.2.1, 40, .inl written)), (a_asked, .inl (E.2.1, 60, .inl asked)), (a_there, .inl (E.2.1, 12, .inl there)), (a_counts, .inl (E.2.1, 12, .inl counts)), (a_lasts, .inl (E.2.1, 12, .inl lasts)), (a_cames, .inl (E.2.1, 12, .inl cames))] (po_X12_drop E h a_g a_kept a_tape a_written a_asked a_there a_counts a_lasts a_cames g kept isKept tape taped spot written writtenMany asked askedMany there counts lasts cames o) := by
  refine mx_intro (by decide +kernel) (Nat.le_of_ble_eq_true rfl) ?_
  intro p e s m args below meth c A Q ls B w hl
  obtain ⟨hx, hb, hml, hown, hts⟩ := id B.1
  unfold F_X12_drop at hf
  have hl : lv_has ls 2 [(0, .ref h)] := hl
  refine lv_aload_n hx hb dX12_drop_0 rfl (lv_at hl 0 rfl) ?_
  obtain ⟨o_1, hq, hf⟩ := bd_e hf
  refine mx_callV (As := []) (rest := []) (wr := []) (d_X12_takesKey E l N h a_g a_kept a_tape a_written a_asked a_there a_counts a_lasts a_cames g kept isKept tape taped spot written writtenMany asked askedMany there counts lasts cames   o_1 hq) B w [0, 1, 2, 3, 4, 5, 6, 7, 8, 9] [] rfl rfl (by decide) (by decide) (by decide) 0 rfl rfl cv_X12_takesKey kw_1281 0 (by decide +kernel) ⟨Nat.le_of_ble_eq_true rfl, Nat.le_of_ble_eq_true rfl⟩ rfl hl.1 rfl (Nat.le_of_ble_eq_true rfl) dX12_drop_1 rfl rfl ⟨Nat.zero_le _, Nat.zero_le _⟩ (fun v w' H locs hpo w => ?_)
  clear hq
  obtain ⟨rfl, rfl⟩ := hpo
  have w : mW E A s [(h, .inr (11, [.ref a_g, .ref a_kept, .int isKept, .ref a_tape, .int o_1.2.1, .int o_1.2.2, .ref a_written, .int writtenMany, .ref a_asked, .int askedMany, .ref a_there, .ref a_counts, .ref a_lasts, .ref a_cames])), (a_g, .inl (E.2.1, 8787, .inl g)), (a_kept, .inl (E.2.1, 8787, .inl kept)), (a_tape, .inl (E.2.2.1, 60, .inl tape)), (a_written, .inl (E.2.1, 40, .inl written)), (a_asked, .inl (E.2.1, 60, .inl asked)), (a_there, .inl (E.2.1, 12, .inl there)), (a_counts, .inl (E.2.1, 12, .inl counts)), (a_lasts, .inl (E.2.1, 12, .inl lasts)), (a_cames, .inl (E.2.1, 12, .inl cames))] H locs := w
  refine lv_istore_n (lv' := [(1, .int o_1.1), (0, .ref h)]) hx hb dX12_drop_4 rfl hl (by decide) rfl (fun ls hl => ?_)
  refine lv_iload_n hx hb dX12_drop_5 rfl (lv_at hl 0 rfl) ?_
  refine lv_if_ne (tgt := 15) hx hb dX12_drop_6 (by decide) (fun hc => ?_) (fun hc => ?_)
  · have hf := it_f hc hf
    refine lv_aload_n hx hb dX12_drop_15 rfl (lv_at hl 1 rfl) ?_
    refine lv_iconst (v := 0) hx hb dX12_drop_16 (by decide) ?_
    refine lv_iload_n hx hb dX12_drop_17 rfl (lv_at hl 0 rfl) ?_
    refine lv_bipush (v := 9) hx hb dX12_drop_18 (by decide) ?_
    obtain ⟨o_2, hq, hf⟩ := bd_e hf
    refine mx_callV (As := [.int 0, .int o_1.1, .int 9]) (rest := []) (wr := []) (d_X12_drops E l N h a_g a_kept a_tape a_written a_asked a_there a_counts a_lasts a_cames g kept isKept tape o_1.2.1 o_1.2.2 written writtenMany asked askedMany there counts lasts cames 0 o_1.1 9  o_2 hq) B w [0, 1, 2, 3, 4, 5, 6, 7, 8, 9] [] rfl rfl (by decide) (by decide) (by decide) 0 rfl rfl cv_X12_drops kw_1544 3 (by decide +kernel) ⟨Nat.le_of_ble_eq_true rfl, Nat.le_of_ble_eq_true rfl⟩ rfl hl.1 rfl (Nat.le_of_ble_eq_true rfl) dX12_drop_20 rfl rfl ⟨Nat.zero_le _, Nat.zero_le _⟩ (fun v w' H locs hpo w => ?_)
    clear hq
    obtain ⟨rfl, rfl⟩ := hpo
    have w : mW E A s [(h, .inr (11, [.ref a_g, .ref a_kept, .int isKept, .ref a_tape, .int o_1.2.1, .int o_1.2.2, .ref a_written, .int writtenMany, .ref a_asked, .int askedMany, .ref a_there, .ref a_counts, .ref a_lasts, .ref a_cames])), (a_g, .inl (E.2.1, 8787, .inl o_2.2)), (a_kept, .inl (E.2.1, 8787, .inl kept)), (a_tape, .inl (E.2.2.1, 60, .inl tape)), (a_written, .inl (E.2.1, 40, .inl written)), (a_asked, .inl (E.2.1, 60, .inl asked)), (a_there, .inl (E.2.1, 12, .inl there)), (a_counts, .inl (E.2.1, 12, .inl counts)), (a_lasts, .inl (E.2.1, 12, .inl lasts)), (a_cames, .inl (E.2.1, 12, .inl cames))] H locs := w
    cases hf
    exact mx_iret B w ⟨rfl, rfl⟩ dX12_drop_23
  · have hf := it_t hc hf
    refine lv_sipush (v := (-1002)) hx hb dX12_drop_9 (by decide) ?_
    refine lv_goto (tgt := 23) hx hb dX12_drop_12 (by decide) ?_
    cases hf
    exact mx_iret B w ⟨rfl, rfl⟩ dX12_drop_23
-- X12_dropTag
def po_X12_dropTag (E : mE) (h : Nat) (a_g : Nat) (a_kept : Nat) (a_tape : Nat) (a_written : Nat) (a_asked : Nat) (a_there : Nat) (a_counts : Nat) (a_lasts : Nat) (a_cames : Nat)  (g : Nat → Int32) (kept : Nat → Int32) (isKept : Int32) (tape : Nat → Int32) (taped : Int32) (spot : Int32) (written : Nat → Int32) (writtenMany : Int32) (asked : Nat → Int32) (askedMany : Int32) (there : Nat → Int32) (counts : Nat → Int32) (lasts : Nat → Int32) (cames : Nat → Int32)  (o : Int32 × (Nat → Int32)) : Option Value → va_W → Prop := (fun (v : Option Value) (w' : va_W) => v = some (.int o.1) ∧ w' = [(h, .inr (11, [.ref a_g, .ref a_kept, .int isKept, .ref a_tape, .int taped, .int spot, .ref a_written, .int writtenMany, .ref a_asked, .int askedMany, .ref a_there, .ref a_counts, .ref a_lasts, .ref a_cames])), (a_g, .inl (E.2.1, 8787, .inl o.2)), (a_kept, .inl (E.2.1, 8787, .inl kept)), (a_tape, .inl (E.2.2.1, 60, .inl tape)), (a_written, .inl (E.2.1, 40, .inl written)), (a_asked, .inl (E.2.1, 60, .inl asked)), (a_there, .inl (E.2.1, 12, .inl there)), (a_counts, .inl (E.2.1, 12, .inl counts)), (a_lasts, .inl (E.2.1, 12, .inl lasts)), (a_cames, .inl (E.2.1, 12, .inl cames))])
noncomputable def F_X12_dropTag (N : Nat)  (g : Nat → Int32) (x1 : Int32) : Option (Int32 × (Nat → Int32)) :=
  bd (F_X12_in x1 0 7) (fun o_1 =>
  if (o_1 = 0 : Prop) then
  some ((-1001), g)
  else
  bd (F_X12_drops N g 1 x1 9) (fun o_2 =>
  some (o_2.1, o_2.2)))
set_option maxHeartbeats 4000000 in
set_option maxRecDepth 100000 in
theorem d_X12_dropTag (E : mE) (l : Launch) (N : Nat) (h : Nat) (a_g : Nat) (a_kept : Nat) (a_tape : Nat) (a_written : Nat) (a_asked : Nat) (a_there : Nat) (a_counts : Nat) (a_lasts : Nat) (a_cames : Nat)  (g : Nat → Int32) (kept : Nat → Int32) (isKept : Int32) (tape : Nat → Int32) (taped : Int32) (spot : Int32) (written : Nat → Int32) (writtenMany : Int32) (asked : Nat → Int32) (askedMany : Int32) (there : Nat → Int32) (counts : Nat → Int32) (lasts : Nat → Int32) (cames : Nat → Int32)  (x1 : Int32)  (o : Int32 × (Nat → Int32)) (hf : F_X12_dropTag N g x1 = some o) : MX E l yX12_dropTag cX12_dropTag 2 (some .int) ({ frames := 7, cells := 0, slots := 0, locals := 162 } : Room) [.ref h, .int x1] [(h, .inr (11, [.ref a_g, .ref a_kept, .int isKept, .ref a_tape, .int taped, .int spot, .ref a_written, .int writtenMany, .ref a_asked, .int askedMany, .ref a_there, .ref a_counts, .ref a_lasts, .ref a_cames])), (a_g, .inl (E.2.1, 8787, .inl g)), (a_kept, .inl (E.2.1, 8787, .inl kept)), (a_tape, .inl (E.2.2.1, 60, .inl tape)), (a_written, .inl (E.2.1, 40, .inl written)), (a_asked, .inl (E.2.1, 60, .inl asked)), (a_there, .inl (E.2.1, 12, .inl there)), (a_counts, .inl (E.2.1, 12, .inl counts)), (a_lasts, .inl (E.2.1, 12, .inl lasts)), (a_cames, .inl (E.2.1, 12, .inl cames))] (po_X12_dropTag E h a_g a_kept a_tape a_written a_asked a_there a_counts a_lasts a_cames g kept isKept tape taped spot written writtenMany asked askedMany there counts lasts cames o) := by
  refine mx_intro (by decide +kernel) (Nat.le_of_ble_eq_true rfl) ?_
  intro p e s m args below meth c A Q ls B w hl
  obtain ⟨hx, hb, hml, hown, hts⟩ := id B.1
  unfold F_X12_dropTag at hf
  have hl : lv_has ls 2 [(0, .ref h), (1, .int x1)] := hl
  refine lv_iload_n hx hb dX12_dropTag_0 rfl (lv_at hl 1 rfl) ?_
  refine lv_iconst (v := 0) hx hb dX12_dropTag_1 (by decide) ?_
  refine lv_bipush (v := 7) hx hb dX12_dropTag_2 (by decide) ?_
  obtain ⟨o_1, hq, hf⟩ := bd_e hf
  refine mx_callS (As := [.int x1, .int 0, .int 7]) (rest := []) (wr := [(h, .inr (11, [.ref a_g, .ref a_kept, .int isKept, .ref a_tape, .int taped, .int spot, .ref a_written, .int writtenMany, .ref a_asked, .int askedMany, .ref a_there, .ref a_counts, .ref a_lasts, .ref a_cames])), (a_g, .inl (E.2.1, 8787, .inl g)), (a_kept, .inl (E.2.1, 8787, .inl kept)), (a_tape, .inl (E.2.2.1, 60, .inl tape)), (a_written, .inl (E.2.1, 40, .inl written)), (a_asked, .inl (E.2.1, 60, .inl asked)), (a_there, .inl (E.2.1, 12, .inl there)), (a_counts, .inl (E.2.1, 12, .inl counts)), (a_lasts, .inl (E.2.1, 12, .inl lasts)), (a_cames, .inl (E.2.1, 12, .inl cames))]) (d_X12_in E l   x1 0 7  o_1 hq) B w [] [0, 1, 2, 3, 4, 5, 6, 7, 8, 9] rfl rfl (by decide) (by decide) (by decide) cs_X12_in kw_1274 3 (by decide +kernel) ⟨Nat.le_of_ble_eq_true rfl, Nat.le_of_ble_eq_true rfl⟩ rfl hl.1 rfl (Nat.le_of_ble_eq_true rfl) dX12_dropTag_4 rfl rfl ⟨Nat.zero_le _, Nat.zero_le _⟩ (fun v w' H locs hpo w => ?_)
  clear hq
  obtain ⟨rfl, rfl⟩ := hpo
  have w : mW E A s [(h, .inr (11, [.ref a_g, .ref a_kept, .int isKept, .ref a_tape, .int taped, .int spot, .ref a_written, .int writtenMany, .ref a_asked, .int askedMany, .ref a_there, .ref a_counts, .ref a_lasts, .ref a_cames])), (a_g, .inl (E.2.1, 8787, .inl g)), (a_kept, .inl (E.2.1, 8787, .inl kept)), (a_tape, .inl (E.2.2.1, 60, .inl tape)), (a_written, .inl (E.2.1, 40, .inl written)), (a_asked, .inl (E.2.1, 60, .inl asked)), (a_there, .inl (E.2.1, 12, .inl there)), (a_counts, .inl (E.2.1, 12, .inl counts)), (a_lasts, .inl (E.2.1, 12, .inl lasts)), (a_cames, .inl (E.2.1, 12, .inl cames))] H locs := w
  refine lv_if_eq (tgt := 21) hx hb dX12_dropTag_7 (by decide) (fun hc => ?_) (fun hc => ?_)
  · have hf := it_t hc hf
    refine lv_sipush (v := (-1001)) hx hb dX12_dropTag_21 (by decide) ?_
    cases hf
    exact mx_iret B w ⟨rfl, rfl⟩ dX12_dropTag_24
  · have hf := it_f hc hf
    refine lv_aload_n hx hb dX12_dropTag_10 rfl (lv_at hl 0 rfl) ?_
    refine lv_iconst (v := 1) hx hb dX12_dropTag_11 (by decide) ?_
    refine lv_iload_n hx hb dX12_dropTag_12 rfl (lv_at hl 1 rfl) ?_
    refine lv_bipush (v := 9) hx hb dX12_dropTag_13 (by decide) ?_
    obtain ⟨o_2, hq, hf⟩ := bd_e hf
    refine mx_callV (As := [.int 1, .int x1, .int 9]) (rest := []) (wr := []) (d_X12_drops E l N h a_g a_kept a_tape a_written a_asked a_there a_counts a_lasts a_cames g kept isKept tape taped spot written writtenMany asked askedMany there counts lasts cames 1 x1 9  o_2 hq) B w [0, 1, 2, 3, 4, 5, 6, 7, 8, 9] [] rfl rfl (by decide) (by decide) (by decide) 0 rfl rfl cv_X12_drops kw_1544 3 (by decide +kernel) ⟨Nat.le_of_ble_eq_true rfl, Nat.le_of_ble_eq_true rfl⟩ rfl hl.1 rfl (Nat.le_of_ble_eq_true rfl) dX12_dropTag_15 rfl rfl ⟨Nat.zero_le _, Nat.zero_le _⟩ (fun v w' H locs hpo w => ?_)
    clear hq
    obtain ⟨rfl, rfl⟩ := hpo
    have w : mW E A s [(h, .inr (11, [.ref a_g, .ref a_kept, .int isKept, .ref a_tape, .int taped, .int spot, .ref a_written, .int writtenMany, .ref a_asked, .int askedMany, .ref a_there, .ref a_counts, .ref a_lasts, .ref a_cames])), (a_g, .inl (E.2.1, 8787, .inl o_2.2)), (a_kept, .inl (E.2.1, 8787, .inl kept)), (a_tape, .inl (E.2.2.1, 60, .inl tape)), (a_written, .inl (E.2.1, 40, .inl written)), (a_asked, .inl (E.2.1, 60, .inl asked)), (a_there, .inl (E.2.1, 12, .inl there)), (a_counts, .inl (E.2.1, 12, .inl counts)), (a_lasts, .inl (E.2.1, 12, .inl lasts)), (a_cames, .inl (E.2.1, 12, .inl cames))] H locs := w
    refine lv_goto (tgt := 24) hx hb dX12_dropTag_18 (by decide) ?_
    cases hf
    exact mx_iret B w ⟨rfl, rfl⟩ dX12_dropTag_24
-- X12_dropAll
def po_X12_dropAll (E : mE) (h : Nat) (a_g : Nat) (a_kept : Nat) (a_tape : Nat) (a_written : Nat) (a_asked : Nat) (a_there : Nat) (a_counts : Nat) (a_lasts : Nat) (a_cames : Nat)  (g : Nat → Int32) (kept : Nat → Int32) (isKept : Int32) (tape : Nat → Int32) (taped : Int32) (spot : Int32) (written : Nat → Int32) (writtenMany : Int32) (asked : Nat → Int32) (askedMany : Int32) (there : Nat → Int32) (counts : Nat → Int32) (lasts : Nat → Int32) (cames : Nat → Int32)  (o : Int32 × (Nat → Int32) × Int32 × Int32) : Option Value → va_W → Prop := (fun (v : Option Value) (w' : va_W) => v = some (.int o.1) ∧ w' = [(h, .inr (11, [.ref a_g, .ref a_kept, .int isKept, .ref a_tape, .int o.2.2.1, .int o.2.2.2, .ref a_written, .int writtenMany, .ref a_asked, .int askedMany, .ref a_there, .ref a_counts, .ref a_lasts, .ref a_cames])), (a_g, .inl (E.2.1, 8787, .inl o.2.1)), (a_kept, .inl (E.2.1, 8787, .inl kept)), (a_tape, .inl (E.2.2.1, 60, .inl tape)), (a_written, .inl (E.2.1, 40, .inl written)), (a_asked, .inl (E.2.1, 60, .inl asked)), (a_there, .inl (E.2.1, 12, .inl there)), (a_counts, .inl (E.2.1, 12, .inl counts)), (a_lasts, .inl (E.2.1, 12, .inl lasts)), (a_cames, .inl (E.2.1, 12, .inl cames))])
noncomputable def F_X12_dropAll (N : Nat)  (g : Nat → Int32) (tape : Nat → Int32) (taped : Int32) (spot : Int32)  : Option (Int32 × (Nat → Int32) × Int32 × Int32) :=
  bd (F_X12_takesKey N tape taped spot) (fun o_1 =>
  if (o_1.1 = 0 : Prop) then
  some ((-1002), g, o_1.2.1, o_1.2.2)
  else
  bd (F_X12_drops N g 2 o_1.1 9) (fun o_2 =>
  some (o_2.1, o_2.2, o_1.2.1, o_1.2.2)))
set_option maxHeartbeats 4000000 in
set_option maxRecDepth 100000 in
theorem d_X12_dropAll (E : mE) (l : Launch) (N : Nat) (h : Nat) (a_g : Nat) (a_kept : Nat) (a_tape : Nat) (a_written : Nat) (a_asked : Nat) (a_there : Nat) (a_counts : Nat) (a_lasts : Nat) (a_cames : Nat)  (g : Nat → Int32) (kept : Nat → Int32) (isKept : Int32) (tape : Nat → Int32) (taped : Int32) (spot : Int32) (written : Nat → Int32) (writtenMany : Int32) (asked : Nat → Int32) (askedMany : Int32) (there : Nat → Int32) (counts : Nat → Int32) (lasts : Nat → Int32) (cames : Nat → Int32)    (o : Int32 × (Nat → Int32) × Int32 × Int32) (hf : F_X12_dropAll N g tape taped spot = some o) : MX E l yX12_dropAll cX12_dropAll 2 (some .int) ({ frames := 7, cells := 0, slots := 0, locals := 162 } : Room) [.ref h] [(h, .inr (11, [.ref a_g, .ref a_kept, .int isKept, .ref a_tape, .int taped, .int spot, .ref a_written, .int writtenMany, .ref a_asked, .int askedMany, .ref a_there, .ref a_counts, .ref a_lasts, .ref a_cames])), (a_g, .inl (E.2.1, 8787, .inl g)), (a_kept, .inl (E.2.1, 8787, .inl kept)), (a_tape, .inl (E.2.2.1, 60, .inl tape)), (a_written, .inl (E.2.1, 40, .inl written)), (a_asked, .inl (E.2.1, 60, .inl asked)), (a_there, .inl (E.2.1, 12, .inl there)), (a_counts, .inl (E.2.1, 12, .inl counts)), (a_lasts, .inl (E.2.1, 12, .inl lasts)), (a_cames, .inl (E.2.1, 12, .inl cames))] (po_X12_dropAll E h a_g a_kept a_tape a_written a_asked a_there a_counts a_lasts a_cames g kept isKept tape taped spot written writtenMany asked askedMany there counts lasts cames o) := by
  refine mx_intro (by decide +kernel) (Nat.le_of_ble_eq_true rfl) ?_
  intro p e s m args below meth c A Q ls B w hl
  obtain ⟨hx, hb, hml, hown, hts⟩ := id B.1
  unfold F_X12_dropAll at hf
  have hl : lv_has ls 2 [(0, .ref h)] := hl
  refine lv_aload_n hx hb dX12_dropAll_0 rfl (lv_at hl 0 rfl) ?_
  obtain ⟨o_1, hq, hf⟩ := bd_e hf
  refine mx_callV (As := []) (rest := []) (wr := []) (d_X12_takesKey E l N h a_g a_kept a_tape a_written a_asked a_there a_counts a_lasts a_cames g kept isKept tape taped spot written writtenMany asked askedMany there counts lasts cames   o_1 hq) B w [0, 1, 2, 3, 4, 5, 6, 7, 8, 9] [] rfl rfl (by decide) (by decide) (by decide) 0 rfl rfl cv_X12_takesKey kw_1281 0 (by decide +kernel) ⟨Nat.le_of_ble_eq_true rfl, Nat.le_of_ble_eq_true rfl⟩ rfl hl.1 rfl (Nat.le_of_ble_eq_true rfl) dX12_dropAll_1 rfl rfl ⟨Nat.zero_le _, Nat.zero_le _⟩ (fun v w' H locs hpo w => ?_)
  clear hq
  obtain ⟨rfl, rfl⟩ := hpo
  have w : mW E A s [(h, .inr (11, [.ref a_g, .ref a_kept, .int isKept, .ref a_tape, .int o_1.2.1, .int o_1.2.2, .ref a_written, .int writtenMany, .ref a_asked, .int askedMany, .ref a_there, .ref a_counts, .ref a_lasts, .ref a_cames])), (a_g, .inl (E.2.1, 8787, .inl g)), (a_kept, .inl (E.2.1, 8787, .inl kept)), (a_tape, .inl (E.2.2.1, 60, .inl tape)), (a_written, .inl (E.2.1, 40, .inl written)), (a_asked, .inl (E.2.1, 60, .inl asked)), (a_there, .inl (E.2.1, 12, .inl there)), (a_counts, .inl (E.2.1, 12, .inl counts)), (a_lasts, .inl (E.2.1, 12, .inl lasts)), (a_cames, .inl (E.2.1, 12, .inl cames))] H locs := w
  refine lv_istore_n (lv' := [(1, .int o_1.1), (0, .ref h)]) hx hb dX12_dropAll_4 rfl hl (by decide) rfl (fun ls hl => ?_)
  refine lv_iload_n hx hb dX12_dropAll_5 rfl (lv_at hl 0 rfl) ?_
  refine lv_if_ne (tgt := 15) hx hb dX12_dropAll_6 (by decide) (fun hc => ?_) (fun hc => ?_)
  · have hf := it_f hc hf
    refine lv_aload_n hx hb dX12_dropAll_15 rfl (lv_at hl 1 rfl) ?_
    refine lv_iconst (v := 2) hx hb dX12_dropAll_16 (by decide) ?_
    refine lv_iload_n hx hb dX12_dropAll_17 rfl (lv_at hl 0 rfl) ?_
    refine lv_bipush (v := 9) hx hb dX12_dropAll_18 (by decide) ?_
    obtain ⟨o_2, hq, hf⟩ := bd_e hf
    refine mx_callV (As := [.int 2, .int o_1.1, .int 9]) (rest := []) (wr := []) (d_X12_drops E l N h a_g a_kept a_tape a_written a_asked a_there a_counts a_lasts a_cames g kept isKept tape o_1.2.1 o_1.2.2 written writtenMany asked askedMany there counts lasts cames 2 o_1.1 9  o_2 hq) B w [0, 1, 2, 3, 4, 5, 6, 7, 8, 9] [] rfl rfl (by decide) (by decide) (by decide) 0 rfl rfl cv_X12_drops kw_1544 3 (by decide +kernel) ⟨Nat.le_of_ble_eq_true rfl, Nat.le_of_ble_eq_true rfl⟩ rfl hl.1 rfl (Nat.le_of_ble_eq_true rfl) dX12_dropAll_20 rfl rfl ⟨Nat.zero_le _, Nat.zero_le _⟩ (fun v w' H locs hpo w => ?_)
    clear hq
    obtain ⟨rfl, rfl⟩ := hpo
    have w : mW E A s [(h, .inr (11, [.ref a_g, .ref a_kept, .int isKept, .ref a_tape, .int o_1.2.1, .int o_1.2.2, .ref a_written, .int writtenMany, .ref a_asked, .int askedMany, .ref a_there, .ref a_counts, .ref a_lasts, .ref a_cames])), (a_g, .inl (E.2.1, 8787, .inl o_2.2)), (a_kept, .inl (E.2.1, 8787, .inl kept)), (a_tape, .inl (E.2.2.1, 60, .inl tape)), (a_written, .inl (E.2.1, 40, .inl written)), (a_asked, .inl (E.2.1, 60, .inl asked)), (a_there, .inl (E.2.1, 12, .inl there)), (a_counts, .inl (E.2.1, 12, .inl counts)), (a_lasts, .inl (E.2.1, 12, .inl lasts)), (a_cames, .inl (E.2.1, 12, .inl cames))] H locs := w
    cases hf
    exact mx_iret B w ⟨rfl, rfl⟩ dX12_dropAll_23
  · have hf := it_t hc hf
    refine lv_sipush (v := (-1002)) hx hb dX12_dropAll_9 (by decide) ?_
    refine lv_goto (tgt := 23) hx hb dX12_dropAll_12 (by decide) ?_
    cases hf
    exact mx_iret B w ⟨rfl, rfl⟩ dX12_dropAll_23
-- X12_tagged
def po_X12_tagged (E : mE) (h : Nat) (a_g : Nat) (a_kept : Nat) (a_tape : Nat) (a_written : Nat) (a_asked : Nat) (a_there : Nat) (a_counts : Nat) (a_lasts : Nat) (a_cames : Nat)  (g : Nat → Int32) (kept : Nat → Int32) (isKept : Int32) (tape : Nat → Int32) (taped : Int32) (spot : Int32) (written : Nat → Int32) (writtenMany : Int32) (asked : Nat → Int32) (askedMany : Int32) (there : Nat → Int32) (counts : Nat → Int32) (lasts : Nat → Int32) (cames : Nat → Int32)  (o : Int32) : Option Value → va_W → Prop := (fun (v : Option Value) (w' : va_W) => v = some (.int o) ∧ w' = [(h, .inr (11, [.ref a_g, .ref a_kept, .int isKept, .ref a_tape, .int taped, .int spot, .ref a_written, .int writtenMany, .ref a_asked, .int askedMany, .ref a_there, .ref a_counts, .ref a_lasts, .ref a_cames])), (a_g, .inl (E.2.1, 8787, .inl g)), (a_kept, .inl (E.2.1, 8787, .inl kept)), (a_tape, .inl (E.2.2.1, 60, .inl tape)), (a_written, .inl (E.2.1, 40, .inl written)), (a_asked, .inl (E.2.1, 60, .inl asked)), (a_there, .inl (E.2.1, 12, .inl there)), (a_counts, .inl (E.2.1, 12, .inl counts)), (a_lasts, .inl (E.2.1, 12, .inl lasts)), (a_cames, .inl (E.2.1, 12, .inl cames))])
noncomputable def J_X12_tagged_82 (N : Nat)  (rec : Int32 → Int32 → Option (Int32)) (k88 : Int32 → Option (Int32)) (x1 : Int32) (x2 : Int32) (x3 : Int32) (x4 : Int32) (g : Nat → Int32) : Option (Int32) :=
  lt (x4 + 1) (fun x4_5 =>
  rec x3 x4_5)
set_option maxHeartbeats 4000000 in
set_option maxRecDepth 100000 in
theorem j_X12_tagged_82 {E : mE} {l : Launch} {p : Program} {e : Env} {s : State} {m : MethodId} {args : Array Value} {below : List Frame} {meth : Method} {c : Code} {A : Nat → Prop} {Q : State → Prop} {N : Nat} {h : Nat} {a_g : Nat} {a_kept : Nat} {a_tape : Nat} {a_written : Nat} {a_asked : Nat} {a_there : Nat} {a_counts : Nat} {a_lasts : Nat} {a_cames : Nat}  {g : Nat → Int32} {kept : Nat → Int32} {isKept : Int32} {tape : Nat → Int32} {taped : Int32} {spot : Int32} {written : Nat → Int32} {writtenMany : Int32} {asked : Nat → Int32} {askedMany : Int32} {there : Nat → Int32} {counts : Nat → Int32} {lasts : Nat → Int32} {cames : Nat → Int32}  {o : Int32} (B : mB E yX12_tagged cX12_tagged 5 (some .int) 0 0 (po_X12_tagged E h a_g a_kept a_tape a_written a_asked a_there a_counts a_lasts a_cames g kept isKept tape taped spot written writtenMany asked askedMany there counts lasts cames o) p s m args below meth c A Q) {x1 : Int32} {x2 : Int32} {x3 : Int32} {x4 : Int32}   (rec : Int32 → Int32 → Option (Int32)) (k88 : Int32 → Option (Int32)) (hrec : ∀ (x3 : Int32) (x4 : Int32)   (H : Heap) (locs : List Loc) (ls : Array Slot), rec x3 x4 = some o → mW E A s [(h, .inr (11, [.ref a_g, .ref a_kept, .int isKept, .ref a_tape, .int taped, .int spot, .ref a_written, .int writtenMany, .ref a_asked, .int askedMany, .ref a_there, .ref a_counts, .ref a_lasts, .ref a_cames])), (a_g, .inl (E.2.1, 8787, .inl g)), (a_kept, .inl (E.2.1, 8787, .inl kept)), (a_tape, .inl (E.2.2.1, 60, .inl tape)), (a_written, .inl (E.2.1, 40, .inl written)), (a_asked, .inl (E.2.1, 60, .inl asked)), (a_there, .inl (E.2.1, 12, .inl there)), (a_counts, .inl (E.2.1, 12, .inl counts)), (a_lasts, .inl (E.2.1, 12, .inl lasts)), (a_cames, .inl (E.2.1, 12, .inl cames))] H locs → lv_has ls 5 [(0, .ref h), (1, .int x1), (2, .int x2), (3, .int x3), (4, .int x4)] → W p l e ({ frames := 1, cells := 0, slots := 0, locals := 22 } : Room) s m args below meth c H locs 0 0 Q (F0 m 28 ls [])) (hk88 : ∀ (x3 : Int32)   (H : Heap) (locs : List Loc) (ls : Array Slot), k88 x3 = some o → mW E A s [(h, .inr (11, [.ref a_g, .ref a_kept, .int isKept, .ref a_tape, .int taped, .int spot, .ref a_written, .int writtenMany, .ref a_asked, .int askedMany, .ref a_there, .ref a_counts, .ref a_lasts, .ref a_cames])), (a_g, .inl (E.2.1, 8787, .inl g)), (a_kept, .inl (E.2.1, 8787, .inl kept)), (a_tape, .inl (E.2.2.1, 60, .inl tape)), (a_written, .inl (E.2.1, 40, .inl written)), (a_asked, .inl (E.2.1, 60, .inl asked)), (a_there, .inl (E.2.1, 12, .inl there)), (a_counts, .inl (E.2.1, 12, .inl counts)), (a_lasts, .inl (E.2.1, 12, .inl lasts)), (a_cames, .inl (E.2.1, 12, .inl cames))] H locs → lv_has ls 5 [(3, .int x3)] → W p l e ({ frames := 1, cells := 0, slots := 0, locals := 22 } : Room) s m args below meth c H locs 0 0 Q (F0 m 88 ls [])) {H : Heap} {locs : List Loc} {ls : Array Slot} (hf : J_X12_tagged_82 N rec k88 x1 x2 x3 x4 g = some o)  (w : mW E A s [(h, .inr (11, [.ref a_g, .ref a_kept, .int isKept, .ref a_tape, .int taped, .int spot, .ref a_written, .int writtenMany, .ref a_asked, .int askedMany, .ref a_there, .ref a_counts, .ref a_lasts, .ref a_cames])), (a_g, .inl (E.2.1, 8787, .inl g)), (a_kept, .inl (E.2.1, 8787, .inl kept)), (a_tape, .inl (E.2.2.1, 60, .inl tape)), (a_written, .inl (E.2.1, 40, .inl written)), (a_asked, .inl (E.2.1, 60, .inl asked)), (a_there, .inl (E.2.1, 12, .inl there)), (a_counts, .inl (E.2.1, 12, .inl counts)), (a_lasts, .inl (E.2.1, 12, .inl lasts)), (a_cames, .inl (E.2.1, 12, .inl cames))] H locs) (hl : lv_has ls 5 [(0, .ref h), (1, .int x1), (2, .int x2), (3, .int x3), (4, .int x4)]) : W p l e ({ frames := 1, cells := 0, slots := 0, locals := 22 } : Room) s m args below meth c H locs 0 0 Q (F0 m 82 ls []) := by
  obtain ⟨hx, hb, hml, hown, hts⟩ := id B.1
  unfold J_X12_tagged_82 at hf
  obtain ⟨x4_5, ev⟩ : ∃ y : Int32, y = x4 + 1 := ⟨_, rfl⟩
  refine lv_iinc (v := x4_5) (lv' := [(4, .int x4_5), (0, .ref h), (1, .int x1), (2, .int x2), (3, .int x3)]) hx hb dX12_tagged_82 hl (k := 4) rfl (by rw [ev]; rfl) (by decide) rfl (fun ls hl => ?_)
  have hf := lt_n ev hf; clear ev
  refine lv_goto (tgt := 28) hx hb dX12_tagged_85 (by decide) ?_
  exact hrec _ _ _ _ _ hf  w (lv_sub hl [1, 2, 3, 4, 0] rfl)
noncomputable def J_X12_tagged_80 (N : Nat)  (rec : Int32 → Int32 → Option (Int32)) (k88 : Int32 → Option (Int32)) (t0 : Int32) (t1 : Int32) (x1 : Int32) (x2 : Int32) (x4 : Int32) (g : Nat → Int32) : Option (Int32) :=
  lt (t0 + t1) (fun x3_7 =>
  J_X12_tagged_82 N rec k88 x1 x2 x3_7 x4 g)
set_option maxHeartbeats 4000000 in
set_option maxRecDepth 100000 in
theorem j_X12_tagged_80 {E : mE} {l : Launch} {p : Program} {e : Env} {s : State} {m : MethodId} {args : Array Value} {below : List Frame} {meth : Method} {c : Code} {A : Nat → Prop} {Q : State → Prop} {N : Nat} {h : Nat} {a_g : Nat} {a_kept : Nat} {a_tape : Nat} {a_written : Nat} {a_asked : Nat} {a_there : Nat} {a_counts : Nat} {a_lasts : Nat} {a_cames : Nat}  {g : Nat → Int32} {kept : Nat → Int32} {isKept : Int32} {tape : Nat → Int32} {taped : Int32} {spot : Int32} {written : Nat → Int32} {writtenMany : Int32} {asked : Nat → Int32} {askedMany : Int32} {there : Nat → Int32} {counts : Nat → Int32} {lasts : Nat → Int32} {cames : Nat → Int32}  {o : Int32} (B : mB E yX12_tagged cX12_tagged 5 (some .int) 0 0 (po_X12_tagged E h a_g a_kept a_tape a_written a_asked a_there a_counts a_lasts a_cames g kept isKept tape taped spot written writtenMany asked askedMany there counts lasts cames o) p s m args below meth c A Q) {t0 : Int32} {t1 : Int32} {x1 : Int32} {x2 : Int32} {x4 : Int32}   (rec : Int32 → Int32 → Option (Int32)) (k88 : Int32 → Option (Int32)) (hrec : ∀ (x3 : Int32) (x4 : Int32)   (H : Heap) (locs : List Loc) (ls : Array Slot), rec x3 x4 = some o → mW E A s [(h, .inr (11, [.ref a_g, .ref a_kept, .int isKept, .ref a_tape, .int taped, .int spot, .ref a_written, .int writtenMany, .ref a_asked, .int askedMany, .ref a_there, .ref a_counts, .ref a_lasts, .ref a_cames])), (a_g, .inl (E.2.1, 8787, .inl g)), (a_kept, .inl (E.2.1, 8787, .inl kept)), (a_tape, .inl (E.2.2.1, 60, .inl tape)), (a_written, .inl (E.2.1, 40, .inl written)), (a_asked, .inl (E.2.1, 60, .inl asked)), (a_there, .inl (E.2.1, 12, .inl there)), (a_counts, .inl (E.2.1, 12, .inl counts)), (a_lasts, .inl (E.2.1, 12, .inl lasts)), (a_cames, .inl (E.2.1, 12, .inl cames))] H locs → lv_has ls 5 [(0, .ref h), (1, .int x1), (2, .int x2), (3, .int x3), (4, .int x4)] → W p l e ({ frames := 1, cells := 0, slots := 0, locals := 22 } : Room) s m args below meth c H locs 0 0 Q (F0 m 28 ls [])) (hk88 : ∀ (x3 : Int32)   (H : Heap) (locs : List Loc) (ls : Array Slot), k88 x3 = some o → mW E A s [(h, .inr (11, [.ref a_g, .ref a_kept, .int isKept, .ref a_tape, .int taped, .int spot, .ref a_written, .int writtenMany, .ref a_asked, .int askedMany, .ref a_there, .ref a_counts, .ref a_lasts, .ref a_cames])), (a_g, .inl (E.2.1, 8787, .inl g)), (a_kept, .inl (E.2.1, 8787, .inl kept)), (a_tape, .inl (E.2.2.1, 60, .inl tape)), (a_written, .inl (E.2.1, 40, .inl written)), (a_asked, .inl (E.2.1, 60, .inl asked)), (a_there, .inl (E.2.1, 12, .inl there)), (a_counts, .inl (E.2.1, 12, .inl counts)), (a_lasts, .inl (E.2.1, 12, .inl lasts)), (a_cames, .inl (E.2.1, 12, .inl cames))] H locs → lv_has ls 5 [(3, .int x3)] → W p l e ({ frames := 1, cells := 0, slots := 0, locals := 22 } : Room) s m args below meth c H locs 0 0 Q (F0 m 88 ls [])) {H : Heap} {locs : List Loc} {ls : Array Slot} (hf : J_X12_tagged_80 N rec k88 t0 t1 x1 x2 x4 g = some o)  (w : mW E A s [(h, .inr (11, [.ref a_g, .ref a_kept, .int isKept, .ref a_tape, .int taped, .int spot, .ref a_written, .int writtenMany, .ref a_asked, .int askedMany, .ref a_there, .ref a_counts, .ref a_lasts, .ref a_cames])), (a_g, .inl (E.2.1, 8787, .inl g)), (a_kept, .inl (E.2.1, 8787, .inl kept)), (a_tape, .inl (E.2.2.1, 60, .inl tape)), (a_written, .inl (E.2.1, 40, .inl written)), (a_asked, .inl (E.2.1, 60, .inl asked)), (a_there, .inl (E.2.1, 12, .inl there)), (a_counts, .inl (E.2.1, 12, .inl counts)), (a_lasts, .inl (E.2.1, 12, .inl lasts)), (a_cames, .inl (E.2.1, 12, .inl cames))] H locs) (hl : lv_has ls 5 [(0, .ref h), (1, .int x1), (2, .int x2), (4, .int x4)]) : W p l e ({ frames := 1, cells := 0, slots := 0, locals := 22 } : Room) s m args below meth c H locs 0 0 Q (F0 m 80 ls [.int t1, .int t0]) := by
  obtain ⟨hx, hb, hml, hown, hts⟩ := id B.1
  unfold J_X12_tagged_80 at hf
  refine lv_iadd hx hb dX12_tagged_80 ?_
  refine lv_topi (fun x3_7 ev => ?_)
  have hf := lt_n ev hf; clear ev
  refine lv_istore_n (lv' := [(3, .int x3_7), (0, .ref h), (1, .int x1), (2, .int x2), (4, .int x4)]) hx hb dX12_tagged_81 rfl hl (by decide) rfl (fun ls hl => ?_)
  exact j_X12_tagged_82 B _ _ hrec hk88 hf  w (lv_sub hl [1, 2, 3, 0, 4] rfl)
noncomputable def J_X12_tagged_77 (N : Nat)  (rec : Int32 → Int32 → Option (Int32)) (k88 : Int32 → Option (Int32)) (t0 : Int32) (t2 : Int32) (t3 : Int32) (x1 : Int32) (x2 : Int32) (x4 : Int32) (g : Nat → Int32) : Option (Int32) :=
  bd (F_X12_at g t2 t3) (fun o_6 =>
  J_X12_tagged_80 N rec k88 t0 o_6 x1 x2 x4 g)
set_option maxHeartbeats 4000000 in
set_option maxRecDepth 100000 in
theorem j_X12_tagged_77 {E : mE} {l : Launch} {p : Program} {e : Env} {s : State} {m : MethodId} {args : Array Value} {below : List Frame} {meth : Method} {c : Code} {A : Nat → Prop} {Q : State → Prop} {N : Nat} {h : Nat} {a_g : Nat} {a_kept : Nat} {a_tape : Nat} {a_written : Nat} {a_asked : Nat} {a_there : Nat} {a_counts : Nat} {a_lasts : Nat} {a_cames : Nat}  {g : Nat → Int32} {kept : Nat → Int32} {isKept : Int32} {tape : Nat → Int32} {taped : Int32} {spot : Int32} {written : Nat → Int32} {writtenMany : Int32} {asked : Nat → Int32} {askedMany : Int32} {there : Nat → Int32} {counts : Nat → Int32} {lasts : Nat → Int32} {cames : Nat → Int32}  {o : Int32} (B : mB E yX12_tagged cX12_tagged 5 (some .int) 0 0 (po_X12_tagged E h a_g a_kept a_tape a_written a_asked a_there a_counts a_lasts a_cames g kept isKept tape taped spot written writtenMany asked askedMany there counts lasts cames o) p s m args below meth c A Q) {t0 : Int32} {t2 : Int32} {t3 : Int32} {x1 : Int32} {x2 : Int32} {x4 : Int32}   (rec : Int32 → Int32 → Option (Int32)) (k88 : Int32 → Option (Int32)) (hrec : ∀ (x3 : Int32) (x4 : Int32)   (H : Heap) (locs : List Loc) (ls : Array Slot), rec x3 x4 = some o → mW E A s [(h, .inr (11, [.ref a_g, .ref a_kept, .int isKept, .ref a_tape, .int taped, .int spot, .ref a_written, .int writtenMany, .ref a_asked, .int askedMany, .ref a_there, .ref a_counts, .ref a_lasts, .ref a_cames])), (a_g, .inl (E.2.1, 8787, .inl g)), (a_kept, .inl (E.2.1, 8787, .inl kept)), (a_tape, .inl (E.2.2.1, 60, .inl tape)), (a_written, .inl (E.2.1, 40, .inl written)), (a_asked, .inl (E.2.1, 60, .inl asked)), (a_there, .inl (E.2.1, 12, .inl there)), (a_counts, .inl (E.2.1, 12, .inl counts)), (a_lasts, .inl (E.2.1, 12, .inl lasts)), (a_cames, .inl (E.2.1, 12, .inl cames))] H locs → lv_has ls 5 [(0, .ref h), (1, .int x1), (2, .int x2), (3, .int x3), (4, .int x4)] → W p l e ({ frames := 1, cells := 0, slots := 0, locals := 22 } : Room) s m args below meth c H locs 0 0 Q (F0 m 28 ls [])) (hk88 : ∀ (x3 : Int32)   (H : Heap) (locs : List Loc) (ls : Array Slot), k88 x3 = some o → mW E A s [(h, .inr (11, [.ref a_g, .ref a_kept, .int isKept, .ref a_tape, .int taped, .int spot, .ref a_written, .int writtenMany, .ref a_asked, .int askedMany, .ref a_there, .ref a_counts, .ref a_lasts, .ref a_cames])), (a_g, .inl (E.2.1, 8787, .inl g)), (a_kept, .inl (E.2.1, 8787, .inl kept)), (a_tape, .inl (E.2.2.1, 60, .inl tape)), (a_written, .inl (E.2.1, 40, .inl written)), (a_asked, .inl (E.2.1, 60, .inl asked)), (a_there, .inl (E.2.1, 12, .inl there)), (a_counts, .inl (E.2.1, 12, .inl counts)), (a_lasts, .inl (E.2.1, 12, .inl lasts)), (a_cames, .inl (E.2.1, 12, .inl cames))] H locs → lv_has ls 5 [(3, .int x3)] → W p l e ({ frames := 1, cells := 0, slots := 0, locals := 22 } : Room) s m args below meth c H locs 0 0 Q (F0 m 88 ls [])) {H : Heap} {locs : List Loc} {ls : Array Slot} (hf : J_X12_tagged_77 N rec k88 t0 t2 t3 x1 x2 x4 g = some o)  (w : mW E A s [(h, .inr (11, [.ref a_g, .ref a_kept, .int isKept, .ref a_tape, .int taped, .int spot, .ref a_written, .int writtenMany, .ref a_asked, .int askedMany, .ref a_there, .ref a_counts, .ref a_lasts, .ref a_cames])), (a_g, .inl (E.2.1, 8787, .inl g)), (a_kept, .inl (E.2.1, 8787, .inl kept)), (a_tape, .inl (E.2.2.1, 60, .inl tape)), (a_written, .inl (E.2.1, 40, .inl written)), (a_asked, .inl (E.2.1, 60, .inl asked)), (a_there, .inl (E.2.1, 12, .inl there)), (a_counts, .inl (E.2.1, 12, .inl counts)), (a_lasts, .inl (E.2.1, 12, .inl lasts)), (a_cames, .inl (E.2.1, 12, .inl cames))] H locs) (hl : lv_has ls 5 [(0, .ref h), (1, .int x1), (2, .int x2), (4, .int x4)]) : W p l e ({ frames := 1, cells := 0, slots := 0, locals := 22 } : Room) s m args below meth c H locs 0 0 Q (F0 m 77 ls [.int t3, .int t2, .ref h, .int t0]) := by
  obtain ⟨hx, hb, hml, hown, hts⟩ := id B.1
  unfold J_X12_tagged_77 at hf
  obtain ⟨o_6, hq, hf⟩ := bd_e hf
  refine mx_callV (As := [.int t2, .int t3]) (rest := [.int t0]) (wr := []) (d_X12_at E l  h a_g a_kept a_tape a_written a_asked a_there a_counts a_lasts a_cames g kept isKept tape taped spot written writtenMany asked askedMany there counts lasts cames t2 t3  o_6 hq) B w [0, 1, 2, 3, 4, 5, 6, 7, 8, 9] [] rfl rfl (by decide) (by decide) (by decide) 0 rfl rfl cv_X12_at kw_1325 2 (by decide +kernel) ⟨Nat.le_of_ble_eq_true rfl, Nat.le_of_ble_eq_true rfl⟩ rfl hl.1 rfl (Nat.le_of_ble_eq_true rfl) dX12_tagged_77 rfl rfl ⟨Nat.zero_le _, Nat.zero_le _⟩ (fun v w' H locs hpo w => ?_)
  clear hq
  obtain ⟨rfl, rfl⟩ := hpo
  have w : mW E A s [(h, .inr (11, [.ref a_g, .ref a_kept, .int isKept, .ref a_tape, .int taped, .int spot, .ref a_written, .int writtenMany, .ref a_asked, .int askedMany, .ref a_there, .ref a_counts, .ref a_lasts, .ref a_cames])), (a_g, .inl (E.2.1, 8787, .inl g)), (a_kept, .inl (E.2.1, 8787, .inl kept)), (a_tape, .inl (E.2.2.1, 60, .inl tape)), (a_written, .inl (E.2.1, 40, .inl written)), (a_asked, .inl (E.2.1, 60, .inl asked)), (a_there, .inl (E.2.1, 12, .inl there)), (a_counts, .inl (E.2.1, 12, .inl counts)), (a_lasts, .inl (E.2.1, 12, .inl lasts)), (a_cames, .inl (E.2.1, 12, .inl cames))] H locs := w
  exact j_X12_tagged_80 B _ _ hrec hk88 hf  w (lv_sub hl [0, 1, 2, 3] rfl)
noncomputable def K_X12_tagged_28 (N : Nat)  (rec : Int32 → Int32 → Option (Int32)) (k88 : Int32 → Option (Int32)) (x1 : Int32) (x2 : Int32) (g : Nat → Int32) (x3 : Int32) (x4 : Int32)  : Option (Int32) :=
  ld g 8787 13 (fun v_3 =>
  if (v_3 ≤ x4 : Prop) then
  k88 x3
  else
  bd (F_X12_at g x4 3) (fun o_4 =>
  if (((o_4 >>> (x1 &&& 31)) &&& 1) = 1 : Prop) then
  if (x2 = 0 : Prop) then
  J_X12_tagged_80 N rec k88 x3 1 x1 x2 x4 g
  else
  if (x2 = 1 : Prop) then
  J_X12_tagged_77 N rec k88 x3 x4 2 x1 x2 x4 g
  else
  J_X12_tagged_77 N rec k88 x3 x4 5 x1 x2 x4 g
  else
  J_X12_tagged_82 N rec k88 x1 x2 x3 x4 g))
noncomputable def L_X12_tagged_28 (N : Nat)  (k88 : Int32 → Option (Int32)) (x1 : Int32) (x2 : Int32) (g : Nat → Int32) (n : Nat) : Int32 → Int32 → Option (Int32) :=
  Nat.rec (motive := fun _ => Int32 → Int32 → Option (Int32)) (fun _ _ => none) (fun _ rec => K_X12_tagged_28 N rec k88 x1 x2 g) n
set_option maxHeartbeats 4000000 in
set_option maxRecDepth 100000 in
theorem l_X12_tagged_28 {E : mE} {l : Launch} {p : Program} {e : Env} {s : State} {m : MethodId} {args : Array Value} {below : List Frame} {meth : Method} {c : Code} {A : Nat → Prop} {Q : State → Prop} {N : Nat} {h : Nat} {a_g : Nat} {a_kept : Nat} {a_tape : Nat} {a_written : Nat} {a_asked : Nat} {a_there : Nat} {a_counts : Nat} {a_lasts : Nat} {a_cames : Nat}  {g : Nat → Int32} {kept : Nat → Int32} {isKept : Int32} {tape : Nat → Int32} {taped : Int32} {spot : Int32} {written : Nat → Int32} {writtenMany : Int32} {asked : Nat → Int32} {askedMany : Int32} {there : Nat → Int32} {counts : Nat → Int32} {lasts : Nat → Int32} {cames : Nat → Int32}  {o : Int32} (B : mB E yX12_tagged cX12_tagged 5 (some .int) 0 0 (po_X12_tagged E h a_g a_kept a_tape a_written a_asked a_there a_counts a_lasts a_cames g kept isKept tape taped spot written writtenMany asked askedMany there counts lasts cames o) p s m args below meth c A Q)   {x1 : Int32} {x2 : Int32} (k88 : Int32 → Option (Int32))  (hk88 : ∀ (x3 : Int32)   (H : Heap) (locs : List Loc) (ls : Array Slot), k88 x3 = some o → mW E A s [(h, .inr (11, [.ref a_g, .ref a_kept, .int isKept, .ref a_tape, .int taped, .int spot, .ref a_written, .int writtenMany, .ref a_asked, .int askedMany, .ref a_there, .ref a_counts, .ref a_lasts, .ref a_cames])), (a_g, .inl (E.2.1, 8787, .inl g)), (a_kept, .inl (E.2.1, 8787, .inl kept)), (a_tape, .inl (E.2.2.1, 60, .inl tape)), (a_written, .inl (E.2.1, 40, .inl written)), (a_asked, .inl (E.2.1, 60, .inl asked)), (a_there, .inl (E.2.1, 12, .inl there)), (a_counts, .inl (E.2.1, 12, .inl counts)), (a_lasts, .inl (E.2.1, 12, .inl lasts)), (a_cames, .inl (E.2.1, 12, .inl cames))] H locs → lv_has ls 5 [(3, .int x3)] → W p l e ({ frames := 1, cells := 0, slots := 0, locals := 22 } : Room) s m args below meth c H locs 0 0 Q (F0 m 88 ls [])) : ∀ n : Nat, ∀ (x3 : Int32) (x4 : Int32)   (H : Heap) (locs : List Loc) (ls : Array Slot), L_X12_tagged_28 N k88 x1 x2 g n x3 x4 = some o → mW E A s [(h, .inr (11, [.ref a_g, .ref a_kept, .int isKept, .ref a_tape, .int taped, .int spot, .ref a_written, .int writtenMany, .ref a_asked, .int askedMany, .ref a_there, .ref a_counts, .ref a_lasts, .ref a_cames])), (a_g, .inl (E.2.1, 8787, .inl g)), (a_kept, .inl (E.2.1, 8787, .inl kept)), (a_tape, .inl (E.2.2.1, 60, .inl tape)), (a_written, .inl (E.2.1, 40, .inl written)), (a_asked, .inl (E.2.1, 60, .inl asked)), (a_there, .inl (E.2.1, 12, .inl there)), (a_counts, .inl (E.2.1, 12, .inl counts)), (a_lasts, .inl (E.2.1, 12, .inl lasts)), (a_cames, .inl (E.2.1, 12, .inl cames))] H locs → lv_has ls 5 [(0, .ref h), (1, .int x1), (2, .int x2), (3, .int x3), (4, .int x4)] → W p l e ({ frames := 1, cells := 0, slots := 0, locals := 22 } : Room) s m args below meth c H locs 0 0 Q (F0 m 28 ls []) := by
  obtain ⟨hx, hb, hml, hown, hts⟩ := id B.1
  intro n
  induction n with
  | zero =>
    intro x3 x4 H locs ls hf w hl
    exact nomatch hf
  | succ n hrec =>
    intro x3 x4 H locs ls hf w hl
    have hf : K_X12_tagged_28 N (L_X12_tagged_28 N k88 x1 x2 g n) k88 x1 x2 g x3 x4 = some o := hf
    unfold K_X12_tagged_28 at hf
    refine lv_iload hx hb dX12_tagged_28 (lv_at hl 4 rfl) ?_
    refine lv_aload_n hx hb dX12_tagged_30 rfl (lv_at hl 0 rfl) ?_
    refine mx_get B w 0 fl_X12_9 rfl rfl dX12_tagged_31 ?_
    refine lv_bipush (v := 13) hx hb dX12_tagged_34 (by decide) ?_
    obtain ⟨hin, hf⟩ := ld_e hf
    refine mx_iald B w 1 rfl hin dX12_tagged_36 (fun v_3 ev => ?_)
    have hf := hf _ ev; clear ev
    refine lv_icmp_ge (tgt := 88) hx hb dX12_tagged_37 (by decide) (fun hc => ?_) (fun hc => ?_)
    · have hf := it_t hc hf
      exact hk88 _ _ _ _ hf  w (lv_sub hl [3] rfl)
    · have hf := it_f hc hf
      refine lv_aload_n hx hb dX12_tagged_40 rfl (lv_at hl 0 rfl) ?_
      refine lv_iload hx hb dX12_tagged_41 (lv_at hl 4 rfl) ?_
      refine lv_iconst (v := 3) hx hb dX12_tagged_43 (by decide) ?_
      obtain ⟨o_4, hq, hf⟩ := bd_e hf
      refine mx_callV (As := [.int x4, .int 3]) (rest := []) (wr := []) (d_X12_at E l  h a_g a_kept a_tape a_written a_asked a_there a_counts a_lasts a_cames g kept isKept tape taped spot written writtenMany asked askedMany there counts lasts cames x4 3  o_4 hq) B w [0, 1, 2, 3, 4, 5, 6, 7, 8, 9] [] rfl rfl (by decide) (by decide) (by decide) 0 rfl rfl cv_X12_at kw_1325 2 (by decide +kernel) ⟨Nat.le_of_ble_eq_true rfl, Nat.le_of_ble_eq_true rfl⟩ rfl hl.1 rfl (Nat.le_of_ble_eq_true rfl) dX12_tagged_44 rfl rfl ⟨Nat.zero_le _, Nat.zero_le _⟩ (fun v w' H locs hpo w => ?_)
      clear hq
      obtain ⟨rfl, rfl⟩ := hpo
      have w : mW E A s [(h, .inr (11, [.ref a_g, .ref a_kept, .int isKept, .ref a_tape, .int taped, .int spot, .ref a_written, .int writtenMany, .ref a_asked, .int askedMany, .ref a_there, .ref a_counts, .ref a_lasts, .ref a_cames])), (a_g, .inl (E.2.1, 8787, .inl g)), (a_kept, .inl (E.2.1, 8787, .inl kept)), (a_tape, .inl (E.2.2.1, 60, .inl tape)), (a_written, .inl (E.2.1, 40, .inl written)), (a_asked, .inl (E.2.1, 60, .inl asked)), (a_there, .inl (E.2.1, 12, .inl there)), (a_counts, .inl (E.2.1, 12, .inl counts)), (a_lasts, .inl (E.2.1, 12, .inl lasts)), (a_cames, .inl (E.2.1, 12, .inl cames))] H locs := w
      refine lv_iload_n hx hb dX12_tagged_47 rfl (lv_at hl 1 rfl) ?_
      refine lv_ishr hx hb dX12_tagged_48 ?_
      refine lv_iconst (v := 1) hx hb dX12_tagged_49 (by decide) ?_
      refine lv_iand hx hb dX12_tagged_50 ?_
      refine lv_iconst (v := 1) hx hb dX12_tagged_51 (by decide) ?_
      refine lv_icmp_ne (tgt := 82) hx hb dX12_tagged_52 (by decide) (fun hc => ?_) (fun hc => ?_)
      · have hf := it_f hc hf
        exact j_X12_tagged_82 B _ _ hrec hk88 hf  w (lv_sub hl [0, 1, 2, 3, 4] rfl)
      · have hf := it_t hc hf
        refine lv_iload_n hx hb dX12_tagged_55 rfl (lv_at hl 3 rfl) ?_
        refine lv_iload_n hx hb dX12_tagged_56 rfl (lv_at hl 2 rfl) ?_
        refine lv_if_ne (tgt := 64) hx hb dX12_tagged_57 (by decide) (fun hc => ?_) (fun hc => ?_)
        · have hf := it_f hc hf
          refine lv_aload_n hx hb dX12_tagged_64 rfl (lv_at hl 0 rfl) ?_
          refine lv_iload hx hb dX12_tagged_65 (lv_at hl 4 rfl) ?_
          refine lv_iload_n hx hb dX12_tagged_67 rfl (lv_at hl 2 rfl) ?_
          refine lv_iconst (v := 1) hx hb dX12_tagged_68 (by decide) ?_
          refine lv_icmp_ne (tgt := 76) hx hb dX12_tagged_69 (by decide) (fun hc => ?_) (fun hc => ?_)
          · have hf := it_f hc hf
            refine lv_iconst (v := 5) hx hb dX12_tagged_76 (by decide) ?_
            exact j_X12_tagged_77 B _ _ hrec hk88 hf  w (lv_sub hl [0, 1, 2, 4] rfl)
          · have hf := it_t hc hf
            refine lv_iconst (v := 2) hx hb dX12_tagged_72 (by decide) ?_
            refine lv_goto (tgt := 77) hx hb dX12_tagged_73 (by decide) ?_
            exact j_X12_tagged_77 B _ _ hrec hk88 hf  w (lv_sub hl [0, 1, 2, 4] rfl)
        · have hf := it_t hc hf
          refine lv_iconst (v := 1) hx hb dX12_tagged_60 (by decide) ?_
          refine lv_goto (tgt := 80) hx hb dX12_tagged_61 (by decide) ?_
          exact j_X12_tagged_80 B _ _ hrec hk88 hf  w (lv_sub hl [0, 1, 2, 4] rfl)
noncomputable def F_X12_tagged (N : Nat)  (g : Nat → Int32) (x1 : Int32) (x2 : Int32) : Option (Int32) :=
  bd (F_X12_in x1 0 7) (fun o_1 =>
  if (o_1 = 0 : Prop) then
  some ((-1001))
  else
  bd (F_X12_in x2 0 2) (fun o_2 =>
  if (o_2 = 0 : Prop) then
  some ((-1001))
  else
  L_X12_tagged_28 N (fun x3 => some (x3)) x1 x2 g N 0 0))
set_option maxHeartbeats 4000000 in
set_option maxRecDepth 100000 in
theorem d_X12_tagged (E : mE) (l : Launch) (N : Nat) (h : Nat) (a_g : Nat) (a_kept : Nat) (a_tape : Nat) (a_written : Nat) (a_asked : Nat) (a_there : Nat) (a_counts : Nat) (a_lasts : Nat) (a_cames : Nat)  (g : Nat → Int32) (kept : Nat → Int32) (isKept : Int32) (tape : Nat → Int32) (taped : Int32) (spot : Int32) (written : Nat → Int32) (writtenMany : Int32) (asked : Nat → Int32) (askedMany : Int32) (there : Nat → Int32) (counts : Nat → Int32) (lasts : Nat → Int32) (cames : Nat → Int32)  (x1 : Int32) (x2 : Int32)  (o : Int32) (hf : F_X12_tagged N g x1 x2 = some o) : MX E l yX12_tagged cX12_tagged 5 (some .int) ({ frames := 1, cells := 0, slots := 0, locals := 22 } : Room) [.ref h, .int x1, .int x2] [(h, .inr (11, [.ref a_g, .ref a_kept, .int isKept, .ref a_tape, .int taped, .int spot, .ref a_written, .int writtenMany, .ref a_asked, .int askedMany, .ref a_there, .ref a_counts, .ref a_lasts, .ref a_cames])), (a_g, .inl (E.2.1, 8787, .inl g)), (a_kept, .inl (E.2.1, 8787, .inl kept)), (a_tape, .inl (E.2.2.1, 60, .inl tape)), (a_written, .inl (E.2.1, 40, .inl written)), (a_asked, .inl (E.2.1, 60, .inl asked)), (a_there, .inl (E.2.1, 12, .inl there)), (a_counts, .inl (E.2.1, 12, .inl counts)), (a_lasts, .inl (E.2.1, 12, .inl lasts)), (a_cames, .inl (E.2.1, 12, .inl cames))] (po_X12_tagged E h a_g a_kept a_tape a_written a_asked a_there a_counts a_lasts a_cames g kept isKept tape taped spot written writtenMany asked askedMany there counts lasts cames o) := by
  refine mx_intro (by decide +kernel) (Nat.le_of_ble_eq_true rfl) ?_
  intro p e s m args below meth c A Q ls B w hl
  obtain ⟨hx, hb, hml, hown, hts⟩ := id B.1
  unfold F_X12_tagged at hf
  have hl : lv_has ls 5 [(0, .ref h), (1, .int x1), (2, .int x2)] := hl
  refine lv_iload_n hx hb dX12_tagged_0 rfl (lv_at hl 1 rfl) ?_
  refine lv_iconst (v := 0) hx hb dX12_tagged_1 (by decide) ?_
  refine lv_bipush (v := 7) hx hb dX12_tagged_2 (by decide) ?_
  obtain ⟨o_1, hq, hf⟩ := bd_e hf
  refine mx_callS (As := [.int x1, .int 0, .int 7]) (rest := []) (wr := [(h, .inr (11, [.ref a_g, .ref a_kept, .int isKept, .ref a_tape, .int taped, .int spot, .ref a_written, .int writtenMany, .ref a_asked, .int askedMany, .ref a_there, .ref a_counts, .ref a_lasts, .ref a_cames])), (a_g, .inl (E.2.1, 8787, .inl g)), (a_kept, .inl (E.2.1, 8787, .inl kept)), (a_tape, .inl (E.2.2.1, 60, .inl tape)), (a_written, .inl (E.2.1, 40, .inl written)), (a_asked, .inl (E.2.1, 60, .inl asked)), (a_there, .inl (E.2.1, 12, .inl there)), (a_counts, .inl (E.2.1, 12, .inl counts)), (a_lasts, .inl (E.2.1, 12, .inl lasts)), (a_cames, .inl (E.2.1, 12, .inl cames))]) (d_X12_in E l   x1 0 7  o_1 hq) B w [] [0, 1, 2, 3, 4, 5, 6, 7, 8, 9] rfl rfl (by decide) (by decide) (by decide) cs_X12_in kw_1274 3 (by decide +kernel) ⟨Nat.le_of_ble_eq_true rfl, Nat.le_of_ble_eq_true rfl⟩ rfl hl.1 rfl (Nat.le_of_ble_eq_true rfl) dX12_tagged_4 rfl rfl ⟨Nat.zero_le _, Nat.zero_le _⟩ (fun v w' H locs hpo w => ?_)
  clear hq
  obtain ⟨rfl, rfl⟩ := hpo
  have w : mW E A s [(h, .inr (11, [.ref a_g, .ref a_kept, .int isKept, .ref a_tape, .int taped, .int spot, .ref a_written, .int writtenMany, .ref a_asked, .int askedMany, .ref a_there, .ref a_counts, .ref a_lasts, .ref a_cames])), (a_g, .inl (E.2.1, 8787, .inl g)), (a_kept, .inl (E.2.1, 8787, .inl kept)), (a_tape, .inl (E.2.2.1, 60, .inl tape)), (a_written, .inl (E.2.1, 40, .inl written)), (a_asked, .inl (E.2.1, 60, .inl asked)), (a_there, .inl (E.2.1, 12, .inl there)), (a_counts, .inl (E.2.1, 12, .inl counts)), (a_lasts, .inl (E.2.1, 12, .inl lasts)), (a_cames, .inl (E.2.1, 12, .inl cames))] H locs := w
  refine lv_if_eq (tgt := 19) hx hb dX12_tagged_7 (by decide) (fun hc => ?_) (fun hc => ?_)
  · have hf := it_t hc hf
    refine lv_sipush (v := (-1001)) hx hb dX12_tagged_19 (by decide) ?_
    cases hf
    exact mx_iret B w ⟨rfl, rfl⟩ dX12_tagged_22
  · have hf := it_f hc hf
    refine lv_iload_n hx hb dX12_tagged_10 rfl (lv_at hl 2 rfl) ?_
    refine lv_iconst (v := 0) hx hb dX12_tagged_11 (by decide) ?_
    refine lv_iconst (v := 2) hx hb dX12_tagged_12 (by decide) ?_
    obtain ⟨o_2, hq, hf⟩ := bd_e hf
    refine mx_callS (As := [.int x2, .int 0, .int 2]) (rest := []) (wr := [(h, .inr (11, [.ref a_g, .ref a_kept, .int isKept, .ref a_tape, .int taped, .int spot, .ref a_written, .int writtenMany, .ref a_asked, .int askedMany, .ref a_there, .ref a_counts, .ref a_lasts, .ref a_cames])), (a_g, .inl (E.2.1, 8787, .inl g)), (a_kept, .inl (E.2.1, 8787, .inl kept)), (a_tape, .inl (E.2.2.1, 60, .inl tape)), (a_written, .inl (E.2.1, 40, .inl written)), (a_asked, .inl (E.2.1, 60, .inl asked)), (a_there, .inl (E.2.1, 12, .inl there)), (a_counts, .inl (E.2.1, 12, .inl counts)), (a_lasts, .inl (E.2.1, 12, .inl lasts)), (a_cames, .inl (E.2.1, 12, .inl cames))]) (d_X12_in E l   x2 0 2  o_2 hq) B w [] [0, 1, 2, 3, 4, 5, 6, 7, 8, 9] rfl rfl (by decide) (by decide) (by decide) cs_X12_in kw_1274 3 (by decide +kernel) ⟨Nat.le_of_ble_eq_true rfl, Nat.le_of_ble_eq_true rfl⟩ rfl hl.1 rfl (Nat.le_of_ble_eq_true rfl) dX12_tagged_13 rfl rfl ⟨Nat.zero_le _, Nat.zero_le _⟩ (fun v w' H locs hpo w => ?_)
    clear hq
    obtain ⟨rfl, rfl⟩ := hpo
    have w : mW E A s [(h, .inr (11, [.ref a_g, .ref a_kept, .int isKept, .ref a_tape, .int taped, .int spot, .ref a_written, .int writtenMany, .ref a_asked, .int askedMany, .ref a_there, .ref a_counts, .ref a_lasts, .ref a_cames])), (a_g, .inl (E.2.1, 8787, .inl g)), (a_kept, .inl (E.2.1, 8787, .inl kept)), (a_tape, .inl (E.2.2.1, 60, .inl tape)), (a_written, .inl (E.2.1, 40, .inl written)), (a_asked, .inl (E.2.1, 60, .inl asked)), (a_there, .inl (E.2.1, 12, .inl there)), (a_counts, .inl (E.2.1, 12, .inl counts)), (a_lasts, .inl (E.2.1, 12, .inl lasts)), (a_cames, .inl (E.2.1, 12, .inl cames))] H locs := w
    refine lv_if_ne (tgt := 23) hx hb dX12_tagged_16 (by decide) (fun hc => ?_) (fun hc => ?_)
    · have hf := it_f hc hf
      refine lv_iconst (v := 0) hx hb dX12_tagged_23 (by decide) ?_
      refine lv_istore_n (lv' := [(3, .int 0), (0, .ref h), (1, .int x1), (2, .int x2)]) hx hb dX12_tagged_24 rfl hl (by decide) rfl (fun ls hl => ?_)
      refine lv_iconst (v := 0) hx hb dX12_tagged_25 (by decide) ?_
      refine lv_istore (lv' := [(4, .int 0), (3, .int 0), (0, .ref h), (1, .int x1), (2, .int x2)]) hx hb dX12_tagged_26 hl (by decide) rfl (fun ls hl => ?_)
      refine l_X12_tagged_28 B _  ?_ N _ _ _ _ _ hf  w (lv_sub hl [2, 3, 4, 1, 0] rfl)
      · intro x3 H locs ls hf w hl
        refine lv_iload_n hx hb dX12_tagged_88 rfl (lv_at hl 0 rfl) ?_
        cases hf
        exact mx_iret B w ⟨rfl, rfl⟩ dX12_tagged_89
    · have hf := it_t hc hf
      refine lv_sipush (v := (-1001)) hx hb dX12_tagged_19 (by decide) ?_
      cases hf
      exact mx_iret B w ⟨rfl, rfl⟩ dX12_tagged_22
-- X12_sweep
def po_X12_sweep (E : mE) (h : Nat) (a_g : Nat) (a_kept : Nat) (a_tape : Nat) (a_written : Nat) (a_asked : Nat) (a_there : Nat) (a_counts : Nat) (a_lasts : Nat) (a_cames : Nat)  (g : Nat → Int32) (kept : Nat → Int32) (isKept : Int32) (tape : Nat → Int32) (taped : Int32) (spot : Int32) (written : Nat → Int32) (writtenMany : Int32) (asked : Nat → Int32) (askedMany : Int32) (there : Nat → Int32) (counts : Nat → Int32) (lasts : Nat → Int32) (cames : Nat → Int32)  (o : Int32 × (Nat → Int32)) : Option Value → va_W → Prop := (fun (v : Option Value) (w' : va_W) => v = some (.int o.1) ∧ w' = [(h, .inr (11, [.ref a_g, .ref a_kept, .int isKept, .ref a_tape, .int taped, .int spot, .ref a_written, .int writtenMany, .ref a_asked, .int askedMany, .ref a_there, .ref a_counts, .ref a_lasts, .ref a_cames])), (a_g, .inl (E.2.1, 8787, .inl o.2)), (a_kept, .inl (E.2.1, 8787, .inl kept)), (a_tape, .inl (E.2.2.1, 60, .inl tape)), (a_written, .inl (E.2.1, 40, .inl written)), (a_asked, .inl (E.2.1, 60, .inl asked)), (a_there, .inl (E.2.1, 12, .inl there)), (a_counts, .inl (E.2.1, 12, .inl counts)), (a_lasts, .inl (E.2.1, 12, .inl lasts)), (a_cames, .inl (E.2.1, 12, .inl cames))])
noncomputable def F_X12_sweep (N : Nat)  (g : Nat → Int32)  : Option (Int32 × (Nat → Int32)) :=
  bd (F_X12_drops N g 3 0 8) (fun o_1 =>
  some (o_1.1, o_1.2))
set_option maxHeartbeats 4000000 in
set_option maxRecDepth 100000 in
theorem d_X12_sweep (E : mE) (l : Launch) (N : Nat) (h : Nat) (a_g : Nat) (a_kept : Nat) (a_tape : Nat) (a_written : Nat) (a_asked : Nat) (a_there : Nat) (a_counts : Nat) (a_lasts : Nat) (a_cames : Nat)  (g : Nat → Int32) (kept : Nat → Int32) (isKept : Int32) (tape : Nat → Int32) (taped : Int32) (spot : Int32) (written : Nat → Int32) (writtenMany : Int32) (asked : Nat → Int32) (askedMany : Int32) (there : Nat → Int32) (counts : Nat → Int32) (lasts : Nat → Int32) (cames : Nat → Int32)    (o : Int32 × (Nat → Int32)) (hf : F_X12_sweep N g = some o) : MX E l yX12_sweep cX12_sweep 1 (some .int) ({ frames := 7, cells := 0, slots := 0, locals := 162 } : Room) [.ref h] [(h, .inr (11, [.ref a_g, .ref a_kept, .int isKept, .ref a_tape, .int taped, .int spot, .ref a_written, .int writtenMany, .ref a_asked, .int askedMany, .ref a_there, .ref a_counts, .ref a_lasts, .ref a_cames])), (a_g, .inl (E.2.1, 8787, .inl g)), (a_kept, .inl (E.2.1, 8787, .inl kept)), (a_tape, .inl (E.2.2.1, 60, .inl tape)), (a_written, .inl (E.2.1, 40, .inl written)), (a_asked, .inl (E.2.1, 60, .inl asked)), (a_there, .inl (E.2.1, 12, .inl there)), (a_counts, .inl (E.2.1, 12, .inl counts)), (a_lasts, .inl (E.2.1, 12, .inl lasts)), (a_cames, .inl (E.2.1, 12, .inl cames))] (po_X12_sweep E h a_g a_kept a_tape a_written a_asked a_there a_counts a_lasts a_cames g kept isKept tape taped spot written writtenMany asked askedMany there counts lasts cames o) := by
  refine mx_intro (by decide +kernel) (Nat.le_of_ble_eq_true rfl) ?_
  intro p e s m args below meth c A Q ls B w hl
  obtain ⟨hx, hb, hml, hown, hts⟩ := id B.1
  unfold F_X12_sweep at hf
  have hl : lv_has ls 1 [(0, .ref h)] := hl
  refine lv_aload_n hx hb dX12_sweep_0 rfl (lv_at hl 0 rfl) ?_
  refine lv_iconst (v := 3) hx hb dX12_sweep_1 (by decide) ?_
  refine lv_iconst (v := 0) hx hb dX12_sweep_2 (by decide) ?_
  refine lv_bipush (v := 8) hx hb dX12_sweep_3 (by decide) ?_
  obtain ⟨o_1, hq, hf⟩ := bd_e hf
  refine mx_callV (As := [.int 3, .int 0, .int 8]) (rest := []) (wr := []) (d_X12_drops E l N h a_g a_kept a_tape a_written a_asked a_there a_counts a_lasts a_cames g kept isKept tape taped spot written writtenMany asked askedMany there counts lasts cames 3 0 8  o_1 hq) B w [0, 1, 2, 3, 4, 5, 6, 7, 8, 9] [] rfl rfl (by decide) (by decide) (by decide) 0 rfl rfl cv_X12_drops kw_1544 3 (by decide +kernel) ⟨Nat.le_of_ble_eq_true rfl, Nat.le_of_ble_eq_true rfl⟩ rfl hl.1 rfl (Nat.le_of_ble_eq_true rfl) dX12_sweep_5 rfl rfl ⟨Nat.zero_le _, Nat.zero_le _⟩ (fun v w' H locs hpo w => ?_)
  clear hq
  obtain ⟨rfl, rfl⟩ := hpo
  have w : mW E A s [(h, .inr (11, [.ref a_g, .ref a_kept, .int isKept, .ref a_tape, .int taped, .int spot, .ref a_written, .int writtenMany, .ref a_asked, .int askedMany, .ref a_there, .ref a_counts, .ref a_lasts, .ref a_cames])), (a_g, .inl (E.2.1, 8787, .inl o_1.2)), (a_kept, .inl (E.2.1, 8787, .inl kept)), (a_tape, .inl (E.2.2.1, 60, .inl tape)), (a_written, .inl (E.2.1, 40, .inl written)), (a_asked, .inl (E.2.1, 60, .inl asked)), (a_there, .inl (E.2.1, 12, .inl there)), (a_counts, .inl (E.2.1, 12, .inl counts)), (a_lasts, .inl (E.2.1, 12, .inl lasts)), (a_cames, .inl (E.2.1, 12, .inl cames))] H locs := w
  cases hf
  exact mx_iret B w ⟨rfl, rfl⟩ dX12_sweep_8
-- X12_goingAt
def po_X12_goingAt (E : mE) (h : Nat) (a_g : Nat) (a_kept : Nat) (a_tape : Nat) (a_written : Nat) (a_asked : Nat) (a_there : Nat) (a_counts : Nat) (a_lasts : Nat) (a_cames : Nat)  (g : Nat → Int32) (kept : Nat → Int32) (isKept : Int32) (tape : Nat → Int32) (taped : Int32) (spot : Int32) (written : Nat → Int32) (writtenMany : Int32) (asked : Nat → Int32) (askedMany : Int32) (there : Nat → Int32) (counts : Nat → Int32) (lasts : Nat → Int32) (cames : Nat → Int32)  (o : Int32) : Option Value → va_W → Prop := (fun (v : Option Value) (w' : va_W) => v = some (.int o) ∧ w' = [(h, .inr (11, [.ref a_g, .ref a_kept, .int isKept, .ref a_tape, .int taped, .int spot, .ref a_written, .int writtenMany, .ref a_asked, .int askedMany, .ref a_there, .ref a_counts, .ref a_lasts, .ref a_cames])), (a_g, .inl (E.2.1, 8787, .inl g)), (a_kept, .inl (E.2.1, 8787, .inl kept)), (a_tape, .inl (E.2.2.1, 60, .inl tape)), (a_written, .inl (E.2.1, 40, .inl written)), (a_asked, .inl (E.2.1, 60, .inl asked)), (a_there, .inl (E.2.1, 12, .inl there)), (a_counts, .inl (E.2.1, 12, .inl counts)), (a_lasts, .inl (E.2.1, 12, .inl lasts)), (a_cames, .inl (E.2.1, 12, .inl cames))])
noncomputable def J_X12_goingAt_52 (N : Nat)  (rec : Int32 → Int32 → Option (Int32)) (k60 : Int32 → Option (Int32)) (t0 : Int32) (t1 : Int32) (x1 : Int32) (x2 : Int32) (x4 : Int32) (g : Nat → Int32) : Option (Int32) :=
  lt (t0 + t1) (fun x3_3 =>
  lt (x4 + 1) (fun x4_4 =>
  rec x3_3 x4_4))
set_option maxHeartbeats 4000000 in
set_option maxRecDepth 100000 in
theorem j_X12_goingAt_52 {E : mE} {l : Launch} {p : Program} {e : Env} {s : State} {m : MethodId} {args : Array Value} {below : List Frame} {meth : Method} {c : Code} {A : Nat → Prop} {Q : State → Prop} {N : Nat} {h : Nat} {a_g : Nat} {a_kept : Nat} {a_tape : Nat} {a_written : Nat} {a_asked : Nat} {a_there : Nat} {a_counts : Nat} {a_lasts : Nat} {a_cames : Nat}  {g : Nat → Int32} {kept : Nat → Int32} {isKept : Int32} {tape : Nat → Int32} {taped : Int32} {spot : Int32} {written : Nat → Int32} {writtenMany : Int32} {asked : Nat → Int32} {askedMany : Int32} {there : Nat → Int32} {counts : Nat → Int32} {lasts : Nat → Int32} {cames : Nat → Int32}  {o : Int32} (B : mB E yX12_goingAt cX12_goingAt 5 (some .int) 0 0 (po_X12_goingAt E h a_g a_kept a_tape a_written a_asked a_there a_counts a_lasts a_cames g kept isKept tape taped spot written writtenMany asked askedMany there counts lasts cames o) p s m args below meth c A Q) {t0 : Int32} {t1 : Int32} {x1 : Int32} {x2 : Int32} {x4 : Int32}   (rec : Int32 → Int32 → Option (Int32)) (k60 : Int32 → Option (Int32)) (hrec : ∀ (x3 : Int32) (x4 : Int32)   (H : Heap) (locs : List Loc) (ls : Array Slot), rec x3 x4 = some o → mW E A s [(h, .inr (11, [.ref a_g, .ref a_kept, .int isKept, .ref a_tape, .int taped, .int spot, .ref a_written, .int writtenMany, .ref a_asked, .int askedMany, .ref a_there, .ref a_counts, .ref a_lasts, .ref a_cames])), (a_g, .inl (E.2.1, 8787, .inl g)), (a_kept, .inl (E.2.1, 8787, .inl kept)), (a_tape, .inl (E.2.2.1, 60, .inl tape)), (a_written, .inl (E.2.1, 40, .inl written)), (a_asked, .inl (E.2.1, 60, .inl asked)), (a_there, .inl (E.2.1, 12, .inl there)), (a_counts, .inl (E.2.1, 12, .inl counts)), (a_lasts, .inl (E.2.1, 12, .inl lasts)), (a_cames, .inl (E.2.1, 12, .inl cames))] H locs → lv_has ls 5 [(0, .ref h), (1, .int x1), (2, .int x2), (3, .int x3), (4, .int x4)] → W p l e ({ frames := 3, cells := 0, slots := 0, locals := 65 } : Room) s m args below meth c H locs 0 0 Q (F0 m 18 ls [])) (hk60 : ∀ (x3 : Int32)   (H : Heap) (locs : List Loc) (ls : Array Slot), k60 x3 = some o → mW E A s [(h, .inr (11, [.ref a_g, .ref a_kept, .int isKept, .ref a_tape, .int taped, .int spot, .ref a_written, .int writtenMany, .ref a_asked, .int askedMany, .ref a_there, .ref a_counts, .ref a_lasts, .ref a_cames])), (a_g, .inl (E.2.1, 8787, .inl g)), (a_kept, .inl (E.2.1, 8787, .inl kept)), (a_tape, .inl (E.2.2.1, 60, .inl tape)), (a_written, .inl (E.2.1, 40, .inl written)), (a_asked, .inl (E.2.1, 60, .inl asked)), (a_there, .inl (E.2.1, 12, .inl there)), (a_counts, .inl (E.2.1, 12, .inl counts)), (a_lasts, .inl (E.2.1, 12, .inl lasts)), (a_cames, .inl (E.2.1, 12, .inl cames))] H locs → lv_has ls 5 [(0, .ref h), (1, .int x1), (2, .int x2), (3, .int x3)] → W p l e ({ frames := 3, cells := 0, slots := 0, locals := 65 } : Room) s m args below meth c H locs 0 0 Q (F0 m 60 ls [])) {H : Heap} {locs : List Loc} {ls : Array Slot} (hf : J_X12_goingAt_52 N rec k60 t0 t1 x1 x2 x4 g = some o)  (w : mW E A s [(h, .inr (11, [.ref a_g, .ref a_kept, .int isKept, .ref a_tape, .int taped, .int spot, .ref a_written, .int writtenMany, .ref a_asked, .int askedMany, .ref a_there, .ref a_counts, .ref a_lasts, .ref a_cames])), (a_g, .inl (E.2.1, 8787, .inl g)), (a_kept, .inl (E.2.1, 8787, .inl kept)), (a_tape, .inl (E.2.2.1, 60, .inl tape)), (a_written, .inl (E.2.1, 40, .inl written)), (a_asked, .inl (E.2.1, 60, .inl asked)), (a_there, .inl (E.2.1, 12, .inl there)), (a_counts, .inl (E.2.1, 12, .inl counts)), (a_lasts, .inl (E.2.1, 12, .inl lasts)), (a_cames, .inl (E.2.1, 12, .inl cames))] H locs) (hl : lv_has ls 5 [(0, .ref h), (1, .int x1), (2, .int x2), (4, .int x4)]) : W p l e ({ frames := 3, cells := 0, slots := 0, locals := 65 } : Room) s m args below meth c H locs 0 0 Q (F0 m 52 ls [.int t1, .int t0]) := by
  obtain ⟨hx, hb, hml, hown, hts⟩ := id B.1
  unfold J_X12_goingAt_52 at hf
  refine lv_iadd hx hb dX12_goingAt_52 ?_
  refine lv_topi (fun x3_3 ev => ?_)
  have hf := lt_n ev hf; clear ev
  refine lv_istore_n (lv' := [(3, .int x3_3), (0, .ref h), (1, .int x1), (2, .int x2), (4, .int x4)]) hx hb dX12_goingAt_53 rfl hl (by decide) rfl (fun ls hl => ?_)
  obtain ⟨x4_4, ev⟩ : ∃ y : Int32, y = x4 + 1 := ⟨_, rfl⟩
  refine lv_iinc (v := x4_4) (lv' := [(4, .int x4_4), (3, .int x3_3), (0, .ref h), (1, .int x1), (2, .int x2)]) hx hb dX12_goingAt_54 hl (k := 4) rfl (by rw [ev]; rfl) (by decide) rfl (fun ls hl => ?_)
  have hf := lt_n ev hf; clear ev
  refine lv_goto (tgt := 18) hx hb dX12_goingAt_57 (by decide) ?_
  exact hrec _ _ _ _ _ hf  w (lv_sub hl [2, 3, 4, 1, 0] rfl)
noncomputable def J_X12_goingAt_51 (N : Nat)  (rec : Int32 → Int32 → Option (Int32)) (k60 : Int32 → Option (Int32)) (t0 : Int32) (x1 : Int32) (x2 : Int32) (x4 : Int32) (g : Nat → Int32) : Option (Int32) :=
  J_X12_goingAt_52 N rec k60 t0 0 x1 x2 x4 g
set_option maxHeartbeats 4000000 in
set_option maxRecDepth 100000 in
theorem j_X12_goingAt_51 {E : mE} {l : Launch} {p : Program} {e : Env} {s : State} {m : MethodId} {args : Array Value} {below : List Frame} {meth : Method} {c : Code} {A : Nat → Prop} {Q : State → Prop} {N : Nat} {h : Nat} {a_g : Nat} {a_kept : Nat} {a_tape : Nat} {a_written : Nat} {a_asked : Nat} {a_there : Nat} {a_counts : Nat} {a_lasts : Nat} {a_cames : Nat}  {g : Nat → Int32} {kept : Nat → Int32} {isKept : Int32} {tape : Nat → Int32} {taped : Int32} {spot : Int32} {written : Nat → Int32} {writtenMany : Int32} {asked : Nat → Int32} {askedMany : Int32} {there : Nat → Int32} {counts : Nat → Int32} {lasts : Nat → Int32} {cames : Nat → Int32}  {o : Int32} (B : mB E yX12_goingAt cX12_goingAt 5 (some .int) 0 0 (po_X12_goingAt E h a_g a_kept a_tape a_written a_asked a_there a_counts a_lasts a_cames g kept isKept tape taped spot written writtenMany asked askedMany there counts lasts cames o) p s m args below meth c A Q) {t0 : Int32} {x1 : Int32} {x2 : Int32} {x4 : Int32}   (rec : Int32 → Int32 → Option (Int32)) (k60 : Int32 → Option (Int32)) (hrec : ∀ (x3 : Int32) (x4 : Int32)   (H : Heap) (locs : List Loc) (ls : Array Slot), rec x3 x4 = some o → mW E A s [(h, .inr (11, [.ref a_g, .ref a_kept, .int isKept, .ref a_tape, .int taped, .int spot, .ref a_written, .int writtenMany, .ref a_asked, .int askedMany, .ref a_there, .ref a_counts, .ref a_lasts, .ref a_cames])), (a_g, .inl (E.2.1, 8787, .inl g)), (a_kept, .inl (E.2.1, 8787, .inl kept)), (a_tape, .inl (E.2.2.1, 60, .inl tape)), (a_written, .inl (E.2.1, 40, .inl written)), (a_asked, .inl (E.2.1, 60, .inl asked)), (a_there, .inl (E.2.1, 12, .inl there)), (a_counts, .inl (E.2.1, 12, .inl counts)), (a_lasts, .inl (E.2.1, 12, .inl lasts)), (a_cames, .inl (E.2.1, 12, .inl cames))] H locs → lv_has ls 5 [(0, .ref h), (1, .int x1), (2, .int x2), (3, .int x3), (4, .int x4)] → W p l e ({ frames := 3, cells := 0, slots := 0, locals := 65 } : Room) s m args below meth c H locs 0 0 Q (F0 m 18 ls [])) (hk60 : ∀ (x3 : Int32)   (H : Heap) (locs : List Loc) (ls : Array Slot), k60 x3 = some o → mW E A s [(h, .inr (11, [.ref a_g, .ref a_kept, .int isKept, .ref a_tape, .int taped, .int spot, .ref a_written, .int writtenMany, .ref a_asked, .int askedMany, .ref a_there, .ref a_counts, .ref a_lasts, .ref a_cames])), (a_g, .inl (E.2.1, 8787, .inl g)), (a_kept, .inl (E.2.1, 8787, .inl kept)), (a_tape, .inl (E.2.2.1, 60, .inl tape)), (a_written, .inl (E.2.1, 40, .inl written)), (a_asked, .inl (E.2.1, 60, .inl asked)), (a_there, .inl (E.2.1, 12, .inl there)), (a_counts, .inl (E.2.1, 12, .inl counts)), (a_lasts, .inl (E.2.1, 12, .inl lasts)), (a_cames, .inl (E.2.1, 12, .inl cames))] H locs → lv_has ls 5 [(0, .ref h), (1, .int x1), (2, .int x2), (3, .int x3)] → W p l e ({ frames := 3, cells := 0, slots := 0, locals := 65 } : Room) s m args below meth c H locs 0 0 Q (F0 m 60 ls [])) {H : Heap} {locs : List Loc} {ls : Array Slot} (hf : J_X12_goingAt_51 N rec k60 t0 x1 x2 x4 g = some o)  (w : mW E A s [(h, .inr (11, [.ref a_g, .ref a_kept, .int isKept, .ref a_tape, .int taped, .int spot, .ref a_written, .int writtenMany, .ref a_asked, .int askedMany, .ref a_there, .ref a_counts, .ref a_lasts, .ref a_cames])), (a_g, .inl (E.2.1, 8787, .inl g)), (a_kept, .inl (E.2.1, 8787, .inl kept)), (a_tape, .inl (E.2.2.1, 60, .inl tape)), (a_written, .inl (E.2.1, 40, .inl written)), (a_asked, .inl (E.2.1, 60, .inl asked)), (a_there, .inl (E.2.1, 12, .inl there)), (a_counts, .inl (E.2.1, 12, .inl counts)), (a_lasts, .inl (E.2.1, 12, .inl lasts)), (a_cames, .inl (E.2.1, 12, .inl cames))] H locs) (hl : lv_has ls 5 [(0, .ref h), (1, .int x1), (2, .int x2), (4, .int x4)]) : W p l e ({ frames := 3, cells := 0, slots := 0, locals := 65 } : Room) s m args below meth c H locs 0 0 Q (F0 m 51 ls [.int t0]) := by
  obtain ⟨hx, hb, hml, hown, hts⟩ := id B.1
  unfold J_X12_goingAt_51 at hf
  refine lv_iconst (v := 0) hx hb dX12_goingAt_51 (by decide) ?_
  exact j_X12_goingAt_52 B _ _ hrec hk60 hf  w (lv_sub hl [0, 1, 2, 3] rfl)
noncomputable def K_X12_goingAt_18 (N : Nat)  (rec : Int32 → Int32 → Option (Int32)) (k60 : Int32 → Option (Int32)) (x1 : Int32) (x2 : Int32) (g : Nat → Int32) (x3 : Int32) (x4 : Int32)  : Option (Int32) :=
  ld g 8787 13 (fun v_2 =>
  if (v_2 ≤ x4 : Prop) then
  k60 x3
  else
  if (x4 = x2 : Prop) then
  J_X12_goingAt_51 N rec k60 x3 x1 x2 x4 g
  else
  bd (F_X12_isSooner g x4 x2) (fun o_5 =>
  if (o_5 = 0 : Prop) then
  J_X12_goingAt_51 N rec k60 x3 x1 x2 x4 g
  else
  J_X12_goingAt_52 N rec k60 x3 1 x1 x2 x4 g))
noncomputable def L_X12_goingAt_18 (N : Nat)  (k60 : Int32 → Option (Int32)) (x1 : Int32) (x2 : Int32) (g : Nat → Int32) (n : Nat) : Int32 → Int32 → Option (Int32) :=
  Nat.rec (motive := fun _ => Int32 → Int32 → Option (Int32)) (fun _ _ => none) (fun _ rec => K_X12_goingAt_18 N rec k60 x1 x2 g) n
set_option maxHeartbeats 4000000 in
set_option maxRecDepth 100000 in
theorem l_X12_goingAt_18 {E : mE} {l : Launch} {p : Program} {e : Env} {s : State} {m : MethodId} {args : Array Value} {below : List Frame} {meth : Method} {c : Code} {A : Nat → Prop} {Q : State → Prop} {N : Nat} {h : Nat} {a_g : Nat} {a_kept : Nat} {a_tape : Nat} {a_written : Nat} {a_asked : Nat} {a_there : Nat} {a_counts : Nat} {a_lasts : Nat} {a_cames : Nat}  {g : Nat → Int32} {kept : Nat → Int32} {isKept : Int32} {tape : Nat → Int32} {taped : Int32} {spot : Int32} {written : Nat → Int32} {writtenMany : Int32} {asked : Nat → Int32} {askedMany : Int32} {there : Nat → Int32} {counts : Nat → Int32} {lasts : Nat → Int32} {cames : Nat → Int32}  {o : Int32} (B : mB E yX12_goingAt cX12_goingAt 5 (some .int) 0 0 (po_X12_goingAt E h a_g a_kept a_tape a_written a_asked a_there a_counts a_lasts a_cames g kept isKept tape taped spot written writtenMany asked askedMany there counts lasts cames o) p s m args below meth c A Q)   {x1 : Int32} {x2 : Int32} (k60 : Int32 → Option (Int32))  (hk60 : ∀ (x3 : Int32)   (H : Heap) (locs : List Loc) (ls : Array Slot), k60 x3 = some o → mW E A s [(h, .inr (11, [.ref a_g, .ref a_kept, .int isKept, .ref a_tape, .int taped, .int spot, .ref a_written, .int writtenMany, .ref a_asked, .int askedMany, .ref a_there, .ref a_counts, .ref a_lasts, .ref a_cames])), (a_g, .inl (E.2.1, 8787, .inl g)), (a_kept, .inl (E.2.1, 8787, .inl kept)), (a_tape, .inl (E.2.2.1, 60, .inl tape)), (a_written, .inl (E.2.1, 40, .inl written)), (a_asked, .inl (E.2.1, 60, .inl asked)), (a_there, .inl (E.2.1, 12, .inl there)), (a_counts, .inl (E.2.1, 12, .inl counts)), (a_lasts, .inl (E.2.1, 12, .inl lasts)), (a_cames, .inl (E.2.1, 12, .inl cames))] H locs → lv_has ls 5 [(0, .ref h), (1, .int x1), (2, .int x2), (3, .int x3)] → W p l e ({ frames := 3, cells := 0, slots := 0, locals := 65 } : Room) s m args below meth c H locs 0 0 Q (F0 m 60 ls [])) : ∀ n : Nat, ∀ (x3 : Int32) (x4 : Int32)   (H : Heap) (locs : List Loc) (ls : Array Slot), L_X12_goingAt_18 N k60 x1 x2 g n x3 x4 = some o → mW E A s [(h, .inr (11, [.ref a_g, .ref a_kept, .int isKept, .ref a_tape, .int taped, .int spot, .ref a_written, .int writtenMany, .ref a_asked, .int askedMany, .ref a_there, .ref a_counts, .ref a_lasts, .ref a_cames])), (a_g, .inl (E.2.1, 8787, .inl g)), (a_kept, .inl (E.2.1, 8787, .inl kept)), (a_tape, .inl (E.2.2.1, 60, .inl tape)), (a_written, .inl (E.2.1, 40, .inl written)), (a_asked, .inl (E.2.1, 60, .inl asked)), (a_there, .inl (E.2.1, 12, .inl there)), (a_counts, .inl (E.2.1, 12, .inl counts)), (a_lasts, .inl (E.2.1, 12, .inl lasts)), (a_cames, .inl (E.2.1, 12, .inl cames))] H locs → lv_has ls 5 [(0, .ref h), (1, .int x1), (2, .int x2), (3, .int x3), (4, .int x4)] → W p l e ({ frames := 3, cells := 0, slots := 0, locals := 65 } : Room) s m args below meth c H locs 0 0 Q (F0 m 18 ls []) := by
  obtain ⟨hx, hb, hml, hown, hts⟩ := id B.1
  intro n
  induction n with
  | zero =>
    intro x3 x4 H locs ls hf w hl
    exact nomatch hf
  | succ n hrec =>
    intro x3 x4 H locs ls hf w hl
    have hf : K_X12_goingAt_18 N (L_X12_goingAt_18 N k60 x1 x2 g n) k60 x1 x2 g x3 x4 = some o := hf
    unfold K_X12_goingAt_18 at hf
    refine lv_iload hx hb dX12_goingAt_18 (lv_at hl 4 rfl) ?_
    refine lv_aload_n hx hb dX12_goingAt_20 rfl (lv_at hl 0 rfl) ?_
    refine mx_get B w 0 fl_X12_9 rfl rfl dX12_goingAt_21 ?_
    refine lv_bipush (v := 13) hx hb dX12_goingAt_24 (by decide) ?_
    obtain ⟨hin, hf⟩ := ld_e hf
    refine mx_iald B w 1 rfl hin dX12_goingAt_26 (fun v_2 ev => ?_)
    have hf := hf _ ev; clear ev
    refine lv_icmp_ge (tgt := 60) hx hb dX12_goingAt_27 (by decide) (fun hc => ?_) (fun hc => ?_)
    · have hf := it_t hc hf
      exact hk60 _ _ _ _ hf  w (lv_sub hl [0, 1, 2, 3] rfl)
    · have hf := it_f hc hf
      refine lv_iload_n hx hb dX12_goingAt_30 rfl (lv_at hl 3 rfl) ?_
      refine lv_iload hx hb dX12_goingAt_31 (lv_at hl 4 rfl) ?_
      refine lv_iload_n hx hb dX12_goingAt_33 rfl (lv_at hl 2 rfl) ?_
      refine lv_icmp_eq (tgt := 51) hx hb dX12_goingAt_34 (by decide) (fun hc => ?_) (fun hc => ?_)
      · have hf := it_t hc hf
        exact j_X12_goingAt_51 B _ _ hrec hk60 hf  w (lv_sub hl [0, 1, 2, 4] rfl)
      · have hf := it_f hc hf
        refine lv_aload_n hx hb dX12_goingAt_37 rfl (lv_at hl 0 rfl) ?_
        refine lv_iload hx hb dX12_goingAt_38 (lv_at hl 4 rfl) ?_
        refine lv_iload_n hx hb dX12_goingAt_40 rfl (lv_at hl 2 rfl) ?_
        obtain ⟨o_5, hq, hf⟩ := bd_e hf
        refine mx_callV (As := [.int x4, .int x2]) (rest := [.int x3]) (wr := []) (d_X12_isSooner E l  h a_g a_kept a_tape a_written a_asked a_there a_counts a_lasts a_cames g kept isKept tape taped spot written writtenMany asked askedMany there counts lasts cames x4 x2  o_5 hq) B w [0, 1, 2, 3, 4, 5, 6, 7, 8, 9] [] rfl rfl (by decide) (by decide) (by decide) 0 rfl rfl cv_X12_isSooner kw_1333 2 (by decide +kernel) ⟨Nat.le_of_ble_eq_true rfl, Nat.le_of_ble_eq_true rfl⟩ rfl hl.1 rfl (Nat.le_of_ble_eq_true rfl) dX12_goingAt_41 rfl rfl ⟨Nat.zero_le _, Nat.zero_le _⟩ (fun v w' H locs hpo w => ?_)
        clear hq
        obtain ⟨rfl, rfl⟩ := hpo
        have w : mW E A s [(h, .inr (11, [.ref a_g, .ref a_kept, .int isKept, .ref a_tape, .int taped, .int spot, .ref a_written, .int writtenMany, .ref a_asked, .int askedMany, .ref a_there, .ref a_counts, .ref a_lasts, .ref a_cames])), (a_g, .inl (E.2.1, 8787, .inl g)), (a_kept, .inl (E.2.1, 8787, .inl kept)), (a_tape, .inl (E.2.2.1, 60, .inl tape)), (a_written, .inl (E.2.1, 40, .inl written)), (a_asked, .inl (E.2.1, 60, .inl asked)), (a_there, .inl (E.2.1, 12, .inl there)), (a_counts, .inl (E.2.1, 12, .inl counts)), (a_lasts, .inl (E.2.1, 12, .inl lasts)), (a_cames, .inl (E.2.1, 12, .inl cames))] H locs := w
        refine lv_if_eq (tgt := 51) hx hb dX12_goingAt_44 (by decide) (fun hc => ?_) (fun hc => ?_)
        · have hf := it_t hc hf
          exact j_X12_goingAt_51 B _ _ hrec hk60 hf  w (lv_sub hl [0, 1, 2, 4] rfl)
        · have hf := it_f hc hf
          refine lv_iconst (v := 1) hx hb dX12_goingAt_47 (by decide) ?_
          refine lv_goto (tgt := 52) hx hb dX12_goingAt_48 (by decide) ?_
          exact j_X12_goingAt_52 B _ _ hrec hk60 hf  w (lv_sub hl [0, 1, 2, 4] rfl)
noncomputable def K_X12_goingAt_2 (N : Nat)  (rec : Int32 → Option (Int32)) (k73 : Unit → Option (Int32)) (k65 : Int32 → Option (Int32)) (x1 : Int32) (g : Nat → Int32) (x2 : Int32)  : Option (Int32) :=
  ld g 8787 13 (fun v_1 =>
  if (v_1 ≤ x2 : Prop) then
  k73 ()
  else
  L_X12_goingAt_18 N (fun x3 => if (x3 = x1 : Prop) then
  k65 x2
  else
  lt (x2 + 1) (fun x2_6 =>
  rec x2_6)) x1 x2 g N 0 0)
noncomputable def L_X12_goingAt_2 (N : Nat)  (k73 : Unit → Option (Int32)) (k65 : Int32 → Option (Int32)) (x1 : Int32) (g : Nat → Int32) (n : Nat) : Int32 → Option (Int32) :=
  Nat.rec (motive := fun _ => Int32 → Option (Int32)) (fun _ => none) (fun _ rec => K_X12_goingAt_2 N rec k73 k65 x1 g) n
set_option maxHeartbeats 4000000 in
set_option maxRecDepth 100000 in
theorem l_X12_goingAt_2 {E : mE} {l : Launch} {p : Program} {e : Env} {s : State} {m : MethodId} {args : Array Value} {below : List Frame} {meth : Method} {c : Code} {A : Nat → Prop} {Q : State → Prop} {N : Nat} {h : Nat} {a_g : Nat} {a_kept : Nat} {a_tape : Nat} {a_written : Nat} {a_asked : Nat} {a_there : Nat} {a_counts : Nat} {a_lasts : Nat} {a_cames : Nat}  {g : Nat → Int32} {kept : Nat → Int32} {isKept : Int32} {tape : Nat → Int32} {taped : Int32} {spot : Int32} {written : Nat → Int32} {writtenMany : Int32} {asked : Nat → Int32} {askedMany : Int32} {there : Nat → Int32} {counts : Nat → Int32} {lasts : Nat → Int32} {cames : Nat → Int32}  {o : Int32} (B : mB E yX12_goingAt cX12_goingAt 5 (some .int) 0 0 (po_X12_goingAt E h a_g a_kept a_tape a_written a_asked a_there a_counts a_lasts a_cames g kept isKept tape taped spot written writtenMany asked askedMany there counts lasts cames o) p s m args below meth c A Q)   {x1 : Int32} (k73 : Unit → Option (Int32)) (k65 : Int32 → Option (Int32))  (hk73 : ∀    (H : Heap) (locs : List Loc) (ls : Array Slot), k73 () = some o → mW E A s [(h, .inr (11, [.ref a_g, .ref a_kept, .int isKept, .ref a_tape, .int taped, .int spot, .ref a_written, .int writtenMany, .ref a_asked, .int askedMany, .ref a_there, .ref a_counts, .ref a_lasts, .ref a_cames])), (a_g, .inl (E.2.1, 8787, .inl g)), (a_kept, .inl (E.2.1, 8787, .inl kept)), (a_tape, .inl (E.2.2.1, 60, .inl tape)), (a_written, .inl (E.2.1, 40, .inl written)), (a_asked, .inl (E.2.1, 60, .inl asked)), (a_there, .inl (E.2.1, 12, .inl there)), (a_counts, .inl (E.2.1, 12, .inl counts)), (a_lasts, .inl (E.2.1, 12, .inl lasts)), (a_cames, .inl (E.2.1, 12, .inl cames))] H locs → lv_has ls 5 [] → W p l e ({ frames := 3, cells := 0, slots := 0, locals := 65 } : Room) s m args below meth c H locs 0 0 Q (F0 m 73 ls [])) (hk65 : ∀ (x2 : Int32)   (H : Heap) (locs : List Loc) (ls : Array Slot), k65 x2 = some o → mW E A s [(h, .inr (11, [.ref a_g, .ref a_kept, .int isKept, .ref a_tape, .int taped, .int spot, .ref a_written, .int writtenMany, .ref a_asked, .int askedMany, .ref a_there, .ref a_counts, .ref a_lasts, .ref a_cames])), (a_g, .inl (E.2.1, 8787, .inl g)), (a_kept, .inl (E.2.1, 8787, .inl kept)), (a_tape, .inl (E.2.2.1, 60, .inl tape)), (a_written, .inl (E.2.1, 40, .inl written)), (a_asked, .inl (E.2.1, 60, .inl asked)), (a_there, .inl (E.2.1, 12, .inl there)), (a_counts, .inl (E.2.1, 12, .inl counts)), (a_lasts, .inl (E.2.1, 12, .inl lasts)), (a_cames, .inl (E.2.1, 12, .inl cames))] H locs → lv_has ls 5 [(2, .int x2)] → W p l e ({ frames := 3, cells := 0, slots := 0, locals := 65 } : Room) s m args below meth c H locs 0 0 Q (F0 m 65 ls [])) : ∀ n : Nat, ∀ (x2 : Int32)   (H : Heap) (locs : List Loc) (ls : Array Slot), L_X12_goingAt_2 N k73 k65 x1 g n x2 = some o → mW E A s [(h, .inr (11, [.ref a_g, .ref a_kept, .int isKept, .ref a_tape, .int taped, .int spot, .ref a_written, .int writtenMany, .ref a_asked, .int askedMany, .ref a_there, .ref a_counts, .ref a_lasts, .ref a_cames])), (a_g, .inl (E.2.1, 8787, .inl g)), (a_kept, .inl (E.2.1, 8787, .inl kept)), (a_tape, .inl (E.2.2.1, 60, .inl tape)), (a_written, .inl (E.2.1, 40, .inl written)), (a_asked, .inl (E.2.1, 60, .inl asked)), (a_there, .inl (E.2.1, 12, .inl there)), (a_counts, .inl (E.2.1, 12, .inl counts)), (a_lasts, .inl (E.2.1, 12, .inl lasts)), (a_cames, .inl (E.2.1, 12, .inl cames))] H locs → lv_has ls 5 [(0, .ref h), (1, .int x1), (2, .int x2)] → W p l e ({ frames := 3, cells := 0, slots := 0, locals := 65 } : Room) s m args below meth c H locs 0 0 Q (F0 m 2 ls []) := by
  obtain ⟨hx, hb, hml, hown, hts⟩ := id B.1
  intro n
  induction n with
  | zero =>
    intro x2 H locs ls hf w hl
    exact nomatch hf
  | succ n hrec =>
    intro x2 H locs ls hf w hl
    have hf : K_X12_goingAt_2 N (L_X12_goingAt_2 N k73 k65 x1 g n) k73 k65 x1 g x2 = some o := hf
    unfold K_X12_goingAt_2 at hf
    refine lv_iload_n hx hb dX12_goingAt_2 rfl (lv_at hl 2 rfl) ?_
    refine lv_aload_n hx hb dX12_goingAt_3 rfl (lv_at hl 0 rfl) ?_
    refine mx_get B w 0 fl_X12_9 rfl rfl dX12_goingAt_4 ?_
    refine lv_bipush (v := 13) hx hb dX12_goingAt_7 (by decide) ?_
    obtain ⟨hin, hf⟩ := ld_e hf
    refine mx_iald B w 1 rfl hin dX12_goingAt_9 (fun v_1 ev => ?_)
    have hf := hf _ ev; clear ev
    refine lv_icmp_ge (tgt := 73) hx hb dX12_goingAt_10 (by decide) (fun hc => ?_) (fun hc => ?_)
    · have hf := it_t hc hf
      exact hk73 _ _ _ hf  w (lv_sub hl [] rfl)
    · have hf := it_f hc hf
      refine lv_iconst (v := 0) hx hb dX12_goingAt_13 (by decide) ?_
      refine lv_istore_n (lv' := [(3, .int 0), (0, .ref h), (1, .int x1), (2, .int x2)]) hx hb dX12_goingAt_14 rfl hl (by decide) rfl (fun ls hl => ?_)
      refine lv_iconst (v := 0) hx hb dX12_goingAt_15 (by decide) ?_
      refine lv_istore (lv' := [(4, .int 0), (3, .int 0), (0, .ref h), (1, .int x1), (2, .int x2)]) hx hb dX12_goingAt_16 hl (by decide) rfl (fun ls hl => ?_)
      refine l_X12_goingAt_18 B _  ?_ N _ _ _ _ _ hf  w (lv_sub hl [2, 3, 4, 1, 0] rfl)
      · intro x3 H locs ls hf w hl
        refine lv_iload_n hx hb dX12_goingAt_60 rfl (lv_at hl 3 rfl) ?_
        refine lv_iload_n hx hb dX12_goingAt_61 rfl (lv_at hl 1 rfl) ?_
        refine lv_icmp_ne (tgt := 67) hx hb dX12_goingAt_62 (by decide) (fun hc => ?_) (fun hc => ?_)
        · have hf := it_f hc hf
          obtain ⟨x2_6, ev⟩ : ∃ y : Int32, y = x2 + 1 := ⟨_, rfl⟩
          refine lv_iinc (v := x2_6) (lv' := [(2, .int x2_6), (0, .ref h), (1, .int x1), (3, .int x3)]) hx hb dX12_goingAt_67 hl (k := 2) rfl (by rw [ev]; rfl) (by decide) rfl (fun ls hl => ?_)
          have hf := lt_n ev hf; clear ev
          refine lv_goto (tgt := 2) hx hb dX12_goingAt_70 (by decide) ?_
          exact hrec _ _ _ _ hf  w (lv_sub hl [1, 2, 0] rfl)
        · have hf := it_t hc hf
          exact hk65 _ _ _ _ hf  w (lv_sub hl [2] rfl)
noncomputable def F_X12_goingAt (N : Nat)  (g : Nat → Int32) (x1 : Int32) : Option (Int32) :=
  L_X12_goingAt_2 N (fun _ => some ((-1))) (fun x2 => some (x2)) x1 g N 0
set_option maxHeartbeats 4000000 in
set_option maxRecDepth 100000 in
theorem d_X12_goingAt (E : mE) (l : Launch) (N : Nat) (h : Nat) (a_g : Nat) (a_kept : Nat) (a_tape : Nat) (a_written : Nat) (a_asked : Nat) (a_there : Nat) (a_counts : Nat) (a_lasts : Nat) (a_cames : Nat)  (g : Nat → Int32) (kept : Nat → Int32) (isKept : Int32) (tape : Nat → Int32) (taped : Int32) (spot : Int32) (written : Nat → Int32) (writtenMany : Int32) (asked : Nat → Int32) (askedMany : Int32) (there : Nat → Int32) (counts : Nat → Int32) (lasts : Nat → Int32) (cames : Nat → Int32)  (x1 : Int32)  (o : Int32) (hf : F_X12_goingAt N g x1 = some o) : MX E l yX12_goingAt cX12_goingAt 5 (some .int) ({ frames := 3, cells := 0, slots := 0, locals := 65 } : Room) [.ref h, .int x1] [(h, .inr (11, [.ref a_g, .ref a_kept, .int isKept, .ref a_tape, .int taped, .int spot, .ref a_written, .int writtenMany, .ref a_asked, .int askedMany, .ref a_there, .ref a_counts, .ref a_lasts, .ref a_cames])), (a_g, .inl (E.2.1, 8787, .inl g)), (a_kept, .inl (E.2.1, 8787, .inl kept)), (a_tape, .inl (E.2.2.1, 60, .inl tape)), (a_written, .inl (E.2.1, 40, .inl written)), (a_asked, .inl (E.2.1, 60, .inl asked)), (a_there, .inl (E.2.1, 12, .inl there)), (a_counts, .inl (E.2.1, 12, .inl counts)), (a_lasts, .inl (E.2.1, 12, .inl lasts)), (a_cames, .inl (E.2.1, 12, .inl cames))] (po_X12_goingAt E h a_g a_kept a_tape a_written a_asked a_there a_counts a_lasts a_cames g kept isKept tape taped spot written writtenMany asked askedMany there counts lasts cames o) := by
  refine mx_intro (by decide +kernel) (Nat.le_of_ble_eq_true rfl) ?_
  intro p e s m args below meth c A Q ls B w hl
  obtain ⟨hx, hb, hml, hown, hts⟩ := id B.1
  unfold F_X12_goingAt at hf
  have hl : lv_has ls 5 [(0, .ref h), (1, .int x1)] := hl
  refine lv_iconst (v := 0) hx hb dX12_goingAt_0 (by decide) ?_
  refine lv_istore_n (lv' := [(2, .int 0), (0, .ref h), (1, .int x1)]) hx hb dX12_goingAt_1 rfl hl (by decide) rfl (fun ls hl => ?_)
  refine l_X12_goingAt_2 B _ _  ?_ ?_ N _ _ _ _ hf  w (lv_sub hl [1, 2, 0] rfl)
  · intro H locs ls hf w hl
    refine lv_iconst (v := (-1)) hx hb dX12_goingAt_73 (by decide) ?_
    cases hf
    exact mx_iret B w ⟨rfl, rfl⟩ dX12_goingAt_74
  · intro x2 H locs ls hf w hl
    refine lv_iload_n hx hb dX12_goingAt_65 rfl (lv_at hl 0 rfl) ?_
    cases hf
    exact mx_iret B w ⟨rfl, rfl⟩ dX12_goingAt_66
-- X12_toGo
def po_X12_toGo (E : mE) (h : Nat) (a_g : Nat) (a_kept : Nat) (a_tape : Nat) (a_written : Nat) (a_asked : Nat) (a_there : Nat) (a_counts : Nat) (a_lasts : Nat) (a_cames : Nat)  (g : Nat → Int32) (kept : Nat → Int32) (isKept : Int32) (tape : Nat → Int32) (taped : Int32) (spot : Int32) (written : Nat → Int32) (writtenMany : Int32) (asked : Nat → Int32) (askedMany : Int32) (there : Nat → Int32) (counts : Nat → Int32) (lasts : Nat → Int32) (cames : Nat → Int32)  (o : Int32) : Option Value → va_W → Prop := (fun (v : Option Value) (w' : va_W) => v = some (.int o) ∧ w' = [(h, .inr (11, [.ref a_g, .ref a_kept, .int isKept, .ref a_tape, .int taped, .int spot, .ref a_written, .int writtenMany, .ref a_asked, .int askedMany, .ref a_there, .ref a_counts, .ref a_lasts, .ref a_cames])), (a_g, .inl (E.2.1, 8787, .inl g)), (a_kept, .inl (E.2.1, 8787, .inl kept)), (a_tape, .inl (E.2.2.1, 60, .inl tape)), (a_written, .inl (E.2.1, 40, .inl written)), (a_asked, .inl (E.2.1, 60, .inl asked)), (a_there, .inl (E.2.1, 12, .inl there)), (a_counts, .inl (E.2.1, 12, .inl counts)), (a_lasts, .inl (E.2.1, 12, .inl lasts)), (a_cames, .inl (E.2.1, 12, .inl cames))])
noncomputable def F_X12_toGo (N : Nat)  (g : Nat → Int32) (x1 : Int32) (x2 : Int32) : Option (Int32) :=
  if (x1 < 0 : Prop) then
  some ((-1001))
  else
  if (((-2)) ≤ x2 : Prop) then
  bd (F_X12_goingAt N g x1) (fun o_1 =>
  if (0 ≤ o_1 : Prop) then
  if (x2 = ((-2)) : Prop) then
  bd (F_X12_at g o_1 5) (fun o_4 =>
  some (o_4))
  else
  bd (F_X12_at g o_1 0) (fun o_2 =>
  bd (F_X12_keyTells N o_2 x2) (fun o_3 =>
  some (o_3)))
  else
  some ((-1003)))
  else
  some ((-1001))
set_option maxHeartbeats 4000000 in
set_option maxRecDepth 100000 in
theorem d_X12_toGo (E : mE) (l : Launch) (N : Nat) (h : Nat) (a_g : Nat) (a_kept : Nat) (a_tape : Nat) (a_written : Nat) (a_asked : Nat) (a_there : Nat) (a_counts : Nat) (a_lasts : Nat) (a_cames : Nat)  (g : Nat → Int32) (kept : Nat → Int32) (isKept : Int32) (tape : Nat → Int32) (taped : Int32) (spot : Int32) (written : Nat → Int32) (writtenMany : Int32) (asked : Nat → Int32) (askedMany : Int32) (there : Nat → Int32) (counts : Nat → Int32) (lasts : Nat → Int32) (cames : Nat → Int32)  (x1 : Int32) (x2 : Int32)  (o : Int32) (hf : F_X12_toGo N g x1 x2 = some o) : MX E l yX12_toGo cX12_toGo 4 (some .int) ({ frames := 4, cells := 0, slots := 0, locals := 89 } : Room) [.ref h, .int x1, .int x2] [(h, .inr (11, [.ref a_g, .ref a_kept, .int isKept, .ref a_tape, .int taped, .int spot, .ref a_written, .int writtenMany, .ref a_asked, .int askedMany, .ref a_there, .ref a_counts, .ref a_lasts, .ref a_cames])), (a_g, .inl (E.2.1, 8787, .inl g)), (a_kept, .inl (E.2.1, 8787, .inl kept)), (a_tape, .inl (E.2.2.1, 60, .inl tape)), (a_written, .inl (E.2.1, 40, .inl written)), (a_asked, .inl (E.2.1, 60, .inl asked)), (a_there, .inl (E.2.1, 12, .inl there)), (a_counts, .inl (E.2.1, 12, .inl counts)), (a_lasts, .inl (E.2.1, 12, .inl lasts)), (a_cames, .inl (E.2.1, 12, .inl cames))] (po_X12_toGo E h a_g a_kept a_tape a_written a_asked a_there a_counts a_lasts a_cames g kept isKept tape taped spot written writtenMany asked askedMany there counts lasts cames o) := by
  refine mx_intro (by decide +kernel) (Nat.le_of_ble_eq_true rfl) ?_
  intro p e s m args below meth c A Q ls B w hl
  obtain ⟨hx, hb, hml, hown, hts⟩ := id B.1
  unfold F_X12_toGo at hf
  have hl : lv_has ls 4 [(0, .ref h), (1, .int x1), (2, .int x2)] := hl
  refine lv_iload_n hx hb dX12_toGo_0 rfl (lv_at hl 1 rfl) ?_
  refine lv_if_lt (tgt := 10) hx hb dX12_toGo_1 (by decide) (fun hc => ?_) (fun hc => ?_)
  · have hf := it_t hc hf
    refine lv_sipush (v := (-1001)) hx hb dX12_toGo_10 (by decide) ?_
    cases hf
    exact mx_iret B w ⟨rfl, rfl⟩ dX12_toGo_13
  · have hf := it_f hc hf
    refine lv_iload_n hx hb dX12_toGo_4 rfl (lv_at hl 2 rfl) ?_
    refine lv_bipush (v := (-2)) hx hb dX12_toGo_5 (by decide) ?_
    refine lv_icmp_ge (tgt := 14) hx hb dX12_toGo_7 (by decide) (fun hc => ?_) (fun hc => ?_)
    · have hf := it_t hc hf
      refine lv_aload_n hx hb dX12_toGo_14 rfl (lv_at hl 0 rfl) ?_
      refine lv_iload_n hx hb dX12_toGo_15 rfl (lv_at hl 1 rfl) ?_
      obtain ⟨o_1, hq, hf⟩ := bd_e hf
      refine mx_callV (As := [.int x1]) (rest := []) (wr := []) (d_X12_goingAt E l N h a_g a_kept a_tape a_written a_asked a_there a_counts a_lasts a_cames g kept isKept tape taped spot written writtenMany asked askedMany there counts lasts cames x1  o_1 hq) B w [0, 1, 2, 3, 4, 5, 6, 7, 8, 9] [] rfl rfl (by decide) (by decide) (by decide) 0 rfl rfl cv_X12_goingAt kw_1575 1 (by decide +kernel) ⟨Nat.le_of_ble_eq_true rfl, Nat.le_of_ble_eq_true rfl⟩ rfl hl.1 rfl (Nat.le_of_ble_eq_true rfl) dX12_toGo_16 rfl rfl ⟨Nat.zero_le _, Nat.zero_le _⟩ (fun v w' H locs hpo w => ?_)
      clear hq
      obtain ⟨rfl, rfl⟩ := hpo
      have w : mW E A s [(h, .inr (11, [.ref a_g, .ref a_kept, .int isKept, .ref a_tape, .int taped, .int spot, .ref a_written, .int writtenMany, .ref a_asked, .int askedMany, .ref a_there, .ref a_counts, .ref a_lasts, .ref a_cames])), (a_g, .inl (E.2.1, 8787, .inl g)), (a_kept, .inl (E.2.1, 8787, .inl kept)), (a_tape, .inl (E.2.2.1, 60, .inl tape)), (a_written, .inl (E.2.1, 40, .inl written)), (a_asked, .inl (E.2.1, 60, .inl asked)), (a_there, .inl (E.2.1, 12, .inl there)), (a_counts, .inl (E.2.1, 12, .inl counts)), (a_lasts, .inl (E.2.1, 12, .inl lasts)), (a_cames, .inl (E.2.1, 12, .inl cames))] H locs := w
      refine lv_istore_n (lv' := [(3, .int o_1), (0, .ref h), (1, .int x1), (2, .int x2)]) hx hb dX12_toGo_19 rfl hl (by decide) rfl (fun ls hl => ?_)
      refine lv_iload_n hx hb dX12_toGo_20 rfl (lv_at hl 0 rfl) ?_
      refine lv_if_ge (tgt := 28) hx hb dX12_toGo_21 (by decide) (fun hc => ?_) (fun hc => ?_)
      · have hf := it_t hc hf
        refine lv_iload_n hx hb dX12_toGo_28 rfl (lv_at hl 3 rfl) ?_
        refine lv_bipush (v := (-2)) hx hb dX12_toGo_29 (by decide) ?_
        refine lv_icmp_ne (tgt := 43) hx hb dX12_toGo_31 (by decide) (fun hc => ?_) (fun hc => ?_)
        · have hf := it_f hc hf
          refine lv_aload_n hx hb dX12_toGo_43 rfl (lv_at hl 1 rfl) ?_
          refine lv_iload_n hx hb dX12_toGo_44 rfl (lv_at hl 0 rfl) ?_
          refine lv_iconst (v := 0) hx hb dX12_toGo_45 (by decide) ?_
          obtain ⟨o_2, hq, hf⟩ := bd_e hf
          refine mx_callV (As := [.int o_1, .int 0]) (rest := []) (wr := []) (d_X12_at E l  h a_g a_kept a_tape a_written a_asked a_there a_counts a_lasts a_cames g kept isKept tape taped spot written writtenMany asked askedMany there counts lasts cames o_1 0  o_2 hq) B w [0, 1, 2, 3, 4, 5, 6, 7, 8, 9] [] rfl rfl (by decide) (by decide) (by decide) 0 rfl rfl cv_X12_at kw_1325 2 (by decide +kernel) ⟨Nat.le_of_ble_eq_true rfl, Nat.le_of_ble_eq_true rfl⟩ rfl hl.1 rfl (Nat.le_of_ble_eq_true rfl) dX12_toGo_46 rfl rfl ⟨Nat.zero_le _, Nat.zero_le _⟩ (fun v w' H locs hpo w => ?_)
          clear hq
          obtain ⟨rfl, rfl⟩ := hpo
          have w : mW E A s [(h, .inr (11, [.ref a_g, .ref a_kept, .int isKept, .ref a_tape, .int taped, .int spot, .ref a_written, .int writtenMany, .ref a_asked, .int askedMany, .ref a_there, .ref a_counts, .ref a_lasts, .ref a_cames])), (a_g, .inl (E.2.1, 8787, .inl g)), (a_kept, .inl (E.2.1, 8787, .inl kept)), (a_tape, .inl (E.2.2.1, 60, .inl tape)), (a_written, .inl (E.2.1, 40, .inl written)), (a_asked, .inl (E.2.1, 60, .inl asked)), (a_there, .inl (E.2.1, 12, .inl there)), (a_counts, .inl (E.2.1, 12, .inl counts)), (a_lasts, .inl (E.2.1, 12, .inl lasts)), (a_cames, .inl (E.2.1, 12, .inl cames))] H locs := w
          refine lv_iload_n hx hb dX12_toGo_49 rfl (lv_at hl 3 rfl) ?_
          obtain ⟨o_3, hq, hf⟩ := bd_e hf
          refine mx_callS (As := [.int o_2, .int x2]) (rest := []) (wr := [(h, .inr (11, [.ref a_g, .ref a_kept, .int isKept, .ref a_tape, .int taped, .int spot, .ref a_written, .int writtenMany, .ref a_asked, .int askedMany, .ref a_there, .ref a_counts, .ref a_lasts, .ref a_cames])), (a_g, .inl (E.2.1, 8787, .inl g)), (a_kept, .inl (E.2.1, 8787, .inl kept)), (a_tape, .inl (E.2.2.1, 60, .inl tape)), (a_written, .inl (E.2.1, 40, .inl written)), (a_asked, .inl (E.2.1, 60, .inl asked)), (a_there, .inl (E.2.1, 12, .inl there)), (a_counts, .inl (E.2.1, 12, .inl counts)), (a_lasts, .inl (E.2.1, 12, .inl lasts)), (a_cames, .inl (E.2.1, 12, .inl cames))]) (d_X12_keyTells E l N  o_2 x2  o_3 hq) B w [] [0, 1, 2, 3, 4, 5, 6, 7, 8, 9] rfl rfl (by decide) (by decide) (by decide) cs_X12_keyTells kw_1450 2 (by decide +kernel) ⟨Nat.le_of_ble_eq_true rfl, Nat.le_of_ble_eq_true rfl⟩ rfl hl.1 rfl (Nat.le_of_ble_eq_true rfl) dX12_toGo_50 rfl rfl ⟨Nat.zero_le _, Nat.zero_le _⟩ (fun v w' H locs hpo w => ?_)
          clear hq
          obtain ⟨rfl, rfl⟩ := hpo
          have w : mW E A s [(h, .inr (11, [.ref a_g, .ref a_kept, .int isKept, .ref a_tape, .int taped, .int spot, .ref a_written, .int writtenMany, .ref a_asked, .int askedMany, .ref a_there, .ref a_counts, .ref a_lasts, .ref a_cames])), (a_g, .inl (E.2.1, 8787, .inl g)), (a_kept, .inl (E.2.1, 8787, .inl kept)), (a_tape, .inl (E.2.2.1, 60, .inl tape)), (a_written, .inl (E.2.1, 40, .inl written)), (a_asked, .inl (E.2.1, 60, .inl asked)), (a_there, .inl (E.2.1, 12, .inl there)), (a_counts, .inl (E.2.1, 12, .inl counts)), (a_lasts, .inl (E.2.1, 12, .inl lasts)), (a_cames, .inl (E.2.1, 12, .inl cames))] H locs := w
          cases hf
          exact mx_iret B w ⟨rfl, rfl⟩ dX12_toGo_53
        · have hf := it_t hc hf
          refine lv_aload_n hx hb dX12_toGo_34 rfl (lv_at hl 1 rfl) ?_
          refine lv_iload_n hx hb dX12_toGo_35 rfl (lv_at hl 0 rfl) ?_
          refine lv_iconst (v := 5) hx hb dX12_toGo_36 (by decide) ?_
          obtain ⟨o_4, hq, hf⟩ := bd_e hf
          refine mx_callV (As := [.int o_1, .int 5]) (rest := []) (wr := []) (d_X12_at E l  h a_g a_kept a_tape a_written a_asked a_there a_counts a_lasts a_cames g kept isKept tape taped spot written writtenMany asked askedMany there counts lasts cames o_1 5  o_4 hq) B w [0, 1, 2, 3, 4, 5, 6, 7, 8, 9] [] rfl rfl (by decide) (by decide) (by decide) 0 rfl rfl cv_X12_at kw_1325 2 (by decide +kernel) ⟨Nat.le_of_ble_eq_true rfl, Nat.le_of_ble_eq_true rfl⟩ rfl hl.1 rfl (Nat.le_of_ble_eq_true rfl) dX12_toGo_37 rfl rfl ⟨Nat.zero_le _, Nat.zero_le _⟩ (fun v w' H locs hpo w => ?_)
          clear hq
          obtain ⟨rfl, rfl⟩ := hpo
          have w : mW E A s [(h, .inr (11, [.ref a_g, .ref a_kept, .int isKept, .ref a_tape, .int taped, .int spot, .ref a_written, .int writtenMany, .ref a_asked, .int askedMany, .ref a_there, .ref a_counts, .ref a_lasts, .ref a_cames])), (a_g, .inl (E.2.1, 8787, .inl g)), (a_kept, .inl (E.2.1, 8787, .inl kept)), (a_tape, .inl (E.2.2.1, 60, .inl tape)), (a_written, .inl (E.2.1, 40, .inl written)), (a_asked, .inl (E.2.1, 60, .inl asked)), (a_there, .inl (E.2.1, 12, .inl there)), (a_counts, .inl (E.2.1, 12, .inl counts)), (a_lasts, .inl (E.2.1, 12, .inl lasts)), (a_cames, .inl (E.2.1, 12, .inl cames))] H locs := w
          refine lv_goto (tgt := 53) hx hb dX12_toGo_40 (by decide) ?_
          cases hf
          exact mx_iret B w ⟨rfl, rfl⟩ dX12_toGo_53
      · have hf := it_f hc hf
        refine lv_sipush (v := (-1003)) hx hb dX12_toGo_24 (by decide) ?_
        cases hf
        exact mx_iret B w ⟨rfl, rfl⟩ dX12_toGo_27
    · have hf := it_f hc hf
      refine lv_sipush (v := (-1001)) hx hb dX12_toGo_10 (by decide) ?_
      cases hf
      exact mx_iret B w ⟨rfl, rfl⟩ dX12_toGo_13
-- X12_would
def po_X12_would (E : mE) (h : Nat) (a_g : Nat) (a_kept : Nat) (a_tape : Nat) (a_written : Nat) (a_asked : Nat) (a_there : Nat) (a_counts : Nat) (a_lasts : Nat) (a_cames : Nat)  (g : Nat → Int32) (kept : Nat → Int32) (isKept : Int32) (tape : Nat → Int32) (taped : Int32) (spot : Int32) (written : Nat → Int32) (writtenMany : Int32) (asked : Nat → Int32) (askedMany : Int32) (there : Nat → Int32) (counts : Nat → Int32) (lasts : Nat → Int32) (cames : Nat → Int32)  (o : Int32 × Int32 × Int32) : Option Value → va_W → Prop := (fun (v : Option Value) (w' : va_W) => v = some (.int o.1) ∧ w' = [(h, .inr (11, [.ref a_g, .ref a_kept, .int isKept, .ref a_tape, .int o.2.1, .int o.2.2, .ref a_written, .int writtenMany, .ref a_asked, .int askedMany, .ref a_there, .ref a_counts, .ref a_lasts, .ref a_cames])), (a_g, .inl (E.2.1, 8787, .inl g)), (a_kept, .inl (E.2.1, 8787, .inl kept)), (a_tape, .inl (E.2.2.1, 60, .inl tape)), (a_written, .inl (E.2.1, 40, .inl written)), (a_asked, .inl (E.2.1, 60, .inl asked)), (a_there, .inl (E.2.1, 12, .inl there)), (a_counts, .inl (E.2.1, 12, .inl counts)), (a_lasts, .inl (E.2.1, 12, .inl lasts)), (a_cames, .inl (E.2.1, 12, .inl cames))])
noncomputable def J_X12_would_132 (N : Nat)  (rec : Int32 → Int32 → Int32 → Option (Int32 × Int32 × Int32)) (k138 : Int32 → Option (Int32 × Int32 × Int32)) (x3 : Int32) (x4 : Int32) (x5 : Int32) (x6 : Int32) (g : Nat → Int32) (tape : Nat → Int32) (taped : Int32) (spot : Int32) : Option (Int32 × Int32 × Int32) :=
  lt (x6 + 1) (fun x6_10 =>
  rec x4 x5 x6_10)
set_option maxHeartbeats 4000000 in
set_option maxRecDepth 100000 in
theorem j_X12_would_132 {E : mE} {l : Launch} {p : Program} {e : Env} {s : State} {m : MethodId} {args : Array Value} {below : List Frame} {meth : Method} {c : Code} {A : Nat → Prop} {Q : State → Prop} {N : Nat} {h : Nat} {a_g : Nat} {a_kept : Nat} {a_tape : Nat} {a_written : Nat} {a_asked : Nat} {a_there : Nat} {a_counts : Nat} {a_lasts : Nat} {a_cames : Nat}  {g : Nat → Int32} {kept : Nat → Int32} {isKept : Int32} {tape : Nat → Int32} {taped0 : Int32} {spot0 : Int32} {written : Nat → Int32} {writtenMany : Int32} {asked : Nat → Int32} {askedMany : Int32} {there : Nat → Int32} {counts : Nat → Int32} {lasts : Nat → Int32} {cames : Nat → Int32}  {o : Int32 × Int32 × Int32} (B : mB E yX12_would cX12_would 8 (some .int) 0 0 (po_X12_would E h a_g a_kept a_tape a_written a_asked a_there a_counts a_lasts a_cames g kept isKept tape taped0 spot0 written writtenMany asked askedMany there counts lasts cames o) p s m args below meth c A Q) {x3 : Int32} {x4 : Int32} {x5 : Int32} {x6 : Int32} {taped : Int32} {spot : Int32}  (rec : Int32 → Int32 → Int32 → Option (Int32 × Int32 × Int32)) (k138 : Int32 → Option (Int32 × Int32 × Int32)) (hrec : ∀ (x4 : Int32) (x5 : Int32) (x6 : Int32)   (H : Heap) (locs : List Loc) (ls : Array Slot), rec x4 x5 x6 = some o → mW E A s [(h, .inr (11, [.ref a_g, .ref a_kept, .int isKept, .ref a_tape, .int taped, .int spot, .ref a_written, .int writtenMany, .ref a_asked, .int askedMany, .ref a_there, .ref a_counts, .ref a_lasts, .ref a_cames])), (a_g, .inl (E.2.1, 8787, .inl g)), (a_kept, .inl (E.2.1, 8787, .inl kept)), (a_tape, .inl (E.2.2.1, 60, .inl tape)), (a_written, .inl (E.2.1, 40, .inl written)), (a_asked, .inl (E.2.1, 60, .inl asked)), (a_there, .inl (E.2.1, 12, .inl there)), (a_counts, .inl (E.2.1, 12, .inl counts)), (a_lasts, .inl (E.2.1, 12, .inl lasts)), (a_cames, .inl (E.2.1, 12, .inl cames))] H locs → lv_has ls 8 [(0, .ref h), (3, .int x3), (4, .int x4), (5, .int x5), (6, .int x6)] → W p l e ({ frames := 6, cells := 0, slots := 0, locals := 135 } : Room) s m args below meth c H locs 0 0 Q (F0 m 92 ls [])) (hk138 : ∀ (x5 : Int32)   (H : Heap) (locs : List Loc) (ls : Array Slot), k138 x5 = some o → mW E A s [(h, .inr (11, [.ref a_g, .ref a_kept, .int isKept, .ref a_tape, .int taped, .int spot, .ref a_written, .int writtenMany, .ref a_asked, .int askedMany, .ref a_there, .ref a_counts, .ref a_lasts, .ref a_cames])), (a_g, .inl (E.2.1, 8787, .inl g)), (a_kept, .inl (E.2.1, 8787, .inl kept)), (a_tape, .inl (E.2.2.1, 60, .inl tape)), (a_written, .inl (E.2.1, 40, .inl written)), (a_asked, .inl (E.2.1, 60, .inl asked)), (a_there, .inl (E.2.1, 12, .inl there)), (a_counts, .inl (E.2.1, 12, .inl counts)), (a_lasts, .inl (E.2.1, 12, .inl lasts)), (a_cames, .inl (E.2.1, 12, .inl cames))] H locs → lv_has ls 8 [(5, .int x5)] → W p l e ({ frames := 6, cells := 0, slots := 0, locals := 135 } : Room) s m args below meth c H locs 0 0 Q (F0 m 138 ls [])) {H : Heap} {locs : List Loc} {ls : Array Slot} (hf : J_X12_would_132 N rec k138 x3 x4 x5 x6 g tape taped spot = some o)  (w : mW E A s [(h, .inr (11, [.ref a_g, .ref a_kept, .int isKept, .ref a_tape, .int taped, .int spot, .ref a_written, .int writtenMany, .ref a_asked, .int askedMany, .ref a_there, .ref a_counts, .ref a_lasts, .ref a_cames])), (a_g, .inl (E.2.1, 8787, .inl g)), (a_kept, .inl (E.2.1, 8787, .inl kept)), (a_tape, .inl (E.2.2.1, 60, .inl tape)), (a_written, .inl (E.2.1, 40, .inl written)), (a_asked, .inl (E.2.1, 60, .inl asked)), (a_there, .inl (E.2.1, 12, .inl there)), (a_counts, .inl (E.2.1, 12, .inl counts)), (a_lasts, .inl (E.2.1, 12, .inl lasts)), (a_cames, .inl (E.2.1, 12, .inl cames))] H locs) (hl : lv_has ls 8 [(0, .ref h), (3, .int x3), (4, .int x4), (5, .int x5), (6, .int x6)]) : W p l e ({ frames := 6, cells := 0, slots := 0, locals := 135 } : Room) s m args below meth c H locs 0 0 Q (F0 m 132 ls []) := by
  obtain ⟨hx, hb, hml, hown, hts⟩ := id B.1
  unfold J_X12_would_132 at hf
  obtain ⟨x6_10, ev⟩ : ∃ y : Int32, y = x6 + 1 := ⟨_, rfl⟩
  refine lv_iinc (v := x6_10) (lv' := [(6, .int x6_10), (0, .ref h), (3, .int x3), (4, .int x4), (5, .int x5)]) hx hb dX12_would_132 hl (k := 4) rfl (by rw [ev]; rfl) (by decide) rfl (fun ls hl => ?_)
  have hf := lt_n ev hf; clear ev
  refine lv_goto (tgt := 92) hx hb dX12_would_135 (by decide) ?_
  exact hrec _ _ _ _ _ _ hf  w (lv_sub hl [1, 2, 3, 4, 0] rfl)
noncomputable def K_X12_would_92 (N : Nat)  (rec : Int32 → Int32 → Int32 → Option (Int32 × Int32 × Int32)) (k138 : Int32 → Option (Int32 × Int32 × Int32)) (x3 : Int32) (g : Nat → Int32) (tape : Nat → Int32) (taped : Int32) (spot : Int32) (x4 : Int32) (x5 : Int32) (x6 : Int32)  : Option (Int32 × Int32 × Int32) :=
  ld g 8787 0 (fun v_8 =>
  if (x4 ≤ v_8 : Prop) then
  k138 x5
  else
  bd (F_X12_goingAt N g x6) (fun o_9 =>
  if (o_9 = x3 : Prop) then
  J_X12_would_132 N rec k138 x3 x4 x5 x6 g tape taped spot
  else
  bd (F_X12_at g o_9 2) (fun o_11 =>
  lt (x4 - o_11) (fun x4_12 =>
  lt (x5 + 1) (fun x5_13 =>
  J_X12_would_132 N rec k138 x3 x4_12 x5_13 x6 g tape taped spot)))))
noncomputable def L_X12_would_92 (N : Nat)  (k138 : Int32 → Option (Int32 × Int32 × Int32)) (x3 : Int32) (g : Nat → Int32) (tape : Nat → Int32) (taped : Int32) (spot : Int32) (n : Nat) : Int32 → Int32 → Int32 → Option (Int32 × Int32 × Int32) :=
  Nat.rec (motive := fun _ => Int32 → Int32 → Int32 → Option (Int32 × Int32 × Int32)) (fun _ _ _ => none) (fun _ rec => K_X12_would_92 N rec k138 x3 g tape taped spot) n
set_option maxHeartbeats 4000000 in
set_option maxRecDepth 100000 in
theorem l_X12_would_92 {E : mE} {l : Launch} {p : Program} {e : Env} {s : State} {m : MethodId} {args : Array Value} {below : List Frame} {meth : Method} {c : Code} {A : Nat → Prop} {Q : State → Prop} {N : Nat} {h : Nat} {a_g : Nat} {a_kept : Nat} {a_tape : Nat} {a_written : Nat} {a_asked : Nat} {a_there : Nat} {a_counts : Nat} {a_lasts : Nat} {a_cames : Nat}  {g : Nat → Int32} {kept : Nat → Int32} {isKept : Int32} {tape : Nat → Int32} {taped0 : Int32} {spot0 : Int32} {written : Nat → Int32} {writtenMany : Int32} {asked : Nat → Int32} {askedMany : Int32} {there : Nat → Int32} {counts : Nat → Int32} {lasts : Nat → Int32} {cames : Nat → Int32}  {o : Int32 × Int32 × Int32} (B : mB E yX12_would cX12_would 8 (some .int) 0 0 (po_X12_would E h a_g a_kept a_tape a_written a_asked a_there a_counts a_lasts a_cames g kept isKept tape taped0 spot0 written writtenMany asked askedMany there counts lasts cames o) p s m args below meth c A Q) {taped : Int32} {spot : Int32}  {x3 : Int32} (k138 : Int32 → Option (Int32 × Int32 × Int32))  (hk138 : ∀ (x5 : Int32)   (H : Heap) (locs : List Loc) (ls : Array Slot), k138 x5 = some o → mW E A s [(h, .inr (11, [.ref a_g, .ref a_kept, .int isKept, .ref a_tape, .int taped, .int spot, .ref a_written, .int writtenMany, .ref a_asked, .int askedMany, .ref a_there, .ref a_counts, .ref a_lasts, .ref a_cames])), (a_g, .inl (E.2.1, 8787, .inl g)), (a_kept, .inl (E.2.1, 8787, .inl kept)), (a_tape, .inl (E.2.2.1, 60, .inl tape)), (a_written, .inl (E.2.1, 40, .inl written)), (a_asked, .inl (E.2.1, 60, .inl asked)), (a_there, .inl (E.2.1, 12, .inl there)), (a_counts, .inl (E.2.1, 12, .inl counts)), (a_lasts, .inl (E.2.1, 12, .inl lasts)), (a_cames, .inl (E.2.1, 12, .inl cames))] H locs → lv_has ls 8 [(5, .int x5)] → W p l e ({ frames := 6, cells := 0, slots := 0, locals := 135 } : Room) s m args below meth c H locs 0 0 Q (F0 m 138 ls [])) : ∀ n : Nat, ∀ (x4 : Int32) (x5 : Int32) (x6 : Int32)   (H : Heap) (locs : List Loc) (ls : Array Slot), L_X12_would_92 N k138 x3 g tape taped spot n x4 x5 x6 = some o → mW E A s [(h, .inr (11, [.ref a_g, .ref a_kept, .int isKept, .ref a_tape, .int taped, .int spot, .ref a_written, .int writtenMany, .ref a_asked, .int askedMany, .ref a_there, .ref a_counts, .ref a_lasts, .ref a_cames])), (a_g, .inl (E.2.1, 8787, .inl g)), (a_kept, .inl (E.2.1, 8787, .inl kept)), (a_tape, .inl (E.2.2.1, 60, .inl tape)), (a_written, .inl (E.2.1, 40, .inl written)), (a_asked, .inl (E.2.1, 60, .inl asked)), (a_there, .inl (E.2.1, 12, .inl there)), (a_counts, .inl (E.2.1, 12, .inl counts)), (a_lasts, .inl (E.2.1, 12, .inl lasts)), (a_cames, .inl (E.2.1, 12, .inl cames))] H locs → lv_has ls 8 [(0, .ref h), (3, .int x3), (4, .int x4), (5, .int x5), (6, .int x6)] → W p l e ({ frames := 6, cells := 0, slots := 0, locals := 135 } : Room) s m args below meth c H locs 0 0 Q (F0 m 92 ls []) := by
  obtain ⟨hx, hb, hml, hown, hts⟩ := id B.1
  intro n
  induction n with
  | zero =>
    intro x4 x5 x6 H locs ls hf w hl
    exact nomatch hf
  | succ n hrec =>
    intro x4 x5 x6 H locs ls hf w hl
    have hf : K_X12_would_92 N (L_X12_would_92 N k138 x3 g tape taped spot n) k138 x3 g tape taped spot x4 x5 x6 = some o := hf
    unfold K_X12_would_92 at hf
    refine lv_iload hx hb dX12_would_92 (lv_at hl 2 rfl) ?_
    refine lv_aload_n hx hb dX12_would_94 rfl (lv_at hl 0 rfl) ?_
    refine mx_get B w 0 fl_X12_9 rfl rfl dX12_would_95 ?_
    refine lv_iconst (v := 0) hx hb dX12_would_98 (by decide) ?_
    obtain ⟨hin, hf⟩ := ld_e hf
    refine mx_iald B w 1 rfl hin dX12_would_99 (fun v_8 ev => ?_)
    have hf := hf _ ev; clear ev
    refine lv_icmp_le (tgt := 138) hx hb dX12_would_100 (by decide) (fun hc => ?_) (fun hc => ?_)
    · have hf := it_t hc hf
      exact hk138 _ _ _ _ hf  w (lv_sub hl [3] rfl)
    · have hf := it_f hc hf
      refine lv_aload_n hx hb dX12_would_103 rfl (lv_at hl 0 rfl) ?_
      refine lv_iload hx hb dX12_would_104 (lv_at hl 4 rfl) ?_
      obtain ⟨o_9, hq, hf⟩ := bd_e hf
      refine mx_callV (As := [.int x6]) (rest := []) (wr := []) (d_X12_goingAt E l N h a_g a_kept a_tape a_written a_asked a_there a_counts a_lasts a_cames g kept isKept tape taped spot written writtenMany asked askedMany there counts lasts cames x6  o_9 hq) B w [0, 1, 2, 3, 4, 5, 6, 7, 8, 9] [] rfl rfl (by decide) (by decide) (by decide) 0 rfl rfl cv_X12_goingAt kw_1575 1 (by decide +kernel) ⟨Nat.le_of_ble_eq_true rfl, Nat.le_of_ble_eq_true rfl⟩ rfl hl.1 rfl (Nat.le_of_ble_eq_true rfl) dX12_would_106 rfl rfl ⟨Nat.zero_le _, Nat.zero_le _⟩ (fun v w' H locs hpo w => ?_)
      clear hq
      obtain ⟨rfl, rfl⟩ := hpo
      have w : mW E A s [(h, .inr (11, [.ref a_g, .ref a_kept, .int isKept, .ref a_tape, .int taped, .int spot, .ref a_written, .int writtenMany, .ref a_asked, .int askedMany, .ref a_there, .ref a_counts, .ref a_lasts, .ref a_cames])), (a_g, .inl (E.2.1, 8787, .inl g)), (a_kept, .inl (E.2.1, 8787, .inl kept)), (a_tape, .inl (E.2.2.1, 60, .inl tape)), (a_written, .inl (E.2.1, 40, .inl written)), (a_asked, .inl (E.2.1, 60, .inl asked)), (a_there, .inl (E.2.1, 12, .inl there)), (a_counts, .inl (E.2.1, 12, .inl counts)), (a_lasts, .inl (E.2.1, 12, .inl lasts)), (a_cames, .inl (E.2.1, 12, .inl cames))] H locs := w
      refine lv_istore (lv' := [(7, .int o_9), (0, .ref h), (3, .int x3), (4, .int x4), (5, .int x5), (6, .int x6)]) hx hb dX12_would_109 hl (by decide) rfl (fun ls hl => ?_)
      refine lv_iload hx hb dX12_would_111 (lv_at hl 0 rfl) ?_
      refine lv_iload_n hx hb dX12_would_113 rfl (lv_at hl 2 rfl) ?_
      refine lv_icmp_eq (tgt := 132) hx hb dX12_would_114 (by decide) (fun hc => ?_) (fun hc => ?_)
      · have hf := it_t hc hf
        exact j_X12_would_132 B _ _ hrec hk138 hf  w (lv_sub hl [1, 2, 3, 4, 5] rfl)
      · have hf := it_f hc hf
        refine lv_iload hx hb dX12_would_117 (lv_at hl 3 rfl) ?_
        refine lv_aload_n hx hb dX12_would_119 rfl (lv_at hl 1 rfl) ?_
        refine lv_iload hx hb dX12_would_120 (lv_at hl 0 rfl) ?_
        refine lv_iconst (v := 2) hx hb dX12_would_122 (by decide) ?_
        obtain ⟨o_11, hq, hf⟩ := bd_e hf
        refine mx_callV (As := [.int o_9, .int 2]) (rest := [.int x4]) (wr := []) (d_X12_at E l  h a_g a_kept a_tape a_written a_asked a_there a_counts a_lasts a_cames g kept isKept tape taped spot written writtenMany asked askedMany there counts lasts cames o_9 2  o_11 hq) B w [0, 1, 2, 3, 4, 5, 6, 7, 8, 9] [] rfl rfl (by decide) (by decide) (by decide) 0 rfl rfl cv_X12_at kw_1325 2 (by decide +kernel) ⟨Nat.le_of_ble_eq_true rfl, Nat.le_of_ble_eq_true rfl⟩ rfl hl.1 rfl (Nat.le_of_ble_eq_true rfl) dX12_would_123 rfl rfl ⟨Nat.zero_le _, Nat.zero_le _⟩ (fun v w' H locs hpo w => ?_)
        clear hq
        obtain ⟨rfl, rfl⟩ := hpo
        have w : mW E A s [(h, .inr (11, [.ref a_g, .ref a_kept, .int isKept, .ref a_tape, .int taped, .int spot, .ref a_written, .int writtenMany, .ref a_asked, .int askedMany, .ref a_there, .ref a_counts, .ref a_lasts, .ref a_cames])), (a_g, .inl (E.2.1, 8787, .inl g)), (a_kept, .inl (E.2.1, 8787, .inl kept)), (a_tape, .inl (E.2.2.1, 60, .inl tape)), (a_written, .inl (E.2.1, 40, .inl written)), (a_asked, .inl (E.2.1, 60, .inl asked)), (a_there, .inl (E.2.1, 12, .inl there)), (a_counts, .inl (E.2.1, 12, .inl counts)), (a_lasts, .inl (E.2.1, 12, .inl lasts)), (a_cames, .inl (E.2.1, 12, .inl cames))] H locs := w
        refine lv_isub hx hb dX12_would_126 ?_
        refine lv_topi (fun x4_12 ev => ?_)
        have hf := lt_n ev hf; clear ev
        refine lv_istore (lv' := [(4, .int x4_12), (7, .int o_9), (0, .ref h), (3, .int x3), (5, .int x5), (6, .int x6)]) hx hb dX12_would_127 hl (by decide) rfl (fun ls hl => ?_)
        obtain ⟨x5_13, ev⟩ : ∃ y : Int32, y = x5 + 1 := ⟨_, rfl⟩
        refine lv_iinc (v := x5_13) (lv' := [(5, .int x5_13), (4, .int x4_12), (7, .int o_9), (0, .ref h), (3, .int x3), (6, .int x6)]) hx hb dX12_would_129 hl (k := 4) rfl (by rw [ev]; rfl) (by decide) rfl (fun ls hl => ?_)
        have hf := lt_n ev hf; clear ev
        exact j_X12_would_132 B _ _ hrec hk138 hf  w (lv_sub hl [3, 4, 1, 0, 5] rfl)
noncomputable def J_X12_would_83 (N : Nat)   (t0 : Int32) (t1 : Int32) (x3 : Int32) (g : Nat → Int32) (tape : Nat → Int32) (taped : Int32) (spot : Int32) : Option (Int32 × Int32 × Int32) :=
  lt (t0 - t1) (fun x4_7 =>
  L_X12_would_92 N (fun x5 => some (x5, taped, spot)) x3 g tape taped spot N x4_7 0 0)
set_option maxHeartbeats 4000000 in
set_option maxRecDepth 100000 in
theorem j_X12_would_83 {E : mE} {l : Launch} {p : Program} {e : Env} {s : State} {m : MethodId} {args : Array Value} {below : List Frame} {meth : Method} {c : Code} {A : Nat → Prop} {Q : State → Prop} {N : Nat} {h : Nat} {a_g : Nat} {a_kept : Nat} {a_tape : Nat} {a_written : Nat} {a_asked : Nat} {a_there : Nat} {a_counts : Nat} {a_lasts : Nat} {a_cames : Nat}  {g : Nat → Int32} {kept : Nat → Int32} {isKept : Int32} {tape : Nat → Int32} {taped0 : Int32} {spot0 : Int32} {written : Nat → Int32} {writtenMany : Int32} {asked : Nat → Int32} {askedMany : Int32} {there : Nat → Int32} {counts : Nat → Int32} {lasts : Nat → Int32} {cames : Nat → Int32}  {o : Int32 × Int32 × Int32} (B : mB E yX12_would cX12_would 8 (some .int) 0 0 (po_X12_would E h a_g a_kept a_tape a_written a_asked a_there a_counts a_lasts a_cames g kept isKept tape taped0 spot0 written writtenMany asked askedMany there counts lasts cames o) p s m args below meth c A Q) {t0 : Int32} {t1 : Int32} {x3 : Int32} {taped : Int32} {spot : Int32}    {H : Heap} {locs : List Loc} {ls : Array Slot} (hf : J_X12_would_83 N t0 t1 x3 g tape taped spot = some o)  (w : mW E A s [(h, .inr (11, [.ref a_g, .ref a_kept, .int isKept, .ref a_tape, .int taped, .int spot, .ref a_written, .int writtenMany, .ref a_asked, .int askedMany, .ref a_there, .ref a_counts, .ref a_lasts, .ref a_cames])), (a_g, .inl (E.2.1, 8787, .inl g)), (a_kept, .inl (E.2.1, 8787, .inl kept)), (a_tape, .inl (E.2.2.1, 60, .inl tape)), (a_written, .inl (E.2.1, 40, .inl written)), (a_asked, .inl (E.2.1, 60, .inl asked)), (a_there, .inl (E.2.1, 12, .inl there)), (a_counts, .inl (E.2.1, 12, .inl counts)), (a_lasts, .inl (E.2.1, 12, .inl lasts)), (a_cames, .inl (E.2.1, 12, .inl cames))] H locs) (hl : lv_has ls 8 [(0, .ref h), (3, .int x3)]) : W p l e ({ frames := 6, cells := 0, slots := 0, locals := 135 } : Room) s m args below meth c H locs 0 0 Q (F0 m 83 ls [.int t1, .int t0]) := by
  obtain ⟨hx, hb, hml, hown, hts⟩ := id B.1
  unfold J_X12_would_83 at hf
  refine lv_isub hx hb dX12_would_83 ?_
  refine lv_topi (fun x4_7 ev => ?_)
  have hf := lt_n ev hf; clear ev
  refine lv_istore (lv' := [(4, .int x4_7), (0, .ref h), (3, .int x3)]) hx hb dX12_would_84 hl (by decide) rfl (fun ls hl => ?_)
  refine lv_iconst (v := 0) hx hb dX12_would_86 (by decide) ?_
  refine lv_istore (lv' := [(5, .int 0), (4, .int x4_7), (0, .ref h), (3, .int x3)]) hx hb dX12_would_87 hl (by decide) rfl (fun ls hl => ?_)
  refine lv_iconst (v := 0) hx hb dX12_would_89 (by decide) ?_
  refine lv_istore (lv' := [(6, .int 0), (5, .int 0), (4, .int x4_7), (0, .ref h), (3, .int x3)]) hx hb dX12_would_90 hl (by decide) rfl (fun ls hl => ?_)
  refine l_X12_would_92 B _  ?_ N _ _ _ _ _ _ hf  w (lv_sub hl [3, 4, 2, 1, 0] rfl)
  · intro x5 H locs ls hf w hl
    refine lv_iload hx hb dX12_would_138 (lv_at hl 0 rfl) ?_
    cases hf
    exact mx_iret B w ⟨rfl, rfl⟩ dX12_would_140
noncomputable def J_X12_would_63 (N : Nat)   (x1 : Int32) (x3 : Int32) (g : Nat → Int32) (tape : Nat → Int32) (taped : Int32) (spot : Int32) : Option (Int32 × Int32 × Int32) :=
  bd (F_X12_weight N g) (fun o_5 =>
  if (0 ≤ x3 : Prop) then
  bd (F_X12_at g x3 2) (fun o_6 =>
  J_X12_would_83 N (o_5 + x1) o_6 x3 g tape taped spot)
  else
  J_X12_would_83 N (o_5 + x1) 0 x3 g tape taped spot)
set_option maxHeartbeats 4000000 in
set_option maxRecDepth 100000 in
theorem j_X12_would_63 {E : mE} {l : Launch} {p : Program} {e : Env} {s : State} {m : MethodId} {args : Array Value} {below : List Frame} {meth : Method} {c : Code} {A : Nat → Prop} {Q : State → Prop} {N : Nat} {h : Nat} {a_g : Nat} {a_kept : Nat} {a_tape : Nat} {a_written : Nat} {a_asked : Nat} {a_there : Nat} {a_counts : Nat} {a_lasts : Nat} {a_cames : Nat}  {g : Nat → Int32} {kept : Nat → Int32} {isKept : Int32} {tape : Nat → Int32} {taped0 : Int32} {spot0 : Int32} {written : Nat → Int32} {writtenMany : Int32} {asked : Nat → Int32} {askedMany : Int32} {there : Nat → Int32} {counts : Nat → Int32} {lasts : Nat → Int32} {cames : Nat → Int32}  {o : Int32 × Int32 × Int32} (B : mB E yX12_would cX12_would 8 (some .int) 0 0 (po_X12_would E h a_g a_kept a_tape a_written a_asked a_there a_counts a_lasts a_cames g kept isKept tape taped0 spot0 written writtenMany asked askedMany there counts lasts cames o) p s m args below meth c A Q) {x1 : Int32} {x3 : Int32} {taped : Int32} {spot : Int32}    {H : Heap} {locs : List Loc} {ls : Array Slot} (hf : J_X12_would_63 N x1 x3 g tape taped spot = some o)  (w : mW E A s [(h, .inr (11, [.ref a_g, .ref a_kept, .int isKept, .ref a_tape, .int taped, .int spot, .ref a_written, .int writtenMany, .ref a_asked, .int askedMany, .ref a_there, .ref a_counts, .ref a_lasts, .ref a_cames])), (a_g, .inl (E.2.1, 8787, .inl g)), (a_kept, .inl (E.2.1, 8787, .inl kept)), (a_tape, .inl (E.2.2.1, 60, .inl tape)), (a_written, .inl (E.2.1, 40, .inl written)), (a_asked, .inl (E.2.1, 60, .inl asked)), (a_there, .inl (E.2.1, 12, .inl there)), (a_counts, .inl (E.2.1, 12, .inl counts)), (a_lasts, .inl (E.2.1, 12, .inl lasts)), (a_cames, .inl (E.2.1, 12, .inl cames))] H locs) (hl : lv_has ls 8 [(0, .ref h), (1, .int x1), (3, .int x3)]) : W p l e ({ frames := 6, cells := 0, slots := 0, locals := 135 } : Room) s m args below meth c H locs 0 0 Q (F0 m 63 ls []) := by
  obtain ⟨hx, hb, hml, hown, hts⟩ := id B.1
  unfold J_X12_would_63 at hf
  refine lv_aload_n hx hb dX12_would_63 rfl (lv_at hl 0 rfl) ?_
  obtain ⟨o_5, hq, hf⟩ := bd_e hf
  refine mx_callV (As := []) (rest := []) (wr := []) (d_X12_weight E l N h a_g a_kept a_tape a_written a_asked a_there a_counts a_lasts a_cames g kept isKept tape taped spot written writtenMany asked askedMany there counts lasts cames   o_5 hq) B w [0, 1, 2, 3, 4, 5, 6, 7, 8, 9] [] rfl rfl (by decide) (by decide) (by decide) 0 rfl rfl cv_X12_weight kw_1321 0 (by decide +kernel) ⟨Nat.le_of_ble_eq_true rfl, Nat.le_of_ble_eq_true rfl⟩ rfl hl.1 rfl (Nat.le_of_ble_eq_true rfl) dX12_would_64 rfl rfl ⟨Nat.zero_le _, Nat.zero_le _⟩ (fun v w' H locs hpo w => ?_)
  clear hq
  obtain ⟨rfl, rfl⟩ := hpo
  have w : mW E A s [(h, .inr (11, [.ref a_g, .ref a_kept, .int isKept, .ref a_tape, .int taped, .int spot, .ref a_written, .int writtenMany, .ref a_asked, .int askedMany, .ref a_there, .ref a_counts, .ref a_lasts, .ref a_cames])), (a_g, .inl (E.2.1, 8787, .inl g)), (a_kept, .inl (E.2.1, 8787, .inl kept)), (a_tape, .inl (E.2.2.1, 60, .inl tape)), (a_written, .inl (E.2.1, 40, .inl written)), (a_asked, .inl (E.2.1, 60, .inl asked)), (a_there, .inl (E.2.1, 12, .inl there)), (a_counts, .inl (E.2.1, 12, .inl counts)), (a_lasts, .inl (E.2.1, 12, .inl lasts)), (a_cames, .inl (E.2.1, 12, .inl cames))] H locs := w
  refine lv_iload_n hx hb dX12_would_67 rfl (lv_at hl 1 rfl) ?_
  refine lv_iadd hx hb dX12_would_68 ?_
  refine lv_iload_n hx hb dX12_would_69 rfl (lv_at hl 2 rfl) ?_
  refine lv_if_ge (tgt := 77) hx hb dX12_would_70 (by decide) (fun hc => ?_) (fun hc => ?_)
  · have hf := it_t hc hf
    refine lv_aload_n hx hb dX12_would_77 rfl (lv_at hl 0 rfl) ?_
    refine lv_iload_n hx hb dX12_would_78 rfl (lv_at hl 2 rfl) ?_
    refine lv_iconst (v := 2) hx hb dX12_would_79 (by decide) ?_
    obtain ⟨o_6, hq, hf⟩ := bd_e hf
    refine mx_callV (As := [.int x3, .int 2]) (rest := [.int (o_5 + x1)]) (wr := []) (d_X12_at E l  h a_g a_kept a_tape a_written a_asked a_there a_counts a_lasts a_cames g kept isKept tape taped spot written writtenMany asked askedMany there counts lasts cames x3 2  o_6 hq) B w [0, 1, 2, 3, 4, 5, 6, 7, 8, 9] [] rfl rfl (by decide) (by decide) (by decide) 0 rfl rfl cv_X12_at kw_1325 2 (by decide +kernel) ⟨Nat.le_of_ble_eq_true rfl, Nat.le_of_ble_eq_true rfl⟩ rfl hl.1 rfl (Nat.le_of_ble_eq_true rfl) dX12_would_80 rfl rfl ⟨Nat.zero_le _, Nat.zero_le _⟩ (fun v w' H locs hpo w => ?_)
    clear hq
    obtain ⟨rfl, rfl⟩ := hpo
    have w : mW E A s [(h, .inr (11, [.ref a_g, .ref a_kept, .int isKept, .ref a_tape, .int taped, .int spot, .ref a_written, .int writtenMany, .ref a_asked, .int askedMany, .ref a_there, .ref a_counts, .ref a_lasts, .ref a_cames])), (a_g, .inl (E.2.1, 8787, .inl g)), (a_kept, .inl (E.2.1, 8787, .inl kept)), (a_tape, .inl (E.2.2.1, 60, .inl tape)), (a_written, .inl (E.2.1, 40, .inl written)), (a_asked, .inl (E.2.1, 60, .inl asked)), (a_there, .inl (E.2.1, 12, .inl there)), (a_counts, .inl (E.2.1, 12, .inl counts)), (a_lasts, .inl (E.2.1, 12, .inl lasts)), (a_cames, .inl (E.2.1, 12, .inl cames))] H locs := w
    exact j_X12_would_83 B   hf  w (lv_sub hl [0, 2] rfl)
  · have hf := it_f hc hf
    refine lv_iconst (v := 0) hx hb dX12_would_73 (by decide) ?_
    refine lv_goto (tgt := 83) hx hb dX12_would_74 (by decide) ?_
    exact j_X12_would_83 B   hf  w (lv_sub hl [0, 2] rfl)
noncomputable def F_X12_would (N : Nat)  (g : Nat → Int32) (tape : Nat → Int32) (taped : Int32) (spot : Int32) (x1 : Int32) : Option (Int32 × Int32 × Int32) :=
  bd (F_X12_in x1 1 20) (fun o_1 =>
  if (o_1 = 0 : Prop) then
  some ((-1001), taped, spot)
  else
  bd (F_X12_takesKey N tape taped spot) (fun o_2 =>
  if (o_2.1 = 0 : Prop) then
  some ((-1002), o_2.2.1, o_2.2.2)
  else
  bd (F_X12_entryOf N g o_2.1) (fun o_3 =>
  if (o_3 < 0 : Prop) then
  bd (F_X12_mayCome N g o_2.1 x1) (fun o_4 =>
  if (o_4 = 0 : Prop) then
  some ((-1003), o_2.2.1, o_2.2.2)
  else
  J_X12_would_63 N x1 o_3 g tape o_2.2.1 o_2.2.2)
  else
  ld g 8787 0 (fun v_14 =>
  if (x1 ≤ v_14 : Prop) then
  J_X12_would_63 N x1 o_3 g tape o_2.2.1 o_2.2.2
  else
  some ((-1003), o_2.2.1, o_2.2.2)))))
set_option maxHeartbeats 4000000 in
set_option maxRecDepth 100000 in
theorem d_X12_would (E : mE) (l : Launch) (N : Nat) (h : Nat) (a_g : Nat) (a_kept : Nat) (a_tape : Nat) (a_written : Nat) (a_asked : Nat) (a_there : Nat) (a_counts : Nat) (a_lasts : Nat) (a_cames : Nat)  (g : Nat → Int32) (kept : Nat → Int32) (isKept : Int32) (tape : Nat → Int32) (taped : Int32) (spot : Int32) (written : Nat → Int32) (writtenMany : Int32) (asked : Nat → Int32) (askedMany : Int32) (there : Nat → Int32) (counts : Nat → Int32) (lasts : Nat → Int32) (cames : Nat → Int32)  (x1 : Int32)  (o : Int32 × Int32 × Int32) (hf : F_X12_would N g tape taped spot x1 = some o) : MX E l yX12_would cX12_would 8 (some .int) ({ frames := 6, cells := 0, slots := 0, locals := 135 } : Room) [.ref h, .int x1] [(h, .inr (11, [.ref a_g, .ref a_kept, .int isKept, .ref a_tape, .int taped, .int spot, .ref a_written, .int writtenMany, .ref a_asked, .int askedMany, .ref a_there, .ref a_counts, .ref a_lasts, .ref a_cames])), (a_g, .inl (E.2.1, 8787, .inl g)), (a_kept, .inl (E.2.1, 8787, .inl kept)), (a_tape, .inl (E.2.2.1, 60, .inl tape)), (a_written, .inl (E.2.1, 40, .inl written)), (a_asked, .inl (E.2.1, 60, .inl asked)), (a_there, .inl (E.2.1, 12, .inl there)), (a_counts, .inl (E.2.1, 12, .inl counts)), (a_lasts, .inl (E.2.1, 12, .inl lasts)), (a_cames, .inl (E.2.1, 12, .inl cames))] (po_X12_would E h a_g a_kept a_tape a_written a_asked a_there a_counts a_lasts a_cames g kept isKept tape taped spot written writtenMany asked askedMany there counts lasts cames o) := by
  refine mx_intro (by decide +kernel) (Nat.le_of_ble_eq_true rfl) ?_
  intro p e s m args below meth c A Q ls B w hl
  obtain ⟨hx, hb, hml, hown, hts⟩ := id B.1
  unfold F_X12_would at hf
  have hl : lv_has ls 8 [(0, .ref h), (1, .int x1)] := hl
  refine lv_iload_n hx hb dX12_would_0 rfl (lv_at hl 1 rfl) ?_
  refine lv_iconst (v := 1) hx hb dX12_would_1 (by decide) ?_
  refine lv_bipush (v := 20) hx hb dX12_would_2 (by decide) ?_
  obtain ⟨o_1, hq, hf⟩ := bd_e hf
  refine mx_callS (As := [.int x1, .int 1, .int 20]) (rest := []) (wr := [(h, .inr (11, [.ref a_g, .ref a_kept, .int isKept, .ref a_tape, .int taped, .int spot, .ref a_written, .int writtenMany, .ref a_asked, .int askedMany, .ref a_there, .ref a_counts, .ref a_lasts, .ref a_cames])), (a_g, .inl (E.2.1, 8787, .inl g)), (a_kept, .inl (E.2.1, 8787, .inl kept)), (a_tape, .inl (E.2.2.1, 60, .inl tape)), (a_written, .inl (E.2.1, 40, .inl written)), (a_asked, .inl (E.2.1, 60, .inl asked)), (a_there, .inl (E.2.1, 12, .inl there)), (a_counts, .inl (E.2.1, 12, .inl counts)), (a_lasts, .inl (E.2.1, 12, .inl lasts)), (a_cames, .inl (E.2.1, 12, .inl cames))]) (d_X12_in E l   x1 1 20  o_1 hq) B w [] [0, 1, 2, 3, 4, 5, 6, 7, 8, 9] rfl rfl (by decide) (by decide) (by decide) cs_X12_in kw_1274 3 (by decide +kernel) ⟨Nat.le_of_ble_eq_true rfl, Nat.le_of_ble_eq_true rfl⟩ rfl hl.1 rfl (Nat.le_of_ble_eq_true rfl) dX12_would_4 rfl rfl ⟨Nat.zero_le _, Nat.zero_le _⟩ (fun v w' H locs hpo w => ?_)
  clear hq
  obtain ⟨rfl, rfl⟩ := hpo
  have w : mW E A s [(h, .inr (11, [.ref a_g, .ref a_kept, .int isKept, .ref a_tape, .int taped, .int spot, .ref a_written, .int writtenMany, .ref a_asked, .int askedMany, .ref a_there, .ref a_counts, .ref a_lasts, .ref a_cames])), (a_g, .inl (E.2.1, 8787, .inl g)), (a_kept, .inl (E.2.1, 8787, .inl kept)), (a_tape, .inl (E.2.2.1, 60, .inl tape)), (a_written, .inl (E.2.1, 40, .inl written)), (a_asked, .inl (E.2.1, 60, .inl asked)), (a_there, .inl (E.2.1, 12, .inl there)), (a_counts, .inl (E.2.1, 12, .inl counts)), (a_lasts, .inl (E.2.1, 12, .inl lasts)), (a_cames, .inl (E.2.1, 12, .inl cames))] H locs := w
  refine lv_if_ne (tgt := 14) hx hb dX12_would_7 (by decide) (fun hc => ?_) (fun hc => ?_)
  · have hf := it_f hc hf
    refine lv_aload_n hx hb dX12_would_14 rfl (lv_at hl 0 rfl) ?_
    obtain ⟨o_2, hq, hf⟩ := bd_e hf
    refine mx_callV (As := []) (rest := []) (wr := []) (d_X12_takesKey E l N h a_g a_kept a_tape a_written a_asked a_there a_counts a_lasts a_cames g kept isKept tape taped spot written writtenMany asked askedMany there counts lasts cames   o_2 hq) B w [0, 1, 2, 3, 4, 5, 6, 7, 8, 9] [] rfl rfl (by decide) (by decide) (by decide) 0 rfl rfl cv_X12_takesKey kw_1281 0 (by decide +kernel) ⟨Nat.le_of_ble_eq_true rfl, Nat.le_of_ble_eq_true rfl⟩ rfl hl.1 rfl (Nat.le_of_ble_eq_true rfl) dX12_would_15 rfl rfl ⟨Nat.zero_le _, Nat.zero_le _⟩ (fun v w' H locs hpo w => ?_)
    clear hq
    obtain ⟨rfl, rfl⟩ := hpo
    have w : mW E A s [(h, .inr (11, [.ref a_g, .ref a_kept, .int isKept, .ref a_tape, .int o_2.2.1, .int o_2.2.2, .ref a_written, .int writtenMany, .ref a_asked, .int askedMany, .ref a_there, .ref a_counts, .ref a_lasts, .ref a_cames])), (a_g, .inl (E.2.1, 8787, .inl g)), (a_kept, .inl (E.2.1, 8787, .inl kept)), (a_tape, .inl (E.2.2.1, 60, .inl tape)), (a_written, .inl (E.2.1, 40, .inl written)), (a_asked, .inl (E.2.1, 60, .inl asked)), (a_there, .inl (E.2.1, 12, .inl there)), (a_counts, .inl (E.2.1, 12, .inl counts)), (a_lasts, .inl (E.2.1, 12, .inl lasts)), (a_cames, .inl (E.2.1, 12, .inl cames))] H locs := w
    refine lv_istore_n (lv' := [(2, .int o_2.1), (0, .ref h), (1, .int x1)]) hx hb dX12_would_18 rfl hl (by decide) rfl (fun ls hl => ?_)
    refine lv_iload_n hx hb dX12_would_19 rfl (lv_at hl 0 rfl) ?_
    refine lv_if_ne (tgt := 27) hx hb dX12_would_20 (by decide) (fun hc => ?_) (fun hc => ?_)
    · have hf := it_f hc hf
      refine lv_aload_n hx hb dX12_would_27 rfl (lv_at hl 1 rfl) ?_
      refine lv_iload_n hx hb dX12_would_28 rfl (lv_at hl 0 rfl) ?_
      obtain ⟨o_3, hq, hf⟩ := bd_e hf
      refine mx_callV (As := [.int o_2.1]) (rest := []) (wr := []) (d_X12_entryOf E l N h a_g a_kept a_tape a_written a_asked a_there a_counts a_lasts a_cames g kept isKept tape o_2.2.1 o_2.2.2 written writtenMany asked askedMany there counts lasts cames o_2.1  o_3 hq) B w [0, 1, 2, 3, 4, 5, 6, 7, 8, 9] [] rfl rfl (by decide) (by decide) (by decide) 0 rfl rfl cv_X12_entryOf kw_1422 1 (by decide +kernel) ⟨Nat.le_of_ble_eq_true rfl, Nat.le_of_ble_eq_true rfl⟩ rfl hl.1 rfl (Nat.le_of_ble_eq_true rfl) dX12_would_29 rfl rfl ⟨Nat.zero_le _, Nat.zero_le _⟩ (fun v w' H locs hpo w => ?_)
      clear hq
      obtain ⟨rfl, rfl⟩ := hpo
      have w : mW E A s [(h, .inr (11, [.ref a_g, .ref a_kept, .int isKept, .ref a_tape, .int o_2.2.1, .int o_2.2.2, .ref a_written, .int writtenMany, .ref a_asked, .int askedMany, .ref a_there, .ref a_counts, .ref a_lasts, .ref a_cames])), (a_g, .inl (E.2.1, 8787, .inl g)), (a_kept, .inl (E.2.1, 8787, .inl kept)), (a_tape, .inl (E.2.2.1, 60, .inl tape)), (a_written, .inl (E.2.1, 40, .inl written)), (a_asked, .inl (E.2.1, 60, .inl asked)), (a_there, .inl (E.2.1, 12, .inl there)), (a_counts, .inl (E.2.1, 12, .inl counts)), (a_lasts, .inl (E.2.1, 12, .inl lasts)), (a_cames, .inl (E.2.1, 12, .inl cames))] H locs := w
      refine lv_istore_n (lv' := [(3, .int o_3), (2, .int o_2.1), (0, .ref h), (1, .int x1)]) hx hb dX12_would_32 rfl hl (by decide) rfl (fun ls hl => ?_)
      refine lv_iload_n hx hb dX12_would_33 rfl (lv_at hl 0 rfl) ?_
      refine lv_if_lt (tgt := 50) hx hb dX12_would_34 (by decide) (fun hc => ?_) (fun hc => ?_)
      · have hf := it_t hc hf
        refine lv_aload_n hx hb dX12_would_50 rfl (lv_at hl 2 rfl) ?_
        refine lv_iload_n hx hb dX12_would_51 rfl (lv_at hl 1 rfl) ?_
        refine lv_iload_n hx hb dX12_would_52 rfl (lv_at hl 3 rfl) ?_
        obtain ⟨o_4, hq, hf⟩ := bd_e hf
        refine mx_callV (As := [.int o_2.1, .int x1]) (rest := []) (wr := []) (d_X12_mayCome E l N h a_g a_kept a_tape a_written a_asked a_there a_counts a_lasts a_cames g kept isKept tape o_2.2.1 o_2.2.2 written writtenMany asked askedMany there counts lasts cames o_2.1 x1  o_4 hq) B w [0, 1, 2, 3, 4, 5, 6, 7, 8, 9] [] rfl rfl (by decide) (by decide) (by decide) 0 rfl rfl cv_X12_mayCome kw_1438 2 (by decide +kernel) ⟨Nat.le_of_ble_eq_true rfl, Nat.le_of_ble_eq_true rfl⟩ rfl hl.1 rfl (Nat.le_of_ble_eq_true rfl) dX12_would_53 rfl rfl ⟨Nat.zero_le _, Nat.zero_le _⟩ (fun v w' H locs hpo w => ?_)
        clear hq
        obtain ⟨rfl, rfl⟩ := hpo
        have w : mW E A s [(h, .inr (11, [.ref a_g, .ref a_kept, .int isKept, .ref a_tape, .int o_2.2.1, .int o_2.2.2, .ref a_written, .int writtenMany, .ref a_asked, .int askedMany, .ref a_there, .ref a_counts, .ref a_lasts, .ref a_cames])), (a_g, .inl (E.2.1, 8787, .inl g)), (a_kept, .inl (E.2.1, 8787, .inl kept)), (a_tape, .inl (E.2.2.1, 60, .inl tape)), (a_written, .inl (E.2.1, 40, .inl written)), (a_asked, .inl (E.2.1, 60, .inl asked)), (a_there, .inl (E.2.1, 12, .inl there)), (a_counts, .inl (E.2.1, 12, .inl counts)), (a_lasts, .inl (E.2.1, 12, .inl lasts)), (a_cames, .inl (E.2.1, 12, .inl cames))] H locs := w
        refine lv_if_ne (tgt := 63) hx hb dX12_would_56 (by decide) (fun hc => ?_) (fun hc => ?_)
        · have hf := it_f hc hf
          exact j_X12_would_63 B   hf  w (lv_sub hl [2, 3, 0] rfl)
        · have hf := it_t hc hf
          refine lv_sipush (v := (-1003)) hx hb dX12_would_59 (by decide) ?_
          cases hf
          exact mx_iret B w ⟨rfl, rfl⟩ dX12_would_62
      · have hf := it_f hc hf
        refine lv_iload_n hx hb dX12_would_37 rfl (lv_at hl 3 rfl) ?_
        refine lv_aload_n hx hb dX12_would_38 rfl (lv_at hl 2 rfl) ?_
        refine mx_get B w 0 fl_X12_9 rfl rfl dX12_would_39 ?_
        refine lv_iconst (v := 0) hx hb dX12_would_42 (by decide) ?_
        obtain ⟨hin, hf⟩ := ld_e hf
        refine mx_iald B w 1 rfl hin dX12_would_43 (fun v_14 ev => ?_)
        have hf := hf _ ev; clear ev
        refine lv_icmp_le (tgt := 63) hx hb dX12_would_44 (by decide) (fun hc => ?_) (fun hc => ?_)
        · have hf := it_t hc hf
          exact j_X12_would_63 B   hf  w (lv_sub hl [2, 3, 0] rfl)
        · have hf := it_f hc hf
          refine lv_goto (tgt := 59) hx hb dX12_would_47 (by decide) ?_
          refine lv_sipush (v := (-1003)) hx hb dX12_would_59 (by decide) ?_
          cases hf
          exact mx_iret B w ⟨rfl, rfl⟩ dX12_would_62
    · have hf := it_t hc hf
      refine lv_sipush (v := (-1002)) hx hb dX12_would_23 (by decide) ?_
      cases hf
      exact mx_iret B w ⟨rfl, rfl⟩ dX12_would_26
  · have hf := it_t hc hf
    refine lv_sipush (v := (-1001)) hx hb dX12_would_10 (by decide) ?_
    cases hf
    exact mx_iret B w ⟨rfl, rfl⟩ dX12_would_13
-- X12_cold
def po_X12_cold (E : mE) (h : Nat) (a_g : Nat) (a_kept : Nat) (a_tape : Nat) (a_written : Nat) (a_asked : Nat) (a_there : Nat) (a_counts : Nat) (a_lasts : Nat) (a_cames : Nat)  (g : Nat → Int32) (kept : Nat → Int32) (isKept : Int32) (tape : Nat → Int32) (taped : Int32) (spot : Int32) (written : Nat → Int32) (writtenMany : Int32) (asked : Nat → Int32) (askedMany : Int32) (there : Nat → Int32) (counts : Nat → Int32) (lasts : Nat → Int32) (cames : Nat → Int32)  (o : Int32) : Option Value → va_W → Prop := (fun (v : Option Value) (w' : va_W) => v = some (.int o) ∧ w' = [(h, .inr (11, [.ref a_g, .ref a_kept, .int isKept, .ref a_tape, .int taped, .int spot, .ref a_written, .int writtenMany, .ref a_asked, .int askedMany, .ref a_there, .ref a_counts, .ref a_lasts, .ref a_cames])), (a_g, .inl (E.2.1, 8787, .inl g)), (a_kept, .inl (E.2.1, 8787, .inl kept)), (a_tape, .inl (E.2.2.1, 60, .inl tape)), (a_written, .inl (E.2.1, 40, .inl written)), (a_asked, .inl (E.2.1, 60, .inl asked)), (a_there, .inl (E.2.1, 12, .inl there)), (a_counts, .inl (E.2.1, 12, .inl counts)), (a_lasts, .inl (E.2.1, 12, .inl lasts)), (a_cames, .inl (E.2.1, 12, .inl cames))])
noncomputable def J_X12_cold_47 (N : Nat)   (t1 : Int32) (t2 : Int32) (g : Nat → Int32) : Option (Int32) :=
  bd (F_X12_coldAt g t1 t2) (fun o_4 =>
  some (o_4))
set_option maxHeartbeats 4000000 in
set_option maxRecDepth 100000 in
theorem j_X12_cold_47 {E : mE} {l : Launch} {p : Program} {e : Env} {s : State} {m : MethodId} {args : Array Value} {below : List Frame} {meth : Method} {c : Code} {A : Nat → Prop} {Q : State → Prop} {N : Nat} {h : Nat} {a_g : Nat} {a_kept : Nat} {a_tape : Nat} {a_written : Nat} {a_asked : Nat} {a_there : Nat} {a_counts : Nat} {a_lasts : Nat} {a_cames : Nat}  {g : Nat → Int32} {kept : Nat → Int32} {isKept : Int32} {tape : Nat → Int32} {taped : Int32} {spot : Int32} {written : Nat → Int32} {writtenMany : Int32} {asked : Nat → Int32} {askedMany : Int32} {there : Nat → Int32} {counts : Nat → Int32} {lasts : Nat → Int32} {cames : Nat → Int32}  {o : Int32} (B : mB E yX12_cold cX12_cold 3 (some .int) 0 0 (po_X12_cold E h a_g a_kept a_tape a_written a_asked a_there a_counts a_lasts a_cames g kept isKept tape taped spot written writtenMany asked askedMany there counts lasts cames o) p s m args below meth c A Q) {t1 : Int32} {t2 : Int32}     {H : Heap} {locs : List Loc} {ls : Array Slot} (hf : J_X12_cold_47 N t1 t2 g = some o)  (w : mW E A s [(h, .inr (11, [.ref a_g, .ref a_kept, .int isKept, .ref a_tape, .int taped, .int spot, .ref a_written, .int writtenMany, .ref a_asked, .int askedMany, .ref a_there, .ref a_counts, .ref a_lasts, .ref a_cames])), (a_g, .inl (E.2.1, 8787, .inl g)), (a_kept, .inl (E.2.1, 8787, .inl kept)), (a_tape, .inl (E.2.2.1, 60, .inl tape)), (a_written, .inl (E.2.1, 40, .inl written)), (a_asked, .inl (E.2.1, 60, .inl asked)), (a_there, .inl (E.2.1, 12, .inl there)), (a_counts, .inl (E.2.1, 12, .inl counts)), (a_lasts, .inl (E.2.1, 12, .inl lasts)), (a_cames, .inl (E.2.1, 12, .inl cames))] H locs) (hl : lv_has ls 3 []) : W p l e ({ frames := 3, cells := 0, slots := 0, locals := 67 } : Room) s m args below meth c H locs 0 0 Q (F0 m 47 ls [.int t2, .int t1, .ref h]) := by
  obtain ⟨hx, hb, hml, hown, hts⟩ := id B.1
  unfold J_X12_cold_47 at hf
  obtain ⟨o_4, hq, hf⟩ := bd_e hf
  refine mx_callV (As := [.int t1, .int t2]) (rest := []) (wr := []) (d_X12_coldAt E l  h a_g a_kept a_tape a_written a_asked a_there a_counts a_lasts a_cames g kept isKept tape taped spot written writtenMany asked askedMany there counts lasts cames t1 t2  o_4 hq) B w [0, 1, 2, 3, 4, 5, 6, 7, 8, 9] [] rfl rfl (by decide) (by decide) (by decide) 0 rfl rfl cv_X12_coldAt kw_1418 2 (by decide +kernel) ⟨Nat.le_of_ble_eq_true rfl, Nat.le_of_ble_eq_true rfl⟩ rfl hl.1 rfl (Nat.le_of_ble_eq_true rfl) dX12_cold_47 rfl rfl ⟨Nat.zero_le _, Nat.zero_le _⟩ (fun v w' H locs hpo w => ?_)
  clear hq
  obtain ⟨rfl, rfl⟩ := hpo
  have w : mW E A s [(h, .inr (11, [.ref a_g, .ref a_kept, .int isKept, .ref a_tape, .int taped, .int spot, .ref a_written, .int writtenMany, .ref a_asked, .int askedMany, .ref a_there, .ref a_counts, .ref a_lasts, .ref a_cames])), (a_g, .inl (E.2.1, 8787, .inl g)), (a_kept, .inl (E.2.1, 8787, .inl kept)), (a_tape, .inl (E.2.2.1, 60, .inl tape)), (a_written, .inl (E.2.1, 40, .inl written)), (a_asked, .inl (E.2.1, 60, .inl asked)), (a_there, .inl (E.2.1, 12, .inl there)), (a_counts, .inl (E.2.1, 12, .inl counts)), (a_lasts, .inl (E.2.1, 12, .inl lasts)), (a_cames, .inl (E.2.1, 12, .inl cames))] H locs := w
  cases hf
  exact mx_iret B w ⟨rfl, rfl⟩ dX12_cold_50
noncomputable def F_X12_cold (N : Nat)  (g : Nat → Int32) (x1 : Int32) (x2 : Int32) : Option (Int32) :=
  if (x1 < 0 : Prop) then
  some ((-1001))
  else
  if (((-3)) ≤ x2 : Prop) then
  ld g 8787 14 (fun v_1 =>
  if (x1 < v_1 : Prop) then
  if (((-1)) ≤ x2 : Prop) then
  bd (F_X12_coldAt g x1 0) (fun o_2 =>
  bd (F_X12_keyTells N o_2 x2) (fun o_3 =>
  some (o_3)))
  else
  if (x2 = ((-2)) : Prop) then
  J_X12_cold_47 N x1 1 g
  else
  J_X12_cold_47 N x1 4 g
  else
  some ((-1003)))
  else
  some ((-1001))
set_option maxHeartbeats 4000000 in
set_option maxRecDepth 100000 in
theorem d_X12_cold (E : mE) (l : Launch) (N : Nat) (h : Nat) (a_g : Nat) (a_kept : Nat) (a_tape : Nat) (a_written : Nat) (a_asked : Nat) (a_there : Nat) (a_counts : Nat) (a_lasts : Nat) (a_cames : Nat)  (g : Nat → Int32) (kept : Nat → Int32) (isKept : Int32) (tape : Nat → Int32) (taped : Int32) (spot : Int32) (written : Nat → Int32) (writtenMany : Int32) (asked : Nat → Int32) (askedMany : Int32) (there : Nat → Int32) (counts : Nat → Int32) (lasts : Nat → Int32) (cames : Nat → Int32)  (x1 : Int32) (x2 : Int32)  (o : Int32) (hf : F_X12_cold N g x1 x2 = some o) : MX E l yX12_cold cX12_cold 3 (some .int) ({ frames := 3, cells := 0, slots := 0, locals := 67 } : Room) [.ref h, .int x1, .int x2] [(h, .inr (11, [.ref a_g, .ref a_kept, .int isKept, .ref a_tape, .int taped, .int spot, .ref a_written, .int writtenMany, .ref a_asked, .int askedMany, .ref a_there, .ref a_counts, .ref a_lasts, .ref a_cames])), (a_g, .inl (E.2.1, 8787, .inl g)), (a_kept, .inl (E.2.1, 8787, .inl kept)), (a_tape, .inl (E.2.2.1, 60, .inl tape)), (a_written, .inl (E.2.1, 40, .inl written)), (a_asked, .inl (E.2.1, 60, .inl asked)), (a_there, .inl (E.2.1, 12, .inl there)), (a_counts, .inl (E.2.1, 12, .inl counts)), (a_lasts, .inl (E.2.1, 12, .inl lasts)), (a_cames, .inl (E.2.1, 12, .inl cames))] (po_X12_cold E h a_g a_kept a_tape a_written a_asked a_there a_counts a_lasts a_cames g kept isKept tape taped spot written writtenMany asked askedMany there counts lasts cames o) := by
  refine mx_intro (by decide +kernel) (Nat.le_of_ble_eq_true rfl) ?_
  intro p e s m args below meth c A Q ls B w hl
  obtain ⟨hx, hb, hml, hown, hts⟩ := id B.1
  unfold F_X12_cold at hf
  have hl : lv_has ls 3 [(0, .ref h), (1, .int x1), (2, .int x2)] := hl
  refine lv_iload_n hx hb dX12_cold_0 rfl (lv_at hl 1 rfl) ?_
  refine lv_if_lt (tgt := 10) hx hb dX12_cold_1 (by decide) (fun hc => ?_) (fun hc => ?_)
  · have hf := it_t hc hf
    refine lv_sipush (v := (-1001)) hx hb dX12_cold_10 (by decide) ?_
    cases hf
    exact mx_iret B w ⟨rfl, rfl⟩ dX12_cold_13
  · have hf := it_f hc hf
    refine lv_iload_n hx hb dX12_cold_4 rfl (lv_at hl 2 rfl) ?_
    refine lv_bipush (v := (-3)) hx hb dX12_cold_5 (by decide) ?_
    refine lv_icmp_ge (tgt := 14) hx hb dX12_cold_7 (by decide) (fun hc => ?_) (fun hc => ?_)
    · have hf := it_t hc hf
      refine lv_iload_n hx hb dX12_cold_14 rfl (lv_at hl 1 rfl) ?_
      refine lv_aload_n hx hb dX12_cold_15 rfl (lv_at hl 0 rfl) ?_
      refine mx_get B w 0 fl_X12_9 rfl rfl dX12_cold_16 ?_
      refine lv_bipush (v := 14) hx hb dX12_cold_19 (by decide) ?_
      obtain ⟨hin, hf⟩ := ld_e hf
      refine mx_iald B w 1 rfl hin dX12_cold_21 (fun v_1 ev => ?_)
      have hf := hf _ ev; clear ev
      refine lv_icmp_lt (tgt := 29) hx hb dX12_cold_22 (by decide) (fun hc => ?_) (fun hc => ?_)
      · have hf := it_t hc hf
        refine lv_iload_n hx hb dX12_cold_29 rfl (lv_at hl 2 rfl) ?_
        refine lv_iconst (v := (-1)) hx hb dX12_cold_30 (by decide) ?_
        refine lv_icmp_ge (tgt := 51) hx hb dX12_cold_31 (by decide) (fun hc => ?_) (fun hc => ?_)
        · have hf := it_t hc hf
          refine lv_aload_n hx hb dX12_cold_51 rfl (lv_at hl 0 rfl) ?_
          refine lv_iload_n hx hb dX12_cold_52 rfl (lv_at hl 1 rfl) ?_
          refine lv_iconst (v := 0) hx hb dX12_cold_53 (by decide) ?_
          obtain ⟨o_2, hq, hf⟩ := bd_e hf
          refine mx_callV (As := [.int x1, .int 0]) (rest := []) (wr := []) (d_X12_coldAt E l  h a_g a_kept a_tape a_written a_asked a_there a_counts a_lasts a_cames g kept isKept tape taped spot written writtenMany asked askedMany there counts lasts cames x1 0  o_2 hq) B w [0, 1, 2, 3, 4, 5, 6, 7, 8, 9] [] rfl rfl (by decide) (by decide) (by decide) 0 rfl rfl cv_X12_coldAt kw_1418 2 (by decide +kernel) ⟨Nat.le_of_ble_eq_true rfl, Nat.le_of_ble_eq_true rfl⟩ rfl hl.1 rfl (Nat.le_of_ble_eq_true rfl) dX12_cold_54 rfl rfl ⟨Nat.zero_le _, Nat.zero_le _⟩ (fun v w' H locs hpo w => ?_)
          clear hq
          obtain ⟨rfl, rfl⟩ := hpo
          have w : mW E A s [(h, .inr (11, [.ref a_g, .ref a_kept, .int isKept, .ref a_tape, .int taped, .int spot, .ref a_written, .int writtenMany, .ref a_asked, .int askedMany, .ref a_there, .ref a_counts, .ref a_lasts, .ref a_cames])), (a_g, .inl (E.2.1, 8787, .inl g)), (a_kept, .inl (E.2.1, 8787, .inl kept)), (a_tape, .inl (E.2.2.1, 60, .inl tape)), (a_written, .inl (E.2.1, 40, .inl written)), (a_asked, .inl (E.2.1, 60, .inl asked)), (a_there, .inl (E.2.1, 12, .inl there)), (a_counts, .inl (E.2.1, 12, .inl counts)), (a_lasts, .inl (E.2.1, 12, .inl lasts)), (a_cames, .inl (E.2.1, 12, .inl cames))] H locs := w
          refine lv_iload_n hx hb dX12_cold_57 rfl (lv_at hl 2 rfl) ?_
          obtain ⟨o_3, hq, hf⟩ := bd_e hf
          refine mx_callS (As := [.int o_2, .int x2]) (rest := []) (wr := [(h, .inr (11, [.ref a_g, .ref a_kept, .int isKept, .ref a_tape, .int taped, .int spot, .ref a_written, .int writtenMany, .ref a_asked, .int askedMany, .ref a_there, .ref a_counts, .ref a_lasts, .ref a_cames])), (a_g, .inl (E.2.1, 8787, .inl g)), (a_kept, .inl (E.2.1, 8787, .inl kept)), (a_tape, .inl (E.2.2.1, 60, .inl tape)), (a_written, .inl (E.2.1, 40, .inl written)), (a_asked, .inl (E.2.1, 60, .inl asked)), (a_there, .inl (E.2.1, 12, .inl there)), (a_counts, .inl (E.2.1, 12, .inl counts)), (a_lasts, .inl (E.2.1, 12, .inl lasts)), (a_cames, .inl (E.2.1, 12, .inl cames))]) (d_X12_keyTells E l N  o_2 x2  o_3 hq) B w [] [0, 1, 2, 3, 4, 5, 6, 7, 8, 9] rfl rfl (by decide) (by decide) (by decide) cs_X12_keyTells kw_1450 2 (by decide +kernel) ⟨Nat.le_of_ble_eq_true rfl, Nat.le_of_ble_eq_true rfl⟩ rfl hl.1 rfl (Nat.le_of_ble_eq_true rfl) dX12_cold_58 rfl rfl ⟨Nat.zero_le _, Nat.zero_le _⟩ (fun v w' H locs hpo w => ?_)
          clear hq
          obtain ⟨rfl, rfl⟩ := hpo
          have w : mW E A s [(h, .inr (11, [.ref a_g, .ref a_kept, .int isKept, .ref a_tape, .int taped, .int spot, .ref a_written, .int writtenMany, .ref a_asked, .int askedMany, .ref a_there, .ref a_counts, .ref a_lasts, .ref a_cames])), (a_g, .inl (E.2.1, 8787, .inl g)), (a_kept, .inl (E.2.1, 8787, .inl kept)), (a_tape, .inl (E.2.2.1, 60, .inl tape)), (a_written, .inl (E.2.1, 40, .inl written)), (a_asked, .inl (E.2.1, 60, .inl asked)), (a_there, .inl (E.2.1, 12, .inl there)), (a_counts, .inl (E.2.1, 12, .inl counts)), (a_lasts, .inl (E.2.1, 12, .inl lasts)), (a_cames, .inl (E.2.1, 12, .inl cames))] H locs := w
          cases hf
          exact mx_iret B w ⟨rfl, rfl⟩ dX12_cold_61
        · have hf := it_f hc hf
          refine lv_aload_n hx hb dX12_cold_34 rfl (lv_at hl 0 rfl) ?_
          refine lv_iload_n hx hb dX12_cold_35 rfl (lv_at hl 1 rfl) ?_
          refine lv_iload_n hx hb dX12_cold_36 rfl (lv_at hl 2 rfl) ?_
          refine lv_bipush (v := (-2)) hx hb dX12_cold_37 (by decide) ?_
          refine lv_icmp_ne (tgt := 46) hx hb dX12_cold_39 (by decide) (fun hc => ?_) (fun hc => ?_)
          · have hf := it_f hc hf
            refine lv_iconst (v := 4) hx hb dX12_cold_46 (by decide) ?_
            exact j_X12_cold_47 B   hf  w (lv_sub hl [] rfl)
          · have hf := it_t hc hf
            refine lv_iconst (v := 1) hx hb dX12_cold_42 (by decide) ?_
            refine lv_goto (tgt := 47) hx hb dX12_cold_43 (by decide) ?_
            exact j_X12_cold_47 B   hf  w (lv_sub hl [] rfl)
      · have hf := it_f hc hf
        refine lv_sipush (v := (-1003)) hx hb dX12_cold_25 (by decide) ?_
        cases hf
        exact mx_iret B w ⟨rfl, rfl⟩ dX12_cold_28
    · have hf := it_f hc hf
      refine lv_sipush (v := (-1001)) hx hb dX12_cold_10 (by decide) ?_
      cases hf
      exact mx_iret B w ⟨rfl, rfl⟩ dX12_cold_13
-- X12_follows
def po_X12_follows (E : mE) (h : Nat) (a_g : Nat) (a_kept : Nat) (a_tape : Nat) (a_written : Nat) (a_asked : Nat) (a_there : Nat) (a_counts : Nat) (a_lasts : Nat) (a_cames : Nat)  (g : Nat → Int32) (kept : Nat → Int32) (isKept : Int32) (tape : Nat → Int32) (taped : Int32) (spot : Int32) (written : Nat → Int32) (writtenMany : Int32) (asked : Nat → Int32) (askedMany : Int32) (there : Nat → Int32) (counts : Nat → Int32) (lasts : Nat → Int32) (cames : Nat → Int32)  (o : Int32 × Int32 × Int32) : Option Value → va_W → Prop := (fun (v : Option Value) (w' : va_W) => v = some (.int o.1) ∧ w' = [(h, .inr (11, [.ref a_g, .ref a_kept, .int isKept, .ref a_tape, .int o.2.1, .int o.2.2, .ref a_written, .int writtenMany, .ref a_asked, .int askedMany, .ref a_there, .ref a_counts, .ref a_lasts, .ref a_cames])), (a_g, .inl (E.2.1, 8787, .inl g)), (a_kept, .inl (E.2.1, 8787, .inl kept)), (a_tape, .inl (E.2.2.1, 60, .inl tape)), (a_written, .inl (E.2.1, 40, .inl written)), (a_asked, .inl (E.2.1, 60, .inl asked)), (a_there, .inl (E.2.1, 12, .inl there)), (a_counts, .inl (E.2.1, 12, .inl counts)), (a_lasts, .inl (E.2.1, 12, .inl lasts)), (a_cames, .inl (E.2.1, 12, .inl cames))])
noncomputable def J_X12_follows_134 (N : Nat)  (rec : Int32 → Int32 → Option (Int32 × Int32 × Int32)) (k143 : Int32 → Option (Int32 × Int32 × Int32)) (t0 : Int32) (t1 : Int32) (x1 : Int32) (x2 : Int32) (x3 : Int32) (x4 : Int32) (x5 : Int32) (x7 : Int32) (g : Nat → Int32) (tape : Nat → Int32) (taped : Int32) (spot : Int32) : Option (Int32 × Int32 × Int32) :=
  lt (t0 + t1) (fun x6_6 =>
  lt (x7 + 1) (fun x7_7 =>
  rec x6_6 x7_7))
set_option maxHeartbeats 4000000 in
set_option maxRecDepth 100000 in
theorem j_X12_follows_134 {E : mE} {l : Launch} {p : Program} {e : Env} {s : State} {m : MethodId} {args : Array Value} {below : List Frame} {meth : Method} {c : Code} {A : Nat → Prop} {Q : State → Prop} {N : Nat} {h : Nat} {a_g : Nat} {a_kept : Nat} {a_tape : Nat} {a_written : Nat} {a_asked : Nat} {a_there : Nat} {a_counts : Nat} {a_lasts : Nat} {a_cames : Nat}  {g : Nat → Int32} {kept : Nat → Int32} {isKept : Int32} {tape : Nat → Int32} {taped0 : Int32} {spot0 : Int32} {written : Nat → Int32} {writtenMany : Int32} {asked : Nat → Int32} {askedMany : Int32} {there : Nat → Int32} {counts : Nat → Int32} {lasts : Nat → Int32} {cames : Nat → Int32}  {o : Int32 × Int32 × Int32} (B : mB E yX12_follows cX12_follows 8 (some .int) 0 0 (po_X12_follows E h a_g a_kept a_tape a_written a_asked a_there a_counts a_lasts a_cames g kept isKept tape taped0 spot0 written writtenMany asked askedMany there counts lasts cames o) p s m args below meth c A Q) {t0 : Int32} {t1 : Int32} {x1 : Int32} {x2 : Int32} {x3 : Int32} {x4 : Int32} {x5 : Int32} {x7 : Int32} {taped : Int32} {spot : Int32}  (rec : Int32 → Int32 → Option (Int32 × Int32 × Int32)) (k143 : Int32 → Option (Int32 × Int32 × Int32)) (hrec : ∀ (x6 : Int32) (x7 : Int32)   (H : Heap) (locs : List Loc) (ls : Array Slot), rec x6 x7 = some o → mW E A s [(h, .inr (11, [.ref a_g, .ref a_kept, .int isKept, .ref a_tape, .int taped, .int spot, .ref a_written, .int writtenMany, .ref a_asked, .int askedMany, .ref a_there, .ref a_counts, .ref a_lasts, .ref a_cames])), (a_g, .inl (E.2.1, 8787, .inl g)), (a_kept, .inl (E.2.1, 8787, .inl kept)), (a_tape, .inl (E.2.2.1, 60, .inl tape)), (a_written, .inl (E.2.1, 40, .inl written)), (a_asked, .inl (E.2.1, 60, .inl asked)), (a_there, .inl (E.2.1, 12, .inl there)), (a_counts, .inl (E.2.1, 12, .inl counts)), (a_lasts, .inl (E.2.1, 12, .inl lasts)), (a_cames, .inl (E.2.1, 12, .inl cames))] H locs → lv_has ls 8 [(0, .ref h), (1, .int x1), (2, .int x2), (3, .int x3), (4, .int x4), (5, .int x5), (6, .int x6), (7, .int x7)] → W p l e ({ frames := 3, cells := 0, slots := 0, locals := 67 } : Room) s m args below meth c H locs 0 0 Q (F0 m 69 ls [])) (hk143 : ∀ (x6 : Int32)   (H : Heap) (locs : List Loc) (ls : Array Slot), k143 x6 = some o → mW E A s [(h, .inr (11, [.ref a_g, .ref a_kept, .int isKept, .ref a_tape, .int taped, .int spot, .ref a_written, .int writtenMany, .ref a_asked, .int askedMany, .ref a_there, .ref a_counts, .ref a_lasts, .ref a_cames])), (a_g, .inl (E.2.1, 8787, .inl g)), (a_kept, .inl (E.2.1, 8787, .inl kept)), (a_tape, .inl (E.2.2.1, 60, .inl tape)), (a_written, .inl (E.2.1, 40, .inl written)), (a_asked, .inl (E.2.1, 60, .inl asked)), (a_there, .inl (E.2.1, 12, .inl there)), (a_counts, .inl (E.2.1, 12, .inl counts)), (a_lasts, .inl (E.2.1, 12, .inl lasts)), (a_cames, .inl (E.2.1, 12, .inl cames))] H locs → lv_has ls 8 [(0, .ref h), (1, .int x1), (2, .int x2), (3, .int x3), (4, .int x4), (5, .int x5), (6, .int x6)] → W p l e ({ frames := 3, cells := 0, slots := 0, locals := 67 } : Room) s m args below meth c H locs 0 0 Q (F0 m 143 ls [])) {H : Heap} {locs : List Loc} {ls : Array Slot} (hf : J_X12_follows_134 N rec k143 t0 t1 x1 x2 x3 x4 x5 x7 g tape taped spot = some o)  (w : mW E A s [(h, .inr (11, [.ref a_g, .ref a_kept, .int isKept, .ref a_tape, .int taped, .int spot, .ref a_written, .int writtenMany, .ref a_asked, .int askedMany, .ref a_there, .ref a_counts, .ref a_lasts, .ref a_cames])), (a_g, .inl (E.2.1, 8787, .inl g)), (a_kept, .inl (E.2.1, 8787, .inl kept)), (a_tape, .inl (E.2.2.1, 60, .inl tape)), (a_written, .inl (E.2.1, 40, .inl written)), (a_asked, .inl (E.2.1, 60, .inl asked)), (a_there, .inl (E.2.1, 12, .inl there)), (a_counts, .inl (E.2.1, 12, .inl counts)), (a_lasts, .inl (E.2.1, 12, .inl lasts)), (a_cames, .inl (E.2.1, 12, .inl cames))] H locs) (hl : lv_has ls 8 [(0, .ref h), (1, .int x1), (2, .int x2), (3, .int x3), (4, .int x4), (5, .int x5), (7, .int x7)]) : W p l e ({ frames := 3, cells := 0, slots := 0, locals := 67 } : Room) s m args below meth c H locs 0 0 Q (F0 m 134 ls [.int t1, .int t0]) := by
  obtain ⟨hx, hb, hml, hown, hts⟩ := id B.1
  unfold J_X12_follows_134 at hf
  refine lv_iadd hx hb dX12_follows_134 ?_
  refine lv_topi (fun x6_6 ev => ?_)
  have hf := lt_n ev hf; clear ev
  refine lv_istore (lv' := [(6, .int x6_6), (0, .ref h), (1, .int x1), (2, .int x2), (3, .int x3), (4, .int x4), (5, .int x5), (7, .int x7)]) hx hb dX12_follows_135 hl (by decide) rfl (fun ls hl => ?_)
  obtain ⟨x7_7, ev⟩ : ∃ y : Int32, y = x7 + 1 := ⟨_, rfl⟩
  refine lv_iinc (v := x7_7) (lv' := [(7, .int x7_7), (6, .int x6_6), (0, .ref h), (1, .int x1), (2, .int x2), (3, .int x3), (4, .int x4), (5, .int x5)]) hx hb dX12_follows_137 hl (k := 7) rfl (by rw [ev]; rfl) (by decide) rfl (fun ls hl => ?_)
  have hf := lt_n ev hf; clear ev
  refine lv_goto (tgt := 69) hx hb dX12_follows_140 (by decide) ?_
  exact hrec _ _ _ _ _ hf  w (lv_sub hl [2, 3, 4, 5, 6, 7, 1, 0] rfl)
noncomputable def J_X12_follows_133 (N : Nat)  (rec : Int32 → Int32 → Option (Int32 × Int32 × Int32)) (k143 : Int32 → Option (Int32 × Int32 × Int32)) (t0 : Int32) (x1 : Int32) (x2 : Int32) (x3 : Int32) (x4 : Int32) (x5 : Int32) (x7 : Int32) (g : Nat → Int32) (tape : Nat → Int32) (taped : Int32) (spot : Int32) : Option (Int32 × Int32 × Int32) :=
  J_X12_follows_134 N rec k143 t0 0 x1 x2 x3 x4 x5 x7 g tape taped spot
set_option maxHeartbeats 4000000 in
set_option maxRecDepth 100000 in
theorem j_X12_follows_133 {E : mE} {l : Launch} {p : Program} {e : Env} {s : State} {m : MethodId} {args : Array Value} {below : List Frame} {meth : Method} {c : Code} {A : Nat → Prop} {Q : State → Prop} {N : Nat} {h : Nat} {a_g : Nat} {a_kept : Nat} {a_tape : Nat} {a_written : Nat} {a_asked : Nat} {a_there : Nat} {a_counts : Nat} {a_lasts : Nat} {a_cames : Nat}  {g : Nat → Int32} {kept : Nat → Int32} {isKept : Int32} {tape : Nat → Int32} {taped0 : Int32} {spot0 : Int32} {written : Nat → Int32} {writtenMany : Int32} {asked : Nat → Int32} {askedMany : Int32} {there : Nat → Int32} {counts : Nat → Int32} {lasts : Nat → Int32} {cames : Nat → Int32}  {o : Int32 × Int32 × Int32} (B : mB E yX12_follows cX12_follows 8 (some .int) 0 0 (po_X12_follows E h a_g a_kept a_tape a_written a_asked a_there a_counts a_lasts a_cames g kept isKept tape taped0 spot0 written writtenMany asked askedMany there counts lasts cames o) p s m args below meth c A Q) {t0 : Int32} {x1 : Int32} {x2 : Int32} {x3 : Int32} {x4 : Int32} {x5 : Int32} {x7 : Int32} {taped : Int32} {spot : Int32}  (rec : Int32 → Int32 → Option (Int32 × Int32 × Int32)) (k143 : Int32 → Option (Int32 × Int32 × Int32)) (hrec : ∀ (x6 : Int32) (x7 : Int32)   (H : Heap) (locs : List Loc) (ls : Array Slot), rec x6 x7 = some o → mW E A s [(h, .inr (11, [.ref a_g, .ref a_kept, .int isKept, .ref a_tape, .int taped, .int spot, .ref a_written, .int writtenMany, .ref a_asked, .int askedMany, .ref a_there, .ref a_counts, .ref a_lasts, .ref a_cames])), (a_g, .inl (E.2.1, 8787, .inl g)), (a_kept, .inl (E.2.1, 8787, .inl kept)), (a_tape, .inl (E.2.2.1, 60, .inl tape)), (a_written, .inl (E.2.1, 40, .inl written)), (a_asked, .inl (E.2.1, 60, .inl asked)), (a_there, .inl (E.2.1, 12, .inl there)), (a_counts, .inl (E.2.1, 12, .inl counts)), (a_lasts, .inl (E.2.1, 12, .inl lasts)), (a_cames, .inl (E.2.1, 12, .inl cames))] H locs → lv_has ls 8 [(0, .ref h), (1, .int x1), (2, .int x2), (3, .int x3), (4, .int x4), (5, .int x5), (6, .int x6), (7, .int x7)] → W p l e ({ frames := 3, cells := 0, slots := 0, locals := 67 } : Room) s m args below meth c H locs 0 0 Q (F0 m 69 ls [])) (hk143 : ∀ (x6 : Int32)   (H : Heap) (locs : List Loc) (ls : Array Slot), k143 x6 = some o → mW E A s [(h, .inr (11, [.ref a_g, .ref a_kept, .int isKept, .ref a_tape, .int taped, .int spot, .ref a_written, .int writtenMany, .ref a_asked, .int askedMany, .ref a_there, .ref a_counts, .ref a_lasts, .ref a_cames])), (a_g, .inl (E.2.1, 8787, .inl g)), (a_kept, .inl (E.2.1, 8787, .inl kept)), (a_tape, .inl (E.2.2.1, 60, .inl tape)), (a_written, .inl (E.2.1, 40, .inl written)), (a_asked, .inl (E.2.1, 60, .inl asked)), (a_there, .inl (E.2.1, 12, .inl there)), (a_counts, .inl (E.2.1, 12, .inl counts)), (a_lasts, .inl (E.2.1, 12, .inl lasts)), (a_cames, .inl (E.2.1, 12, .inl cames))] H locs → lv_has ls 8 [(0, .ref h), (1, .int x1), (2, .int x2), (3, .int x3), (4, .int x4), (5, .int x5), (6, .int x6)] → W p l e ({ frames := 3, cells := 0, slots := 0, locals := 67 } : Room) s m args below meth c H locs 0 0 Q (F0 m 143 ls [])) {H : Heap} {locs : List Loc} {ls : Array Slot} (hf : J_X12_follows_133 N rec k143 t0 x1 x2 x3 x4 x5 x7 g tape taped spot = some o)  (w : mW E A s [(h, .inr (11, [.ref a_g, .ref a_kept, .int isKept, .ref a_tape, .int taped, .int spot, .ref a_written, .int writtenMany, .ref a_asked, .int askedMany, .ref a_there, .ref a_counts, .ref a_lasts, .ref a_cames])), (a_g, .inl (E.2.1, 8787, .inl g)), (a_kept, .inl (E.2.1, 8787, .inl kept)), (a_tape, .inl (E.2.2.1, 60, .inl tape)), (a_written, .inl (E.2.1, 40, .inl written)), (a_asked, .inl (E.2.1, 60, .inl asked)), (a_there, .inl (E.2.1, 12, .inl there)), (a_counts, .inl (E.2.1, 12, .inl counts)), (a_lasts, .inl (E.2.1, 12, .inl lasts)), (a_cames, .inl (E.2.1, 12, .inl cames))] H locs) (hl : lv_has ls 8 [(0, .ref h), (1, .int x1), (2, .int x2), (3, .int x3), (4, .int x4), (5, .int x5), (7, .int x7)]) : W p l e ({ frames := 3, cells := 0, slots := 0, locals := 67 } : Room) s m args below meth c H locs 0 0 Q (F0 m 133 ls [.int t0]) := by
  obtain ⟨hx, hb, hml, hown, hts⟩ := id B.1
  unfold J_X12_follows_133 at hf
  refine lv_iconst (v := 0) hx hb dX12_follows_133 (by decide) ?_
  exact j_X12_follows_134 B _ _ hrec hk143 hf  w (lv_sub hl [0, 1, 2, 3, 4, 5, 6] rfl)
noncomputable def K_X12_follows_69 (N : Nat)  (rec : Int32 → Int32 → Option (Int32 × Int32 × Int32)) (k143 : Int32 → Option (Int32 × Int32 × Int32)) (x1 : Int32) (x2 : Int32) (x3 : Int32) (x4 : Int32) (x5 : Int32) (g : Nat → Int32) (tape : Nat → Int32) (taped : Int32) (spot : Int32) (x6 : Int32) (x7 : Int32)  : Option (Int32 × Int32 × Int32) :=
  ld g 8787 18 (fun v_4 =>
  if (v_4 ≤ (x7 + 1) : Prop) then
  k143 x6
  else
  ld g 8787 (8607 + x7) (fun v_5 =>
  if (v_5 = x2 : Prop) then
  ld g 8787 ((8607 + x7) + 1) (fun v_8 =>
  ld g 8787 ((8607 + x5) + 1) (fun v_9 =>
  if (v_8 = v_9 : Prop) then
  J_X12_follows_134 N rec k143 x6 1 x1 x2 x3 x4 x5 x7 g tape taped spot
  else
  J_X12_follows_133 N rec k143 x6 x1 x2 x3 x4 x5 x7 g tape taped spot))
  else
  J_X12_follows_133 N rec k143 x6 x1 x2 x3 x4 x5 x7 g tape taped spot))
noncomputable def L_X12_follows_69 (N : Nat)  (k143 : Int32 → Option (Int32 × Int32 × Int32)) (x1 : Int32) (x2 : Int32) (x3 : Int32) (x4 : Int32) (x5 : Int32) (g : Nat → Int32) (tape : Nat → Int32) (taped : Int32) (spot : Int32) (n : Nat) : Int32 → Int32 → Option (Int32 × Int32 × Int32) :=
  Nat.rec (motive := fun _ => Int32 → Int32 → Option (Int32 × Int32 × Int32)) (fun _ _ => none) (fun _ rec => K_X12_follows_69 N rec k143 x1 x2 x3 x4 x5 g tape taped spot) n
set_option maxHeartbeats 4000000 in
set_option maxRecDepth 100000 in
theorem l_X12_follows_69 {E : mE} {l : Launch} {p : Program} {e : Env} {s : State} {m : MethodId} {args : Array Value} {below : List Frame} {meth : Method} {c : Code} {A : Nat → Prop} {Q : State → Prop} {N : Nat} {h : Nat} {a_g : Nat} {a_kept : Nat} {a_tape : Nat} {a_written : Nat} {a_asked : Nat} {a_there : Nat} {a_counts : Nat} {a_lasts : Nat} {a_cames : Nat}  {g : Nat → Int32} {kept : Nat → Int32} {isKept : Int32} {tape : Nat → Int32} {taped0 : Int32} {spot0 : Int32} {written : Nat → Int32} {writtenMany : Int32} {asked : Nat → Int32} {askedMany : Int32} {there : Nat → Int32} {counts : Nat → Int32} {lasts : Nat → Int32} {cames : Nat → Int32}  {o : Int32 × Int32 × Int32} (B : mB E yX12_follows cX12_follows 8 (some .int) 0 0 (po_X12_follows E h a_g a_kept a_tape a_written a_asked a_there a_counts a_lasts a_cames g kept isKept tape taped0 spot0 written writtenMany asked askedMany there counts lasts cames o) p s m args below meth c A Q) {taped : Int32} {spot : Int32}  {x1 : Int32} {x2 : Int32} {x3 : Int32} {x4 : Int32} {x5 : Int32} (k143 : Int32 → Option (Int32 × Int32 × Int32))  (hk143 : ∀ (x6 : Int32)   (H : Heap) (locs : List Loc) (ls : Array Slot), k143 x6 = some o → mW E A s [(h, .inr (11, [.ref a_g, .ref a_kept, .int isKept, .ref a_tape, .int taped, .int spot, .ref a_written, .int writtenMany, .ref a_asked, .int askedMany, .ref a_there, .ref a_counts, .ref a_lasts, .ref a_cames])), (a_g, .inl (E.2.1, 8787, .inl g)), (a_kept, .inl (E.2.1, 8787, .inl kept)), (a_tape, .inl (E.2.2.1, 60, .inl tape)), (a_written, .inl (E.2.1, 40, .inl written)), (a_asked, .inl (E.2.1, 60, .inl asked)), (a_there, .inl (E.2.1, 12, .inl there)), (a_counts, .inl (E.2.1, 12, .inl counts)), (a_lasts, .inl (E.2.1, 12, .inl lasts)), (a_cames, .inl (E.2.1, 12, .inl cames))] H locs → lv_has ls 8 [(0, .ref h), (1, .int x1), (2, .int x2), (3, .int x3), (4, .int x4), (5, .int x5), (6, .int x6)] → W p l e ({ frames := 3, cells := 0, slots := 0, locals := 67 } : Room) s m args below meth c H locs 0 0 Q (F0 m 143 ls [])) : ∀ n : Nat, ∀ (x6 : Int32) (x7 : Int32)   (H : Heap) (locs : List Loc) (ls : Array Slot), L_X12_follows_69 N k143 x1 x2 x3 x4 x5 g tape taped spot n x6 x7 = some o → mW E A s [(h, .inr (11, [.ref a_g, .ref a_kept, .int isKept, .ref a_tape, .int taped, .int spot, .ref a_written, .int writtenMany, .ref a_asked, .int askedMany, .ref a_there, .ref a_counts, .ref a_lasts, .ref a_cames])), (a_g, .inl (E.2.1, 8787, .inl g)), (a_kept, .inl (E.2.1, 8787, .inl kept)), (a_tape, .inl (E.2.2.1, 60, .inl tape)), (a_written, .inl (E.2.1, 40, .inl written)), (a_asked, .inl (E.2.1, 60, .inl asked)), (a_there, .inl (E.2.1, 12, .inl there)), (a_counts, .inl (E.2.1, 12, .inl counts)), (a_lasts, .inl (E.2.1, 12, .inl lasts)), (a_cames, .inl (E.2.1, 12, .inl cames))] H locs → lv_has ls 8 [(0, .ref h), (1, .int x1), (2, .int x2), (3, .int x3), (4, .int x4), (5, .int x5), (6, .int x6), (7, .int x7)] → W p l e ({ frames := 3, cells := 0, slots := 0, locals := 67 } : Room) s m args below meth c H locs 0 0 Q (F0 m 69 ls []) := by
  obtain ⟨hx, hb, hml, hown, hts⟩ := id B.1
  intro n
  induction n with
  | zero =>
    intro x6 x7 H locs ls hf w hl
    exact nomatch hf
  | succ n hrec =>
    intro x6 x7 H locs ls hf w hl
    have hf : K_X12_follows_69 N (L_X12_follows_69 N k143 x1 x2 x3 x4 x5 g tape taped spot n) k143 x1 x2 x3 x4 x5 g tape taped spot x6 x7 = some o := hf
    unfold K_X12_follows_69 at hf
    refine lv_iload hx hb dX12_follows_69 (lv_at hl 7 rfl) ?_
    refine lv_iconst (v := 1) hx hb dX12_follows_71 (by decide) ?_
    refine lv_iadd hx hb dX12_follows_72 ?_
    refine lv_aload_n hx hb dX12_follows_73 rfl (lv_at hl 0 rfl) ?_
    refine mx_get B w 0 fl_X12_9 rfl rfl dX12_follows_74 ?_
    refine lv_bipush (v := 18) hx hb dX12_follows_77 (by decide) ?_
    obtain ⟨hin, hf⟩ := ld_e hf
    refine mx_iald B w 1 rfl hin dX12_follows_79 (fun v_4 ev => ?_)
    have hf := hf _ ev; clear ev
    refine lv_icmp_ge (tgt := 143) hx hb dX12_follows_80 (by decide) (fun hc => ?_) (fun hc => ?_)
    · have hf := it_t hc hf
      exact hk143 _ _ _ _ hf  w (lv_sub hl [0, 1, 2, 3, 4, 5, 6] rfl)
    · have hf := it_f hc hf
      refine lv_iload hx hb dX12_follows_83 (lv_at hl 6 rfl) ?_
      refine lv_aload_n hx hb dX12_follows_85 rfl (lv_at hl 0 rfl) ?_
      refine mx_get B w 0 fl_X12_9 rfl rfl dX12_follows_86 ?_
      refine lv_sipush (v := 8607) hx hb dX12_follows_89 (by decide) ?_
      refine lv_iload hx hb dX12_follows_92 (lv_at hl 7 rfl) ?_
      refine lv_iadd hx hb dX12_follows_94 ?_
      obtain ⟨hin, hf⟩ := ld_e hf
      refine mx_iald B w 1 rfl hin dX12_follows_95 (fun v_5 ev => ?_)
      have hf := hf _ ev; clear ev
      refine lv_iload_n hx hb dX12_follows_96 rfl (lv_at hl 2 rfl) ?_
      refine lv_icmp_ne (tgt := 133) hx hb dX12_follows_97 (by decide) (fun hc => ?_) (fun hc => ?_)
      · have hf := it_f hc hf
        exact j_X12_follows_133 B _ _ hrec hk143 hf  w (lv_sub hl [0, 1, 2, 3, 4, 5, 7] rfl)
      · have hf := it_t hc hf
        refine lv_aload_n hx hb dX12_follows_100 rfl (lv_at hl 0 rfl) ?_
        refine mx_get B w 0 fl_X12_9 rfl rfl dX12_follows_101 ?_
        refine lv_sipush (v := 8607) hx hb dX12_follows_104 (by decide) ?_
        refine lv_iload hx hb dX12_follows_107 (lv_at hl 7 rfl) ?_
        refine lv_iadd hx hb dX12_follows_109 ?_
        refine lv_iconst (v := 1) hx hb dX12_follows_110 (by decide) ?_
        refine lv_iadd hx hb dX12_follows_111 ?_
        obtain ⟨hin, hf⟩ := ld_e hf
        refine mx_iald B w 1 rfl hin dX12_follows_112 (fun v_8 ev => ?_)
        have hf := hf _ ev; clear ev
        refine lv_aload_n hx hb dX12_follows_113 rfl (lv_at hl 0 rfl) ?_
        refine mx_get B w 0 fl_X12_9 rfl rfl dX12_follows_114 ?_
        refine lv_sipush (v := 8607) hx hb dX12_follows_117 (by decide) ?_
        refine lv_iload hx hb dX12_follows_120 (lv_at hl 5 rfl) ?_
        refine lv_iadd hx hb dX12_follows_122 ?_
        refine lv_iconst (v := 1) hx hb dX12_follows_123 (by decide) ?_
        refine lv_iadd hx hb dX12_follows_124 ?_
        obtain ⟨hin, hf⟩ := ld_e hf
        refine mx_iald B w 1 rfl hin dX12_follows_125 (fun v_9 ev => ?_)
        have hf := hf _ ev; clear ev
        refine lv_icmp_ne (tgt := 133) hx hb dX12_follows_126 (by decide) (fun hc => ?_) (fun hc => ?_)
        · have hf := it_f hc hf
          exact j_X12_follows_133 B _ _ hrec hk143 hf  w (lv_sub hl [0, 1, 2, 3, 4, 5, 7] rfl)
        · have hf := it_t hc hf
          refine lv_iconst (v := 1) hx hb dX12_follows_129 (by decide) ?_
          refine lv_goto (tgt := 134) hx hb dX12_follows_130 (by decide) ?_
          exact j_X12_follows_134 B _ _ hrec hk143 hf  w (lv_sub hl [0, 1, 2, 3, 4, 5, 7] rfl)
noncomputable def J_X12_follows_168 (N : Nat)  (rec : Int32 → Int32 → Int32 → Option (Int32 × Int32 × Int32)) (k174 : Int32 → Int32 → Option (Int32 × Int32 × Int32)) (x1 : Int32) (x2 : Int32) (x3 : Int32) (x4 : Int32) (x5 : Int32) (g : Nat → Int32) (tape : Nat → Int32) (taped : Int32) (spot : Int32) : Option (Int32 × Int32 × Int32) :=
  lt (x5 + 1) (fun x5_10 =>
  rec x3 x4 x5_10)
set_option maxHeartbeats 4000000 in
set_option maxRecDepth 100000 in
theorem j_X12_follows_168 {E : mE} {l : Launch} {p : Program} {e : Env} {s : State} {m : MethodId} {args : Array Value} {below : List Frame} {meth : Method} {c : Code} {A : Nat → Prop} {Q : State → Prop} {N : Nat} {h : Nat} {a_g : Nat} {a_kept : Nat} {a_tape : Nat} {a_written : Nat} {a_asked : Nat} {a_there : Nat} {a_counts : Nat} {a_lasts : Nat} {a_cames : Nat}  {g : Nat → Int32} {kept : Nat → Int32} {isKept : Int32} {tape : Nat → Int32} {taped0 : Int32} {spot0 : Int32} {written : Nat → Int32} {writtenMany : Int32} {asked : Nat → Int32} {askedMany : Int32} {there : Nat → Int32} {counts : Nat → Int32} {lasts : Nat → Int32} {cames : Nat → Int32}  {o : Int32 × Int32 × Int32} (B : mB E yX12_follows cX12_follows 8 (some .int) 0 0 (po_X12_follows E h a_g a_kept a_tape a_written a_asked a_there a_counts a_lasts a_cames g kept isKept tape taped0 spot0 written writtenMany asked askedMany there counts lasts cames o) p s m args below meth c A Q) {x1 : Int32} {x2 : Int32} {x3 : Int32} {x4 : Int32} {x5 : Int32} {taped : Int32} {spot : Int32}  (rec : Int32 → Int32 → Int32 → Option (Int32 × Int32 × Int32)) (k174 : Int32 → Int32 → Option (Int32 × Int32 × Int32)) (hrec : ∀ (x3 : Int32) (x4 : Int32) (x5 : Int32)   (H : Heap) (locs : List Loc) (ls : Array Slot), rec x3 x4 x5 = some o → mW E A s [(h, .inr (11, [.ref a_g, .ref a_kept, .int isKept, .ref a_tape, .int taped, .int spot, .ref a_written, .int writtenMany, .ref a_asked, .int askedMany, .ref a_there, .ref a_counts, .ref a_lasts, .ref a_cames])), (a_g, .inl (E.2.1, 8787, .inl g)), (a_kept, .inl (E.2.1, 8787, .inl kept)), (a_tape, .inl (E.2.2.1, 60, .inl tape)), (a_written, .inl (E.2.1, 40, .inl written)), (a_asked, .inl (E.2.1, 60, .inl asked)), (a_there, .inl (E.2.1, 12, .inl there)), (a_counts, .inl (E.2.1, 12, .inl counts)), (a_lasts, .inl (E.2.1, 12, .inl lasts)), (a_cames, .inl (E.2.1, 12, .inl cames))] H locs → lv_has ls 8 [(0, .ref h), (1, .int x1), (2, .int x2), (3, .int x3), (4, .int x4), (5, .int x5)] → W p l e ({ frames := 3, cells := 0, slots := 0, locals := 67 } : Room) s m args below meth c H locs 0 0 Q (F0 m 31 ls [])) (hk174 : ∀ (x3 : Int32) (x4 : Int32)   (H : Heap) (locs : List Loc) (ls : Array Slot), k174 x3 x4 = some o → mW E A s [(h, .inr (11, [.ref a_g, .ref a_kept, .int isKept, .ref a_tape, .int taped, .int spot, .ref a_written, .int writtenMany, .ref a_asked, .int askedMany, .ref a_there, .ref a_counts, .ref a_lasts, .ref a_cames])), (a_g, .inl (E.2.1, 8787, .inl g)), (a_kept, .inl (E.2.1, 8787, .inl kept)), (a_tape, .inl (E.2.2.1, 60, .inl tape)), (a_written, .inl (E.2.1, 40, .inl written)), (a_asked, .inl (E.2.1, 60, .inl asked)), (a_there, .inl (E.2.1, 12, .inl there)), (a_counts, .inl (E.2.1, 12, .inl counts)), (a_lasts, .inl (E.2.1, 12, .inl lasts)), (a_cames, .inl (E.2.1, 12, .inl cames))] H locs → lv_has ls 8 [(1, .int x1), (3, .int x3), (4, .int x4)] → W p l e ({ frames := 3, cells := 0, slots := 0, locals := 67 } : Room) s m args below meth c H locs 0 0 Q (F0 m 174 ls [])) {H : Heap} {locs : List Loc} {ls : Array Slot} (hf : J_X12_follows_168 N rec k174 x1 x2 x3 x4 x5 g tape taped spot = some o)  (w : mW E A s [(h, .inr (11, [.ref a_g, .ref a_kept, .int isKept, .ref a_tape, .int taped, .int spot, .ref a_written, .int writtenMany, .ref a_asked, .int askedMany, .ref a_there, .ref a_counts, .ref a_lasts, .ref a_cames])), (a_g, .inl (E.2.1, 8787, .inl g)), (a_kept, .inl (E.2.1, 8787, .inl kept)), (a_tape, .inl (E.2.2.1, 60, .inl tape)), (a_written, .inl (E.2.1, 40, .inl written)), (a_asked, .inl (E.2.1, 60, .inl asked)), (a_there, .inl (E.2.1, 12, .inl there)), (a_counts, .inl (E.2.1, 12, .inl counts)), (a_lasts, .inl (E.2.1, 12, .inl lasts)), (a_cames, .inl (E.2.1, 12, .inl cames))] H locs) (hl : lv_has ls 8 [(0, .ref h), (1, .int x1), (2, .int x2), (3, .int x3), (4, .int x4), (5, .int x5)]) : W p l e ({ frames := 3, cells := 0, slots := 0, locals := 67 } : Room) s m args below meth c H locs 0 0 Q (F0 m 168 ls []) := by
  obtain ⟨hx, hb, hml, hown, hts⟩ := id B.1
  unfold J_X12_follows_168 at hf
  obtain ⟨x5_10, ev⟩ : ∃ y : Int32, y = x5 + 1 := ⟨_, rfl⟩
  refine lv_iinc (v := x5_10) (lv' := [(5, .int x5_10), (0, .ref h), (1, .int x1), (2, .int x2), (3, .int x3), (4, .int x4)]) hx hb dX12_follows_168 hl (k := 5) rfl (by rw [ev]; rfl) (by decide) rfl (fun ls hl => ?_)
  have hf := lt_n ev hf; clear ev
  refine lv_goto (tgt := 31) hx hb dX12_follows_171 (by decide) ?_
  exact hrec _ _ _ _ _ _ hf  w (lv_sub hl [1, 2, 3, 4, 5, 0] rfl)
noncomputable def K_X12_follows_31 (N : Nat)  (rec : Int32 → Int32 → Int32 → Option (Int32 × Int32 × Int32)) (k174 : Int32 → Int32 → Option (Int32 × Int32 × Int32)) (x1 : Int32) (x2 : Int32) (g : Nat → Int32) (tape : Nat → Int32) (taped : Int32) (spot : Int32) (x3 : Int32) (x4 : Int32) (x5 : Int32)  : Option (Int32 × Int32 × Int32) :=
  ld g 8787 18 (fun v_2 =>
  if (v_2 ≤ (x5 + 1) : Prop) then
  k174 x3 x4
  else
  ld g 8787 (8607 + x5) (fun v_3 =>
  if (v_3 = x2 : Prop) then
  L_X12_follows_69 N (fun x6 => if (x6 ≤ x4 : Prop) then
  J_X12_follows_168 N rec k174 x1 x2 x3 x4 x5 g tape taped spot
  else
  ld g 8787 ((8607 + x5) + 1) (fun v_11 =>
  J_X12_follows_168 N rec k174 x1 x2 v_11 x6 x5 g tape taped spot)) x1 x2 x3 x4 x5 g tape taped spot N 0 0
  else
  J_X12_follows_168 N rec k174 x1 x2 x3 x4 x5 g tape taped spot))
noncomputable def L_X12_follows_31 (N : Nat)  (k174 : Int32 → Int32 → Option (Int32 × Int32 × Int32)) (x1 : Int32) (x2 : Int32) (g : Nat → Int32) (tape : Nat → Int32) (taped : Int32) (spot : Int32) (n : Nat) : Int32 → Int32 → Int32 → Option (Int32 × Int32 × Int32) :=
  Nat.rec (motive := fun _ => Int32 → Int32 → Int32 → Option (Int32 × Int32 × Int32)) (fun _ _ _ => none) (fun _ rec => K_X12_follows_31 N rec k174 x1 x2 g tape taped spot) n
set_option maxHeartbeats 4000000 in
set_option maxRecDepth 100000 in
theorem l_X12_follows_31 {E : mE} {l : Launch} {p : Program} {e : Env} {s : State} {m : MethodId} {args : Array Value} {below : List Frame} {meth : Method} {c : Code} {A : Nat → Prop} {Q : State → Prop} {N : Nat} {h : Nat} {a_g : Nat} {a_kept : Nat} {a_tape : Nat} {a_written : Nat} {a_asked : Nat} {a_there : Nat} {a_counts : Nat} {a_lasts : Nat} {a_cames : Nat}  {g : Nat → Int32} {kept : Nat → Int32} {isKept : Int32} {tape : Nat → Int32} {taped0 : Int32} {spot0 : Int32} {written : Nat → Int32} {writtenMany : Int32} {asked : Nat → Int32} {askedMany : Int32} {there : Nat → Int32} {counts : Nat → Int32} {lasts : Nat → Int32} {cames : Nat → Int32}  {o : Int32 × Int32 × Int32} (B : mB E yX12_follows cX12_follows 8 (some .int) 0 0 (po_X12_follows E h a_g a_kept a_tape a_written a_asked a_there a_counts a_lasts a_cames g kept isKept tape taped0 spot0 written writtenMany asked askedMany there counts lasts cames o) p s m args below meth c A Q) {taped : Int32} {spot : Int32}  {x1 : Int32} {x2 : Int32} (k174 : Int32 → Int32 → Option (Int32 × Int32 × Int32))  (hk174 : ∀ (x3 : Int32) (x4 : Int32)   (H : Heap) (locs : List Loc) (ls : Array Slot), k174 x3 x4 = some o → mW E A s [(h, .inr (11, [.ref a_g, .ref a_kept, .int isKept, .ref a_tape, .int taped, .int spot, .ref a_written, .int writtenMany, .ref a_asked, .int askedMany, .ref a_there, .ref a_counts, .ref a_lasts, .ref a_cames])), (a_g, .inl (E.2.1, 8787, .inl g)), (a_kept, .inl (E.2.1, 8787, .inl kept)), (a_tape, .inl (E.2.2.1, 60, .inl tape)), (a_written, .inl (E.2.1, 40, .inl written)), (a_asked, .inl (E.2.1, 60, .inl asked)), (a_there, .inl (E.2.1, 12, .inl there)), (a_counts, .inl (E.2.1, 12, .inl counts)), (a_lasts, .inl (E.2.1, 12, .inl lasts)), (a_cames, .inl (E.2.1, 12, .inl cames))] H locs → lv_has ls 8 [(1, .int x1), (3, .int x3), (4, .int x4)] → W p l e ({ frames := 3, cells := 0, slots := 0, locals := 67 } : Room) s m args below meth c H locs 0 0 Q (F0 m 174 ls [])) : ∀ n : Nat, ∀ (x3 : Int32) (x4 : Int32) (x5 : Int32)   (H : Heap) (locs : List Loc) (ls : Array Slot), L_X12_follows_31 N k174 x1 x2 g tape taped spot n x3 x4 x5 = some o → mW E A s [(h, .inr (11, [.ref a_g, .ref a_kept, .int isKept, .ref a_tape, .int taped, .int spot, .ref a_written, .int writtenMany, .ref a_asked, .int askedMany, .ref a_there, .ref a_counts, .ref a_lasts, .ref a_cames])), (a_g, .inl (E.2.1, 8787, .inl g)), (a_kept, .inl (E.2.1, 8787, .inl kept)), (a_tape, .inl (E.2.2.1, 60, .inl tape)), (a_written, .inl (E.2.1, 40, .inl written)), (a_asked, .inl (E.2.1, 60, .inl asked)), (a_there, .inl (E.2.1, 12, .inl there)), (a_counts, .inl (E.2.1, 12, .inl counts)), (a_lasts, .inl (E.2.1, 12, .inl lasts)), (a_cames, .inl (E.2.1, 12, .inl cames))] H locs → lv_has ls 8 [(0, .ref h), (1, .int x1), (2, .int x2), (3, .int x3), (4, .int x4), (5, .int x5)] → W p l e ({ frames := 3, cells := 0, slots := 0, locals := 67 } : Room) s m args below meth c H locs 0 0 Q (F0 m 31 ls []) := by
  obtain ⟨hx, hb, hml, hown, hts⟩ := id B.1
  intro n
  induction n with
  | zero =>
    intro x3 x4 x5 H locs ls hf w hl
    exact nomatch hf
  | succ n hrec =>
    intro x3 x4 x5 H locs ls hf w hl
    have hf : K_X12_follows_31 N (L_X12_follows_31 N k174 x1 x2 g tape taped spot n) k174 x1 x2 g tape taped spot x3 x4 x5 = some o := hf
    unfold K_X12_follows_31 at hf
    refine lv_iload hx hb dX12_follows_31 (lv_at hl 5 rfl) ?_
    refine lv_iconst (v := 1) hx hb dX12_follows_33 (by decide) ?_
    refine lv_iadd hx hb dX12_follows_34 ?_
    refine lv_aload_n hx hb dX12_follows_35 rfl (lv_at hl 0 rfl) ?_
    refine mx_get B w 0 fl_X12_9 rfl rfl dX12_follows_36 ?_
    refine lv_bipush (v := 18) hx hb dX12_follows_39 (by decide) ?_
    obtain ⟨hin, hf⟩ := ld_e hf
    refine mx_iald B w 1 rfl hin dX12_follows_41 (fun v_2 ev => ?_)
    have hf := hf _ ev; clear ev
    refine lv_icmp_ge (tgt := 174) hx hb dX12_follows_42 (by decide) (fun hc => ?_) (fun hc => ?_)
    · have hf := it_t hc hf
      exact hk174 _ _ _ _ _ hf  w (lv_sub hl [1, 3, 4] rfl)
    · have hf := it_f hc hf
      refine lv_aload_n hx hb dX12_follows_45 rfl (lv_at hl 0 rfl) ?_
      refine mx_get B w 0 fl_X12_9 rfl rfl dX12_follows_46 ?_
      refine lv_sipush (v := 8607) hx hb dX12_follows_49 (by decide) ?_
      refine lv_iload hx hb dX12_follows_52 (lv_at hl 5 rfl) ?_
      refine lv_iadd hx hb dX12_follows_54 ?_
      obtain ⟨hin, hf⟩ := ld_e hf
      refine mx_iald B w 1 rfl hin dX12_follows_55 (fun v_3 ev => ?_)
      have hf := hf _ ev; clear ev
      refine lv_iload_n hx hb dX12_follows_56 rfl (lv_at hl 2 rfl) ?_
      refine lv_icmp_eq (tgt := 63) hx hb dX12_follows_57 (by decide) (fun hc => ?_) (fun hc => ?_)
      · have hf := it_t hc hf
        refine lv_iconst (v := 0) hx hb dX12_follows_63 (by decide) ?_
        refine lv_istore (lv' := [(6, .int 0), (0, .ref h), (1, .int x1), (2, .int x2), (3, .int x3), (4, .int x4), (5, .int x5)]) hx hb dX12_follows_64 hl (by decide) rfl (fun ls hl => ?_)
        refine lv_iconst (v := 0) hx hb dX12_follows_66 (by decide) ?_
        refine lv_istore (lv' := [(7, .int 0), (6, .int 0), (0, .ref h), (1, .int x1), (2, .int x2), (3, .int x3), (4, .int x4), (5, .int x5)]) hx hb dX12_follows_67 hl (by decide) rfl (fun ls hl => ?_)
        refine l_X12_follows_69 B _  ?_ N _ _ _ _ _ hf  w (lv_sub hl [2, 3, 4, 5, 6, 7, 1, 0] rfl)
        · intro x6 H locs ls hf w hl
          refine lv_iload hx hb dX12_follows_143 (lv_at hl 6 rfl) ?_
          refine lv_iload hx hb dX12_follows_145 (lv_at hl 4 rfl) ?_
          refine lv_icmp_le (tgt := 168) hx hb dX12_follows_147 (by decide) (fun hc => ?_) (fun hc => ?_)
          · have hf := it_t hc hf
            exact j_X12_follows_168 B _ _ hrec hk174 hf  w (lv_sub hl [0, 1, 2, 3, 4, 5] rfl)
          · have hf := it_f hc hf
            refine lv_iload hx hb dX12_follows_150 (lv_at hl 6 rfl) ?_
            refine lv_istore (lv' := [(4, .int x6), (0, .ref h), (1, .int x1), (2, .int x2), (3, .int x3), (5, .int x5), (6, .int x6)]) hx hb dX12_follows_152 hl (by decide) rfl (fun ls hl => ?_)
            refine lv_aload_n hx hb dX12_follows_154 rfl (lv_at hl 1 rfl) ?_
            refine mx_get B w 0 fl_X12_9 rfl rfl dX12_follows_155 ?_
            refine lv_sipush (v := 8607) hx hb dX12_follows_158 (by decide) ?_
            refine lv_iload hx hb dX12_follows_161 (lv_at hl 5 rfl) ?_
            refine lv_iadd hx hb dX12_follows_163 ?_
            refine lv_iconst (v := 1) hx hb dX12_follows_164 (by decide) ?_
            refine lv_iadd hx hb dX12_follows_165 ?_
            obtain ⟨hin, hf⟩ := ld_e hf
            refine mx_iald B w 1 rfl hin dX12_follows_166 (fun v_11 ev => ?_)
            have hf := hf _ ev; clear ev
            refine lv_istore_n (lv' := [(3, .int v_11), (4, .int x6), (0, .ref h), (1, .int x1), (2, .int x2), (5, .int x5), (6, .int x6)]) hx hb dX12_follows_167 rfl hl (by decide) rfl (fun ls hl => ?_)
            exact j_X12_follows_168 B _ _ hrec hk174 hf  w (lv_sub hl [2, 3, 4, 0, 1, 5] rfl)
      · have hf := it_f hc hf
        refine lv_goto (tgt := 168) hx hb dX12_follows_60 (by decide) ?_
        exact j_X12_follows_168 B _ _ hrec hk174 hf  w (lv_sub hl [0, 1, 2, 3, 4, 5] rfl)
noncomputable def J_X12_follows_205 (N : Nat)   (t0 : Int32) (t1 : Int32) (g : Nat → Int32) (tape : Nat → Int32) (taped : Int32) (spot : Int32) : Option (Int32 × Int32 × Int32) :=
  bd (F_X12_keyTells N t0 t1) (fun o_12 =>
  some (o_12, taped, spot))
set_option maxHeartbeats 4000000 in
set_option maxRecDepth 100000 in
theorem j_X12_follows_205 {E : mE} {l : Launch} {p : Program} {e : Env} {s : State} {m : MethodId} {args : Array Value} {below : List Frame} {meth : Method} {c : Code} {A : Nat → Prop} {Q : State → Prop} {N : Nat} {h : Nat} {a_g : Nat} {a_kept : Nat} {a_tape : Nat} {a_written : Nat} {a_asked : Nat} {a_there : Nat} {a_counts : Nat} {a_lasts : Nat} {a_cames : Nat}  {g : Nat → Int32} {kept : Nat → Int32} {isKept : Int32} {tape : Nat → Int32} {taped0 : Int32} {spot0 : Int32} {written : Nat → Int32} {writtenMany : Int32} {asked : Nat → Int32} {askedMany : Int32} {there : Nat → Int32} {counts : Nat → Int32} {lasts : Nat → Int32} {cames : Nat → Int32}  {o : Int32 × Int32 × Int32} (B : mB E yX12_follows cX12_follows 8 (some .int) 0 0 (po_X12_follows E h a_g a_kept a_tape a_written a_asked a_there a_counts a_lasts a_cames g kept isKept tape taped0 spot0 written writtenMany asked askedMany there counts lasts cames o) p s m args below meth c A Q) {t0 : Int32} {t1 : Int32} {taped : Int32} {spot : Int32}    {H : Heap} {locs : List Loc} {ls : Array Slot} (hf : J_X12_follows_205 N t0 t1 g tape taped spot = some o)  (w : mW E A s [(h, .inr (11, [.ref a_g, .ref a_kept, .int isKept, .ref a_tape, .int taped, .int spot, .ref a_written, .int writtenMany, .ref a_asked, .int askedMany, .ref a_there, .ref a_counts, .ref a_lasts, .ref a_cames])), (a_g, .inl (E.2.1, 8787, .inl g)), (a_kept, .inl (E.2.1, 8787, .inl kept)), (a_tape, .inl (E.2.2.1, 60, .inl tape)), (a_written, .inl (E.2.1, 40, .inl written)), (a_asked, .inl (E.2.1, 60, .inl asked)), (a_there, .inl (E.2.1, 12, .inl there)), (a_counts, .inl (E.2.1, 12, .inl counts)), (a_lasts, .inl (E.2.1, 12, .inl lasts)), (a_cames, .inl (E.2.1, 12, .inl cames))] H locs) (hl : lv_has ls 8 []) : W p l e ({ frames := 3, cells := 0, slots := 0, locals := 67 } : Room) s m args below meth c H locs 0 0 Q (F0 m 205 ls [.int t1, .int t0]) := by
  obtain ⟨hx, hb, hml, hown, hts⟩ := id B.1
  unfold J_X12_follows_205 at hf
  obtain ⟨o_12, hq, hf⟩ := bd_e hf
  refine mx_callS (As := [.int t0, .int t1]) (rest := []) (wr := [(h, .inr (11, [.ref a_g, .ref a_kept, .int isKept, .ref a_tape, .int taped, .int spot, .ref a_written, .int writtenMany, .ref a_asked, .int askedMany, .ref a_there, .ref a_counts, .ref a_lasts, .ref a_cames])), (a_g, .inl (E.2.1, 8787, .inl g)), (a_kept, .inl (E.2.1, 8787, .inl kept)), (a_tape, .inl (E.2.2.1, 60, .inl tape)), (a_written, .inl (E.2.1, 40, .inl written)), (a_asked, .inl (E.2.1, 60, .inl asked)), (a_there, .inl (E.2.1, 12, .inl there)), (a_counts, .inl (E.2.1, 12, .inl counts)), (a_lasts, .inl (E.2.1, 12, .inl lasts)), (a_cames, .inl (E.2.1, 12, .inl cames))]) (d_X12_keyTells E l N  t0 t1  o_12 hq) B w [] [0, 1, 2, 3, 4, 5, 6, 7, 8, 9] rfl rfl (by decide) (by decide) (by decide) cs_X12_keyTells kw_1450 2 (by decide +kernel) ⟨Nat.le_of_ble_eq_true rfl, Nat.le_of_ble_eq_true rfl⟩ rfl hl.1 rfl (Nat.le_of_ble_eq_true rfl) dX12_follows_205 rfl rfl ⟨Nat.zero_le _, Nat.zero_le _⟩ (fun v w' H locs hpo w => ?_)
  clear hq
  obtain ⟨rfl, rfl⟩ := hpo
  have w : mW E A s [(h, .inr (11, [.ref a_g, .ref a_kept, .int isKept, .ref a_tape, .int taped, .int spot, .ref a_written, .int writtenMany, .ref a_asked, .int askedMany, .ref a_there, .ref a_counts, .ref a_lasts, .ref a_cames])), (a_g, .inl (E.2.1, 8787, .inl g)), (a_kept, .inl (E.2.1, 8787, .inl kept)), (a_tape, .inl (E.2.2.1, 60, .inl tape)), (a_written, .inl (E.2.1, 40, .inl written)), (a_asked, .inl (E.2.1, 60, .inl asked)), (a_there, .inl (E.2.1, 12, .inl there)), (a_counts, .inl (E.2.1, 12, .inl counts)), (a_lasts, .inl (E.2.1, 12, .inl lasts)), (a_cames, .inl (E.2.1, 12, .inl cames))] H locs := w
  cases hf
  exact mx_iret B w ⟨rfl, rfl⟩ dX12_follows_208
noncomputable def F_X12_follows (N : Nat)  (g : Nat → Int32) (tape : Nat → Int32) (taped : Int32) (spot : Int32) (x1 : Int32) : Option (Int32 × Int32 × Int32) :=
  if (((-2)) ≤ x1 : Prop) then
  bd (F_X12_takesKey N tape taped spot) (fun o_1 =>
  if (o_1.1 = 0 : Prop) then
  some ((-1002), o_1.2.1, o_1.2.2)
  else
  L_X12_follows_31 N (fun x3 x4 => if (x1 = ((-1)) : Prop) then
  some (x4, o_1.2.1, o_1.2.2)
  else
  if (x4 = 0 : Prop) then
  some ((-1003), o_1.2.1, o_1.2.2)
  else
  if (x1 = ((-2)) : Prop) then
  J_X12_follows_205 N x3 ((-1)) g tape o_1.2.1 o_1.2.2
  else
  J_X12_follows_205 N x3 x1 g tape o_1.2.1 o_1.2.2) x1 o_1.1 g tape o_1.2.1 o_1.2.2 N 0 0 0)
  else
  some ((-1001), taped, spot)
set_option maxHeartbeats 4000000 in
set_option maxRecDepth 100000 in
theorem d_X12_follows (E : mE) (l : Launch) (N : Nat) (h : Nat) (a_g : Nat) (a_kept : Nat) (a_tape : Nat) (a_written : Nat) (a_asked : Nat) (a_there : Nat) (a_counts : Nat) (a_lasts : Nat) (a_cames : Nat)  (g : Nat → Int32) (kept : Nat → Int32) (isKept : Int32) (tape : Nat → Int32) (taped : Int32) (spot : Int32) (written : Nat → Int32) (writtenMany : Int32) (asked : Nat → Int32) (askedMany : Int32) (there : Nat → Int32) (counts : Nat → Int32) (lasts : Nat → Int32) (cames : Nat → Int32)  (x1 : Int32)  (o : Int32 × Int32 × Int32) (hf : F_X12_follows N g tape taped spot x1 = some o) : MX E l yX12_follows cX12_follows 8 (some .int) ({ frames := 3, cells := 0, slots := 0, locals := 67 } : Room) [.ref h, .int x1] [(h, .inr (11, [.ref a_g, .ref a_kept, .int isKept, .ref a_tape, .int taped, .int spot, .ref a_written, .int writtenMany, .ref a_asked, .int askedMany, .ref a_there, .ref a_counts, .ref a_lasts, .ref a_cames])), (a_g, .inl (E.2.1, 8787, .inl g)), (a_kept, .inl (E.2.1, 8787, .inl kept)), (a_tape, .inl (E.2.2.1, 60, .inl tape)), (a_written, .inl (E.2.1, 40, .inl written)), (a_asked, .inl (E.2.1, 60, .inl asked)), (a_there, .inl (E.2.1, 12, .inl there)), (a_counts, .inl (E.2.1, 12, .inl counts)), (a_lasts, .inl (E.2.1, 12, .inl lasts)), (a_cames, .inl (E.2.1, 12, .inl cames))] (po_X12_follows E h a_g a_kept a_tape a_written a_asked a_there a_counts a_lasts a_cames g kept isKept tape taped spot written writtenMany asked askedMany there counts lasts cames o) := by
  refine mx_intro (by decide +kernel) (Nat.le_of_ble_eq_true rfl) ?_
  intro p e s m args below meth c A Q ls B w hl
  obtain ⟨hx, hb, hml, hown, hts⟩ := id B.1
  unfold F_X12_follows at hf
  have hl : lv_has ls 8 [(0, .ref h), (1, .int x1)] := hl
  refine lv_iload_n hx hb dX12_follows_0 rfl (lv_at hl 1 rfl) ?_
  refine lv_bipush (v := (-2)) hx hb dX12_follows_1 (by decide) ?_
  refine lv_icmp_ge (tgt := 10) hx hb dX12_follows_3 (by decide) (fun hc => ?_) (fun hc => ?_)
  · have hf := it_t hc hf
    refine lv_aload_n hx hb dX12_follows_10 rfl (lv_at hl 0 rfl) ?_
    obtain ⟨o_1, hq, hf⟩ := bd_e hf
    refine mx_callV (As := []) (rest := []) (wr := []) (d_X12_takesKey E l N h a_g a_kept a_tape a_written a_asked a_there a_counts a_lasts a_cames g kept isKept tape taped spot written writtenMany asked askedMany there counts lasts cames   o_1 hq) B w [0, 1, 2, 3, 4, 5, 6, 7, 8, 9] [] rfl rfl (by decide) (by decide) (by decide) 0 rfl rfl cv_X12_takesKey kw_1281 0 (by decide +kernel) ⟨Nat.le_of_ble_eq_true rfl, Nat.le_of_ble_eq_true rfl⟩ rfl hl.1 rfl (Nat.le_of_ble_eq_true rfl) dX12_follows_11 rfl rfl ⟨Nat.zero_le _, Nat.zero_le _⟩ (fun v w' H locs hpo w => ?_)
    clear hq
    obtain ⟨rfl, rfl⟩ := hpo
    have w : mW E A s [(h, .inr (11, [.ref a_g, .ref a_kept, .int isKept, .ref a_tape, .int o_1.2.1, .int o_1.2.2, .ref a_written, .int writtenMany, .ref a_asked, .int askedMany, .ref a_there, .ref a_counts, .ref a_lasts, .ref a_cames])), (a_g, .inl (E.2.1, 8787, .inl g)), (a_kept, .inl (E.2.1, 8787, .inl kept)), (a_tape, .inl (E.2.2.1, 60, .inl tape)), (a_written, .inl (E.2.1, 40, .inl written)), (a_asked, .inl (E.2.1, 60, .inl asked)), (a_there, .inl (E.2.1, 12, .inl there)), (a_counts, .inl (E.2.1, 12, .inl counts)), (a_lasts, .inl (E.2.1, 12, .inl lasts)), (a_cames, .inl (E.2.1, 12, .inl cames))] H locs := w
    refine lv_istore_n (lv' := [(2, .int o_1.1), (0, .ref h), (1, .int x1)]) hx hb dX12_follows_14 rfl hl (by decide) rfl (fun ls hl => ?_)
    refine lv_iload_n hx hb dX12_follows_15 rfl (lv_at hl 0 rfl) ?_
    refine lv_if_ne (tgt := 23) hx hb dX12_follows_16 (by decide) (fun hc => ?_) (fun hc => ?_)
    · have hf := it_f hc hf
      refine lv_iconst (v := 0) hx hb dX12_follows_23 (by decide) ?_
      refine lv_istore_n (lv' := [(3, .int 0), (2, .int o_1.1), (0, .ref h), (1, .int x1)]) hx hb dX12_follows_24 rfl hl (by decide) rfl (fun ls hl => ?_)
      refine lv_iconst (v := 0) hx hb dX12_follows_25 (by decide) ?_
      refine lv_istore (lv' := [(4, .int 0), (3, .int 0), (2, .int o_1.1), (0, .ref h), (1, .int x1)]) hx hb dX12_follows_26 hl (by decide) rfl (fun ls hl => ?_)
      refine lv_iconst (v := 0) hx hb dX12_follows_28 (by decide) ?_
      refine lv_istore (lv' := [(5, .int 0), (4, .int 0), (3, .int 0), (2, .int o_1.1), (0, .ref h), (1, .int x1)]) hx hb dX12_follows_29 hl (by decide) rfl (fun ls hl => ?_)
      refine l_X12_follows_31 B _  ?_ N _ _ _ _ _ _ hf  w (lv_sub hl [4, 5, 3, 2, 1, 0] rfl)
      · intro x3 x4 H locs ls hf w hl
        refine lv_iload_n hx hb dX12_follows_174 rfl (lv_at hl 0 rfl) ?_
        refine lv_iconst (v := (-1)) hx hb dX12_follows_175 (by decide) ?_
        refine lv_icmp_ne (tgt := 182) hx hb dX12_follows_176 (by decide) (fun hc => ?_) (fun hc => ?_)
        · have hf := it_f hc hf
          refine lv_iload hx hb dX12_follows_182 (lv_at hl 2 rfl) ?_
          refine lv_if_ne (tgt := 193) hx hb dX12_follows_184 (by decide) (fun hc => ?_) (fun hc => ?_)
          · have hf := it_f hc hf
            refine lv_iload_n hx hb dX12_follows_193 rfl (lv_at hl 1 rfl) ?_
            refine lv_iload_n hx hb dX12_follows_194 rfl (lv_at hl 0 rfl) ?_
            refine lv_bipush (v := (-2)) hx hb dX12_follows_195 (by decide) ?_
            refine lv_icmp_ne (tgt := 204) hx hb dX12_follows_197 (by decide) (fun hc => ?_) (fun hc => ?_)
            · have hf := it_f hc hf
              refine lv_iload_n hx hb dX12_follows_204 rfl (lv_at hl 0 rfl) ?_
              exact j_X12_follows_205 B   hf  w (lv_sub hl [] rfl)
            · have hf := it_t hc hf
              refine lv_iconst (v := (-1)) hx hb dX12_follows_200 (by decide) ?_
              refine lv_goto (tgt := 205) hx hb dX12_follows_201 (by decide) ?_
              exact j_X12_follows_205 B   hf  w (lv_sub hl [] rfl)
          · have hf := it_t hc hf
            refine lv_sipush (v := (-1003)) hx hb dX12_follows_187 (by decide) ?_
            refine lv_goto (tgt := 208) hx hb dX12_follows_190 (by decide) ?_
            cases hf
            exact mx_iret B w ⟨rfl, rfl⟩ dX12_follows_208
        · have hf := it_t hc hf
          refine lv_iload hx hb dX12_follows_179 (lv_at hl 2 rfl) ?_
          cases hf
          exact mx_iret B w ⟨rfl, rfl⟩ dX12_follows_181
    · have hf := it_t hc hf
      refine lv_sipush (v := (-1002)) hx hb dX12_follows_19 (by decide) ?_
      cases hf
      exact mx_iret B w ⟨rfl, rfl⟩ dX12_follows_22
  · have hf := it_f hc hf
    refine lv_sipush (v := (-1001)) hx hb dX12_follows_6 (by decide) ?_
    cases hf
    exact mx_iret B w ⟨rfl, rfl⟩ dX12_follows_9
-- X12_isReplay
def po_X12_isReplay (E : mE)     (o : Int32) : Option Value → va_W → Prop := (fun (v : Option Value) (w' : va_W) => v = some (.int o) ∧ w' = [])
noncomputable def F_X12_isReplay   (x0 : Int32) (x1 : Int32) : Option (Int32) :=
  bd (F_X12_in x0 0 3) (fun o_1 =>
  if (o_1 = 0 : Prop) then
  some (0)
  else
  bd (F_X12_in x1 1 12) (fun o_2 =>
  if (o_2 = 0 : Prop) then
  some (0)
  else
  some (1)))
set_option maxHeartbeats 4000000 in
set_option maxRecDepth 100000 in
theorem d_X12_isReplay (E : mE) (l : Launch)     (x0 : Int32) (x1 : Int32)  (o : Int32) (hf : F_X12_isReplay x0 x1 = some o) : MX E l yX12_isReplay cX12_isReplay 2 (some .boolean) ({ frames := 1, cells := 0, slots := 0, locals := 22 } : Room) [.int x0, .int x1] [] (po_X12_isReplay E o) := by
  refine mx_intro (by decide +kernel) (Nat.le_of_ble_eq_true rfl) ?_
  intro p e s m args below meth c A Q ls B w hl
  obtain ⟨hx, hb, hml, hown, hts⟩ := id B.1
  unfold F_X12_isReplay at hf
  have hl : lv_has ls 2 [(0, .int x0), (1, .int x1)] := hl
  refine lv_iload_n hx hb dX12_isReplay_0 rfl (lv_at hl 0 rfl) ?_
  refine lv_iconst (v := 0) hx hb dX12_isReplay_1 (by decide) ?_
  refine lv_iconst (v := 3) hx hb dX12_isReplay_2 (by decide) ?_
  obtain ⟨o_1, hq, hf⟩ := bd_e hf
  refine mx_callS (As := [.int x0, .int 0, .int 3]) (rest := []) (wr := []) (d_X12_in E l   x0 0 3  o_1 hq) B w [] [] rfl rfl (by decide) (by decide) (by decide) cs_X12_in kw_1274 3 (by decide +kernel) ⟨Nat.le_of_ble_eq_true rfl, Nat.le_of_ble_eq_true rfl⟩ rfl hl.1 rfl (Nat.le_of_ble_eq_true rfl) dX12_isReplay_3 rfl rfl ⟨Nat.zero_le _, Nat.zero_le _⟩ (fun v w' H locs hpo w => ?_)
  clear hq
  obtain ⟨rfl, rfl⟩ := hpo
  refine lv_if_eq (tgt := 23) hx hb dX12_isReplay_6 (by decide) (fun hc => ?_) (fun hc => ?_)
  · have hf := it_t hc hf
    refine lv_iconst (v := 0) hx hb dX12_isReplay_23 (by decide) ?_
    cases hf
    exact mx_zret B w rfl ⟨rfl, rfl⟩ dX12_isReplay_24
  · have hf := it_f hc hf
    refine lv_iload_n hx hb dX12_isReplay_9 rfl (lv_at hl 1 rfl) ?_
    refine lv_iconst (v := 1) hx hb dX12_isReplay_10 (by decide) ?_
    refine lv_bipush (v := 12) hx hb dX12_isReplay_11 (by decide) ?_
    obtain ⟨o_2, hq, hf⟩ := bd_e hf
    refine mx_callS (As := [.int x1, .int 1, .int 12]) (rest := []) (wr := []) (d_X12_in E l   x1 1 12  o_2 hq) B w [] [] rfl rfl (by decide) (by decide) (by decide) cs_X12_in kw_1274 3 (by decide +kernel) ⟨Nat.le_of_ble_eq_true rfl, Nat.le_of_ble_eq_true rfl⟩ rfl hl.1 rfl (Nat.le_of_ble_eq_true rfl) dX12_isReplay_13 rfl rfl ⟨Nat.zero_le _, Nat.zero_le _⟩ (fun v w' H locs hpo w => ?_)
    clear hq
    obtain ⟨rfl, rfl⟩ := hpo
    refine lv_if_eq (tgt := 23) hx hb dX12_isReplay_16 (by decide) (fun hc => ?_) (fun hc => ?_)
    · have hf := it_t hc hf
      refine lv_iconst (v := 0) hx hb dX12_isReplay_23 (by decide) ?_
      cases hf
      exact mx_zret B w rfl ⟨rfl, rfl⟩ dX12_isReplay_24
    · have hf := it_f hc hf
      refine lv_iconst (v := 1) hx hb dX12_isReplay_19 (by decide) ?_
      refine lv_goto (tgt := 24) hx hb dX12_isReplay_20 (by decide) ?_
      cases hf
      exact mx_zret B w rfl ⟨rfl, rfl⟩ dX12_isReplay_24
-- X12_against
def po_X12_against (E : mE) (h : Nat) (a_g : Nat) (a_kept : Nat) (a_tape : Nat) (a_written : Nat) (a_asked : Nat) (a_there : Nat) (a_counts : Nat) (a_lasts : Nat) (a_cames : Nat)  (g : Nat → Int32) (kept : Nat → Int32) (isKept : Int32) (tape : Nat → Int32) (taped : Int32) (spot : Int32) (written : Nat → Int32) (writtenMany : Int32) (asked : Nat → Int32) (askedMany : Int32) (there : Nat → Int32) (counts : Nat → Int32) (lasts : Nat → Int32) (cames : Nat → Int32)  (o : Int32) : Option Value → va_W → Prop := (fun (v : Option Value) (w' : va_W) => v = some (.int o) ∧ w' = [(h, .inr (11, [.ref a_g, .ref a_kept, .int isKept, .ref a_tape, .int taped, .int spot, .ref a_written, .int writtenMany, .ref a_asked, .int askedMany, .ref a_there, .ref a_counts, .ref a_lasts, .ref a_cames])), (a_g, .inl (E.2.1, 8787, .inl g)), (a_kept, .inl (E.2.1, 8787, .inl kept)), (a_tape, .inl (E.2.2.1, 60, .inl tape)), (a_written, .inl (E.2.1, 40, .inl written)), (a_asked, .inl (E.2.1, 60, .inl asked)), (a_there, .inl (E.2.1, 12, .inl there)), (a_counts, .inl (E.2.1, 12, .inl counts)), (a_lasts, .inl (E.2.1, 12, .inl lasts)), (a_cames, .inl (E.2.1, 12, .inl cames))])
noncomputable def J_X12_against_38   (x2 : Int32) (x3 : Int32) (counts : Nat → Int32) (lasts : Nat → Int32) (cames : Nat → Int32) : Option (Int32) :=
  ld lasts 12 x2 (fun v_1 =>
  ld lasts 12 x3 (fun v_2 =>
  some (v_1 - v_2)))
set_option maxHeartbeats 4000000 in
set_option maxRecDepth 100000 in
theorem j_X12_against_38 {E : mE} {l : Launch} {p : Program} {e : Env} {s : State} {m : MethodId} {args : Array Value} {below : List Frame} {meth : Method} {c : Code} {A : Nat → Prop} {Q : State → Prop} {h : Nat} {a_g : Nat} {a_kept : Nat} {a_tape : Nat} {a_written : Nat} {a_asked : Nat} {a_there : Nat} {a_counts : Nat} {a_lasts : Nat} {a_cames : Nat}  {g : Nat → Int32} {kept : Nat → Int32} {isKept : Int32} {tape : Nat → Int32} {taped : Int32} {spot : Int32} {written : Nat → Int32} {writtenMany : Int32} {asked : Nat → Int32} {askedMany : Int32} {there : Nat → Int32} {counts : Nat → Int32} {lasts : Nat → Int32} {cames : Nat → Int32}  {o : Int32} (B : mB E yX12_against cX12_against 4 (some .int) 0 0 (po_X12_against E h a_g a_kept a_tape a_written a_asked a_there a_counts a_lasts a_cames g kept isKept tape taped spot written writtenMany asked askedMany there counts lasts cames o) p s m args below meth c A Q) {x2 : Int32} {x3 : Int32}     {H : Heap} {locs : List Loc} {ls : Array Slot} (hf : J_X12_against_38 x2 x3 counts lasts cames = some o)  (w : mW E A s [(h, .inr (11, [.ref a_g, .ref a_kept, .int isKept, .ref a_tape, .int taped, .int spot, .ref a_written, .int writtenMany, .ref a_asked, .int askedMany, .ref a_there, .ref a_counts, .ref a_lasts, .ref a_cames])), (a_g, .inl (E.2.1, 8787, .inl g)), (a_kept, .inl (E.2.1, 8787, .inl kept)), (a_tape, .inl (E.2.2.1, 60, .inl tape)), (a_written, .inl (E.2.1, 40, .inl written)), (a_asked, .inl (E.2.1, 60, .inl asked)), (a_there, .inl (E.2.1, 12, .inl there)), (a_counts, .inl (E.2.1, 12, .inl counts)), (a_lasts, .inl (E.2.1, 12, .inl lasts)), (a_cames, .inl (E.2.1, 12, .inl cames))] H locs) (hl : lv_has ls 4 [(0, .ref h), (2, .int x2), (3, .int x3)]) : W p l e ({ frames := 0, cells := 0, slots := 0, locals := 0 } : Room) s m args below meth c H locs 0 0 Q (F0 m 38 ls []) := by
  obtain ⟨hx, hb, hml, hown, hts⟩ := id B.1
  unfold J_X12_against_38 at hf
  refine lv_aload_n hx hb dX12_against_38 rfl (lv_at hl 0 rfl) ?_
  refine mx_get B w 0 fl_X12_32 rfl rfl dX12_against_39 ?_
  refine lv_iload_n hx hb dX12_against_42 rfl (lv_at hl 1 rfl) ?_
  obtain ⟨hin, hf⟩ := ld_e hf
  refine mx_iald B w 8 rfl hin dX12_against_43 (fun v_1 ev => ?_)
  have hf := hf _ ev; clear ev
  refine lv_aload_n hx hb dX12_against_44 rfl (lv_at hl 0 rfl) ?_
  refine mx_get B w 0 fl_X12_32 rfl rfl dX12_against_45 ?_
  refine lv_iload_n hx hb dX12_against_48 rfl (lv_at hl 2 rfl) ?_
  obtain ⟨hin, hf⟩ := ld_e hf
  refine mx_iald B w 8 rfl hin dX12_against_49 (fun v_2 ev => ?_)
  have hf := hf _ ev; clear ev
  refine lv_isub hx hb dX12_against_50 ?_
  refine lv_goto (tgt := 67) hx hb dX12_against_51 (by decide) ?_
  cases hf
  exact mx_iret B w ⟨rfl, rfl⟩ dX12_against_67
noncomputable def F_X12_against  (counts : Nat → Int32) (lasts : Nat → Int32) (cames : Nat → Int32) (x1 : Int32) (x2 : Int32) (x3 : Int32) : Option (Int32) :=
  if (x1 = 2 : Prop) then
  ld cames 12 x2 (fun v_7 =>
  ld cames 12 x3 (fun v_8 =>
  some (v_7 - v_8)))
  else
  if (x1 = 0 : Prop) then
  J_X12_against_38 x2 x3 counts lasts cames
  else
  ld counts 12 x2 (fun v_3 =>
  ld counts 12 x3 (fun v_4 =>
  if (v_3 = v_4 : Prop) then
  J_X12_against_38 x2 x3 counts lasts cames
  else
  ld counts 12 x2 (fun v_5 =>
  ld counts 12 x3 (fun v_6 =>
  some (v_5 - v_6)))))
set_option maxHeartbeats 4000000 in
set_option maxRecDepth 100000 in
theorem d_X12_against (E : mE) (l : Launch) (h : Nat) (a_g : Nat) (a_kept : Nat) (a_tape : Nat) (a_written : Nat) (a_asked : Nat) (a_there : Nat) (a_counts : Nat) (a_lasts : Nat) (a_cames : Nat)  (g : Nat → Int32) (kept : Nat → Int32) (isKept : Int32) (tape : Nat → Int32) (taped : Int32) (spot : Int32) (written : Nat → Int32) (writtenMany : Int32) (asked : Nat → Int32) (askedMany : Int32) (there : Nat → Int32) (counts : Nat → Int32) (lasts : Nat → Int32) (cames : Nat → Int32)  (x1 : Int32) (x2 : Int32) (x3 : Int32)  (o : Int32) (hf : F_X12_against counts lasts cames x1 x2 x3 = some o) : MX E l yX12_against cX12_against 4 (some .int) ({ frames := 0, cells := 0, slots := 0, locals := 0 } : Room) [.ref h, .int x1, .int x2, .int x3] [(h, .inr (11, [.ref a_g, .ref a_kept, .int isKept, .ref a_tape, .int taped, .int spot, .ref a_written, .int writtenMany, .ref a_asked, .int askedMany, .ref a_there, .ref a_counts, .ref a_lasts, .ref a_cames])), (a_g, .inl (E.2.1, 8787, .inl g)), (a_kept, .inl (E.2.1, 8787, .inl kept)), (a_tape, .inl (E.2.2.1, 60, .inl tape)), (a_written, .inl (E.2.1, 40, .inl written)), (a_asked, .inl (E.2.1, 60, .inl asked)), (a_there, .inl (E.2.1, 12, .inl there)), (a_counts, .inl (E.2.1, 12, .inl counts)), (a_lasts, .inl (E.2.1, 12, .inl lasts)), (a_cames, .inl (E.2.1, 12, .inl cames))] (po_X12_against E h a_g a_kept a_tape a_written a_asked a_there a_counts a_lasts a_cames g kept isKept tape taped spot written writtenMany asked askedMany there counts lasts cames o) := by
  refine mx_intro (by decide +kernel) (Nat.le_of_ble_eq_true rfl) ?_
  intro p e s m args below meth c A Q ls B w hl
  obtain ⟨hx, hb, hml, hown, hts⟩ := id B.1
  unfold F_X12_against at hf
  have hl : lv_has ls 4 [(0, .ref h), (1, .int x1), (2, .int x2), (3, .int x3)] := hl
  refine lv_iload_n hx hb dX12_against_0 rfl (lv_at hl 1 rfl) ?_
  refine lv_iconst (v := 2) hx hb dX12_against_1 (by decide) ?_
  refine lv_icmp_ne (tgt := 19) hx hb dX12_against_2 (by decide) (fun hc => ?_) (fun hc => ?_)
  · have hf := it_f hc hf
    refine lv_iload_n hx hb dX12_against_19 rfl (lv_at hl 1 rfl) ?_
    refine lv_if_eq (tgt := 38) hx hb dX12_against_20 (by decide) (fun hc => ?_) (fun hc => ?_)
    · have hf := it_t hc hf
      exact j_X12_against_38 B   hf  w (lv_sub hl [0, 2, 3] rfl)
    · have hf := it_f hc hf
      refine lv_aload_n hx hb dX12_against_23 rfl (lv_at hl 0 rfl) ?_
      refine mx_get B w 0 fl_X12_29 rfl rfl dX12_against_24 ?_
      refine lv_iload_n hx hb dX12_against_27 rfl (lv_at hl 2 rfl) ?_
      obtain ⟨hin, hf⟩ := ld_e hf
      refine mx_iald B w 7 rfl hin dX12_against_28 (fun v_3 ev => ?_)
      have hf := hf _ ev; clear ev
      refine lv_aload_n hx hb dX12_against_29 rfl (lv_at hl 0 rfl) ?_
      refine mx_get B w 0 fl_X12_29 rfl rfl dX12_against_30 ?_
      refine lv_iload_n hx hb dX12_against_33 rfl (lv_at hl 3 rfl) ?_
      obtain ⟨hin, hf⟩ := ld_e hf
      refine mx_iald B w 7 rfl hin dX12_against_34 (fun v_4 ev => ?_)
      have hf := hf _ ev; clear ev
      refine lv_icmp_ne (tgt := 54) hx hb dX12_against_35 (by decide) (fun hc => ?_) (fun hc => ?_)
      · have hf := it_f hc hf
        refine lv_aload_n hx hb dX12_against_54 rfl (lv_at hl 0 rfl) ?_
        refine mx_get B w 0 fl_X12_29 rfl rfl dX12_against_55 ?_
        refine lv_iload_n hx hb dX12_against_58 rfl (lv_at hl 2 rfl) ?_
        obtain ⟨hin, hf⟩ := ld_e hf
        refine mx_iald B w 7 rfl hin dX12_against_59 (fun v_5 ev => ?_)
        have hf := hf _ ev; clear ev
        refine lv_aload_n hx hb dX12_against_60 rfl (lv_at hl 0 rfl) ?_
        refine mx_get B w 0 fl_X12_29 rfl rfl dX12_against_61 ?_
        refine lv_iload_n hx hb dX12_against_64 rfl (lv_at hl 3 rfl) ?_
        obtain ⟨hin, hf⟩ := ld_e hf
        refine mx_iald B w 7 rfl hin dX12_against_65 (fun v_6 ev => ?_)
        have hf := hf _ ev; clear ev
        refine lv_isub hx hb dX12_against_66 ?_
        cases hf
        exact mx_iret B w ⟨rfl, rfl⟩ dX12_against_67
      · have hf := it_t hc hf
        exact j_X12_against_38 B   hf  w (lv_sub hl [0, 2, 3] rfl)
  · have hf := it_t hc hf
    refine lv_aload_n hx hb dX12_against_5 rfl (lv_at hl 0 rfl) ?_
    refine mx_get B w 0 fl_X12_35 rfl rfl dX12_against_6 ?_
    refine lv_iload_n hx hb dX12_against_9 rfl (lv_at hl 2 rfl) ?_
    obtain ⟨hin, hf⟩ := ld_e hf
    refine mx_iald B w 9 rfl hin dX12_against_10 (fun v_7 ev => ?_)
    have hf := hf _ ev; clear ev
    refine lv_aload_n hx hb dX12_against_11 rfl (lv_at hl 0 rfl) ?_
    refine mx_get B w 0 fl_X12_35 rfl rfl dX12_against_12 ?_
    refine lv_iload_n hx hb dX12_against_15 rfl (lv_at hl 3 rfl) ?_
    obtain ⟨hin, hf⟩ := ld_e hf
    refine mx_iald B w 9 rfl hin dX12_against_16 (fun v_8 ev => ?_)
    have hf := hf _ ev; clear ev
    refine lv_isub hx hb dX12_against_17 ?_
    cases hf
    exact mx_iret B w ⟨rfl, rfl⟩ dX12_against_18
-- X12_goes
def po_X12_goes (E : mE) (h : Nat) (a_g : Nat) (a_kept : Nat) (a_tape : Nat) (a_written : Nat) (a_asked : Nat) (a_there : Nat) (a_counts : Nat) (a_lasts : Nat) (a_cames : Nat)  (g : Nat → Int32) (kept : Nat → Int32) (isKept : Int32) (tape : Nat → Int32) (taped : Int32) (spot : Int32) (written : Nat → Int32) (writtenMany : Int32) (asked : Nat → Int32) (askedMany : Int32) (there : Nat → Int32) (counts : Nat → Int32) (lasts : Nat → Int32) (cames : Nat → Int32)  (o : Int32 × (Nat → Int32) × (Nat → Int32) × (Nat → Int32) × (Nat → Int32)) : Option Value → va_W → Prop := (fun (v : Option Value) (w' : va_W) => v = some (.int o.1) ∧ w' = [(h, .inr (11, [.ref a_g, .ref a_kept, .int isKept, .ref a_tape, .int taped, .int spot, .ref a_written, .int writtenMany, .ref a_asked, .int askedMany, .ref a_there, .ref a_counts, .ref a_lasts, .ref a_cames])), (a_g, .inl (E.2.1, 8787, .inl g)), (a_kept, .inl (E.2.1, 8787, .inl kept)), (a_tape, .inl (E.2.2.1, 60, .inl tape)), (a_written, .inl (E.2.1, 40, .inl written)), (a_asked, .inl (E.2.1, 60, .inl asked)), (a_there, .inl (E.2.1, 12, .inl o.2.1)), (a_counts, .inl (E.2.1, 12, .inl o.2.2.1)), (a_lasts, .inl (E.2.1, 12, .inl o.2.2.2.1)), (a_cames, .inl (E.2.1, 12, .inl o.2.2.2.2))])
noncomputable def K_X12_goes_20 (N : Nat)  (rec : Int32 → (Option (Int32 × (Nat → Int32) × (Nat → Int32) × (Nat → Int32) × (Nat → Int32)))) (k49 : Int32 → (Option (Int32 × (Nat → Int32) × (Nat → Int32) × (Nat → Int32) × (Nat → Int32)))) (x1 : Int32) (x2 : Int32) (x3 : Int32) (x4 : Int32) (x5 : Int32) (g : Nat → Int32) (asked : Nat → Int32) (askedMany : Int32) (there : Nat → Int32) (counts : Nat → Int32) (lasts : Nat → Int32) (cames : Nat → Int32) (x6 : Int32)  : Option (Int32 × (Nat → Int32) × (Nat → Int32) × (Nat → Int32) × (Nat → Int32)) :=
  if (x3 ≤ x6 : Prop) then
  k49 x6
  else
  ld there 12 x6 (fun v_1 =>
  ld asked 60 x5 (fun v_2 =>
  if (v_1 = v_2 : Prop) then
  k49 x6
  else
  lt (x6 + 1) (fun x6_3 =>
  rec x6_3)))
noncomputable def L_X12_goes_20 (N : Nat)  (k49 : Int32 → (Option (Int32 × (Nat → Int32) × (Nat → Int32) × (Nat → Int32) × (Nat → Int32)))) (x1 : Int32) (x2 : Int32) (x3 : Int32) (x4 : Int32) (x5 : Int32) (g : Nat → Int32) (asked : Nat → Int32) (askedMany : Int32) (there : Nat → Int32) (counts : Nat → Int32) (lasts : Nat → Int32) (cames : Nat → Int32) (n : Nat) : Int32 → (Option (Int32 × (Nat → Int32) × (Nat → Int32) × (Nat → Int32) × (Nat → Int32))) :=
  Nat.rec (motive := fun _ => Int32 → (Option (Int32 × (Nat → Int32) × (Nat → Int32) × (Nat → Int32) × (Nat → Int32)))) (fun _ => none) (fun _ rec => K_X12_goes_20 N rec k49 x1 x2 x3 x4 x5 g asked askedMany there counts lasts cames) n
set_option maxHeartbeats 4000000 in
set_option maxRecDepth 100000 in
theorem l_X12_goes_20 {E : mE} {l : Launch} {p : Program} {e : Env} {s : State} {m : MethodId} {args : Array Value} {below : List Frame} {meth : Method} {c : Code} {A : Nat → Prop} {Q : State → Prop} {N : Nat} {h : Nat} {a_g : Nat} {a_kept : Nat} {a_tape : Nat} {a_written : Nat} {a_asked : Nat} {a_there : Nat} {a_counts : Nat} {a_lasts : Nat} {a_cames : Nat}  {g : Nat → Int32} {kept : Nat → Int32} {isKept : Int32} {tape : Nat → Int32} {taped : Int32} {spot : Int32} {written : Nat → Int32} {writtenMany : Int32} {asked : Nat → Int32} {askedMany : Int32} {there0 : Nat → Int32} {counts0 : Nat → Int32} {lasts0 : Nat → Int32} {cames0 : Nat → Int32}  {o : Int32 × (Nat → Int32) × (Nat → Int32) × (Nat → Int32) × (Nat → Int32)} (B : mB E yX12_goes cX12_goes 8 (some .int) 0 0 (po_X12_goes E h a_g a_kept a_tape a_written a_asked a_there a_counts a_lasts a_cames g kept isKept tape taped spot written writtenMany asked askedMany there0 counts0 lasts0 cames0 o) p s m args below meth c A Q) {there : Nat → Int32} {counts : Nat → Int32} {lasts : Nat → Int32} {cames : Nat → Int32}  {x1 : Int32} {x2 : Int32} {x3 : Int32} {x4 : Int32} {x5 : Int32} (k49 : Int32 → (Option (Int32 × (Nat → Int32) × (Nat → Int32) × (Nat → Int32) × (Nat → Int32))))  (hk49 : ∀ (x6 : Int32)   (H : Heap) (locs : List Loc) (ls : Array Slot), k49 x6 = some o → mW E A s [(h, .inr (11, [.ref a_g, .ref a_kept, .int isKept, .ref a_tape, .int taped, .int spot, .ref a_written, .int writtenMany, .ref a_asked, .int askedMany, .ref a_there, .ref a_counts, .ref a_lasts, .ref a_cames])), (a_g, .inl (E.2.1, 8787, .inl g)), (a_kept, .inl (E.2.1, 8787, .inl kept)), (a_tape, .inl (E.2.2.1, 60, .inl tape)), (a_written, .inl (E.2.1, 40, .inl written)), (a_asked, .inl (E.2.1, 60, .inl asked)), (a_there, .inl (E.2.1, 12, .inl there)), (a_counts, .inl (E.2.1, 12, .inl counts)), (a_lasts, .inl (E.2.1, 12, .inl lasts)), (a_cames, .inl (E.2.1, 12, .inl cames))] H locs → lv_has ls 8 [(0, .ref h), (1, .int x1), (2, .int x2), (3, .int x3), (4, .int x4), (5, .int x5), (6, .int x6)] → W p l e ({ frames := 1, cells := 0, slots := 0, locals := 23 } : Room) s m args below meth c H locs 0 0 Q (F0 m 49 ls [])) : ∀ n : Nat, ∀ (x6 : Int32)   (H : Heap) (locs : List Loc) (ls : Array Slot), L_X12_goes_20 N k49 x1 x2 x3 x4 x5 g asked askedMany there counts lasts cames n x6 = some o → mW E A s [(h, .inr (11, [.ref a_g, .ref a_kept, .int isKept, .ref a_tape, .int taped, .int spot, .ref a_written, .int writtenMany, .ref a_asked, .int askedMany, .ref a_there, .ref a_counts, .ref a_lasts, .ref a_cames])), (a_g, .inl (E.2.1, 8787, .inl g)), (a_kept, .inl (E.2.1, 8787, .inl kept)), (a_tape, .inl (E.2.2.1, 60, .inl tape)), (a_written, .inl (E.2.1, 40, .inl written)), (a_asked, .inl (E.2.1, 60, .inl asked)), (a_there, .inl (E.2.1, 12, .inl there)), (a_counts, .inl (E.2.1, 12, .inl counts)), (a_lasts, .inl (E.2.1, 12, .inl lasts)), (a_cames, .inl (E.2.1, 12, .inl cames))] H locs → lv_has ls 8 [(0, .ref h), (1, .int x1), (2, .int x2), (3, .int x3), (4, .int x4), (5, .int x5), (6, .int x6)] → W p l e ({ frames := 1, cells := 0, slots := 0, locals := 23 } : Room) s m args below meth c H locs 0 0 Q (F0 m 20 ls []) := by
  obtain ⟨hx, hb, hml, hown, hts⟩ := id B.1
  intro n
  induction n with
  | zero =>
    intro x6 H locs ls hf w hl
    exact nomatch hf
  | succ n hrec =>
    intro x6 H locs ls hf w hl
    have hf : K_X12_goes_20 N (L_X12_goes_20 N k49 x1 x2 x3 x4 x5 g asked askedMany there counts lasts cames n) k49 x1 x2 x3 x4 x5 g asked askedMany there counts lasts cames x6 = some o := hf
    unfold K_X12_goes_20 at hf
    refine lv_iload hx hb dX12_goes_20 (lv_at hl 6 rfl) ?_
    refine lv_iload_n hx hb dX12_goes_22 rfl (lv_at hl 3 rfl) ?_
    refine lv_icmp_ge (tgt := 49) hx hb dX12_goes_23 (by decide) (fun hc => ?_) (fun hc => ?_)
    · have hf := it_t hc hf
      exact hk49 _ _ _ _ hf  w (lv_sub hl [0, 1, 2, 3, 4, 5, 6] rfl)
    · have hf := it_f hc hf
      refine lv_aload_n hx hb dX12_goes_26 rfl (lv_at hl 0 rfl) ?_
      refine mx_get B w 0 fl_X12_26 rfl rfl dX12_goes_27 ?_
      refine lv_iload hx hb dX12_goes_30 (lv_at hl 6 rfl) ?_
      obtain ⟨hin, hf⟩ := ld_e hf
      refine mx_iald B w 6 rfl hin dX12_goes_32 (fun v_1 ev => ?_)
      have hf := hf _ ev; clear ev
      refine lv_aload_n hx hb dX12_goes_33 rfl (lv_at hl 0 rfl) ?_
      refine mx_get B w 0 fl_X12_23 rfl rfl dX12_goes_34 ?_
      refine lv_iload hx hb dX12_goes_37 (lv_at hl 5 rfl) ?_
      obtain ⟨hin, hf⟩ := ld_e hf
      refine mx_iald B w 5 rfl hin dX12_goes_39 (fun v_2 ev => ?_)
      have hf := hf _ ev; clear ev
      refine lv_icmp_eq (tgt := 49) hx hb dX12_goes_40 (by decide) (fun hc => ?_) (fun hc => ?_)
      · have hf := it_t hc hf
        exact hk49 _ _ _ _ hf  w (lv_sub hl [0, 1, 2, 3, 4, 5, 6] rfl)
      · have hf := it_f hc hf
        obtain ⟨x6_3, ev⟩ : ∃ y : Int32, y = x6 + 1 := ⟨_, rfl⟩
        refine lv_iinc (v := x6_3) (lv' := [(6, .int x6_3), (0, .ref h), (1, .int x1), (2, .int x2), (3, .int x3), (4, .int x4), (5, .int x5)]) hx hb dX12_goes_43 hl (k := 6) rfl (by rw [ev]; rfl) (by decide) rfl (fun ls hl => ?_)
        have hf := lt_n ev hf; clear ev
        refine lv_goto (tgt := 20) hx hb dX12_goes_46 (by decide) ?_
        exact hrec _ _ _ _ hf  w (lv_sub hl [1, 2, 3, 4, 5, 6, 0] rfl)
noncomputable def K_X12_goes_165 (N : Nat)  (rec : Int32 → (Nat → Int32) → (Option (Int32 × (Nat → Int32) × (Nat → Int32) × (Nat → Int32) × (Nat → Int32)))) (k207 : (Nat → Int32) → (Option (Int32 × (Nat → Int32) × (Nat → Int32) × (Nat → Int32) × (Nat → Int32)))) (x1 : Int32) (x2 : Int32) (x3 : Int32) (x4 : Int32) (x5 : Int32) (g : Nat → Int32) (asked : Nat → Int32) (askedMany : Int32) (there : Nat → Int32) (lasts : Nat → Int32) (cames : Nat → Int32) (x7 : Int32) (counts : Nat → Int32) : Option (Int32 × (Nat → Int32) × (Nat → Int32) × (Nat → Int32) × (Nat → Int32)) :=
  if (x3 ≤ x7 : Prop) then
  k207 counts
  else
  if (x1 = 3 : Prop) then
  ld g 8787 1 (fun v_10 =>
  ck (¬ v_10 = 0) (if ((irm (x5 + 1) v_10) = 0 : Prop) then
  ld counts 12 x7 (fun v_11 =>
  sto counts 12 x7 (v_11 / 2) (fun counts_12 =>
  lt (x7 + 1) (fun x7_13 =>
  rec x7_13 counts_12)))
  else
  k207 counts))
  else
  k207 counts
noncomputable def L_X12_goes_165 (N : Nat)  (k207 : (Nat → Int32) → (Option (Int32 × (Nat → Int32) × (Nat → Int32) × (Nat → Int32) × (Nat → Int32)))) (x1 : Int32) (x2 : Int32) (x3 : Int32) (x4 : Int32) (x5 : Int32) (g : Nat → Int32) (asked : Nat → Int32) (askedMany : Int32) (there : Nat → Int32) (lasts : Nat → Int32) (cames : Nat → Int32) (n : Nat) : Int32 → (Nat → Int32) → (Option (Int32 × (Nat → Int32) × (Nat → Int32) × (Nat → Int32) × (Nat → Int32))) :=
  Nat.rec (motive := fun _ => Int32 → (Nat → Int32) → (Option (Int32 × (Nat → Int32) × (Nat → Int32) × (Nat → Int32) × (Nat → Int32)))) (fun _ _ => none) (fun _ rec => K_X12_goes_165 N rec k207 x1 x2 x3 x4 x5 g asked askedMany there lasts cames) n
set_option maxHeartbeats 4000000 in
set_option maxRecDepth 100000 in
theorem l_X12_goes_165 {E : mE} {l : Launch} {p : Program} {e : Env} {s : State} {m : MethodId} {args : Array Value} {below : List Frame} {meth : Method} {c : Code} {A : Nat → Prop} {Q : State → Prop} {N : Nat} {h : Nat} {a_g : Nat} {a_kept : Nat} {a_tape : Nat} {a_written : Nat} {a_asked : Nat} {a_there : Nat} {a_counts : Nat} {a_lasts : Nat} {a_cames : Nat}  {g : Nat → Int32} {kept : Nat → Int32} {isKept : Int32} {tape : Nat → Int32} {taped : Int32} {spot : Int32} {written : Nat → Int32} {writtenMany : Int32} {asked : Nat → Int32} {askedMany : Int32} {there0 : Nat → Int32} {counts0 : Nat → Int32} {lasts0 : Nat → Int32} {cames0 : Nat → Int32}  {o : Int32 × (Nat → Int32) × (Nat → Int32) × (Nat → Int32) × (Nat → Int32)} (B : mB E yX12_goes cX12_goes 8 (some .int) 0 0 (po_X12_goes E h a_g a_kept a_tape a_written a_asked a_there a_counts a_lasts a_cames g kept isKept tape taped spot written writtenMany asked askedMany there0 counts0 lasts0 cames0 o) p s m args below meth c A Q) {there : Nat → Int32} {lasts : Nat → Int32} {cames : Nat → Int32}  {x1 : Int32} {x2 : Int32} {x3 : Int32} {x4 : Int32} {x5 : Int32} (k207 : (Nat → Int32) → (Option (Int32 × (Nat → Int32) × (Nat → Int32) × (Nat → Int32) × (Nat → Int32))))  (hk207 : ∀  (counts : Nat → Int32)  (H : Heap) (locs : List Loc) (ls : Array Slot), k207 counts = some o → mW E A s [(h, .inr (11, [.ref a_g, .ref a_kept, .int isKept, .ref a_tape, .int taped, .int spot, .ref a_written, .int writtenMany, .ref a_asked, .int askedMany, .ref a_there, .ref a_counts, .ref a_lasts, .ref a_cames])), (a_g, .inl (E.2.1, 8787, .inl g)), (a_kept, .inl (E.2.1, 8787, .inl kept)), (a_tape, .inl (E.2.2.1, 60, .inl tape)), (a_written, .inl (E.2.1, 40, .inl written)), (a_asked, .inl (E.2.1, 60, .inl asked)), (a_there, .inl (E.2.1, 12, .inl there)), (a_counts, .inl (E.2.1, 12, .inl counts)), (a_lasts, .inl (E.2.1, 12, .inl lasts)), (a_cames, .inl (E.2.1, 12, .inl cames))] H locs → lv_has ls 8 [(0, .ref h), (1, .int x1), (2, .int x2), (3, .int x3), (4, .int x4), (5, .int x5)] → W p l e ({ frames := 1, cells := 0, slots := 0, locals := 23 } : Room) s m args below meth c H locs 0 0 Q (F0 m 207 ls [])) : ∀ n : Nat, ∀ (x7 : Int32) (counts : Nat → Int32)  (H : Heap) (locs : List Loc) (ls : Array Slot), L_X12_goes_165 N k207 x1 x2 x3 x4 x5 g asked askedMany there lasts cames n x7 counts = some o → mW E A s [(h, .inr (11, [.ref a_g, .ref a_kept, .int isKept, .ref a_tape, .int taped, .int spot, .ref a_written, .int writtenMany, .ref a_asked, .int askedMany, .ref a_there, .ref a_counts, .ref a_lasts, .ref a_cames])), (a_g, .inl (E.2.1, 8787, .inl g)), (a_kept, .inl (E.2.1, 8787, .inl kept)), (a_tape, .inl (E.2.2.1, 60, .inl tape)), (a_written, .inl (E.2.1, 40, .inl written)), (a_asked, .inl (E.2.1, 60, .inl asked)), (a_there, .inl (E.2.1, 12, .inl there)), (a_counts, .inl (E.2.1, 12, .inl counts)), (a_lasts, .inl (E.2.1, 12, .inl lasts)), (a_cames, .inl (E.2.1, 12, .inl cames))] H locs → lv_has ls 8 [(0, .ref h), (1, .int x1), (2, .int x2), (3, .int x3), (4, .int x4), (5, .int x5), (7, .int x7)] → W p l e ({ frames := 1, cells := 0, slots := 0, locals := 23 } : Room) s m args below meth c H locs 0 0 Q (F0 m 165 ls []) := by
  obtain ⟨hx, hb, hml, hown, hts⟩ := id B.1
  intro n
  induction n with
  | zero =>
    intro x7 counts H locs ls hf w hl
    exact nomatch hf
  | succ n hrec =>
    intro x7 counts H locs ls hf w hl
    have hf : K_X12_goes_165 N (L_X12_goes_165 N k207 x1 x2 x3 x4 x5 g asked askedMany there lasts cames n) k207 x1 x2 x3 x4 x5 g asked askedMany there lasts cames x7 counts = some o := hf
    unfold K_X12_goes_165 at hf
    refine lv_iload hx hb dX12_goes_165 (lv_at hl 6 rfl) ?_
    refine lv_iload_n hx hb dX12_goes_167 rfl (lv_at hl 3 rfl) ?_
    refine lv_icmp_ge (tgt := 207) hx hb dX12_goes_168 (by decide) (fun hc => ?_) (fun hc => ?_)
    · have hf := it_t hc hf
      exact hk207 _ _ _ _ hf  w (lv_sub hl [0, 1, 2, 3, 4, 5] rfl)
    · have hf := it_f hc hf
      refine lv_iload_n hx hb dX12_goes_171 rfl (lv_at hl 1 rfl) ?_
      refine lv_iconst (v := 3) hx hb dX12_goes_172 (by decide) ?_
      refine lv_icmp_ne (tgt := 207) hx hb dX12_goes_173 (by decide) (fun hc => ?_) (fun hc => ?_)
      · have hf := it_f hc hf
        exact hk207 _ _ _ _ hf  w (lv_sub hl [0, 1, 2, 3, 4, 5] rfl)
      · have hf := it_t hc hf
        refine lv_iload hx hb dX12_goes_176 (lv_at hl 5 rfl) ?_
        refine lv_iconst (v := 1) hx hb dX12_goes_178 (by decide) ?_
        refine lv_iadd hx hb dX12_goes_179 ?_
        refine lv_aload_n hx hb dX12_goes_180 rfl (lv_at hl 0 rfl) ?_
        refine mx_get B w 0 fl_X12_9 rfl rfl dX12_goes_181 ?_
        refine lv_iconst (v := 1) hx hb dX12_goes_184 (by decide) ?_
        obtain ⟨hin, hf⟩ := ld_e hf
        refine mx_iald B w 1 rfl hin dX12_goes_185 (fun v_10 ev => ?_)
        have hf := hf _ ev; clear ev
        obtain ⟨hne, hf⟩ := ck_e hf
        refine lv_irem hx hb dX12_goes_186 hne ?_
        refine lv_if_ne (tgt := 207) hx hb dX12_goes_187 (by decide) (fun hc => ?_) (fun hc => ?_)
        · have hf := it_f hc hf
          exact hk207 _ _ _ _ hf  w (lv_sub hl [0, 1, 2, 3, 4, 5] rfl)
        · have hf := it_t hc hf
          refine lv_aload_n hx hb dX12_goes_190 rfl (lv_at hl 0 rfl) ?_
          refine mx_get B w 0 fl_X12_29 rfl rfl dX12_goes_191 ?_
          refine lv_iload hx hb dX12_goes_194 (lv_at hl 6 rfl) ?_
          refine lv_dup2_11 hx hb dX12_goes_196 rfl rfl ?_
          obtain ⟨hin, hf⟩ := ld_e hf
          refine mx_iald B w 7 rfl hin dX12_goes_197 (fun v_11 ev => ?_)
          have hf := hf _ ev; clear ev
          refine lv_iconst (v := 2) hx hb dX12_goes_198 (by decide) ?_
          refine lv_idiv hx hb dX12_goes_199 (by decide) ?_
          obtain ⟨hin, hf⟩ := sto_e hf
          refine mx_iast B w 7 rfl hin dX12_goes_200 (fun counts_12 H locs ev w => ?_)
          have hf := hf _ ev; clear ev
          have w : mW E A s [(h, .inr (11, [.ref a_g, .ref a_kept, .int isKept, .ref a_tape, .int taped, .int spot, .ref a_written, .int writtenMany, .ref a_asked, .int askedMany, .ref a_there, .ref a_counts, .ref a_lasts, .ref a_cames])), (a_g, .inl (E.2.1, 8787, .inl g)), (a_kept, .inl (E.2.1, 8787, .inl kept)), (a_tape, .inl (E.2.2.1, 60, .inl tape)), (a_written, .inl (E.2.1, 40, .inl written)), (a_asked, .inl (E.2.1, 60, .inl asked)), (a_there, .inl (E.2.1, 12, .inl there)), (a_counts, .inl (E.2.1, 12, .inl counts_12)), (a_lasts, .inl (E.2.1, 12, .inl lasts)), (a_cames, .inl (E.2.1, 12, .inl cames))] H locs := w
          obtain ⟨x7_13, ev⟩ : ∃ y : Int32, y = x7 + 1 := ⟨_, rfl⟩
          refine lv_iinc (v := x7_13) (lv' := [(7, .int x7_13), (0, .ref h), (1, .int x1), (2, .int x2), (3, .int x3), (4, .int x4), (5, .int x5)]) hx hb dX12_goes_201 hl (k := 6) rfl (by rw [ev]; rfl) (by decide) rfl (fun ls hl => ?_)
          have hf := lt_n ev hf; clear ev
          refine lv_goto (tgt := 165) hx hb dX12_goes_204 (by decide) ?_
          exact hrec _ _ _ _ _ hf  w (lv_sub hl [1, 2, 3, 4, 5, 6, 0] rfl)
noncomputable def J_X12_goes_207 (N : Nat)  (rec : Int32 → Int32 → Int32 → (Nat → Int32) → (Nat → Int32) → (Nat → Int32) → (Nat → Int32) → (Option (Int32 × (Nat → Int32) × (Nat → Int32) × (Nat → Int32) × (Nat → Int32)))) (k213 : Int32 → (Nat → Int32) → (Nat → Int32) → (Nat → Int32) → (Nat → Int32) → (Option (Int32 × (Nat → Int32) × (Nat → Int32) × (Nat → Int32) × (Nat → Int32)))) (x1 : Int32) (x2 : Int32) (x3 : Int32) (x4 : Int32) (x5 : Int32) (g : Nat → Int32) (asked : Nat → Int32) (askedMany : Int32) (there : Nat → Int32) (counts : Nat → Int32) (lasts : Nat → Int32) (cames : Nat → Int32) : Option (Int32 × (Nat → Int32) × (Nat → Int32) × (Nat → Int32) × (Nat → Int32)) :=
  lt (x5 + 1) (fun x5_14 =>
  rec x3 x4 x5_14 there counts lasts cames)
set_option maxHeartbeats 4000000 in
set_option maxRecDepth 100000 in
theorem j_X12_goes_207 {E : mE} {l : Launch} {p : Program} {e : Env} {s : State} {m : MethodId} {args : Array Value} {below : List Frame} {meth : Method} {c : Code} {A : Nat → Prop} {Q : State → Prop} {N : Nat} {h : Nat} {a_g : Nat} {a_kept : Nat} {a_tape : Nat} {a_written : Nat} {a_asked : Nat} {a_there : Nat} {a_counts : Nat} {a_lasts : Nat} {a_cames : Nat}  {g : Nat → Int32} {kept : Nat → Int32} {isKept : Int32} {tape : Nat → Int32} {taped : Int32} {spot : Int32} {written : Nat → Int32} {writtenMany : Int32} {asked : Nat → Int32} {askedMany : Int32} {there0 : Nat → Int32} {counts0 : Nat → Int32} {lasts0 : Nat → Int32} {cames0 : Nat → Int32}  {o : Int32 × (Nat → Int32) × (Nat → Int32) × (Nat → Int32) × (Nat → Int32)} (B : mB E yX12_goes cX12_goes 8 (some .int) 0 0 (po_X12_goes E h a_g a_kept a_tape a_written a_asked a_there a_counts a_lasts a_cames g kept isKept tape taped spot written writtenMany asked askedMany there0 counts0 lasts0 cames0 o) p s m args below meth c A Q) {x1 : Int32} {x2 : Int32} {x3 : Int32} {x4 : Int32} {x5 : Int32} {there : Nat → Int32} {counts : Nat → Int32} {lasts : Nat → Int32} {cames : Nat → Int32}  (rec : Int32 → Int32 → Int32 → (Nat → Int32) → (Nat → Int32) → (Nat → Int32) → (Nat → Int32) → (Option (Int32 × (Nat → Int32) × (Nat → Int32) × (Nat → Int32) × (Nat → Int32)))) (k213 : Int32 → (Nat → Int32) → (Nat → Int32) → (Nat → Int32) → (Nat → Int32) → (Option (Int32 × (Nat → Int32) × (Nat → Int32) × (Nat → Int32) × (Nat → Int32)))) (hrec : ∀ (x3 : Int32) (x4 : Int32) (x5 : Int32) (there : Nat → Int32) (counts : Nat → Int32) (lasts : Nat → Int32) (cames : Nat → Int32)  (H : Heap) (locs : List Loc) (ls : Array Slot), rec x3 x4 x5 there counts lasts cames = some o → mW E A s [(h, .inr (11, [.ref a_g, .ref a_kept, .int isKept, .ref a_tape, .int taped, .int spot, .ref a_written, .int writtenMany, .ref a_asked, .int askedMany, .ref a_there, .ref a_counts, .ref a_lasts, .ref a_cames])), (a_g, .inl (E.2.1, 8787, .inl g)), (a_kept, .inl (E.2.1, 8787, .inl kept)), (a_tape, .inl (E.2.2.1, 60, .inl tape)), (a_written, .inl (E.2.1, 40, .inl written)), (a_asked, .inl (E.2.1, 60, .inl asked)), (a_there, .inl (E.2.1, 12, .inl there)), (a_counts, .inl (E.2.1, 12, .inl counts)), (a_lasts, .inl (E.2.1, 12, .inl lasts)), (a_cames, .inl (E.2.1, 12, .inl cames))] H locs → lv_has ls 8 [(0, .ref h), (1, .int x1), (2, .int x2), (3, .int x3), (4, .int x4), (5, .int x5)] → W p l e ({ frames := 1, cells := 0, slots := 0, locals := 23 } : Room) s m args below meth c H locs 0 0 Q (F0 m 8 ls [])) (hk213 : ∀ (x4 : Int32) (there : Nat → Int32) (counts : Nat → Int32) (lasts : Nat → Int32) (cames : Nat → Int32)  (H : Heap) (locs : List Loc) (ls : Array Slot), k213 x4 there counts lasts cames = some o → mW E A s [(h, .inr (11, [.ref a_g, .ref a_kept, .int isKept, .ref a_tape, .int taped, .int spot, .ref a_written, .int writtenMany, .ref a_asked, .int askedMany, .ref a_there, .ref a_counts, .ref a_lasts, .ref a_cames])), (a_g, .inl (E.2.1, 8787, .inl g)), (a_kept, .inl (E.2.1, 8787, .inl kept)), (a_tape, .inl (E.2.2.1, 60, .inl tape)), (a_written, .inl (E.2.1, 40, .inl written)), (a_asked, .inl (E.2.1, 60, .inl asked)), (a_there, .inl (E.2.1, 12, .inl there)), (a_counts, .inl (E.2.1, 12, .inl counts)), (a_lasts, .inl (E.2.1, 12, .inl lasts)), (a_cames, .inl (E.2.1, 12, .inl cames))] H locs → lv_has ls 8 [(4, .int x4)] → W p l e ({ frames := 1, cells := 0, slots := 0, locals := 23 } : Room) s m args below meth c H locs 0 0 Q (F0 m 213 ls [])) {H : Heap} {locs : List Loc} {ls : Array Slot} (hf : J_X12_goes_207 N rec k213 x1 x2 x3 x4 x5 g asked askedMany there counts lasts cames = some o)  (w : mW E A s [(h, .inr (11, [.ref a_g, .ref a_kept, .int isKept, .ref a_tape, .int taped, .int spot, .ref a_written, .int writtenMany, .ref a_asked, .int askedMany, .ref a_there, .ref a_counts, .ref a_lasts, .ref a_cames])), (a_g, .inl (E.2.1, 8787, .inl g)), (a_kept, .inl (E.2.1, 8787, .inl kept)), (a_tape, .inl (E.2.2.1, 60, .inl tape)), (a_written, .inl (E.2.1, 40, .inl written)), (a_asked, .inl (E.2.1, 60, .inl asked)), (a_there, .inl (E.2.1, 12, .inl there)), (a_counts, .inl (E.2.1, 12, .inl counts)), (a_lasts, .inl (E.2.1, 12, .inl lasts)), (a_cames, .inl (E.2.1, 12, .inl cames))] H locs) (hl : lv_has ls 8 [(0, .ref h), (1, .int x1), (2, .int x2), (3, .int x3), (4, .int x4), (5, .int x5)]) : W p l e ({ frames := 1, cells := 0, slots := 0, locals := 23 } : Room) s m args below meth c H locs 0 0 Q (F0 m 207 ls []) := by
  obtain ⟨hx, hb, hml, hown, hts⟩ := id B.1
  unfold J_X12_goes_207 at hf
  obtain ⟨x5_14, ev⟩ : ∃ y : Int32, y = x5 + 1 := ⟨_, rfl⟩
  refine lv_iinc (v := x5_14) (lv' := [(5, .int x5_14), (0, .ref h), (1, .int x1), (2, .int x2), (3, .int x3), (4, .int x4)]) hx hb dX12_goes_207 hl (k := 5) rfl (by rw [ev]; rfl) (by decide) rfl (fun ls hl => ?_)
  have hf := lt_n ev hf; clear ev
  refine lv_goto (tgt := 8) hx hb dX12_goes_210 (by decide) ?_
  exact hrec _ _ _ _ _ _ _ _ _ _ hf  w (lv_sub hl [1, 2, 3, 4, 5, 0] rfl)
noncomputable def J_X12_goes_153 (N : Nat)  (rec : Int32 → Int32 → Int32 → (Nat → Int32) → (Nat → Int32) → (Nat → Int32) → (Nat → Int32) → (Option (Int32 × (Nat → Int32) × (Nat → Int32) × (Nat → Int32) × (Nat → Int32)))) (k213 : Int32 → (Nat → Int32) → (Nat → Int32) → (Nat → Int32) → (Nat → Int32) → (Option (Int32 × (Nat → Int32) × (Nat → Int32) × (Nat → Int32) × (Nat → Int32)))) (x1 : Int32) (x2 : Int32) (x3 : Int32) (x4 : Int32) (x5 : Int32) (x6 : Int32) (g : Nat → Int32) (asked : Nat → Int32) (askedMany : Int32) (there : Nat → Int32) (counts : Nat → Int32) (lasts : Nat → Int32) (cames : Nat → Int32) : Option (Int32 × (Nat → Int32) × (Nat → Int32) × (Nat → Int32) × (Nat → Int32)) :=
  sto lasts 12 x6 x5 (fun lasts_9 =>
  L_X12_goes_165 N (fun counts => J_X12_goes_207 N rec k213 x1 x2 x3 x4 x5 g asked askedMany there counts lasts_9 cames) x1 x2 x3 x4 x5 g asked askedMany there lasts_9 cames N 0 counts)
set_option maxHeartbeats 4000000 in
set_option maxRecDepth 100000 in
theorem j_X12_goes_153 {E : mE} {l : Launch} {p : Program} {e : Env} {s : State} {m : MethodId} {args : Array Value} {below : List Frame} {meth : Method} {c : Code} {A : Nat → Prop} {Q : State → Prop} {N : Nat} {h : Nat} {a_g : Nat} {a_kept : Nat} {a_tape : Nat} {a_written : Nat} {a_asked : Nat} {a_there : Nat} {a_counts : Nat} {a_lasts : Nat} {a_cames : Nat}  {g : Nat → Int32} {kept : Nat → Int32} {isKept : Int32} {tape : Nat → Int32} {taped : Int32} {spot : Int32} {written : Nat → Int32} {writtenMany : Int32} {asked : Nat → Int32} {askedMany : Int32} {there0 : Nat → Int32} {counts0 : Nat → Int32} {lasts0 : Nat → Int32} {cames0 : Nat → Int32}  {o : Int32 × (Nat → Int32) × (Nat → Int32) × (Nat → Int32) × (Nat → Int32)} (B : mB E yX12_goes cX12_goes 8 (some .int) 0 0 (po_X12_goes E h a_g a_kept a_tape a_written a_asked a_there a_counts a_lasts a_cames g kept isKept tape taped spot written writtenMany asked askedMany there0 counts0 lasts0 cames0 o) p s m args below meth c A Q) {x1 : Int32} {x2 : Int32} {x3 : Int32} {x4 : Int32} {x5 : Int32} {x6 : Int32} {there : Nat → Int32} {counts : Nat → Int32} {lasts : Nat → Int32} {cames : Nat → Int32}  (rec : Int32 → Int32 → Int32 → (Nat → Int32) → (Nat → Int32) → (Nat → Int32) → (Nat → Int32) → (Option (Int32 × (Nat → Int32) × (Nat → Int32) × (Nat → Int32) × (Nat → Int32)))) (k213 : Int32 → (Nat → Int32) → (Nat → Int32) → (Nat → Int32) → (Nat → Int32) → (Option (Int32 × (Nat → Int32) × (Nat → Int32) × (Nat → Int32) × (Nat → Int32)))) (hrec : ∀ (x3 : Int32) (x4 : Int32) (x5 : Int32) (there : Nat → Int32) (counts : Nat → Int32) (lasts : Nat → Int32) (cames : Nat → Int32)  (H : Heap) (locs : List Loc) (ls : Array Slot), rec x3 x4 x5 there counts lasts cames = some o → mW E A s [(h, .inr (11, [.ref a_g, .ref a_kept, .int isKept, .ref a_tape, .int taped, .int spot, .ref a_written, .int writtenMany, .ref a_asked, .int askedMany, .ref a_there, .ref a_counts, .ref a_lasts, .ref a_cames])), (a_g, .inl (E.2.1, 8787, .inl g)), (a_kept, .inl (E.2.1, 8787, .inl kept)), (a_tape, .inl (E.2.2.1, 60, .inl tape)), (a_written, .inl (E.2.1, 40, .inl written)), (a_asked, .inl (E.2.1, 60, .inl asked)), (a_there, .inl (E.2.1, 12, .inl there)), (a_counts, .inl (E.2.1, 12, .inl counts)), (a_lasts, .inl (E.2.1, 12, .inl lasts)), (a_cames, .inl (E.2.1, 12, .inl cames))] H locs → lv_has ls 8 [(0, .ref h), (1, .int x1), (2, .int x2), (3, .int x3), (4, .int x4), (5, .int x5)] → W p l e ({ frames := 1, cells := 0, slots := 0, locals := 23 } : Room) s m args below meth c H locs 0 0 Q (F0 m 8 ls [])) (hk213 : ∀ (x4 : Int32) (there : Nat → Int32) (counts : Nat → Int32) (lasts : Nat → Int32) (cames : Nat → Int32)  (H : Heap) (locs : List Loc) (ls : Array Slot), k213 x4 there counts lasts cames = some o → mW E A s [(h, .inr (11, [.ref a_g, .ref a_kept, .int isKept, .ref a_tape, .int taped, .int spot, .ref a_written, .int writtenMany, .ref a_asked, .int askedMany, .ref a_there, .ref a_counts, .ref a_lasts, .ref a_cames])), (a_g, .inl (E.2.1, 8787, .inl g)), (a_kept, .inl (E.2.1, 8787, .inl kept)), (a_tape, .inl (E.2.2.1, 60, .inl tape)), (a_written, .inl (E.2.1, 40, .inl written)), (a_asked, .inl (E.2.1, 60, .inl asked)), (a_there, .inl (E.2.1, 12, .inl there)), (a_counts, .inl (E.2.1, 12, .inl counts)), (a_lasts, .inl (E.2.1, 12, .inl lasts)), (a_cames, .inl (E.2.1, 12, .inl cames))] H locs → lv_has ls 8 [(4, .int x4)] → W p l e ({ frames := 1, cells := 0, slots := 0, locals := 23 } : Room) s m args below meth c H locs 0 0 Q (F0 m 213 ls [])) {H : Heap} {locs : List Loc} {ls : Array Slot} (hf : J_X12_goes_153 N rec k213 x1 x2 x3 x4 x5 x6 g asked askedMany there counts lasts cames = some o)  (w : mW E A s [(h, .inr (11, [.ref a_g, .ref a_kept, .int isKept, .ref a_tape, .int taped, .int spot, .ref a_written, .int writtenMany, .ref a_asked, .int askedMany, .ref a_there, .ref a_counts, .ref a_lasts, .ref a_cames])), (a_g, .inl (E.2.1, 8787, .inl g)), (a_kept, .inl (E.2.1, 8787, .inl kept)), (a_tape, .inl (E.2.2.1, 60, .inl tape)), (a_written, .inl (E.2.1, 40, .inl written)), (a_asked, .inl (E.2.1, 60, .inl asked)), (a_there, .inl (E.2.1, 12, .inl there)), (a_counts, .inl (E.2.1, 12, .inl counts)), (a_lasts, .inl (E.2.1, 12, .inl lasts)), (a_cames, .inl (E.2.1, 12, .inl cames))] H locs) (hl : lv_has ls 8 [(0, .ref h), (1, .int x1), (2, .int x2), (3, .int x3), (4, .int x4), (5, .int x5), (6, .int x6)]) : W p l e ({ frames := 1, cells := 0, slots := 0, locals := 23 } : Room) s m args below meth c H locs 0 0 Q (F0 m 153 ls []) := by
  obtain ⟨hx, hb, hml, hown, hts⟩ := id B.1
  unfold J_X12_goes_153 at hf
  refine lv_aload_n hx hb dX12_goes_153 rfl (lv_at hl 0 rfl) ?_
  refine mx_get B w 0 fl_X12_32 rfl rfl dX12_goes_154 ?_
  refine lv_iload hx hb dX12_goes_157 (lv_at hl 6 rfl) ?_
  refine lv_iload hx hb dX12_goes_159 (lv_at hl 5 rfl) ?_
  obtain ⟨hin, hf⟩ := sto_e hf
  refine mx_iast B w 8 rfl hin dX12_goes_161 (fun lasts_9 H locs ev w => ?_)
  have hf := hf _ ev; clear ev
  have w : mW E A s [(h, .inr (11, [.ref a_g, .ref a_kept, .int isKept, .ref a_tape, .int taped, .int spot, .ref a_written, .int writtenMany, .ref a_asked, .int askedMany, .ref a_there, .ref a_counts, .ref a_lasts, .ref a_cames])), (a_g, .inl (E.2.1, 8787, .inl g)), (a_kept, .inl (E.2.1, 8787, .inl kept)), (a_tape, .inl (E.2.2.1, 60, .inl tape)), (a_written, .inl (E.2.1, 40, .inl written)), (a_asked, .inl (E.2.1, 60, .inl asked)), (a_there, .inl (E.2.1, 12, .inl there)), (a_counts, .inl (E.2.1, 12, .inl counts)), (a_lasts, .inl (E.2.1, 12, .inl lasts_9)), (a_cames, .inl (E.2.1, 12, .inl cames))] H locs := w
  refine lv_iconst (v := 0) hx hb dX12_goes_162 (by decide) ?_
  refine lv_istore (lv' := [(7, .int 0), (0, .ref h), (1, .int x1), (2, .int x2), (3, .int x3), (4, .int x4), (5, .int x5), (6, .int x6)]) hx hb dX12_goes_163 hl (by decide) rfl (fun ls hl => ?_)
  refine l_X12_goes_165 B _  ?_ N _ _ _ _ _ hf  w (lv_sub hl [1, 2, 3, 4, 5, 6, 0] rfl)
  · intro counts H locs ls hf w hl
    exact j_X12_goes_207 B _ _ hrec hk213 hf  w (lv_sub hl [0, 1, 2, 3, 4, 5] rfl)
noncomputable def J_X12_goes_122 (N : Nat)  (rec : Int32 → Int32 → Int32 → (Nat → Int32) → (Nat → Int32) → (Nat → Int32) → (Nat → Int32) → (Option (Int32 × (Nat → Int32) × (Nat → Int32) × (Nat → Int32) × (Nat → Int32)))) (k213 : Int32 → (Nat → Int32) → (Nat → Int32) → (Nat → Int32) → (Nat → Int32) → (Option (Int32 × (Nat → Int32) × (Nat → Int32) × (Nat → Int32) × (Nat → Int32)))) (x1 : Int32) (x2 : Int32) (x3 : Int32) (x4 : Int32) (x5 : Int32) (x6 : Int32) (g : Nat → Int32) (asked : Nat → Int32) (askedMany : Int32) (there : Nat → Int32) (counts : Nat → Int32) (lasts : Nat → Int32) (cames : Nat → Int32) : Option (Int32 × (Nat → Int32) × (Nat → Int32) × (Nat → Int32) × (Nat → Int32)) :=
  ld asked 60 x5 (fun v_5 =>
  sto there 12 x6 v_5 (fun there_6 =>
  sto counts 12 x6 1 (fun counts_7 =>
  sto cames 12 x6 x5 (fun cames_8 =>
  J_X12_goes_153 N rec k213 x1 x2 x3 x4 x5 x6 g asked askedMany there_6 counts_7 lasts cames_8))))
set_option maxHeartbeats 4000000 in
set_option maxRecDepth 100000 in
theorem j_X12_goes_122 {E : mE} {l : Launch} {p : Program} {e : Env} {s : State} {m : MethodId} {args : Array Value} {below : List Frame} {meth : Method} {c : Code} {A : Nat → Prop} {Q : State → Prop} {N : Nat} {h : Nat} {a_g : Nat} {a_kept : Nat} {a_tape : Nat} {a_written : Nat} {a_asked : Nat} {a_there : Nat} {a_counts : Nat} {a_lasts : Nat} {a_cames : Nat}  {g : Nat → Int32} {kept : Nat → Int32} {isKept : Int32} {tape : Nat → Int32} {taped : Int32} {spot : Int32} {written : Nat → Int32} {writtenMany : Int32} {asked : Nat → Int32} {askedMany : Int32} {there0 : Nat → Int32} {counts0 : Nat → Int32} {lasts0 : Nat → Int32} {cames0 : Nat → Int32}  {o : Int32 × (Nat → Int32) × (Nat → Int32) × (Nat → Int32) × (Nat → Int32)} (B : mB E yX12_goes cX12_goes 8 (some .int) 0 0 (po_X12_goes E h a_g a_kept a_tape a_written a_asked a_there a_counts a_lasts a_cames g kept isKept tape taped spot written writtenMany asked askedMany there0 counts0 lasts0 cames0 o) p s m args below meth c A Q) {x1 : Int32} {x2 : Int32} {x3 : Int32} {x4 : Int32} {x5 : Int32} {x6 : Int32} {there : Nat → Int32} {counts : Nat → Int32} {lasts : Nat → Int32} {cames : Nat → Int32}  (rec : Int32 → Int32 → Int32 → (Nat → Int32) → (Nat → Int32) → (Nat → Int32) → (Nat → Int32) → (Option (Int32 × (Nat → Int32) × (Nat → Int32) × (Nat → Int32) × (Nat → Int32)))) (k213 : Int32 → (Nat → Int32) → (Nat → Int32) → (Nat → Int32) → (Nat → Int32) → (Option (Int32 × (Nat → Int32) × (Nat → Int32) × (Nat → Int32) × (Nat → Int32)))) (hrec : ∀ (x3 : Int32) (x4 : Int32) (x5 : Int32) (there : Nat → Int32) (counts : Nat → Int32) (lasts : Nat → Int32) (cames : Nat → Int32)  (H : Heap) (locs : List Loc) (ls : Array Slot), rec x3 x4 x5 there counts lasts cames = some o → mW E A s [(h, .inr (11, [.ref a_g, .ref a_kept, .int isKept, .ref a_tape, .int taped, .int spot, .ref a_written, .int writtenMany, .ref a_asked, .int askedMany, .ref a_there, .ref a_counts, .ref a_lasts, .ref a_cames])), (a_g, .inl (E.2.1, 8787, .inl g)), (a_kept, .inl (E.2.1, 8787, .inl kept)), (a_tape, .inl (E.2.2.1, 60, .inl tape)), (a_written, .inl (E.2.1, 40, .inl written)), (a_asked, .inl (E.2.1, 60, .inl asked)), (a_there, .inl (E.2.1, 12, .inl there)), (a_counts, .inl (E.2.1, 12, .inl counts)), (a_lasts, .inl (E.2.1, 12, .inl lasts)), (a_cames, .inl (E.2.1, 12, .inl cames))] H locs → lv_has ls 8 [(0, .ref h), (1, .int x1), (2, .int x2), (3, .int x3), (4, .int x4), (5, .int x5)] → W p l e ({ frames := 1, cells := 0, slots := 0, locals := 23 } : Room) s m args below meth c H locs 0 0 Q (F0 m 8 ls [])) (hk213 : ∀ (x4 : Int32) (there : Nat → Int32) (counts : Nat → Int32) (lasts : Nat → Int32) (cames : Nat → Int32)  (H : Heap) (locs : List Loc) (ls : Array Slot), k213 x4 there counts lasts cames = some o → mW E A s [(h, .inr (11, [.ref a_g, .ref a_kept, .int isKept, .ref a_tape, .int taped, .int spot, .ref a_written, .int writtenMany, .ref a_asked, .int askedMany, .ref a_there, .ref a_counts, .ref a_lasts, .ref a_cames])), (a_g, .inl (E.2.1, 8787, .inl g)), (a_kept, .inl (E.2.1, 8787, .inl kept)), (a_tape, .inl (E.2.2.1, 60, .inl tape)), (a_written, .inl (E.2.1, 40, .inl written)), (a_asked, .inl (E.2.1, 60, .inl asked)), (a_there, .inl (E.2.1, 12, .inl there)), (a_counts, .inl (E.2.1, 12, .inl counts)), (a_lasts, .inl (E.2.1, 12, .inl lasts)), (a_cames, .inl (E.2.1, 12, .inl cames))] H locs → lv_has ls 8 [(4, .int x4)] → W p l e ({ frames := 1, cells := 0, slots := 0, locals := 23 } : Room) s m args below meth c H locs 0 0 Q (F0 m 213 ls [])) {H : Heap} {locs : List Loc} {ls : Array Slot} (hf : J_X12_goes_122 N rec k213 x1 x2 x3 x4 x5 x6 g asked askedMany there counts lasts cames = some o)  (w : mW E A s [(h, .inr (11, [.ref a_g, .ref a_kept, .int isKept, .ref a_tape, .int taped, .int spot, .ref a_written, .int writtenMany, .ref a_asked, .int askedMany, .ref a_there, .ref a_counts, .ref a_lasts, .ref a_cames])), (a_g, .inl (E.2.1, 8787, .inl g)), (a_kept, .inl (E.2.1, 8787, .inl kept)), (a_tape, .inl (E.2.2.1, 60, .inl tape)), (a_written, .inl (E.2.1, 40, .inl written)), (a_asked, .inl (E.2.1, 60, .inl asked)), (a_there, .inl (E.2.1, 12, .inl there)), (a_counts, .inl (E.2.1, 12, .inl counts)), (a_lasts, .inl (E.2.1, 12, .inl lasts)), (a_cames, .inl (E.2.1, 12, .inl cames))] H locs) (hl : lv_has ls 8 [(0, .ref h), (1, .int x1), (2, .int x2), (3, .int x3), (4, .int x4), (5, .int x5), (6, .int x6)]) : W p l e ({ frames := 1, cells := 0, slots := 0, locals := 23 } : Room) s m args below meth c H locs 0 0 Q (F0 m 122 ls []) := by
  obtain ⟨hx, hb, hml, hown, hts⟩ := id B.1
  unfold J_X12_goes_122 at hf
  refine lv_aload_n hx hb dX12_goes_122 rfl (lv_at hl 0 rfl) ?_
  refine mx_get B w 0 fl_X12_26 rfl rfl dX12_goes_123 ?_
  refine lv_iload hx hb dX12_goes_126 (lv_at hl 6 rfl) ?_
  refine lv_aload_n hx hb dX12_goes_128 rfl (lv_at hl 0 rfl) ?_
  refine mx_get B w 0 fl_X12_23 rfl rfl dX12_goes_129 ?_
  refine lv_iload hx hb dX12_goes_132 (lv_at hl 5 rfl) ?_
  obtain ⟨hin, hf⟩ := ld_e hf
  refine mx_iald B w 5 rfl hin dX12_goes_134 (fun v_5 ev => ?_)
  have hf := hf _ ev; clear ev
  obtain ⟨hin, hf⟩ := sto_e hf
  refine mx_iast B w 6 rfl hin dX12_goes_135 (fun there_6 H locs ev w => ?_)
  have hf := hf _ ev; clear ev
  have w : mW E A s [(h, .inr (11, [.ref a_g, .ref a_kept, .int isKept, .ref a_tape, .int taped, .int spot, .ref a_written, .int writtenMany, .ref a_asked, .int askedMany, .ref a_there, .ref a_counts, .ref a_lasts, .ref a_cames])), (a_g, .inl (E.2.1, 8787, .inl g)), (a_kept, .inl (E.2.1, 8787, .inl kept)), (a_tape, .inl (E.2.2.1, 60, .inl tape)), (a_written, .inl (E.2.1, 40, .inl written)), (a_asked, .inl (E.2.1, 60, .inl asked)), (a_there, .inl (E.2.1, 12, .inl there_6)), (a_counts, .inl (E.2.1, 12, .inl counts)), (a_lasts, .inl (E.2.1, 12, .inl lasts)), (a_cames, .inl (E.2.1, 12, .inl cames))] H locs := w
  refine lv_aload_n hx hb dX12_goes_136 rfl (lv_at hl 0 rfl) ?_
  refine mx_get B w 0 fl_X12_29 rfl rfl dX12_goes_137 ?_
  refine lv_iload hx hb dX12_goes_140 (lv_at hl 6 rfl) ?_
  refine lv_iconst (v := 1) hx hb dX12_goes_142 (by decide) ?_
  obtain ⟨hin, hf⟩ := sto_e hf
  refine mx_iast B w 7 rfl hin dX12_goes_143 (fun counts_7 H locs ev w => ?_)
  have hf := hf _ ev; clear ev
  have w : mW E A s [(h, .inr (11, [.ref a_g, .ref a_kept, .int isKept, .ref a_tape, .int taped, .int spot, .ref a_written, .int writtenMany, .ref a_asked, .int askedMany, .ref a_there, .ref a_counts, .ref a_lasts, .ref a_cames])), (a_g, .inl (E.2.1, 8787, .inl g)), (a_kept, .inl (E.2.1, 8787, .inl kept)), (a_tape, .inl (E.2.2.1, 60, .inl tape)), (a_written, .inl (E.2.1, 40, .inl written)), (a_asked, .inl (E.2.1, 60, .inl asked)), (a_there, .inl (E.2.1, 12, .inl there_6)), (a_counts, .inl (E.2.1, 12, .inl counts_7)), (a_lasts, .inl (E.2.1, 12, .inl lasts)), (a_cames, .inl (E.2.1, 12, .inl cames))] H locs := w
  refine lv_aload_n hx hb dX12_goes_144 rfl (lv_at hl 0 rfl) ?_
  refine mx_get B w 0 fl_X12_35 rfl rfl dX12_goes_145 ?_
  refine lv_iload hx hb dX12_goes_148 (lv_at hl 6 rfl) ?_
  refine lv_iload hx hb dX12_goes_150 (lv_at hl 5 rfl) ?_
  obtain ⟨hin, hf⟩ := sto_e hf
  refine mx_iast B w 9 rfl hin dX12_goes_152 (fun cames_8 H locs ev w => ?_)
  have hf := hf _ ev; clear ev
  have w : mW E A s [(h, .inr (11, [.ref a_g, .ref a_kept, .int isKept, .ref a_tape, .int taped, .int spot, .ref a_written, .int writtenMany, .ref a_asked, .int askedMany, .ref a_there, .ref a_counts, .ref a_lasts, .ref a_cames])), (a_g, .inl (E.2.1, 8787, .inl g)), (a_kept, .inl (E.2.1, 8787, .inl kept)), (a_tape, .inl (E.2.2.1, 60, .inl tape)), (a_written, .inl (E.2.1, 40, .inl written)), (a_asked, .inl (E.2.1, 60, .inl asked)), (a_there, .inl (E.2.1, 12, .inl there_6)), (a_counts, .inl (E.2.1, 12, .inl counts_7)), (a_lasts, .inl (E.2.1, 12, .inl lasts)), (a_cames, .inl (E.2.1, 12, .inl cames_8))] H locs := w
  exact j_X12_goes_153 B _ _ hrec hk213 hf  w (lv_sub hl [0, 1, 2, 3, 4, 5, 6] rfl)
noncomputable def J_X12_goes_108 (N : Nat)  (rec : Int32 → Int32 → (Option (Int32 × (Nat → Int32) × (Nat → Int32) × (Nat → Int32) × (Nat → Int32)))) (k116 : Int32 → (Option (Int32 × (Nat → Int32) × (Nat → Int32) × (Nat → Int32) × (Nat → Int32)))) (t0 : Int32) (x1 : Int32) (x2 : Int32) (x3 : Int32) (x4 : Int32) (x5 : Int32) (x7 : Int32) (g : Nat → Int32) (asked : Nat → Int32) (askedMany : Int32) (there : Nat → Int32) (counts : Nat → Int32) (lasts : Nat → Int32) (cames : Nat → Int32) : Option (Int32 × (Nat → Int32) × (Nat → Int32) × (Nat → Int32) × (Nat → Int32)) :=
  lt (x7 + 1) (fun x7_16 =>
  rec t0 x7_16)
set_option maxHeartbeats 4000000 in
set_option maxRecDepth 100000 in
theorem j_X12_goes_108 {E : mE} {l : Launch} {p : Program} {e : Env} {s : State} {m : MethodId} {args : Array Value} {below : List Frame} {meth : Method} {c : Code} {A : Nat → Prop} {Q : State → Prop} {N : Nat} {h : Nat} {a_g : Nat} {a_kept : Nat} {a_tape : Nat} {a_written : Nat} {a_asked : Nat} {a_there : Nat} {a_counts : Nat} {a_lasts : Nat} {a_cames : Nat}  {g : Nat → Int32} {kept : Nat → Int32} {isKept : Int32} {tape : Nat → Int32} {taped : Int32} {spot : Int32} {written : Nat → Int32} {writtenMany : Int32} {asked : Nat → Int32} {askedMany : Int32} {there0 : Nat → Int32} {counts0 : Nat → Int32} {lasts0 : Nat → Int32} {cames0 : Nat → Int32}  {o : Int32 × (Nat → Int32) × (Nat → Int32) × (Nat → Int32) × (Nat → Int32)} (B : mB E yX12_goes cX12_goes 8 (some .int) 0 0 (po_X12_goes E h a_g a_kept a_tape a_written a_asked a_there a_counts a_lasts a_cames g kept isKept tape taped spot written writtenMany asked askedMany there0 counts0 lasts0 cames0 o) p s m args below meth c A Q) {t0 : Int32} {x1 : Int32} {x2 : Int32} {x3 : Int32} {x4 : Int32} {x5 : Int32} {x7 : Int32} {there : Nat → Int32} {counts : Nat → Int32} {lasts : Nat → Int32} {cames : Nat → Int32}  (rec : Int32 → Int32 → (Option (Int32 × (Nat → Int32) × (Nat → Int32) × (Nat → Int32) × (Nat → Int32)))) (k116 : Int32 → (Option (Int32 × (Nat → Int32) × (Nat → Int32) × (Nat → Int32) × (Nat → Int32)))) (hrec : ∀ (x6 : Int32) (x7 : Int32)   (H : Heap) (locs : List Loc) (ls : Array Slot), rec x6 x7 = some o → mW E A s [(h, .inr (11, [.ref a_g, .ref a_kept, .int isKept, .ref a_tape, .int taped, .int spot, .ref a_written, .int writtenMany, .ref a_asked, .int askedMany, .ref a_there, .ref a_counts, .ref a_lasts, .ref a_cames])), (a_g, .inl (E.2.1, 8787, .inl g)), (a_kept, .inl (E.2.1, 8787, .inl kept)), (a_tape, .inl (E.2.2.1, 60, .inl tape)), (a_written, .inl (E.2.1, 40, .inl written)), (a_asked, .inl (E.2.1, 60, .inl asked)), (a_there, .inl (E.2.1, 12, .inl there)), (a_counts, .inl (E.2.1, 12, .inl counts)), (a_lasts, .inl (E.2.1, 12, .inl lasts)), (a_cames, .inl (E.2.1, 12, .inl cames))] H locs → lv_has ls 8 [(0, .ref h), (1, .int x1), (2, .int x2), (3, .int x3), (4, .int x4), (5, .int x5), (6, .int x6), (7, .int x7)] → W p l e ({ frames := 1, cells := 0, slots := 0, locals := 23 } : Room) s m args below meth c H locs 0 0 Q (F0 m 83 ls [])) (hk116 : ∀ (x6 : Int32)   (H : Heap) (locs : List Loc) (ls : Array Slot), k116 x6 = some o → mW E A s [(h, .inr (11, [.ref a_g, .ref a_kept, .int isKept, .ref a_tape, .int taped, .int spot, .ref a_written, .int writtenMany, .ref a_asked, .int askedMany, .ref a_there, .ref a_counts, .ref a_lasts, .ref a_cames])), (a_g, .inl (E.2.1, 8787, .inl g)), (a_kept, .inl (E.2.1, 8787, .inl kept)), (a_tape, .inl (E.2.2.1, 60, .inl tape)), (a_written, .inl (E.2.1, 40, .inl written)), (a_asked, .inl (E.2.1, 60, .inl asked)), (a_there, .inl (E.2.1, 12, .inl there)), (a_counts, .inl (E.2.1, 12, .inl counts)), (a_lasts, .inl (E.2.1, 12, .inl lasts)), (a_cames, .inl (E.2.1, 12, .inl cames))] H locs → lv_has ls 8 [(0, .ref h), (1, .int x1), (2, .int x2), (3, .int x3), (4, .int x4), (5, .int x5), (6, .int x6)] → W p l e ({ frames := 1, cells := 0, slots := 0, locals := 23 } : Room) s m args below meth c H locs 0 0 Q (F0 m 116 ls [])) {H : Heap} {locs : List Loc} {ls : Array Slot} (hf : J_X12_goes_108 N rec k116 t0 x1 x2 x3 x4 x5 x7 g asked askedMany there counts lasts cames = some o)  (w : mW E A s [(h, .inr (11, [.ref a_g, .ref a_kept, .int isKept, .ref a_tape, .int taped, .int spot, .ref a_written, .int writtenMany, .ref a_asked, .int askedMany, .ref a_there, .ref a_counts, .ref a_lasts, .ref a_cames])), (a_g, .inl (E.2.1, 8787, .inl g)), (a_kept, .inl (E.2.1, 8787, .inl kept)), (a_tape, .inl (E.2.2.1, 60, .inl tape)), (a_written, .inl (E.2.1, 40, .inl written)), (a_asked, .inl (E.2.1, 60, .inl asked)), (a_there, .inl (E.2.1, 12, .inl there)), (a_counts, .inl (E.2.1, 12, .inl counts)), (a_lasts, .inl (E.2.1, 12, .inl lasts)), (a_cames, .inl (E.2.1, 12, .inl cames))] H locs) (hl : lv_has ls 8 [(0, .ref h), (1, .int x1), (2, .int x2), (3, .int x3), (4, .int x4), (5, .int x5), (7, .int x7)]) : W p l e ({ frames := 1, cells := 0, slots := 0, locals := 23 } : Room) s m args below meth c H locs 0 0 Q (F0 m 108 ls [.int t0]) := by
  obtain ⟨hx, hb, hml, hown, hts⟩ := id B.1
  unfold J_X12_goes_108 at hf
  refine lv_istore (lv' := [(6, .int t0), (0, .ref h), (1, .int x1), (2, .int x2), (3, .int x3), (4, .int x4), (5, .int x5), (7, .int x7)]) hx hb dX12_goes_108 hl (by decide) rfl (fun ls hl => ?_)
  obtain ⟨x7_16, ev⟩ : ∃ y : Int32, y = x7 + 1 := ⟨_, rfl⟩
  refine lv_iinc (v := x7_16) (lv' := [(7, .int x7_16), (6, .int t0), (0, .ref h), (1, .int x1), (2, .int x2), (3, .int x3), (4, .int x4), (5, .int x5)]) hx hb dX12_goes_110 hl (k := 7) rfl (by rw [ev]; rfl) (by decide) rfl (fun ls hl => ?_)
  have hf := lt_n ev hf; clear ev
  refine lv_goto (tgt := 83) hx hb dX12_goes_113 (by decide) ?_
  exact hrec _ _ _ _ _ hf  w (lv_sub hl [2, 3, 4, 5, 6, 7, 1, 0] rfl)
noncomputable def K_X12_goes_83 (N : Nat)  (rec : Int32 → Int32 → (Option (Int32 × (Nat → Int32) × (Nat → Int32) × (Nat → Int32) × (Nat → Int32)))) (k116 : Int32 → (Option (Int32 × (Nat → Int32) × (Nat → Int32) × (Nat → Int32) × (Nat → Int32)))) (x1 : Int32) (x2 : Int32) (x3 : Int32) (x4 : Int32) (x5 : Int32) (g : Nat → Int32) (asked : Nat → Int32) (askedMany : Int32) (there : Nat → Int32) (counts : Nat → Int32) (lasts : Nat → Int32) (cames : Nat → Int32) (x6 : Int32) (x7 : Int32)  : Option (Int32 × (Nat → Int32) × (Nat → Int32) × (Nat → Int32) × (Nat → Int32)) :=
  if (x3 ≤ x7 : Prop) then
  k116 x6
  else
  bd (F_X12_against counts lasts cames x1 x7 x6) (fun o_15 =>
  if (0 ≤ o_15 : Prop) then
  J_X12_goes_108 N rec k116 x6 x1 x2 x3 x4 x5 x7 g asked askedMany there counts lasts cames
  else
  J_X12_goes_108 N rec k116 x7 x1 x2 x3 x4 x5 x7 g asked askedMany there counts lasts cames)
noncomputable def L_X12_goes_83 (N : Nat)  (k116 : Int32 → (Option (Int32 × (Nat → Int32) × (Nat → Int32) × (Nat → Int32) × (Nat → Int32)))) (x1 : Int32) (x2 : Int32) (x3 : Int32) (x4 : Int32) (x5 : Int32) (g : Nat → Int32) (asked : Nat → Int32) (askedMany : Int32) (there : Nat → Int32) (counts : Nat → Int32) (lasts : Nat → Int32) (cames : Nat → Int32) (n : Nat) : Int32 → Int32 → (Option (Int32 × (Nat → Int32) × (Nat → Int32) × (Nat → Int32) × (Nat → Int32))) :=
  Nat.rec (motive := fun _ => Int32 → Int32 → (Option (Int32 × (Nat → Int32) × (Nat → Int32) × (Nat → Int32) × (Nat → Int32)))) (fun _ _ => none) (fun _ rec => K_X12_goes_83 N rec k116 x1 x2 x3 x4 x5 g asked askedMany there counts lasts cames) n
set_option maxHeartbeats 4000000 in
set_option maxRecDepth 100000 in
theorem l_X12_goes_83 {E : mE} {l : Launch} {p : Program} {e : Env} {s : State} {m : MethodId} {args : Array Value} {below : List Frame} {meth : Method} {c : Code} {A : Nat → Prop} {Q : State → Prop} {N : Nat} {h : Nat} {a_g : Nat} {a_kept : Nat} {a_tape : Nat} {a_written : Nat} {a_asked : Nat} {a_there : Nat} {a_counts : Nat} {a_lasts : Nat} {a_cames : Nat}  {g : Nat → Int32} {kept : Nat → Int32} {isKept : Int32} {tape : Nat → Int32} {taped : Int32} {spot : Int32} {written : Nat → Int32} {writtenMany : Int32} {asked : Nat → Int32} {askedMany : Int32} {there0 : Nat → Int32} {counts0 : Nat → Int32} {lasts0 : Nat → Int32} {cames0 : Nat → Int32}  {o : Int32 × (Nat → Int32) × (Nat → Int32) × (Nat → Int32) × (Nat → Int32)} (B : mB E yX12_goes cX12_goes 8 (some .int) 0 0 (po_X12_goes E h a_g a_kept a_tape a_written a_asked a_there a_counts a_lasts a_cames g kept isKept tape taped spot written writtenMany asked askedMany there0 counts0 lasts0 cames0 o) p s m args below meth c A Q) {there : Nat → Int32} {counts : Nat → Int32} {lasts : Nat → Int32} {cames : Nat → Int32}  {x1 : Int32} {x2 : Int32} {x3 : Int32} {x4 : Int32} {x5 : Int32} (k116 : Int32 → (Option (Int32 × (Nat → Int32) × (Nat → Int32) × (Nat → Int32) × (Nat → Int32))))  (hk116 : ∀ (x6 : Int32)   (H : Heap) (locs : List Loc) (ls : Array Slot), k116 x6 = some o → mW E A s [(h, .inr (11, [.ref a_g, .ref a_kept, .int isKept, .ref a_tape, .int taped, .int spot, .ref a_written, .int writtenMany, .ref a_asked, .int askedMany, .ref a_there, .ref a_counts, .ref a_lasts, .ref a_cames])), (a_g, .inl (E.2.1, 8787, .inl g)), (a_kept, .inl (E.2.1, 8787, .inl kept)), (a_tape, .inl (E.2.2.1, 60, .inl tape)), (a_written, .inl (E.2.1, 40, .inl written)), (a_asked, .inl (E.2.1, 60, .inl asked)), (a_there, .inl (E.2.1, 12, .inl there)), (a_counts, .inl (E.2.1, 12, .inl counts)), (a_lasts, .inl (E.2.1, 12, .inl lasts)), (a_cames, .inl (E.2.1, 12, .inl cames))] H locs → lv_has ls 8 [(0, .ref h), (1, .int x1), (2, .int x2), (3, .int x3), (4, .int x4), (5, .int x5), (6, .int x6)] → W p l e ({ frames := 1, cells := 0, slots := 0, locals := 23 } : Room) s m args below meth c H locs 0 0 Q (F0 m 116 ls [])) : ∀ n : Nat, ∀ (x6 : Int32) (x7 : Int32)   (H : Heap) (locs : List Loc) (ls : Array Slot), L_X12_goes_83 N k116 x1 x2 x3 x4 x5 g asked askedMany there counts lasts cames n x6 x7 = some o → mW E A s [(h, .inr (11, [.ref a_g, .ref a_kept, .int isKept, .ref a_tape, .int taped, .int spot, .ref a_written, .int writtenMany, .ref a_asked, .int askedMany, .ref a_there, .ref a_counts, .ref a_lasts, .ref a_cames])), (a_g, .inl (E.2.1, 8787, .inl g)), (a_kept, .inl (E.2.1, 8787, .inl kept)), (a_tape, .inl (E.2.2.1, 60, .inl tape)), (a_written, .inl (E.2.1, 40, .inl written)), (a_asked, .inl (E.2.1, 60, .inl asked)), (a_there, .inl (E.2.1, 12, .inl there)), (a_counts, .inl (E.2.1, 12, .inl counts)), (a_lasts, .inl (E.2.1, 12, .inl lasts)), (a_cames, .inl (E.2.1, 12, .inl cames))] H locs → lv_has ls 8 [(0, .ref h), (1, .int x1), (2, .int x2), (3, .int x3), (4, .int x4), (5, .int x5), (6, .int x6), (7, .int x7)] → W p l e ({ frames := 1, cells := 0, slots := 0, locals := 23 } : Room) s m args below meth c H locs 0 0 Q (F0 m 83 ls []) := by
  obtain ⟨hx, hb, hml, hown, hts⟩ := id B.1
  intro n
  induction n with
  | zero =>
    intro x6 x7 H locs ls hf w hl
    exact nomatch hf
  | succ n hrec =>
    intro x6 x7 H locs ls hf w hl
    have hf : K_X12_goes_83 N (L_X12_goes_83 N k116 x1 x2 x3 x4 x5 g asked askedMany there counts lasts cames n) k116 x1 x2 x3 x4 x5 g asked askedMany there counts lasts cames x6 x7 = some o := hf
    unfold K_X12_goes_83 at hf
    refine lv_iload hx hb dX12_goes_83 (lv_at hl 7 rfl) ?_
    refine lv_iload_n hx hb dX12_goes_85 rfl (lv_at hl 3 rfl) ?_
    refine lv_icmp_ge (tgt := 116) hx hb dX12_goes_86 (by decide) (fun hc => ?_) (fun hc => ?_)
    · have hf := it_t hc hf
      exact hk116 _ _ _ _ hf  w (lv_sub hl [0, 1, 2, 3, 4, 5, 6] rfl)
    · have hf := it_f hc hf
      refine lv_aload_n hx hb dX12_goes_89 rfl (lv_at hl 0 rfl) ?_
      refine lv_iload_n hx hb dX12_goes_90 rfl (lv_at hl 1 rfl) ?_
      refine lv_iload hx hb dX12_goes_91 (lv_at hl 7 rfl) ?_
      refine lv_iload hx hb dX12_goes_93 (lv_at hl 6 rfl) ?_
      obtain ⟨o_15, hq, hf⟩ := bd_e hf
      refine mx_callV (As := [.int x1, .int x7, .int x6]) (rest := []) (wr := []) (d_X12_against E l  h a_g a_kept a_tape a_written a_asked a_there a_counts a_lasts a_cames g kept isKept tape taped spot written writtenMany asked askedMany there counts lasts cames x1 x7 x6  o_15 hq) B w [0, 1, 2, 3, 4, 5, 6, 7, 8, 9] [] rfl rfl (by decide) (by decide) (by decide) 0 rfl rfl cv_X12_against kw_1640 3 (by decide +kernel) ⟨Nat.le_of_ble_eq_true rfl, Nat.le_of_ble_eq_true rfl⟩ rfl hl.1 rfl (Nat.le_of_ble_eq_true rfl) dX12_goes_95 rfl rfl ⟨Nat.zero_le _, Nat.zero_le _⟩ (fun v w' H locs hpo w => ?_)
      clear hq
      obtain ⟨rfl, rfl⟩ := hpo
      have w : mW E A s [(h, .inr (11, [.ref a_g, .ref a_kept, .int isKept, .ref a_tape, .int taped, .int spot, .ref a_written, .int writtenMany, .ref a_asked, .int askedMany, .ref a_there, .ref a_counts, .ref a_lasts, .ref a_cames])), (a_g, .inl (E.2.1, 8787, .inl g)), (a_kept, .inl (E.2.1, 8787, .inl kept)), (a_tape, .inl (E.2.2.1, 60, .inl tape)), (a_written, .inl (E.2.1, 40, .inl written)), (a_asked, .inl (E.2.1, 60, .inl asked)), (a_there, .inl (E.2.1, 12, .inl there)), (a_counts, .inl (E.2.1, 12, .inl counts)), (a_lasts, .inl (E.2.1, 12, .inl lasts)), (a_cames, .inl (E.2.1, 12, .inl cames))] H locs := w
      refine lv_if_ge (tgt := 106) hx hb dX12_goes_98 (by decide) (fun hc => ?_) (fun hc => ?_)
      · have hf := it_t hc hf
        refine lv_iload hx hb dX12_goes_106 (lv_at hl 6 rfl) ?_
        exact j_X12_goes_108 B _ _ hrec hk116 hf  w (lv_sub hl [0, 1, 2, 3, 4, 5, 7] rfl)
      · have hf := it_f hc hf
        refine lv_iload hx hb dX12_goes_101 (lv_at hl 7 rfl) ?_
        refine lv_goto (tgt := 108) hx hb dX12_goes_103 (by decide) ?_
        exact j_X12_goes_108 B _ _ hrec hk116 hf  w (lv_sub hl [0, 1, 2, 3, 4, 5, 7] rfl)
noncomputable def J_X12_goes_49 (N : Nat)  (rec : Int32 → Int32 → Int32 → (Nat → Int32) → (Nat → Int32) → (Nat → Int32) → (Nat → Int32) → (Option (Int32 × (Nat → Int32) × (Nat → Int32) × (Nat → Int32) × (Nat → Int32)))) (k213 : Int32 → (Nat → Int32) → (Nat → Int32) → (Nat → Int32) → (Nat → Int32) → (Option (Int32 × (Nat → Int32) × (Nat → Int32) × (Nat → Int32) × (Nat → Int32)))) (x1 : Int32) (x2 : Int32) (x3 : Int32) (x4 : Int32) (x5 : Int32) (x6 : Int32) (g : Nat → Int32) (asked : Nat → Int32) (askedMany : Int32) (there : Nat → Int32) (counts : Nat → Int32) (lasts : Nat → Int32) (cames : Nat → Int32) : Option (Int32 × (Nat → Int32) × (Nat → Int32) × (Nat → Int32) × (Nat → Int32)) :=
  if (x3 ≤ x6 : Prop) then
  if (x3 = x2 : Prop) then
  L_X12_goes_83 N (fun x6 => J_X12_goes_122 N rec k213 x1 x2 x3 x4 x5 x6 g asked askedMany there counts lasts cames) x1 x2 x3 x4 x5 g asked askedMany there counts lasts cames N 0 1
  else
  lt (x3 + 1) (fun x3_4 =>
  J_X12_goes_122 N rec k213 x1 x2 x3_4 x4 x5 x6 g asked askedMany there counts lasts cames)
  else
  lt (x4 + 1) (fun x4_17 =>
  ld counts 12 x6 (fun v_18 =>
  sto counts 12 x6 (v_18 + 1) (fun counts_19 =>
  J_X12_goes_153 N rec k213 x1 x2 x3 x4_17 x5 x6 g asked askedMany there counts_19 lasts cames)))
set_option maxHeartbeats 4000000 in
set_option maxRecDepth 100000 in
theorem j_X12_goes_49 {E : mE} {l : Launch} {p : Program} {e : Env} {s : State} {m : MethodId} {args : Array Value} {below : List Frame} {meth : Method} {c : Code} {A : Nat → Prop} {Q : State → Prop} {N : Nat} {h : Nat} {a_g : Nat} {a_kept : Nat} {a_tape : Nat} {a_written : Nat} {a_asked : Nat} {a_there : Nat} {a_counts : Nat} {a_lasts : Nat} {a_cames : Nat}  {g : Nat → Int32} {kept : Nat → Int32} {isKept : Int32} {tape : Nat → Int32} {taped : Int32} {spot : Int32} {written : Nat → Int32} {writtenMany : Int32} {asked : Nat → Int32} {askedMany : Int32} {there0 : Nat → Int32} {counts0 : Nat → Int32} {lasts0 : Nat → Int32} {cames0 : Nat → Int32}  {o : Int32 × (Nat → Int32) × (Nat → Int32) × (Nat → Int32) × (Nat → Int32)} (B : mB E yX12_goes cX12_goes 8 (some .int) 0 0 (po_X12_goes E h a_g a_kept a_tape a_written a_asked a_there a_counts a_lasts a_cames g kept isKept tape taped spot written writtenMany asked askedMany there0 counts0 lasts0 cames0 o) p s m args below meth c A Q) {x1 : Int32} {x2 : Int32} {x3 : Int32} {x4 : Int32} {x5 : Int32} {x6 : Int32} {there : Nat → Int32} {counts : Nat → Int32} {lasts : Nat → Int32} {cames : Nat → Int32}  (rec : Int32 → Int32 → Int32 → (Nat → Int32) → (Nat → Int32) → (Nat → Int32) → (Nat → Int32) → (Option (Int32 × (Nat → Int32) × (Nat → Int32) × (Nat → Int32) × (Nat → Int32)))) (k213 : Int32 → (Nat → Int32) → (Nat → Int32) → (Nat → Int32) → (Nat → Int32) → (Option (Int32 × (Nat → Int32) × (Nat → Int32) × (Nat → Int32) × (Nat → Int32)))) (hrec : ∀ (x3 : Int32) (x4 : Int32) (x5 : Int32) (there : Nat → Int32) (counts : Nat → Int32) (lasts : Nat → Int32) (cames : Nat → Int32)  (H : Heap) (locs : List Loc) (ls : Array Slot), rec x3 x4 x5 there counts lasts cames = some o → mW E A s [(h, .inr (11, [.ref a_g, .ref a_kept, .int isKept, .ref a_tape, .int taped, .int spot, .ref a_written, .int writtenMany, .ref a_asked, .int askedMany, .ref a_there, .ref a_counts, .ref a_lasts, .ref a_cames])), (a_g, .inl (E.2.1, 8787, .inl g)), (a_kept, .inl (E.2.1, 8787, .inl kept)), (a_tape, .inl (E.2.2.1, 60, .inl tape)), (a_written, .inl (E.2.1, 40, .inl written)), (a_asked, .inl (E.2.1, 60, .inl asked)), (a_there, .inl (E.2.1, 12, .inl there)), (a_counts, .inl (E.2.1, 12, .inl counts)), (a_lasts, .inl (E.2.1, 12, .inl lasts)), (a_cames, .inl (E.2.1, 12, .inl cames))] H locs → lv_has ls 8 [(0, .ref h), (1, .int x1), (2, .int x2), (3, .int x3), (4, .int x4), (5, .int x5)] → W p l e ({ frames := 1, cells := 0, slots := 0, locals := 23 } : Room) s m args below meth c H locs 0 0 Q (F0 m 8 ls [])) (hk213 : ∀ (x4 : Int32) (there : Nat → Int32) (counts : Nat → Int32) (lasts : Nat → Int32) (cames : Nat → Int32)  (H : Heap) (locs : List Loc) (ls : Array Slot), k213 x4 there counts lasts cames = some o → mW E A s [(h, .inr (11, [.ref a_g, .ref a_kept, .int isKept, .ref a_tape, .int taped, .int spot, .ref a_written, .int writtenMany, .ref a_asked, .int askedMany, .ref a_there, .ref a_counts, .ref a_lasts, .ref a_cames])), (a_g, .inl (E.2.1, 8787, .inl g)), (a_kept, .inl (E.2.1, 8787, .inl kept)), (a_tape, .inl (E.2.2.1, 60, .inl tape)), (a_written, .inl (E.2.1, 40, .inl written)), (a_asked, .inl (E.2.1, 60, .inl asked)), (a_there, .inl (E.2.1, 12, .inl there)), (a_counts, .inl (E.2.1, 12, .inl counts)), (a_lasts, .inl (E.2.1, 12, .inl lasts)), (a_cames, .inl (E.2.1, 12, .inl cames))] H locs → lv_has ls 8 [(4, .int x4)] → W p l e ({ frames := 1, cells := 0, slots := 0, locals := 23 } : Room) s m args below meth c H locs 0 0 Q (F0 m 213 ls [])) {H : Heap} {locs : List Loc} {ls : Array Slot} (hf : J_X12_goes_49 N rec k213 x1 x2 x3 x4 x5 x6 g asked askedMany there counts lasts cames = some o)  (w : mW E A s [(h, .inr (11, [.ref a_g, .ref a_kept, .int isKept, .ref a_tape, .int taped, .int spot, .ref a_written, .int writtenMany, .ref a_asked, .int askedMany, .ref a_there, .ref a_counts, .ref a_lasts, .ref a_cames])), (a_g, .inl (E.2.1, 8787, .inl g)), (a_kept, .inl (E.2.1, 8787, .inl kept)), (a_tape, .inl (E.2.2.1, 60, .inl tape)), (a_written, .inl (E.2.1, 40, .inl written)), (a_asked, .inl (E.2.1, 60, .inl asked)), (a_there, .inl (E.2.1, 12, .inl there)), (a_counts, .inl (E.2.1, 12, .inl counts)), (a_lasts, .inl (E.2.1, 12, .inl lasts)), (a_cames, .inl (E.2.1, 12, .inl cames))] H locs) (hl : lv_has ls 8 [(0, .ref h), (1, .int x1), (2, .int x2), (3, .int x3), (4, .int x4), (5, .int x5), (6, .int x6)]) : W p l e ({ frames := 1, cells := 0, slots := 0, locals := 23 } : Room) s m args below meth c H locs 0 0 Q (F0 m 49 ls []) := by
  obtain ⟨hx, hb, hml, hown, hts⟩ := id B.1
  unfold J_X12_goes_49 at hf
  refine lv_iload hx hb dX12_goes_49 (lv_at hl 6 rfl) ?_
  refine lv_iload_n hx hb dX12_goes_51 rfl (lv_at hl 3 rfl) ?_
  refine lv_icmp_ge (tgt := 72) hx hb dX12_goes_52 (by decide) (fun hc => ?_) (fun hc => ?_)
  · have hf := it_t hc hf
    refine lv_iload_n hx hb dX12_goes_72 rfl (lv_at hl 3 rfl) ?_
    refine lv_iload_n hx hb dX12_goes_73 rfl (lv_at hl 2 rfl) ?_
    refine lv_icmp_ne (tgt := 119) hx hb dX12_goes_74 (by decide) (fun hc => ?_) (fun hc => ?_)
    · have hf := it_f hc hf
      obtain ⟨x3_4, ev⟩ : ∃ y : Int32, y = x3 + 1 := ⟨_, rfl⟩
      refine lv_iinc (v := x3_4) (lv' := [(3, .int x3_4), (0, .ref h), (1, .int x1), (2, .int x2), (4, .int x4), (5, .int x5), (6, .int x6)]) hx hb dX12_goes_119 hl (k := 3) rfl (by rw [ev]; rfl) (by decide) rfl (fun ls hl => ?_)
      have hf := lt_n ev hf; clear ev
      exact j_X12_goes_122 B _ _ hrec hk213 hf  w (lv_sub hl [1, 2, 3, 0, 4, 5, 6] rfl)
    · have hf := it_t hc hf
      refine lv_iconst (v := 0) hx hb dX12_goes_77 (by decide) ?_
      refine lv_istore (lv' := [(6, .int 0), (0, .ref h), (1, .int x1), (2, .int x2), (3, .int x3), (4, .int x4), (5, .int x5)]) hx hb dX12_goes_78 hl (by decide) rfl (fun ls hl => ?_)
      refine lv_iconst (v := 1) hx hb dX12_goes_80 (by decide) ?_
      refine lv_istore (lv' := [(7, .int 1), (6, .int 0), (0, .ref h), (1, .int x1), (2, .int x2), (3, .int x3), (4, .int x4), (5, .int x5)]) hx hb dX12_goes_81 hl (by decide) rfl (fun ls hl => ?_)
      refine l_X12_goes_83 B _  ?_ N _ _ _ _ _ hf  w (lv_sub hl [2, 3, 4, 5, 6, 7, 1, 0] rfl)
      · intro x6 H locs ls hf w hl
        refine lv_goto (tgt := 122) hx hb dX12_goes_116 (by decide) ?_
        exact j_X12_goes_122 B _ _ hrec hk213 hf  w (lv_sub hl [0, 1, 2, 3, 4, 5, 6] rfl)
  · have hf := it_f hc hf
    obtain ⟨x4_17, ev⟩ : ∃ y : Int32, y = x4 + 1 := ⟨_, rfl⟩
    refine lv_iinc (v := x4_17) (lv' := [(4, .int x4_17), (0, .ref h), (1, .int x1), (2, .int x2), (3, .int x3), (5, .int x5), (6, .int x6)]) hx hb dX12_goes_55 hl (k := 4) rfl (by rw [ev]; rfl) (by decide) rfl (fun ls hl => ?_)
    have hf := lt_n ev hf; clear ev
    refine lv_aload_n hx hb dX12_goes_58 rfl (lv_at hl 1 rfl) ?_
    refine mx_get B w 0 fl_X12_29 rfl rfl dX12_goes_59 ?_
    refine lv_iload hx hb dX12_goes_62 (lv_at hl 6 rfl) ?_
    refine lv_dup2_11 hx hb dX12_goes_64 rfl rfl ?_
    obtain ⟨hin, hf⟩ := ld_e hf
    refine mx_iald B w 7 rfl hin dX12_goes_65 (fun v_18 ev => ?_)
    have hf := hf _ ev; clear ev
    refine lv_iconst (v := 1) hx hb dX12_goes_66 (by decide) ?_
    refine lv_iadd hx hb dX12_goes_67 ?_
    obtain ⟨hin, hf⟩ := sto_e hf
    refine mx_iast B w 7 rfl hin dX12_goes_68 (fun counts_19 H locs ev w => ?_)
    have hf := hf _ ev; clear ev
    have w : mW E A s [(h, .inr (11, [.ref a_g, .ref a_kept, .int isKept, .ref a_tape, .int taped, .int spot, .ref a_written, .int writtenMany, .ref a_asked, .int askedMany, .ref a_there, .ref a_counts, .ref a_lasts, .ref a_cames])), (a_g, .inl (E.2.1, 8787, .inl g)), (a_kept, .inl (E.2.1, 8787, .inl kept)), (a_tape, .inl (E.2.2.1, 60, .inl tape)), (a_written, .inl (E.2.1, 40, .inl written)), (a_asked, .inl (E.2.1, 60, .inl asked)), (a_there, .inl (E.2.1, 12, .inl there)), (a_counts, .inl (E.2.1, 12, .inl counts_19)), (a_lasts, .inl (E.2.1, 12, .inl lasts)), (a_cames, .inl (E.2.1, 12, .inl cames))] H locs := w
    refine lv_goto (tgt := 153) hx hb dX12_goes_69 (by decide) ?_
    exact j_X12_goes_153 B _ _ hrec hk213 hf  w (lv_sub hl [1, 2, 3, 4, 0, 5, 6] rfl)
noncomputable def K_X12_goes_8 (N : Nat)  (rec : Int32 → Int32 → Int32 → (Nat → Int32) → (Nat → Int32) → (Nat → Int32) → (Nat → Int32) → (Option (Int32 × (Nat → Int32) × (Nat → Int32) × (Nat → Int32) × (Nat → Int32)))) (k213 : Int32 → (Nat → Int32) → (Nat → Int32) → (Nat → Int32) → (Nat → Int32) → (Option (Int32 × (Nat → Int32) × (Nat → Int32) × (Nat → Int32) × (Nat → Int32)))) (x1 : Int32) (x2 : Int32) (g : Nat → Int32) (asked : Nat → Int32) (askedMany : Int32) (x3 : Int32) (x4 : Int32) (x5 : Int32) (there : Nat → Int32) (counts : Nat → Int32) (lasts : Nat → Int32) (cames : Nat → Int32) : Option (Int32 × (Nat → Int32) × (Nat → Int32) × (Nat → Int32) × (Nat → Int32)) :=
  if (askedMany ≤ x5 : Prop) then
  k213 x4 there counts lasts cames
  else
  L_X12_goes_20 N (fun x6 => J_X12_goes_49 N rec k213 x1 x2 x3 x4 x5 x6 g asked askedMany there counts lasts cames) x1 x2 x3 x4 x5 g asked askedMany there counts lasts cames N 0
noncomputable def L_X12_goes_8 (N : Nat)  (k213 : Int32 → (Nat → Int32) → (Nat → Int32) → (Nat → Int32) → (Nat → Int32) → (Option (Int32 × (Nat → Int32) × (Nat → Int32) × (Nat → Int32) × (Nat → Int32)))) (x1 : Int32) (x2 : Int32) (g : Nat → Int32) (asked : Nat → Int32) (askedMany : Int32) (n : Nat) : Int32 → Int32 → Int32 → (Nat → Int32) → (Nat → Int32) → (Nat → Int32) → (Nat → Int32) → (Option (Int32 × (Nat → Int32) × (Nat → Int32) × (Nat → Int32) × (Nat → Int32))) :=
  Nat.rec (motive := fun _ => Int32 → Int32 → Int32 → (Nat → Int32) → (Nat → Int32) → (Nat → Int32) → (Nat → Int32) → (Option (Int32 × (Nat → Int32) × (Nat → Int32) × (Nat → Int32) × (Nat → Int32)))) (fun _ _ _ _ _ _ _ => none) (fun _ rec => K_X12_goes_8 N rec k213 x1 x2 g asked askedMany) n
set_option maxHeartbeats 4000000 in
set_option maxRecDepth 100000 in
theorem l_X12_goes_8 {E : mE} {l : Launch} {p : Program} {e : Env} {s : State} {m : MethodId} {args : Array Value} {below : List Frame} {meth : Method} {c : Code} {A : Nat → Prop} {Q : State → Prop} {N : Nat} {h : Nat} {a_g : Nat} {a_kept : Nat} {a_tape : Nat} {a_written : Nat} {a_asked : Nat} {a_there : Nat} {a_counts : Nat} {a_lasts : Nat} {a_cames : Nat}  {g : Nat → Int32} {kept : Nat → Int32} {isKept : Int32} {tape : Nat → Int32} {taped : Int32} {spot : Int32} {written : Nat → Int32} {writtenMany : Int32} {asked : Nat → Int32} {askedMany : Int32} {there0 : Nat → Int32} {counts0 : Nat → Int32} {lasts0 : Nat → Int32} {cames0 : Nat → Int32}  {o : Int32 × (Nat → Int32) × (Nat → Int32) × (Nat → Int32) × (Nat → Int32)} (B : mB E yX12_goes cX12_goes 8 (some .int) 0 0 (po_X12_goes E h a_g a_kept a_tape a_written a_asked a_there a_counts a_lasts a_cames g kept isKept tape taped spot written writtenMany asked askedMany there0 counts0 lasts0 cames0 o) p s m args below meth c A Q)   {x1 : Int32} {x2 : Int32} (k213 : Int32 → (Nat → Int32) → (Nat → Int32) → (Nat → Int32) → (Nat → Int32) → (Option (Int32 × (Nat → Int32) × (Nat → Int32) × (Nat → Int32) × (Nat → Int32))))  (hk213 : ∀ (x4 : Int32) (there : Nat → Int32) (counts : Nat → Int32) (lasts : Nat → Int32) (cames : Nat → Int32)  (H : Heap) (locs : List Loc) (ls : Array Slot), k213 x4 there counts lasts cames = some o → mW E A s [(h, .inr (11, [.ref a_g, .ref a_kept, .int isKept, .ref a_tape, .int taped, .int spot, .ref a_written, .int writtenMany, .ref a_asked, .int askedMany, .ref a_there, .ref a_counts, .ref a_lasts, .ref a_cames])), (a_g, .inl (E.2.1, 8787, .inl g)), (a_kept, .inl (E.2.1, 8787, .inl kept)), (a_tape, .inl (E.2.2.1, 60, .inl tape)), (a_written, .inl (E.2.1, 40, .inl written)), (a_asked, .inl (E.2.1, 60, .inl asked)), (a_there, .inl (E.2.1, 12, .inl there)), (a_counts, .inl (E.2.1, 12, .inl counts)), (a_lasts, .inl (E.2.1, 12, .inl lasts)), (a_cames, .inl (E.2.1, 12, .inl cames))] H locs → lv_has ls 8 [(4, .int x4)] → W p l e ({ frames := 1, cells := 0, slots := 0, locals := 23 } : Room) s m args below meth c H locs 0 0 Q (F0 m 213 ls [])) : ∀ n : Nat, ∀ (x3 : Int32) (x4 : Int32) (x5 : Int32) (there : Nat → Int32) (counts : Nat → Int32) (lasts : Nat → Int32) (cames : Nat → Int32)  (H : Heap) (locs : List Loc) (ls : Array Slot), L_X12_goes_8 N k213 x1 x2 g asked askedMany n x3 x4 x5 there counts lasts cames = some o → mW E A s [(h, .inr (11, [.ref a_g, .ref a_kept, .int isKept, .ref a_tape, .int taped, .int spot, .ref a_written, .int writtenMany, .ref a_asked, .int askedMany, .ref a_there, .ref a_counts, .ref a_lasts, .ref a_cames])), (a_g, .inl (E.2.1, 8787, .inl g)), (a_kept, .inl (E.2.1, 8787, .inl kept)), (a_tape, .inl (E.2.2.1, 60, .inl tape)), (a_written, .inl (E.2.1, 40, .inl written)), (a_asked, .inl (E.2.1, 60, .inl asked)), (a_there, .inl (E.2.1, 12, .inl there)), (a_counts, .inl (E.2.1, 12, .inl counts)), (a_lasts, .inl (E.2.1, 12, .inl lasts)), (a_cames, .inl (E.2.1, 12, .inl cames))] H locs → lv_has ls 8 [(0, .ref h), (1, .int x1), (2, .int x2), (3, .int x3), (4, .int x4), (5, .int x5)] → W p l e ({ frames := 1, cells := 0, slots := 0, locals := 23 } : Room) s m args below meth c H locs 0 0 Q (F0 m 8 ls []) := by
  obtain ⟨hx, hb, hml, hown, hts⟩ := id B.1
  intro n
  induction n with
  | zero =>
    intro x3 x4 x5 there counts lasts cames H locs ls hf w hl
    exact nomatch hf
  | succ n hrec =>
    intro x3 x4 x5 there counts lasts cames H locs ls hf w hl
    have hf : K_X12_goes_8 N (L_X12_goes_8 N k213 x1 x2 g asked askedMany n) k213 x1 x2 g asked askedMany x3 x4 x5 there counts lasts cames = some o := hf
    unfold K_X12_goes_8 at hf
    refine lv_iload hx hb dX12_goes_8 (lv_at hl 5 rfl) ?_
    refine lv_aload_n hx hb dX12_goes_10 rfl (lv_at hl 0 rfl) ?_
    refine mx_get B w 0 fl_X12_260 rfl rfl dX12_goes_11 ?_
    refine lv_icmp_ge (tgt := 213) hx hb dX12_goes_14 (by decide) (fun hc => ?_) (fun hc => ?_)
    · have hf := it_t hc hf
      exact hk213 _ _ _ _ _ _ _ _ hf  w (lv_sub hl [4] rfl)
    · have hf := it_f hc hf
      refine lv_iconst (v := 0) hx hb dX12_goes_17 (by decide) ?_
      refine lv_istore (lv' := [(6, .int 0), (0, .ref h), (1, .int x1), (2, .int x2), (3, .int x3), (4, .int x4), (5, .int x5)]) hx hb dX12_goes_18 hl (by decide) rfl (fun ls hl => ?_)
      refine l_X12_goes_20 B _  ?_ N _ _ _ _ hf  w (lv_sub hl [1, 2, 3, 4, 5, 6, 0] rfl)
      · intro x6 H locs ls hf w hl
        exact j_X12_goes_49 B _ _ hrec hk213 hf  w (lv_sub hl [0, 1, 2, 3, 4, 5, 6] rfl)
noncomputable def F_X12_goes (N : Nat)  (g : Nat → Int32) (asked : Nat → Int32) (askedMany : Int32) (there : Nat → Int32) (counts : Nat → Int32) (lasts : Nat → Int32) (cames : Nat → Int32) (x1 : Int32) (x2 : Int32) : Option (Int32 × (Nat → Int32) × (Nat → Int32) × (Nat → Int32) × (Nat → Int32)) :=
  L_X12_goes_8 N (fun x4 there counts lasts cames => some (x4, there, counts, lasts, cames)) x1 x2 g asked askedMany N 0 0 0 there counts lasts cames
set_option maxHeartbeats 4000000 in
set_option maxRecDepth 100000 in
theorem d_X12_goes (E : mE) (l : Launch) (N : Nat) (h : Nat) (a_g : Nat) (a_kept : Nat) (a_tape : Nat) (a_written : Nat) (a_asked : Nat) (a_there : Nat) (a_counts : Nat) (a_lasts : Nat) (a_cames : Nat)  (g : Nat → Int32) (kept : Nat → Int32) (isKept : Int32) (tape : Nat → Int32) (taped : Int32) (spot : Int32) (written : Nat → Int32) (writtenMany : Int32) (asked : Nat → Int32) (askedMany : Int32) (there : Nat → Int32) (counts : Nat → Int32) (lasts : Nat → Int32) (cames : Nat → Int32)  (x1 : Int32) (x2 : Int32)  (o : Int32 × (Nat → Int32) × (Nat → Int32) × (Nat → Int32) × (Nat → Int32)) (hf : F_X12_goes N g asked askedMany there counts lasts cames x1 x2 = some o) : MX E l yX12_goes cX12_goes 8 (some .int) ({ frames := 1, cells := 0, slots := 0, locals := 23 } : Room) [.ref h, .int x1, .int x2] [(h, .inr (11, [.ref a_g, .ref a_kept, .int isKept, .ref a_tape, .int taped, .int spot, .ref a_written, .int writtenMany, .ref a_asked, .int askedMany, .ref a_there, .ref a_counts, .ref a_lasts, .ref a_cames])), (a_g, .inl (E.2.1, 8787, .inl g)), (a_kept, .inl (E.2.1, 8787, .inl kept)), (a_tape, .inl (E.2.2.1, 60, .inl tape)), (a_written, .inl (E.2.1, 40, .inl written)), (a_asked, .inl (E.2.1, 60, .inl asked)), (a_there, .inl (E.2.1, 12, .inl there)), (a_counts, .inl (E.2.1, 12, .inl counts)), (a_lasts, .inl (E.2.1, 12, .inl lasts)), (a_cames, .inl (E.2.1, 12, .inl cames))] (po_X12_goes E h a_g a_kept a_tape a_written a_asked a_there a_counts a_lasts a_cames g kept isKept tape taped spot written writtenMany asked askedMany there counts lasts cames o) := by
  refine mx_intro (by decide +kernel) (Nat.le_of_ble_eq_true rfl) ?_
  intro p e s m args below meth c A Q ls B w hl
  obtain ⟨hx, hb, hml, hown, hts⟩ := id B.1
  unfold F_X12_goes at hf
  have hl : lv_has ls 8 [(0, .ref h), (1, .int x1), (2, .int x2)] := hl
  refine lv_iconst (v := 0) hx hb dX12_goes_0 (by decide) ?_
  refine lv_istore_n (lv' := [(3, .int 0), (0, .ref h), (1, .int x1), (2, .int x2)]) hx hb dX12_goes_1 rfl hl (by decide) rfl (fun ls hl => ?_)
  refine lv_iconst (v := 0) hx hb dX12_goes_2 (by decide) ?_
  refine lv_istore (lv' := [(4, .int 0), (3, .int 0), (0, .ref h), (1, .int x1), (2, .int x2)]) hx hb dX12_goes_3 hl (by decide) rfl (fun ls hl => ?_)
  refine lv_iconst (v := 0) hx hb dX12_goes_5 (by decide) ?_
  refine lv_istore (lv' := [(5, .int 0), (4, .int 0), (3, .int 0), (0, .ref h), (1, .int x1), (2, .int x2)]) hx hb dX12_goes_6 hl (by decide) rfl (fun ls hl => ?_)
  refine l_X12_goes_8 B _  ?_ N _ _ _ _ _ _ _ _ _ _ hf  w (lv_sub hl [3, 4, 5, 2, 1, 0] rfl)
  · intro x4 there counts lasts cames H locs ls hf w hl
    refine lv_iload hx hb dX12_goes_213 (lv_at hl 0 rfl) ?_
    cases hf
    exact mx_iret B w ⟨rfl, rfl⟩ dX12_goes_215
-- X12_replay
def po_X12_replay (E : mE) (h : Nat) (a_g : Nat) (a_kept : Nat) (a_tape : Nat) (a_written : Nat) (a_asked : Nat) (a_there : Nat) (a_counts : Nat) (a_lasts : Nat) (a_cames : Nat)  (g : Nat → Int32) (kept : Nat → Int32) (isKept : Int32) (tape : Nat → Int32) (taped : Int32) (spot : Int32) (written : Nat → Int32) (writtenMany : Int32) (asked : Nat → Int32) (askedMany : Int32) (there : Nat → Int32) (counts : Nat → Int32) (lasts : Nat → Int32) (cames : Nat → Int32)  (o : Int32 × Int32 × Int32 × (Nat → Int32) × Int32 × (Nat → Int32) × (Nat → Int32) × (Nat → Int32) × (Nat → Int32)) : Option Value → va_W → Prop := (fun (v : Option Value) (w' : va_W) => v = some (.int o.1) ∧ w' = [(h, .inr (11, [.ref a_g, .ref a_kept, .int isKept, .ref a_tape, .int o.2.1, .int o.2.2.1, .ref a_written, .int writtenMany, .ref a_asked, .int o.2.2.2.2.1, .ref a_there, .ref a_counts, .ref a_lasts, .ref a_cames])), (a_g, .inl (E.2.1, 8787, .inl g)), (a_kept, .inl (E.2.1, 8787, .inl kept)), (a_tape, .inl (E.2.2.1, 60, .inl tape)), (a_written, .inl (E.2.1, 40, .inl written)), (a_asked, .inl (E.2.1, 60, .inl o.2.2.2.1)), (a_there, .inl (E.2.1, 12, .inl o.2.2.2.2.2.1)), (a_counts, .inl (E.2.1, 12, .inl o.2.2.2.2.2.2.1)), (a_lasts, .inl (E.2.1, 12, .inl o.2.2.2.2.2.2.2.1)), (a_cames, .inl (E.2.1, 12, .inl o.2.2.2.2.2.2.2.2))])
noncomputable def J_X12_replay_159 (N : Nat)  (rec : Int32 → Int32 → Int32 → Int32 → (Nat → Int32) → Int32 → (Option (Int32 × Int32 × Int32 × (Nat → Int32) × Int32 × (Nat → Int32) × (Nat → Int32) × (Nat → Int32) × (Nat → Int32)))) (k164 : Int32 → Int32 → (Nat → Int32) → Int32 → (Option (Int32 × Int32 × Int32 × (Nat → Int32) × Int32 × (Nat → Int32) × (Nat → Int32) × (Nat → Int32) × (Nat → Int32)))) (t0 : Int32) (x1 : Int32) (x2 : Int32) (x3 : Int32) (x5 : Int32) (g : Nat → Int32) (tape : Nat → Int32) (taped : Int32) (spot : Int32) (asked : Nat → Int32) (askedMany : Int32) (there : Nat → Int32) (counts : Nat → Int32) (lasts : Nat → Int32) (cames : Nat → Int32) : Option (Int32 × Int32 × Int32 × (Nat → Int32) × Int32 × (Nat → Int32) × (Nat → Int32) × (Nat → Int32) × (Nat → Int32)) :=
  rec x3 t0 x5 spot asked askedMany
set_option maxHeartbeats 4000000 in
set_option maxRecDepth 100000 in
theorem j_X12_replay_159 {E : mE} {l : Launch} {p : Program} {e : Env} {s : State} {m : MethodId} {args : Array Value} {below : List Frame} {meth : Method} {c : Code} {A : Nat → Prop} {Q : State → Prop} {N : Nat} {h : Nat} {a_g : Nat} {a_kept : Nat} {a_tape : Nat} {a_written : Nat} {a_asked : Nat} {a_there : Nat} {a_counts : Nat} {a_lasts : Nat} {a_cames : Nat}  {g : Nat → Int32} {kept : Nat → Int32} {isKept : Int32} {tape : Nat → Int32} {taped0 : Int32} {spot0 : Int32} {written : Nat → Int32} {writtenMany : Int32} {asked0 : Nat → Int32} {askedMany0 : Int32} {there0 : Nat → Int32} {counts0 : Nat → Int32} {lasts0 : Nat → Int32} {cames0 : Nat → Int32}  {o : Int32 × Int32 × Int32 × (Nat → Int32) × Int32 × (Nat → Int32) × (Nat → Int32) × (Nat → Int32) × (Nat → Int32)} (B : mB E yX12_replay cX12_replay 7 (some .int) 0 0 (po_X12_replay E h a_g a_kept a_tape a_written a_asked a_there a_counts a_lasts a_cames g kept isKept tape taped0 spot0 written writtenMany asked0 askedMany0 there0 counts0 lasts0 cames0 o) p s m args below meth c A Q) {t0 : Int32} {x1 : Int32} {x2 : Int32} {x3 : Int32} {x5 : Int32} {taped : Int32} {spot : Int32} {asked : Nat → Int32} {askedMany : Int32} {there : Nat → Int32} {counts : Nat → Int32} {lasts : Nat → Int32} {cames : Nat → Int32}  (rec : Int32 → Int32 → Int32 → Int32 → (Nat → Int32) → Int32 → (Option (Int32 × Int32 × Int32 × (Nat → Int32) × Int32 × (Nat → Int32) × (Nat → Int32) × (Nat → Int32) × (Nat → Int32)))) (k164 : Int32 → Int32 → (Nat → Int32) → Int32 → (Option (Int32 × Int32 × Int32 × (Nat → Int32) × Int32 × (Nat → Int32) × (Nat → Int32) × (Nat → Int32) × (Nat → Int32)))) (hrec : ∀ (x3 : Int32) (x4 : Int32) (x5 : Int32) (spot : Int32) (asked : Nat → Int32) (askedMany : Int32)  (H : Heap) (locs : List Loc) (ls : Array Slot), rec x3 x4 x5 spot asked askedMany = some o → mW E A s [(h, .inr (11, [.ref a_g, .ref a_kept, .int isKept, .ref a_tape, .int taped, .int spot, .ref a_written, .int writtenMany, .ref a_asked, .int askedMany, .ref a_there, .ref a_counts, .ref a_lasts, .ref a_cames])), (a_g, .inl (E.2.1, 8787, .inl g)), (a_kept, .inl (E.2.1, 8787, .inl kept)), (a_tape, .inl (E.2.2.1, 60, .inl tape)), (a_written, .inl (E.2.1, 40, .inl written)), (a_asked, .inl (E.2.1, 60, .inl asked)), (a_there, .inl (E.2.1, 12, .inl there)), (a_counts, .inl (E.2.1, 12, .inl counts)), (a_lasts, .inl (E.2.1, 12, .inl lasts)), (a_cames, .inl (E.2.1, 12, .inl cames))] H locs → lv_has ls 7 [(0, .ref h), (1, .int x1), (2, .int x2), (3, .int x3), (4, .int x4), (5, .int x5)] → W p l e ({ frames := 2, cells := 0, slots := 0, locals := 50 } : Room) s m args below meth c H locs 0 0 Q (F0 m 25 ls [])) (hk164 : ∀ (x4 : Int32) (spot : Int32) (asked : Nat → Int32) (askedMany : Int32)  (H : Heap) (locs : List Loc) (ls : Array Slot), k164 x4 spot asked askedMany = some o → mW E A s [(h, .inr (11, [.ref a_g, .ref a_kept, .int isKept, .ref a_tape, .int taped, .int spot, .ref a_written, .int writtenMany, .ref a_asked, .int askedMany, .ref a_there, .ref a_counts, .ref a_lasts, .ref a_cames])), (a_g, .inl (E.2.1, 8787, .inl g)), (a_kept, .inl (E.2.1, 8787, .inl kept)), (a_tape, .inl (E.2.2.1, 60, .inl tape)), (a_written, .inl (E.2.1, 40, .inl written)), (a_asked, .inl (E.2.1, 60, .inl asked)), (a_there, .inl (E.2.1, 12, .inl there)), (a_counts, .inl (E.2.1, 12, .inl counts)), (a_lasts, .inl (E.2.1, 12, .inl lasts)), (a_cames, .inl (E.2.1, 12, .inl cames))] H locs → lv_has ls 7 [(0, .ref h), (1, .int x1), (2, .int x2), (4, .int x4)] → W p l e ({ frames := 2, cells := 0, slots := 0, locals := 50 } : Room) s m args below meth c H locs 0 0 Q (F0 m 164 ls [])) {H : Heap} {locs : List Loc} {ls : Array Slot} (hf : J_X12_replay_159 N rec k164 t0 x1 x2 x3 x5 g tape taped spot asked askedMany there counts lasts cames = some o)  (w : mW E A s [(h, .inr (11, [.ref a_g, .ref a_kept, .int isKept, .ref a_tape, .int taped, .int spot, .ref a_written, .int writtenMany, .ref a_asked, .int askedMany, .ref a_there, .ref a_counts, .ref a_lasts, .ref a_cames])), (a_g, .inl (E.2.1, 8787, .inl g)), (a_kept, .inl (E.2.1, 8787, .inl kept)), (a_tape, .inl (E.2.2.1, 60, .inl tape)), (a_written, .inl (E.2.1, 40, .inl written)), (a_asked, .inl (E.2.1, 60, .inl asked)), (a_there, .inl (E.2.1, 12, .inl there)), (a_counts, .inl (E.2.1, 12, .inl counts)), (a_lasts, .inl (E.2.1, 12, .inl lasts)), (a_cames, .inl (E.2.1, 12, .inl cames))] H locs) (hl : lv_has ls 7 [(0, .ref h), (1, .int x1), (2, .int x2), (3, .int x3), (5, .int x5)]) : W p l e ({ frames := 2, cells := 0, slots := 0, locals := 50 } : Room) s m args below meth c H locs 0 0 Q (F0 m 159 ls [.int t0]) := by
  obtain ⟨hx, hb, hml, hown, hts⟩ := id B.1
  unfold J_X12_replay_159 at hf
  refine lv_istore (lv' := [(4, .int t0), (0, .ref h), (1, .int x1), (2, .int x2), (3, .int x3), (5, .int x5)]) hx hb dX12_replay_159 hl (by decide) rfl (fun ls hl => ?_)
  refine lv_goto (tgt := 25) hx hb dX12_replay_161 (by decide) ?_
  exact hrec _ _ _ _ _ _ _ _ _ hf  w (lv_sub hl [1, 2, 3, 4, 0, 5] rfl)
noncomputable def J_X12_replay_158 (N : Nat)  (rec : Int32 → Int32 → Int32 → Int32 → (Nat → Int32) → Int32 → (Option (Int32 × Int32 × Int32 × (Nat → Int32) × Int32 × (Nat → Int32) × (Nat → Int32) × (Nat → Int32) × (Nat → Int32)))) (k164 : Int32 → Int32 → (Nat → Int32) → Int32 → (Option (Int32 × Int32 × Int32 × (Nat → Int32) × Int32 × (Nat → Int32) × (Nat → Int32) × (Nat → Int32) × (Nat → Int32)))) (x1 : Int32) (x2 : Int32) (x3 : Int32) (x5 : Int32) (g : Nat → Int32) (tape : Nat → Int32) (taped : Int32) (spot : Int32) (asked : Nat → Int32) (askedMany : Int32) (there : Nat → Int32) (counts : Nat → Int32) (lasts : Nat → Int32) (cames : Nat → Int32) : Option (Int32 × Int32 × Int32 × (Nat → Int32) × Int32 × (Nat → Int32) × (Nat → Int32) × (Nat → Int32) × (Nat → Int32)) :=
  J_X12_replay_159 N rec k164 0 x1 x2 x3 x5 g tape taped spot asked askedMany there counts lasts cames
set_option maxHeartbeats 4000000 in
set_option maxRecDepth 100000 in
theorem j_X12_replay_158 {E : mE} {l : Launch} {p : Program} {e : Env} {s : State} {m : MethodId} {args : Array Value} {below : List Frame} {meth : Method} {c : Code} {A : Nat → Prop} {Q : State → Prop} {N : Nat} {h : Nat} {a_g : Nat} {a_kept : Nat} {a_tape : Nat} {a_written : Nat} {a_asked : Nat} {a_there : Nat} {a_counts : Nat} {a_lasts : Nat} {a_cames : Nat}  {g : Nat → Int32} {kept : Nat → Int32} {isKept : Int32} {tape : Nat → Int32} {taped0 : Int32} {spot0 : Int32} {written : Nat → Int32} {writtenMany : Int32} {asked0 : Nat → Int32} {askedMany0 : Int32} {there0 : Nat → Int32} {counts0 : Nat → Int32} {lasts0 : Nat → Int32} {cames0 : Nat → Int32}  {o : Int32 × Int32 × Int32 × (Nat → Int32) × Int32 × (Nat → Int32) × (Nat → Int32) × (Nat → Int32) × (Nat → Int32)} (B : mB E yX12_replay cX12_replay 7 (some .int) 0 0 (po_X12_replay E h a_g a_kept a_tape a_written a_asked a_there a_counts a_lasts a_cames g kept isKept tape taped0 spot0 written writtenMany asked0 askedMany0 there0 counts0 lasts0 cames0 o) p s m args below meth c A Q) {x1 : Int32} {x2 : Int32} {x3 : Int32} {x5 : Int32} {taped : Int32} {spot : Int32} {asked : Nat → Int32} {askedMany : Int32} {there : Nat → Int32} {counts : Nat → Int32} {lasts : Nat → Int32} {cames : Nat → Int32}  (rec : Int32 → Int32 → Int32 → Int32 → (Nat → Int32) → Int32 → (Option (Int32 × Int32 × Int32 × (Nat → Int32) × Int32 × (Nat → Int32) × (Nat → Int32) × (Nat → Int32) × (Nat → Int32)))) (k164 : Int32 → Int32 → (Nat → Int32) → Int32 → (Option (Int32 × Int32 × Int32 × (Nat → Int32) × Int32 × (Nat → Int32) × (Nat → Int32) × (Nat → Int32) × (Nat → Int32)))) (hrec : ∀ (x3 : Int32) (x4 : Int32) (x5 : Int32) (spot : Int32) (asked : Nat → Int32) (askedMany : Int32)  (H : Heap) (locs : List Loc) (ls : Array Slot), rec x3 x4 x5 spot asked askedMany = some o → mW E A s [(h, .inr (11, [.ref a_g, .ref a_kept, .int isKept, .ref a_tape, .int taped, .int spot, .ref a_written, .int writtenMany, .ref a_asked, .int askedMany, .ref a_there, .ref a_counts, .ref a_lasts, .ref a_cames])), (a_g, .inl (E.2.1, 8787, .inl g)), (a_kept, .inl (E.2.1, 8787, .inl kept)), (a_tape, .inl (E.2.2.1, 60, .inl tape)), (a_written, .inl (E.2.1, 40, .inl written)), (a_asked, .inl (E.2.1, 60, .inl asked)), (a_there, .inl (E.2.1, 12, .inl there)), (a_counts, .inl (E.2.1, 12, .inl counts)), (a_lasts, .inl (E.2.1, 12, .inl lasts)), (a_cames, .inl (E.2.1, 12, .inl cames))] H locs → lv_has ls 7 [(0, .ref h), (1, .int x1), (2, .int x2), (3, .int x3), (4, .int x4), (5, .int x5)] → W p l e ({ frames := 2, cells := 0, slots := 0, locals := 50 } : Room) s m args below meth c H locs 0 0 Q (F0 m 25 ls [])) (hk164 : ∀ (x4 : Int32) (spot : Int32) (asked : Nat → Int32) (askedMany : Int32)  (H : Heap) (locs : List Loc) (ls : Array Slot), k164 x4 spot asked askedMany = some o → mW E A s [(h, .inr (11, [.ref a_g, .ref a_kept, .int isKept, .ref a_tape, .int taped, .int spot, .ref a_written, .int writtenMany, .ref a_asked, .int askedMany, .ref a_there, .ref a_counts, .ref a_lasts, .ref a_cames])), (a_g, .inl (E.2.1, 8787, .inl g)), (a_kept, .inl (E.2.1, 8787, .inl kept)), (a_tape, .inl (E.2.2.1, 60, .inl tape)), (a_written, .inl (E.2.1, 40, .inl written)), (a_asked, .inl (E.2.1, 60, .inl asked)), (a_there, .inl (E.2.1, 12, .inl there)), (a_counts, .inl (E.2.1, 12, .inl counts)), (a_lasts, .inl (E.2.1, 12, .inl lasts)), (a_cames, .inl (E.2.1, 12, .inl cames))] H locs → lv_has ls 7 [(0, .ref h), (1, .int x1), (2, .int x2), (4, .int x4)] → W p l e ({ frames := 2, cells := 0, slots := 0, locals := 50 } : Room) s m args below meth c H locs 0 0 Q (F0 m 164 ls [])) {H : Heap} {locs : List Loc} {ls : Array Slot} (hf : J_X12_replay_158 N rec k164 x1 x2 x3 x5 g tape taped spot asked askedMany there counts lasts cames = some o)  (w : mW E A s [(h, .inr (11, [.ref a_g, .ref a_kept, .int isKept, .ref a_tape, .int taped, .int spot, .ref a_written, .int writtenMany, .ref a_asked, .int askedMany, .ref a_there, .ref a_counts, .ref a_lasts, .ref a_cames])), (a_g, .inl (E.2.1, 8787, .inl g)), (a_kept, .inl (E.2.1, 8787, .inl kept)), (a_tape, .inl (E.2.2.1, 60, .inl tape)), (a_written, .inl (E.2.1, 40, .inl written)), (a_asked, .inl (E.2.1, 60, .inl asked)), (a_there, .inl (E.2.1, 12, .inl there)), (a_counts, .inl (E.2.1, 12, .inl counts)), (a_lasts, .inl (E.2.1, 12, .inl lasts)), (a_cames, .inl (E.2.1, 12, .inl cames))] H locs) (hl : lv_has ls 7 [(0, .ref h), (1, .int x1), (2, .int x2), (3, .int x3), (5, .int x5)]) : W p l e ({ frames := 2, cells := 0, slots := 0, locals := 50 } : Room) s m args below meth c H locs 0 0 Q (F0 m 158 ls []) := by
  obtain ⟨hx, hb, hml, hown, hts⟩ := id B.1
  unfold J_X12_replay_158 at hf
  refine lv_iconst (v := 0) hx hb dX12_replay_158 (by decide) ?_
  exact j_X12_replay_159 B _ _ hrec hk164 hf  w (lv_sub hl [0, 1, 2, 3, 4] rfl)
noncomputable def J_X12_replay_154 (N : Nat)  (rec : Int32 → Int32 → Int32 → Int32 → (Nat → Int32) → Int32 → (Option (Int32 × Int32 × Int32 × (Nat → Int32) × Int32 × (Nat → Int32) × (Nat → Int32) × (Nat → Int32) × (Nat → Int32)))) (k164 : Int32 → Int32 → (Nat → Int32) → Int32 → (Option (Int32 × Int32 × Int32 × (Nat → Int32) × Int32 × (Nat → Int32) × (Nat → Int32) × (Nat → Int32) × (Nat → Int32)))) (x1 : Int32) (x2 : Int32) (x3 : Int32) (x5 : Int32) (g : Nat → Int32) (tape : Nat → Int32) (taped : Int32) (spot : Int32) (asked : Nat → Int32) (askedMany : Int32) (there : Nat → Int32) (counts : Nat → Int32) (lasts : Nat → Int32) (cames : Nat → Int32) : Option (Int32 × Int32 × Int32 × (Nat → Int32) × Int32 × (Nat → Int32) × (Nat → Int32) × (Nat → Int32) × (Nat → Int32)) :=
  J_X12_replay_159 N rec k164 1 x1 x2 x3 x5 g tape taped spot asked askedMany there counts lasts cames
set_option maxHeartbeats 4000000 in
set_option maxRecDepth 100000 in
theorem j_X12_replay_154 {E : mE} {l : Launch} {p : Program} {e : Env} {s : State} {m : MethodId} {args : Array Value} {below : List Frame} {meth : Method} {c : Code} {A : Nat → Prop} {Q : State → Prop} {N : Nat} {h : Nat} {a_g : Nat} {a_kept : Nat} {a_tape : Nat} {a_written : Nat} {a_asked : Nat} {a_there : Nat} {a_counts : Nat} {a_lasts : Nat} {a_cames : Nat}  {g : Nat → Int32} {kept : Nat → Int32} {isKept : Int32} {tape : Nat → Int32} {taped0 : Int32} {spot0 : Int32} {written : Nat → Int32} {writtenMany : Int32} {asked0 : Nat → Int32} {askedMany0 : Int32} {there0 : Nat → Int32} {counts0 : Nat → Int32} {lasts0 : Nat → Int32} {cames0 : Nat → Int32}  {o : Int32 × Int32 × Int32 × (Nat → Int32) × Int32 × (Nat → Int32) × (Nat → Int32) × (Nat → Int32) × (Nat → Int32)} (B : mB E yX12_replay cX12_replay 7 (some .int) 0 0 (po_X12_replay E h a_g a_kept a_tape a_written a_asked a_there a_counts a_lasts a_cames g kept isKept tape taped0 spot0 written writtenMany asked0 askedMany0 there0 counts0 lasts0 cames0 o) p s m args below meth c A Q) {x1 : Int32} {x2 : Int32} {x3 : Int32} {x5 : Int32} {taped : Int32} {spot : Int32} {asked : Nat → Int32} {askedMany : Int32} {there : Nat → Int32} {counts : Nat → Int32} {lasts : Nat → Int32} {cames : Nat → Int32}  (rec : Int32 → Int32 → Int32 → Int32 → (Nat → Int32) → Int32 → (Option (Int32 × Int32 × Int32 × (Nat → Int32) × Int32 × (Nat → Int32) × (Nat → Int32) × (Nat → Int32) × (Nat → Int32)))) (k164 : Int32 → Int32 → (Nat → Int32) → Int32 → (Option (Int32 × Int32 × Int32 × (Nat → Int32) × Int32 × (Nat → Int32) × (Nat → Int32) × (Nat → Int32) × (Nat → Int32)))) (hrec : ∀ (x3 : Int32) (x4 : Int32) (x5 : Int32) (spot : Int32) (asked : Nat → Int32) (askedMany : Int32)  (H : Heap) (locs : List Loc) (ls : Array Slot), rec x3 x4 x5 spot asked askedMany = some o → mW E A s [(h, .inr (11, [.ref a_g, .ref a_kept, .int isKept, .ref a_tape, .int taped, .int spot, .ref a_written, .int writtenMany, .ref a_asked, .int askedMany, .ref a_there, .ref a_counts, .ref a_lasts, .ref a_cames])), (a_g, .inl (E.2.1, 8787, .inl g)), (a_kept, .inl (E.2.1, 8787, .inl kept)), (a_tape, .inl (E.2.2.1, 60, .inl tape)), (a_written, .inl (E.2.1, 40, .inl written)), (a_asked, .inl (E.2.1, 60, .inl asked)), (a_there, .inl (E.2.1, 12, .inl there)), (a_counts, .inl (E.2.1, 12, .inl counts)), (a_lasts, .inl (E.2.1, 12, .inl lasts)), (a_cames, .inl (E.2.1, 12, .inl cames))] H locs → lv_has ls 7 [(0, .ref h), (1, .int x1), (2, .int x2), (3, .int x3), (4, .int x4), (5, .int x5)] → W p l e ({ frames := 2, cells := 0, slots := 0, locals := 50 } : Room) s m args below meth c H locs 0 0 Q (F0 m 25 ls [])) (hk164 : ∀ (x4 : Int32) (spot : Int32) (asked : Nat → Int32) (askedMany : Int32)  (H : Heap) (locs : List Loc) (ls : Array Slot), k164 x4 spot asked askedMany = some o → mW E A s [(h, .inr (11, [.ref a_g, .ref a_kept, .int isKept, .ref a_tape, .int taped, .int spot, .ref a_written, .int writtenMany, .ref a_asked, .int askedMany, .ref a_there, .ref a_counts, .ref a_lasts, .ref a_cames])), (a_g, .inl (E.2.1, 8787, .inl g)), (a_kept, .inl (E.2.1, 8787, .inl kept)), (a_tape, .inl (E.2.2.1, 60, .inl tape)), (a_written, .inl (E.2.1, 40, .inl written)), (a_asked, .inl (E.2.1, 60, .inl asked)), (a_there, .inl (E.2.1, 12, .inl there)), (a_counts, .inl (E.2.1, 12, .inl counts)), (a_lasts, .inl (E.2.1, 12, .inl lasts)), (a_cames, .inl (E.2.1, 12, .inl cames))] H locs → lv_has ls 7 [(0, .ref h), (1, .int x1), (2, .int x2), (4, .int x4)] → W p l e ({ frames := 2, cells := 0, slots := 0, locals := 50 } : Room) s m args below meth c H locs 0 0 Q (F0 m 164 ls [])) {H : Heap} {locs : List Loc} {ls : Array Slot} (hf : J_X12_replay_154 N rec k164 x1 x2 x3 x5 g tape taped spot asked askedMany there counts lasts cames = some o)  (w : mW E A s [(h, .inr (11, [.ref a_g, .ref a_kept, .int isKept, .ref a_tape, .int taped, .int spot, .ref a_written, .int writtenMany, .ref a_asked, .int askedMany, .ref a_there, .ref a_counts, .ref a_lasts, .ref a_cames])), (a_g, .inl (E.2.1, 8787, .inl g)), (a_kept, .inl (E.2.1, 8787, .inl kept)), (a_tape, .inl (E.2.2.1, 60, .inl tape)), (a_written, .inl (E.2.1, 40, .inl written)), (a_asked, .inl (E.2.1, 60, .inl asked)), (a_there, .inl (E.2.1, 12, .inl there)), (a_counts, .inl (E.2.1, 12, .inl counts)), (a_lasts, .inl (E.2.1, 12, .inl lasts)), (a_cames, .inl (E.2.1, 12, .inl cames))] H locs) (hl : lv_has ls 7 [(0, .ref h), (1, .int x1), (2, .int x2), (3, .int x3), (5, .int x5)]) : W p l e ({ frames := 2, cells := 0, slots := 0, locals := 50 } : Room) s m args below meth c H locs 0 0 Q (F0 m 154 ls []) := by
  obtain ⟨hx, hb, hml, hown, hts⟩ := id B.1
  unfold J_X12_replay_154 at hf
  refine lv_iconst (v := 1) hx hb dX12_replay_154 (by decide) ?_
  refine lv_goto (tgt := 159) hx hb dX12_replay_155 (by decide) ?_
  exact j_X12_replay_159 B _ _ hrec hk164 hf  w (lv_sub hl [0, 1, 2, 3, 4] rfl)
noncomputable def J_X12_replay_127 (N : Nat)  (rec : Int32 → Int32 → Int32 → Int32 → (Nat → Int32) → Int32 → (Option (Int32 × Int32 × Int32 × (Nat → Int32) × Int32 × (Nat → Int32) × (Nat → Int32) × (Nat → Int32) × (Nat → Int32)))) (k164 : Int32 → Int32 → (Nat → Int32) → Int32 → (Option (Int32 × Int32 × Int32 × (Nat → Int32) × Int32 × (Nat → Int32) × (Nat → Int32) × (Nat → Int32) × (Nat → Int32)))) (t0 : Int32) (x1 : Int32) (x2 : Int32) (x5 : Int32) (g : Nat → Int32) (tape : Nat → Int32) (taped : Int32) (spot : Int32) (asked : Nat → Int32) (askedMany : Int32) (there : Nat → Int32) (counts : Nat → Int32) (lasts : Nat → Int32) (cames : Nat → Int32) : Option (Int32 × Int32 × Int32 × (Nat → Int32) × Int32 × (Nat → Int32) × (Nat → Int32) × (Nat → Int32) × (Nat → Int32)) :=
  lt (spot + 1) (fun x3_4 =>
  if (t0 = 0 : Prop) then
  J_X12_replay_158 N rec k164 x1 x2 x3_4 x5 g tape taped spot asked askedMany there counts lasts cames
  else
  if (x5 = 0 : Prop) then
  J_X12_replay_154 N rec k164 x1 x2 x3_4 x5 g tape taped spot asked askedMany there counts lasts cames
  else
  if (x3_4 = taped : Prop) then
  J_X12_replay_158 N rec k164 x1 x2 x3_4 x5 g tape taped spot asked askedMany there counts lasts cames
  else
  J_X12_replay_154 N rec k164 x1 x2 x3_4 x5 g tape taped spot asked askedMany there counts lasts cames)
set_option maxHeartbeats 4000000 in
set_option maxRecDepth 100000 in
theorem j_X12_replay_127 {E : mE} {l : Launch} {p : Program} {e : Env} {s : State} {m : MethodId} {args : Array Value} {below : List Frame} {meth : Method} {c : Code} {A : Nat → Prop} {Q : State → Prop} {N : Nat} {h : Nat} {a_g : Nat} {a_kept : Nat} {a_tape : Nat} {a_written : Nat} {a_asked : Nat} {a_there : Nat} {a_counts : Nat} {a_lasts : Nat} {a_cames : Nat}  {g : Nat → Int32} {kept : Nat → Int32} {isKept : Int32} {tape : Nat → Int32} {taped0 : Int32} {spot0 : Int32} {written : Nat → Int32} {writtenMany : Int32} {asked0 : Nat → Int32} {askedMany0 : Int32} {there0 : Nat → Int32} {counts0 : Nat → Int32} {lasts0 : Nat → Int32} {cames0 : Nat → Int32}  {o : Int32 × Int32 × Int32 × (Nat → Int32) × Int32 × (Nat → Int32) × (Nat → Int32) × (Nat → Int32) × (Nat → Int32)} (B : mB E yX12_replay cX12_replay 7 (some .int) 0 0 (po_X12_replay E h a_g a_kept a_tape a_written a_asked a_there a_counts a_lasts a_cames g kept isKept tape taped0 spot0 written writtenMany asked0 askedMany0 there0 counts0 lasts0 cames0 o) p s m args below meth c A Q) {t0 : Int32} {x1 : Int32} {x2 : Int32} {x5 : Int32} {taped : Int32} {spot : Int32} {asked : Nat → Int32} {askedMany : Int32} {there : Nat → Int32} {counts : Nat → Int32} {lasts : Nat → Int32} {cames : Nat → Int32}  (rec : Int32 → Int32 → Int32 → Int32 → (Nat → Int32) → Int32 → (Option (Int32 × Int32 × Int32 × (Nat → Int32) × Int32 × (Nat → Int32) × (Nat → Int32) × (Nat → Int32) × (Nat → Int32)))) (k164 : Int32 → Int32 → (Nat → Int32) → Int32 → (Option (Int32 × Int32 × Int32 × (Nat → Int32) × Int32 × (Nat → Int32) × (Nat → Int32) × (Nat → Int32) × (Nat → Int32)))) (hrec : ∀ (x3 : Int32) (x4 : Int32) (x5 : Int32) (spot : Int32) (asked : Nat → Int32) (askedMany : Int32)  (H : Heap) (locs : List Loc) (ls : Array Slot), rec x3 x4 x5 spot asked askedMany = some o → mW E A s [(h, .inr (11, [.ref a_g, .ref a_kept, .int isKept, .ref a_tape, .int taped, .int spot, .ref a_written, .int writtenMany, .ref a_asked, .int askedMany, .ref a_there, .ref a_counts, .ref a_lasts, .ref a_cames])), (a_g, .inl (E.2.1, 8787, .inl g)), (a_kept, .inl (E.2.1, 8787, .inl kept)), (a_tape, .inl (E.2.2.1, 60, .inl tape)), (a_written, .inl (E.2.1, 40, .inl written)), (a_asked, .inl (E.2.1, 60, .inl asked)), (a_there, .inl (E.2.1, 12, .inl there)), (a_counts, .inl (E.2.1, 12, .inl counts)), (a_lasts, .inl (E.2.1, 12, .inl lasts)), (a_cames, .inl (E.2.1, 12, .inl cames))] H locs → lv_has ls 7 [(0, .ref h), (1, .int x1), (2, .int x2), (3, .int x3), (4, .int x4), (5, .int x5)] → W p l e ({ frames := 2, cells := 0, slots := 0, locals := 50 } : Room) s m args below meth c H locs 0 0 Q (F0 m 25 ls [])) (hk164 : ∀ (x4 : Int32) (spot : Int32) (asked : Nat → Int32) (askedMany : Int32)  (H : Heap) (locs : List Loc) (ls : Array Slot), k164 x4 spot asked askedMany = some o → mW E A s [(h, .inr (11, [.ref a_g, .ref a_kept, .int isKept, .ref a_tape, .int taped, .int spot, .ref a_written, .int writtenMany, .ref a_asked, .int askedMany, .ref a_there, .ref a_counts, .ref a_lasts, .ref a_cames])), (a_g, .inl (E.2.1, 8787, .inl g)), (a_kept, .inl (E.2.1, 8787, .inl kept)), (a_tape, .inl (E.2.2.1, 60, .inl tape)), (a_written, .inl (E.2.1, 40, .inl written)), (a_asked, .inl (E.2.1, 60, .inl asked)), (a_there, .inl (E.2.1, 12, .inl there)), (a_counts, .inl (E.2.1, 12, .inl counts)), (a_lasts, .inl (E.2.1, 12, .inl lasts)), (a_cames, .inl (E.2.1, 12, .inl cames))] H locs → lv_has ls 7 [(0, .ref h), (1, .int x1), (2, .int x2), (4, .int x4)] → W p l e ({ frames := 2, cells := 0, slots := 0, locals := 50 } : Room) s m args below meth c H locs 0 0 Q (F0 m 164 ls [])) {H : Heap} {locs : List Loc} {ls : Array Slot} (hf : J_X12_replay_127 N rec k164 t0 x1 x2 x5 g tape taped spot asked askedMany there counts lasts cames = some o)  (w : mW E A s [(h, .inr (11, [.ref a_g, .ref a_kept, .int isKept, .ref a_tape, .int taped, .int spot, .ref a_written, .int writtenMany, .ref a_asked, .int askedMany, .ref a_there, .ref a_counts, .ref a_lasts, .ref a_cames])), (a_g, .inl (E.2.1, 8787, .inl g)), (a_kept, .inl (E.2.1, 8787, .inl kept)), (a_tape, .inl (E.2.2.1, 60, .inl tape)), (a_written, .inl (E.2.1, 40, .inl written)), (a_asked, .inl (E.2.1, 60, .inl asked)), (a_there, .inl (E.2.1, 12, .inl there)), (a_counts, .inl (E.2.1, 12, .inl counts)), (a_lasts, .inl (E.2.1, 12, .inl lasts)), (a_cames, .inl (E.2.1, 12, .inl cames))] H locs) (hl : lv_has ls 7 [(0, .ref h), (1, .int x1), (2, .int x2), (5, .int x5)]) : W p l e ({ frames := 2, cells := 0, slots := 0, locals := 50 } : Room) s m args below meth c H locs 0 0 Q (F0 m 127 ls [.int t0]) := by
  obtain ⟨hx, hb, hml, hown, hts⟩ := id B.1
  unfold J_X12_replay_127 at hf
  refine lv_istore (lv' := [(4, .int t0), (0, .ref h), (1, .int x1), (2, .int x2), (5, .int x5)]) hx hb dX12_replay_127 hl (by decide) rfl (fun ls hl => ?_)
  refine lv_aload_n hx hb dX12_replay_129 rfl (lv_at hl 1 rfl) ?_
  refine mx_get B w 0 fl_X12_50 rfl rfl dX12_replay_130 ?_
  refine lv_iconst (v := 1) hx hb dX12_replay_133 (by decide) ?_
  refine lv_iadd hx hb dX12_replay_134 ?_
  refine lv_topi (fun x3_4 ev => ?_)
  have hf := lt_n ev hf; clear ev
  refine lv_istore_n (lv' := [(3, .int x3_4), (4, .int t0), (0, .ref h), (1, .int x1), (2, .int x2), (5, .int x5)]) hx hb dX12_replay_135 rfl hl (by decide) rfl (fun ls hl => ?_)
  refine lv_iload hx hb dX12_replay_136 (lv_at hl 1 rfl) ?_
  refine lv_if_eq (tgt := 158) hx hb dX12_replay_138 (by decide) (fun hc => ?_) (fun hc => ?_)
  · have hf := it_t hc hf
    exact j_X12_replay_158 B _ _ hrec hk164 hf  w (lv_sub hl [2, 3, 4, 0, 5] rfl)
  · have hf := it_f hc hf
    refine lv_iload hx hb dX12_replay_141 (lv_at hl 5 rfl) ?_
    refine lv_if_eq (tgt := 154) hx hb dX12_replay_143 (by decide) (fun hc => ?_) (fun hc => ?_)
    · have hf := it_t hc hf
      exact j_X12_replay_154 B _ _ hrec hk164 hf  w (lv_sub hl [2, 3, 4, 0, 5] rfl)
    · have hf := it_f hc hf
      refine lv_iload_n hx hb dX12_replay_146 rfl (lv_at hl 0 rfl) ?_
      refine lv_aload_n hx hb dX12_replay_147 rfl (lv_at hl 2 rfl) ?_
      refine mx_get B w 0 fl_X12_54 rfl rfl dX12_replay_148 ?_
      refine lv_icmp_eq (tgt := 158) hx hb dX12_replay_151 (by decide) (fun hc => ?_) (fun hc => ?_)
      · have hf := it_t hc hf
        exact j_X12_replay_158 B _ _ hrec hk164 hf  w (lv_sub hl [2, 3, 4, 0, 5] rfl)
      · have hf := it_f hc hf
        exact j_X12_replay_154 B _ _ hrec hk164 hf  w (lv_sub hl [2, 3, 4, 0, 5] rfl)
noncomputable def J_X12_replay_126 (N : Nat)  (rec : Int32 → Int32 → Int32 → Int32 → (Nat → Int32) → Int32 → (Option (Int32 × Int32 × Int32 × (Nat → Int32) × Int32 × (Nat → Int32) × (Nat → Int32) × (Nat → Int32) × (Nat → Int32)))) (k164 : Int32 → Int32 → (Nat → Int32) → Int32 → (Option (Int32 × Int32 × Int32 × (Nat → Int32) × Int32 × (Nat → Int32) × (Nat → Int32) × (Nat → Int32) × (Nat → Int32)))) (x1 : Int32) (x2 : Int32) (x5 : Int32) (g : Nat → Int32) (tape : Nat → Int32) (taped : Int32) (spot : Int32) (asked : Nat → Int32) (askedMany : Int32) (there : Nat → Int32) (counts : Nat → Int32) (lasts : Nat → Int32) (cames : Nat → Int32) : Option (Int32 × Int32 × Int32 × (Nat → Int32) × Int32 × (Nat → Int32) × (Nat → Int32) × (Nat → Int32) × (Nat → Int32)) :=
  J_X12_replay_127 N rec k164 0 x1 x2 x5 g tape taped spot asked askedMany there counts lasts cames
set_option maxHeartbeats 4000000 in
set_option maxRecDepth 100000 in
theorem j_X12_replay_126 {E : mE} {l : Launch} {p : Program} {e : Env} {s : State} {m : MethodId} {args : Array Value} {below : List Frame} {meth : Method} {c : Code} {A : Nat → Prop} {Q : State → Prop} {N : Nat} {h : Nat} {a_g : Nat} {a_kept : Nat} {a_tape : Nat} {a_written : Nat} {a_asked : Nat} {a_there : Nat} {a_counts : Nat} {a_lasts : Nat} {a_cames : Nat}  {g : Nat → Int32} {kept : Nat → Int32} {isKept : Int32} {tape : Nat → Int32} {taped0 : Int32} {spot0 : Int32} {written : Nat → Int32} {writtenMany : Int32} {asked0 : Nat → Int32} {askedMany0 : Int32} {there0 : Nat → Int32} {counts0 : Nat → Int32} {lasts0 : Nat → Int32} {cames0 : Nat → Int32}  {o : Int32 × Int32 × Int32 × (Nat → Int32) × Int32 × (Nat → Int32) × (Nat → Int32) × (Nat → Int32) × (Nat → Int32)} (B : mB E yX12_replay cX12_replay 7 (some .int) 0 0 (po_X12_replay E h a_g a_kept a_tape a_written a_asked a_there a_counts a_lasts a_cames g kept isKept tape taped0 spot0 written writtenMany asked0 askedMany0 there0 counts0 lasts0 cames0 o) p s m args below meth c A Q) {x1 : Int32} {x2 : Int32} {x5 : Int32} {taped : Int32} {spot : Int32} {asked : Nat → Int32} {askedMany : Int32} {there : Nat → Int32} {counts : Nat → Int32} {lasts : Nat → Int32} {cames : Nat → Int32}  (rec : Int32 → Int32 → Int32 → Int32 → (Nat → Int32) → Int32 → (Option (Int32 × Int32 × Int32 × (Nat → Int32) × Int32 × (Nat → Int32) × (Nat → Int32) × (Nat → Int32) × (Nat → Int32)))) (k164 : Int32 → Int32 → (Nat → Int32) → Int32 → (Option (Int32 × Int32 × Int32 × (Nat → Int32) × Int32 × (Nat → Int32) × (Nat → Int32) × (Nat → Int32) × (Nat → Int32)))) (hrec : ∀ (x3 : Int32) (x4 : Int32) (x5 : Int32) (spot : Int32) (asked : Nat → Int32) (askedMany : Int32)  (H : Heap) (locs : List Loc) (ls : Array Slot), rec x3 x4 x5 spot asked askedMany = some o → mW E A s [(h, .inr (11, [.ref a_g, .ref a_kept, .int isKept, .ref a_tape, .int taped, .int spot, .ref a_written, .int writtenMany, .ref a_asked, .int askedMany, .ref a_there, .ref a_counts, .ref a_lasts, .ref a_cames])), (a_g, .inl (E.2.1, 8787, .inl g)), (a_kept, .inl (E.2.1, 8787, .inl kept)), (a_tape, .inl (E.2.2.1, 60, .inl tape)), (a_written, .inl (E.2.1, 40, .inl written)), (a_asked, .inl (E.2.1, 60, .inl asked)), (a_there, .inl (E.2.1, 12, .inl there)), (a_counts, .inl (E.2.1, 12, .inl counts)), (a_lasts, .inl (E.2.1, 12, .inl lasts)), (a_cames, .inl (E.2.1, 12, .inl cames))] H locs → lv_has ls 7 [(0, .ref h), (1, .int x1), (2, .int x2), (3, .int x3), (4, .int x4), (5, .int x5)] → W p l e ({ frames := 2, cells := 0, slots := 0, locals := 50 } : Room) s m args below meth c H locs 0 0 Q (F0 m 25 ls [])) (hk164 : ∀ (x4 : Int32) (spot : Int32) (asked : Nat → Int32) (askedMany : Int32)  (H : Heap) (locs : List Loc) (ls : Array Slot), k164 x4 spot asked askedMany = some o → mW E A s [(h, .inr (11, [.ref a_g, .ref a_kept, .int isKept, .ref a_tape, .int taped, .int spot, .ref a_written, .int writtenMany, .ref a_asked, .int askedMany, .ref a_there, .ref a_counts, .ref a_lasts, .ref a_cames])), (a_g, .inl (E.2.1, 8787, .inl g)), (a_kept, .inl (E.2.1, 8787, .inl kept)), (a_tape, .inl (E.2.2.1, 60, .inl tape)), (a_written, .inl (E.2.1, 40, .inl written)), (a_asked, .inl (E.2.1, 60, .inl asked)), (a_there, .inl (E.2.1, 12, .inl there)), (a_counts, .inl (E.2.1, 12, .inl counts)), (a_lasts, .inl (E.2.1, 12, .inl lasts)), (a_cames, .inl (E.2.1, 12, .inl cames))] H locs → lv_has ls 7 [(0, .ref h), (1, .int x1), (2, .int x2), (4, .int x4)] → W p l e ({ frames := 2, cells := 0, slots := 0, locals := 50 } : Room) s m args below meth c H locs 0 0 Q (F0 m 164 ls [])) {H : Heap} {locs : List Loc} {ls : Array Slot} (hf : J_X12_replay_126 N rec k164 x1 x2 x5 g tape taped spot asked askedMany there counts lasts cames = some o)  (w : mW E A s [(h, .inr (11, [.ref a_g, .ref a_kept, .int isKept, .ref a_tape, .int taped, .int spot, .ref a_written, .int writtenMany, .ref a_asked, .int askedMany, .ref a_there, .ref a_counts, .ref a_lasts, .ref a_cames])), (a_g, .inl (E.2.1, 8787, .inl g)), (a_kept, .inl (E.2.1, 8787, .inl kept)), (a_tape, .inl (E.2.2.1, 60, .inl tape)), (a_written, .inl (E.2.1, 40, .inl written)), (a_asked, .inl (E.2.1, 60, .inl asked)), (a_there, .inl (E.2.1, 12, .inl there)), (a_counts, .inl (E.2.1, 12, .inl counts)), (a_lasts, .inl (E.2.1, 12, .inl lasts)), (a_cames, .inl (E.2.1, 12, .inl cames))] H locs) (hl : lv_has ls 7 [(0, .ref h), (1, .int x1), (2, .int x2), (5, .int x5)]) : W p l e ({ frames := 2, cells := 0, slots := 0, locals := 50 } : Room) s m args below meth c H locs 0 0 Q (F0 m 126 ls []) := by
  obtain ⟨hx, hb, hml, hown, hts⟩ := id B.1
  unfold J_X12_replay_126 at hf
  refine lv_iconst (v := 0) hx hb dX12_replay_126 (by decide) ?_
  exact j_X12_replay_127 B _ _ hrec hk164 hf  w (lv_sub hl [0, 1, 2, 3] rfl)
noncomputable def J_X12_replay_122 (N : Nat)  (rec : Int32 → Int32 → Int32 → Int32 → (Nat → Int32) → Int32 → (Option (Int32 × Int32 × Int32 × (Nat → Int32) × Int32 × (Nat → Int32) × (Nat → Int32) × (Nat → Int32) × (Nat → Int32)))) (k164 : Int32 → Int32 → (Nat → Int32) → Int32 → (Option (Int32 × Int32 × Int32 × (Nat → Int32) × Int32 × (Nat → Int32) × (Nat → Int32) × (Nat → Int32) × (Nat → Int32)))) (x1 : Int32) (x2 : Int32) (x5 : Int32) (g : Nat → Int32) (tape : Nat → Int32) (taped : Int32) (spot : Int32) (asked : Nat → Int32) (askedMany : Int32) (there : Nat → Int32) (counts : Nat → Int32) (lasts : Nat → Int32) (cames : Nat → Int32) : Option (Int32 × Int32 × Int32 × (Nat → Int32) × Int32 × (Nat → Int32) × (Nat → Int32) × (Nat → Int32) × (Nat → Int32)) :=
  J_X12_replay_127 N rec k164 1 x1 x2 x5 g tape taped spot asked askedMany there counts lasts cames
set_option maxHeartbeats 4000000 in
set_option maxRecDepth 100000 in
theorem j_X12_replay_122 {E : mE} {l : Launch} {p : Program} {e : Env} {s : State} {m : MethodId} {args : Array Value} {below : List Frame} {meth : Method} {c : Code} {A : Nat → Prop} {Q : State → Prop} {N : Nat} {h : Nat} {a_g : Nat} {a_kept : Nat} {a_tape : Nat} {a_written : Nat} {a_asked : Nat} {a_there : Nat} {a_counts : Nat} {a_lasts : Nat} {a_cames : Nat}  {g : Nat → Int32} {kept : Nat → Int32} {isKept : Int32} {tape : Nat → Int32} {taped0 : Int32} {spot0 : Int32} {written : Nat → Int32} {writtenMany : Int32} {asked0 : Nat → Int32} {askedMany0 : Int32} {there0 : Nat → Int32} {counts0 : Nat → Int32} {lasts0 : Nat → Int32} {cames0 : Nat → Int32}  {o : Int32 × Int32 × Int32 × (Nat → Int32) × Int32 × (Nat → Int32) × (Nat → Int32) × (Nat → Int32) × (Nat → Int32)} (B : mB E yX12_replay cX12_replay 7 (some .int) 0 0 (po_X12_replay E h a_g a_kept a_tape a_written a_asked a_there a_counts a_lasts a_cames g kept isKept tape taped0 spot0 written writtenMany asked0 askedMany0 there0 counts0 lasts0 cames0 o) p s m args below meth c A Q) {x1 : Int32} {x2 : Int32} {x5 : Int32} {taped : Int32} {spot : Int32} {asked : Nat → Int32} {askedMany : Int32} {there : Nat → Int32} {counts : Nat → Int32} {lasts : Nat → Int32} {cames : Nat → Int32}  (rec : Int32 → Int32 → Int32 → Int32 → (Nat → Int32) → Int32 → (Option (Int32 × Int32 × Int32 × (Nat → Int32) × Int32 × (Nat → Int32) × (Nat → Int32) × (Nat → Int32) × (Nat → Int32)))) (k164 : Int32 → Int32 → (Nat → Int32) → Int32 → (Option (Int32 × Int32 × Int32 × (Nat → Int32) × Int32 × (Nat → Int32) × (Nat → Int32) × (Nat → Int32) × (Nat → Int32)))) (hrec : ∀ (x3 : Int32) (x4 : Int32) (x5 : Int32) (spot : Int32) (asked : Nat → Int32) (askedMany : Int32)  (H : Heap) (locs : List Loc) (ls : Array Slot), rec x3 x4 x5 spot asked askedMany = some o → mW E A s [(h, .inr (11, [.ref a_g, .ref a_kept, .int isKept, .ref a_tape, .int taped, .int spot, .ref a_written, .int writtenMany, .ref a_asked, .int askedMany, .ref a_there, .ref a_counts, .ref a_lasts, .ref a_cames])), (a_g, .inl (E.2.1, 8787, .inl g)), (a_kept, .inl (E.2.1, 8787, .inl kept)), (a_tape, .inl (E.2.2.1, 60, .inl tape)), (a_written, .inl (E.2.1, 40, .inl written)), (a_asked, .inl (E.2.1, 60, .inl asked)), (a_there, .inl (E.2.1, 12, .inl there)), (a_counts, .inl (E.2.1, 12, .inl counts)), (a_lasts, .inl (E.2.1, 12, .inl lasts)), (a_cames, .inl (E.2.1, 12, .inl cames))] H locs → lv_has ls 7 [(0, .ref h), (1, .int x1), (2, .int x2), (3, .int x3), (4, .int x4), (5, .int x5)] → W p l e ({ frames := 2, cells := 0, slots := 0, locals := 50 } : Room) s m args below meth c H locs 0 0 Q (F0 m 25 ls [])) (hk164 : ∀ (x4 : Int32) (spot : Int32) (asked : Nat → Int32) (askedMany : Int32)  (H : Heap) (locs : List Loc) (ls : Array Slot), k164 x4 spot asked askedMany = some o → mW E A s [(h, .inr (11, [.ref a_g, .ref a_kept, .int isKept, .ref a_tape, .int taped, .int spot, .ref a_written, .int writtenMany, .ref a_asked, .int askedMany, .ref a_there, .ref a_counts, .ref a_lasts, .ref a_cames])), (a_g, .inl (E.2.1, 8787, .inl g)), (a_kept, .inl (E.2.1, 8787, .inl kept)), (a_tape, .inl (E.2.2.1, 60, .inl tape)), (a_written, .inl (E.2.1, 40, .inl written)), (a_asked, .inl (E.2.1, 60, .inl asked)), (a_there, .inl (E.2.1, 12, .inl there)), (a_counts, .inl (E.2.1, 12, .inl counts)), (a_lasts, .inl (E.2.1, 12, .inl lasts)), (a_cames, .inl (E.2.1, 12, .inl cames))] H locs → lv_has ls 7 [(0, .ref h), (1, .int x1), (2, .int x2), (4, .int x4)] → W p l e ({ frames := 2, cells := 0, slots := 0, locals := 50 } : Room) s m args below meth c H locs 0 0 Q (F0 m 164 ls [])) {H : Heap} {locs : List Loc} {ls : Array Slot} (hf : J_X12_replay_122 N rec k164 x1 x2 x5 g tape taped spot asked askedMany there counts lasts cames = some o)  (w : mW E A s [(h, .inr (11, [.ref a_g, .ref a_kept, .int isKept, .ref a_tape, .int taped, .int spot, .ref a_written, .int writtenMany, .ref a_asked, .int askedMany, .ref a_there, .ref a_counts, .ref a_lasts, .ref a_cames])), (a_g, .inl (E.2.1, 8787, .inl g)), (a_kept, .inl (E.2.1, 8787, .inl kept)), (a_tape, .inl (E.2.2.1, 60, .inl tape)), (a_written, .inl (E.2.1, 40, .inl written)), (a_asked, .inl (E.2.1, 60, .inl asked)), (a_there, .inl (E.2.1, 12, .inl there)), (a_counts, .inl (E.2.1, 12, .inl counts)), (a_lasts, .inl (E.2.1, 12, .inl lasts)), (a_cames, .inl (E.2.1, 12, .inl cames))] H locs) (hl : lv_has ls 7 [(0, .ref h), (1, .int x1), (2, .int x2), (5, .int x5)]) : W p l e ({ frames := 2, cells := 0, slots := 0, locals := 50 } : Room) s m args below meth c H locs 0 0 Q (F0 m 122 ls []) := by
  obtain ⟨hx, hb, hml, hown, hts⟩ := id B.1
  unfold J_X12_replay_122 at hf
  refine lv_iconst (v := 1) hx hb dX12_replay_122 (by decide) ?_
  refine lv_goto (tgt := 127) hx hb dX12_replay_123 (by decide) ?_
  exact j_X12_replay_127 B _ _ hrec hk164 hf  w (lv_sub hl [0, 1, 2, 3] rfl)
noncomputable def J_X12_replay_96 (N : Nat)  (rec : Int32 → Int32 → Int32 → Int32 → (Nat → Int32) → Int32 → (Option (Int32 × Int32 × Int32 × (Nat → Int32) × Int32 × (Nat → Int32) × (Nat → Int32) × (Nat → Int32) × (Nat → Int32)))) (k164 : Int32 → Int32 → (Nat → Int32) → Int32 → (Option (Int32 × Int32 × Int32 × (Nat → Int32) × Int32 × (Nat → Int32) × (Nat → Int32) × (Nat → Int32) × (Nat → Int32)))) (t0 : Int32) (x1 : Int32) (x2 : Int32) (x4 : Int32) (g : Nat → Int32) (tape : Nat → Int32) (taped : Int32) (spot : Int32) (asked : Nat → Int32) (askedMany : Int32) (there : Nat → Int32) (counts : Nat → Int32) (lasts : Nat → Int32) (cames : Nat → Int32) : Option (Int32 × Int32 × Int32 × (Nat → Int32) × Int32 × (Nat → Int32) × (Nat → Int32) × (Nat → Int32) × (Nat → Int32)) :=
  if (x4 = 0 : Prop) then
  J_X12_replay_126 N rec k164 x1 x2 t0 g tape taped spot asked askedMany there counts lasts cames
  else
  if (t0 = 0 : Prop) then
  J_X12_replay_122 N rec k164 x1 x2 t0 g tape taped spot asked askedMany there counts lasts cames
  else
  ld tape 60 spot (fun v_5 =>
  if (v_5 = 32 : Prop) then
  J_X12_replay_122 N rec k164 x1 x2 t0 g tape taped spot asked askedMany there counts lasts cames
  else
  J_X12_replay_126 N rec k164 x1 x2 t0 g tape taped spot asked askedMany there counts lasts cames)
set_option maxHeartbeats 4000000 in
set_option maxRecDepth 100000 in
theorem j_X12_replay_96 {E : mE} {l : Launch} {p : Program} {e : Env} {s : State} {m : MethodId} {args : Array Value} {below : List Frame} {meth : Method} {c : Code} {A : Nat → Prop} {Q : State → Prop} {N : Nat} {h : Nat} {a_g : Nat} {a_kept : Nat} {a_tape : Nat} {a_written : Nat} {a_asked : Nat} {a_there : Nat} {a_counts : Nat} {a_lasts : Nat} {a_cames : Nat}  {g : Nat → Int32} {kept : Nat → Int32} {isKept : Int32} {tape : Nat → Int32} {taped0 : Int32} {spot0 : Int32} {written : Nat → Int32} {writtenMany : Int32} {asked0 : Nat → Int32} {askedMany0 : Int32} {there0 : Nat → Int32} {counts0 : Nat → Int32} {lasts0 : Nat → Int32} {cames0 : Nat → Int32}  {o : Int32 × Int32 × Int32 × (Nat → Int32) × Int32 × (Nat → Int32) × (Nat → Int32) × (Nat → Int32) × (Nat → Int32)} (B : mB E yX12_replay cX12_replay 7 (some .int) 0 0 (po_X12_replay E h a_g a_kept a_tape a_written a_asked a_there a_counts a_lasts a_cames g kept isKept tape taped0 spot0 written writtenMany asked0 askedMany0 there0 counts0 lasts0 cames0 o) p s m args below meth c A Q) {t0 : Int32} {x1 : Int32} {x2 : Int32} {x4 : Int32} {taped : Int32} {spot : Int32} {asked : Nat → Int32} {askedMany : Int32} {there : Nat → Int32} {counts : Nat → Int32} {lasts : Nat → Int32} {cames : Nat → Int32}  (rec : Int32 → Int32 → Int32 → Int32 → (Nat → Int32) → Int32 → (Option (Int32 × Int32 × Int32 × (Nat → Int32) × Int32 × (Nat → Int32) × (Nat → Int32) × (Nat → Int32) × (Nat → Int32)))) (k164 : Int32 → Int32 → (Nat → Int32) → Int32 → (Option (Int32 × Int32 × Int32 × (Nat → Int32) × Int32 × (Nat → Int32) × (Nat → Int32) × (Nat → Int32) × (Nat → Int32)))) (hrec : ∀ (x3 : Int32) (x4 : Int32) (x5 : Int32) (spot : Int32) (asked : Nat → Int32) (askedMany : Int32)  (H : Heap) (locs : List Loc) (ls : Array Slot), rec x3 x4 x5 spot asked askedMany = some o → mW E A s [(h, .inr (11, [.ref a_g, .ref a_kept, .int isKept, .ref a_tape, .int taped, .int spot, .ref a_written, .int writtenMany, .ref a_asked, .int askedMany, .ref a_there, .ref a_counts, .ref a_lasts, .ref a_cames])), (a_g, .inl (E.2.1, 8787, .inl g)), (a_kept, .inl (E.2.1, 8787, .inl kept)), (a_tape, .inl (E.2.2.1, 60, .inl tape)), (a_written, .inl (E.2.1, 40, .inl written)), (a_asked, .inl (E.2.1, 60, .inl asked)), (a_there, .inl (E.2.1, 12, .inl there)), (a_counts, .inl (E.2.1, 12, .inl counts)), (a_lasts, .inl (E.2.1, 12, .inl lasts)), (a_cames, .inl (E.2.1, 12, .inl cames))] H locs → lv_has ls 7 [(0, .ref h), (1, .int x1), (2, .int x2), (3, .int x3), (4, .int x4), (5, .int x5)] → W p l e ({ frames := 2, cells := 0, slots := 0, locals := 50 } : Room) s m args below meth c H locs 0 0 Q (F0 m 25 ls [])) (hk164 : ∀ (x4 : Int32) (spot : Int32) (asked : Nat → Int32) (askedMany : Int32)  (H : Heap) (locs : List Loc) (ls : Array Slot), k164 x4 spot asked askedMany = some o → mW E A s [(h, .inr (11, [.ref a_g, .ref a_kept, .int isKept, .ref a_tape, .int taped, .int spot, .ref a_written, .int writtenMany, .ref a_asked, .int askedMany, .ref a_there, .ref a_counts, .ref a_lasts, .ref a_cames])), (a_g, .inl (E.2.1, 8787, .inl g)), (a_kept, .inl (E.2.1, 8787, .inl kept)), (a_tape, .inl (E.2.2.1, 60, .inl tape)), (a_written, .inl (E.2.1, 40, .inl written)), (a_asked, .inl (E.2.1, 60, .inl asked)), (a_there, .inl (E.2.1, 12, .inl there)), (a_counts, .inl (E.2.1, 12, .inl counts)), (a_lasts, .inl (E.2.1, 12, .inl lasts)), (a_cames, .inl (E.2.1, 12, .inl cames))] H locs → lv_has ls 7 [(0, .ref h), (1, .int x1), (2, .int x2), (4, .int x4)] → W p l e ({ frames := 2, cells := 0, slots := 0, locals := 50 } : Room) s m args below meth c H locs 0 0 Q (F0 m 164 ls [])) {H : Heap} {locs : List Loc} {ls : Array Slot} (hf : J_X12_replay_96 N rec k164 t0 x1 x2 x4 g tape taped spot asked askedMany there counts lasts cames = some o)  (w : mW E A s [(h, .inr (11, [.ref a_g, .ref a_kept, .int isKept, .ref a_tape, .int taped, .int spot, .ref a_written, .int writtenMany, .ref a_asked, .int askedMany, .ref a_there, .ref a_counts, .ref a_lasts, .ref a_cames])), (a_g, .inl (E.2.1, 8787, .inl g)), (a_kept, .inl (E.2.1, 8787, .inl kept)), (a_tape, .inl (E.2.2.1, 60, .inl tape)), (a_written, .inl (E.2.1, 40, .inl written)), (a_asked, .inl (E.2.1, 60, .inl asked)), (a_there, .inl (E.2.1, 12, .inl there)), (a_counts, .inl (E.2.1, 12, .inl counts)), (a_lasts, .inl (E.2.1, 12, .inl lasts)), (a_cames, .inl (E.2.1, 12, .inl cames))] H locs) (hl : lv_has ls 7 [(0, .ref h), (1, .int x1), (2, .int x2), (4, .int x4)]) : W p l e ({ frames := 2, cells := 0, slots := 0, locals := 50 } : Room) s m args below meth c H locs 0 0 Q (F0 m 96 ls [.int t0]) := by
  obtain ⟨hx, hb, hml, hown, hts⟩ := id B.1
  unfold J_X12_replay_96 at hf
  refine lv_istore (lv' := [(5, .int t0), (0, .ref h), (1, .int x1), (2, .int x2), (4, .int x4)]) hx hb dX12_replay_96 hl (by decide) rfl (fun ls hl => ?_)
  refine lv_iload hx hb dX12_replay_98 (lv_at hl 4 rfl) ?_
  refine lv_if_eq (tgt := 126) hx hb dX12_replay_100 (by decide) (fun hc => ?_) (fun hc => ?_)
  · have hf := it_t hc hf
    exact j_X12_replay_126 B _ _ hrec hk164 hf  w (lv_sub hl [1, 2, 3, 0] rfl)
  · have hf := it_f hc hf
    refine lv_iload hx hb dX12_replay_103 (lv_at hl 0 rfl) ?_
    refine lv_if_eq (tgt := 122) hx hb dX12_replay_105 (by decide) (fun hc => ?_) (fun hc => ?_)
    · have hf := it_t hc hf
      exact j_X12_replay_122 B _ _ hrec hk164 hf  w (lv_sub hl [1, 2, 3, 0] rfl)
    · have hf := it_f hc hf
      refine lv_aload_n hx hb dX12_replay_108 rfl (lv_at hl 1 rfl) ?_
      refine mx_get B w 0 fl_X12_16 rfl rfl dX12_replay_109 ?_
      refine lv_aload_n hx hb dX12_replay_112 rfl (lv_at hl 1 rfl) ?_
      refine mx_get B w 0 fl_X12_50 rfl rfl dX12_replay_113 ?_
      obtain ⟨hin, hf⟩ := ld_e hf
      refine mx_bald B w 3 rfl hin dX12_replay_116 (fun v_5 ev => ?_)
      have hf := hf _ ev; clear ev
      refine lv_bipush (v := 32) hx hb dX12_replay_117 (by decide) ?_
      refine lv_icmp_ne (tgt := 126) hx hb dX12_replay_119 (by decide) (fun hc => ?_) (fun hc => ?_)
      · have hf := it_f hc hf
        exact j_X12_replay_126 B _ _ hrec hk164 hf  w (lv_sub hl [1, 2, 3, 0] rfl)
      · have hf := it_t hc hf
        exact j_X12_replay_122 B _ _ hrec hk164 hf  w (lv_sub hl [1, 2, 3, 0] rfl)
noncomputable def J_X12_replay_80 (N : Nat)  (rec : Int32 → Int32 → Int32 → Int32 → (Nat → Int32) → Int32 → (Option (Int32 × Int32 × Int32 × (Nat → Int32) × Int32 × (Nat → Int32) × (Nat → Int32) × (Nat → Int32) × (Nat → Int32)))) (k164 : Int32 → Int32 → (Nat → Int32) → Int32 → (Option (Int32 × Int32 × Int32 × (Nat → Int32) × Int32 × (Nat → Int32) × (Nat → Int32) × (Nat → Int32) × (Nat → Int32)))) (x1 : Int32) (x2 : Int32) (x4 : Int32) (g : Nat → Int32) (tape : Nat → Int32) (taped : Int32) (spot : Int32) (asked : Nat → Int32) (askedMany : Int32) (there : Nat → Int32) (counts : Nat → Int32) (lasts : Nat → Int32) (cames : Nat → Int32) : Option (Int32 × Int32 × Int32 × (Nat → Int32) × Int32 × (Nat → Int32) × (Nat → Int32) × (Nat → Int32) × (Nat → Int32)) :=
  if (taped ≤ spot : Prop) then
  J_X12_replay_96 N rec k164 0 x1 x2 x4 g tape taped spot asked askedMany there counts lasts cames
  else
  J_X12_replay_96 N rec k164 1 x1 x2 x4 g tape taped spot asked askedMany there counts lasts cames
set_option maxHeartbeats 4000000 in
set_option maxRecDepth 100000 in
theorem j_X12_replay_80 {E : mE} {l : Launch} {p : Program} {e : Env} {s : State} {m : MethodId} {args : Array Value} {below : List Frame} {meth : Method} {c : Code} {A : Nat → Prop} {Q : State → Prop} {N : Nat} {h : Nat} {a_g : Nat} {a_kept : Nat} {a_tape : Nat} {a_written : Nat} {a_asked : Nat} {a_there : Nat} {a_counts : Nat} {a_lasts : Nat} {a_cames : Nat}  {g : Nat → Int32} {kept : Nat → Int32} {isKept : Int32} {tape : Nat → Int32} {taped0 : Int32} {spot0 : Int32} {written : Nat → Int32} {writtenMany : Int32} {asked0 : Nat → Int32} {askedMany0 : Int32} {there0 : Nat → Int32} {counts0 : Nat → Int32} {lasts0 : Nat → Int32} {cames0 : Nat → Int32}  {o : Int32 × Int32 × Int32 × (Nat → Int32) × Int32 × (Nat → Int32) × (Nat → Int32) × (Nat → Int32) × (Nat → Int32)} (B : mB E yX12_replay cX12_replay 7 (some .int) 0 0 (po_X12_replay E h a_g a_kept a_tape a_written a_asked a_there a_counts a_lasts a_cames g kept isKept tape taped0 spot0 written writtenMany asked0 askedMany0 there0 counts0 lasts0 cames0 o) p s m args below meth c A Q) {x1 : Int32} {x2 : Int32} {x4 : Int32} {taped : Int32} {spot : Int32} {asked : Nat → Int32} {askedMany : Int32} {there : Nat → Int32} {counts : Nat → Int32} {lasts : Nat → Int32} {cames : Nat → Int32}  (rec : Int32 → Int32 → Int32 → Int32 → (Nat → Int32) → Int32 → (Option (Int32 × Int32 × Int32 × (Nat → Int32) × Int32 × (Nat → Int32) × (Nat → Int32) × (Nat → Int32) × (Nat → Int32)))) (k164 : Int32 → Int32 → (Nat → Int32) → Int32 → (Option (Int32 × Int32 × Int32 × (Nat → Int32) × Int32 × (Nat → Int32) × (Nat → Int32) × (Nat → Int32) × (Nat → Int32)))) (hrec : ∀ (x3 : Int32) (x4 : Int32) (x5 : Int32) (spot : Int32) (asked : Nat → Int32) (askedMany : Int32)  (H : Heap) (locs : List Loc) (ls : Array Slot), rec x3 x4 x5 spot asked askedMany = some o → mW E A s [(h, .inr (11, [.ref a_g, .ref a_kept, .int isKept, .ref a_tape, .int taped, .int spot, .ref a_written, .int writtenMany, .ref a_asked, .int askedMany, .ref a_there, .ref a_counts, .ref a_lasts, .ref a_cames])), (a_g, .inl (E.2.1, 8787, .inl g)), (a_kept, .inl (E.2.1, 8787, .inl kept)), (a_tape, .inl (E.2.2.1, 60, .inl tape)), (a_written, .inl (E.2.1, 40, .inl written)), (a_asked, .inl (E.2.1, 60, .inl asked)), (a_there, .inl (E.2.1, 12, .inl there)), (a_counts, .inl (E.2.1, 12, .inl counts)), (a_lasts, .inl (E.2.1, 12, .inl lasts)), (a_cames, .inl (E.2.1, 12, .inl cames))] H locs → lv_has ls 7 [(0, .ref h), (1, .int x1), (2, .int x2), (3, .int x3), (4, .int x4), (5, .int x5)] → W p l e ({ frames := 2, cells := 0, slots := 0, locals := 50 } : Room) s m args below meth c H locs 0 0 Q (F0 m 25 ls [])) (hk164 : ∀ (x4 : Int32) (spot : Int32) (asked : Nat → Int32) (askedMany : Int32)  (H : Heap) (locs : List Loc) (ls : Array Slot), k164 x4 spot asked askedMany = some o → mW E A s [(h, .inr (11, [.ref a_g, .ref a_kept, .int isKept, .ref a_tape, .int taped, .int spot, .ref a_written, .int writtenMany, .ref a_asked, .int askedMany, .ref a_there, .ref a_counts, .ref a_lasts, .ref a_cames])), (a_g, .inl (E.2.1, 8787, .inl g)), (a_kept, .inl (E.2.1, 8787, .inl kept)), (a_tape, .inl (E.2.2.1, 60, .inl tape)), (a_written, .inl (E.2.1, 40, .inl written)), (a_asked, .inl (E.2.1, 60, .inl asked)), (a_there, .inl (E.2.1, 12, .inl there)), (a_counts, .inl (E.2.1, 12, .inl counts)), (a_lasts, .inl (E.2.1, 12, .inl lasts)), (a_cames, .inl (E.2.1, 12, .inl cames))] H locs → lv_has ls 7 [(0, .ref h), (1, .int x1), (2, .int x2), (4, .int x4)] → W p l e ({ frames := 2, cells := 0, slots := 0, locals := 50 } : Room) s m args below meth c H locs 0 0 Q (F0 m 164 ls [])) {H : Heap} {locs : List Loc} {ls : Array Slot} (hf : J_X12_replay_80 N rec k164 x1 x2 x4 g tape taped spot asked askedMany there counts lasts cames = some o)  (w : mW E A s [(h, .inr (11, [.ref a_g, .ref a_kept, .int isKept, .ref a_tape, .int taped, .int spot, .ref a_written, .int writtenMany, .ref a_asked, .int askedMany, .ref a_there, .ref a_counts, .ref a_lasts, .ref a_cames])), (a_g, .inl (E.2.1, 8787, .inl g)), (a_kept, .inl (E.2.1, 8787, .inl kept)), (a_tape, .inl (E.2.2.1, 60, .inl tape)), (a_written, .inl (E.2.1, 40, .inl written)), (a_asked, .inl (E.2.1, 60, .inl asked)), (a_there, .inl (E.2.1, 12, .inl there)), (a_counts, .inl (E.2.1, 12, .inl counts)), (a_lasts, .inl (E.2.1, 12, .inl lasts)), (a_cames, .inl (E.2.1, 12, .inl cames))] H locs) (hl : lv_has ls 7 [(0, .ref h), (1, .int x1), (2, .int x2), (4, .int x4)]) : W p l e ({ frames := 2, cells := 0, slots := 0, locals := 50 } : Room) s m args below meth c H locs 0 0 Q (F0 m 80 ls []) := by
  obtain ⟨hx, hb, hml, hown, hts⟩ := id B.1
  unfold J_X12_replay_80 at hf
  refine lv_aload_n hx hb dX12_replay_80 rfl (lv_at hl 0 rfl) ?_
  refine mx_get B w 0 fl_X12_50 rfl rfl dX12_replay_81 ?_
  refine lv_aload_n hx hb dX12_replay_84 rfl (lv_at hl 0 rfl) ?_
  refine mx_get B w 0 fl_X12_54 rfl rfl dX12_replay_85 ?_
  refine lv_icmp_ge (tgt := 95) hx hb dX12_replay_88 (by decide) (fun hc => ?_) (fun hc => ?_)
  · have hf := it_t hc hf
    refine lv_iconst (v := 0) hx hb dX12_replay_95 (by decide) ?_
    exact j_X12_replay_96 B _ _ hrec hk164 hf  w (lv_sub hl [0, 1, 2, 3] rfl)
  · have hf := it_f hc hf
    refine lv_iconst (v := 1) hx hb dX12_replay_91 (by decide) ?_
    refine lv_goto (tgt := 96) hx hb dX12_replay_92 (by decide) ?_
    exact j_X12_replay_96 B _ _ hrec hk164 hf  w (lv_sub hl [0, 1, 2, 3] rfl)
noncomputable def J_X12_replay_52 (N : Nat)  (rec : Int32 → Int32 → Int32 → Int32 → (Nat → Int32) → Int32 → (Option (Int32 × Int32 × Int32 × (Nat → Int32) × Int32 × (Nat → Int32) × (Nat → Int32) × (Nat → Int32) × (Nat → Int32)))) (k164 : Int32 → Int32 → (Nat → Int32) → Int32 → (Option (Int32 × Int32 × Int32 × (Nat → Int32) × Int32 × (Nat → Int32) × (Nat → Int32) × (Nat → Int32) × (Nat → Int32)))) (t0 : Int32) (x1 : Int32) (x2 : Int32) (x6 : Int32) (g : Nat → Int32) (tape : Nat → Int32) (taped : Int32) (spot : Int32) (asked : Nat → Int32) (askedMany : Int32) (there : Nat → Int32) (counts : Nat → Int32) (lasts : Nat → Int32) (cames : Nat → Int32) : Option (Int32 × Int32 × Int32 × (Nat → Int32) × Int32 × (Nat → Int32) × (Nat → Int32) × (Nat → Int32) × (Nat → Int32)) :=
  if (t0 = 0 : Prop) then
  J_X12_replay_80 N rec k164 x1 x2 t0 g tape taped spot asked askedMany there counts lasts cames
  else
  sto asked 60 askedMany x6 (fun asked_6 =>
  lt ((askedMany + 1)) (fun askedMany_7 =>
  J_X12_replay_80 N rec k164 x1 x2 t0 g tape taped spot asked_6 askedMany_7 there counts lasts cames))
set_option maxHeartbeats 4000000 in
set_option maxRecDepth 100000 in
theorem j_X12_replay_52 {E : mE} {l : Launch} {p : Program} {e : Env} {s : State} {m : MethodId} {args : Array Value} {below : List Frame} {meth : Method} {c : Code} {A : Nat → Prop} {Q : State → Prop} {N : Nat} {h : Nat} {a_g : Nat} {a_kept : Nat} {a_tape : Nat} {a_written : Nat} {a_asked : Nat} {a_there : Nat} {a_counts : Nat} {a_lasts : Nat} {a_cames : Nat}  {g : Nat → Int32} {kept : Nat → Int32} {isKept : Int32} {tape : Nat → Int32} {taped0 : Int32} {spot0 : Int32} {written : Nat → Int32} {writtenMany : Int32} {asked0 : Nat → Int32} {askedMany0 : Int32} {there0 : Nat → Int32} {counts0 : Nat → Int32} {lasts0 : Nat → Int32} {cames0 : Nat → Int32}  {o : Int32 × Int32 × Int32 × (Nat → Int32) × Int32 × (Nat → Int32) × (Nat → Int32) × (Nat → Int32) × (Nat → Int32)} (B : mB E yX12_replay cX12_replay 7 (some .int) 0 0 (po_X12_replay E h a_g a_kept a_tape a_written a_asked a_there a_counts a_lasts a_cames g kept isKept tape taped0 spot0 written writtenMany asked0 askedMany0 there0 counts0 lasts0 cames0 o) p s m args below meth c A Q) {t0 : Int32} {x1 : Int32} {x2 : Int32} {x6 : Int32} {taped : Int32} {spot : Int32} {asked : Nat → Int32} {askedMany : Int32} {there : Nat → Int32} {counts : Nat → Int32} {lasts : Nat → Int32} {cames : Nat → Int32}  (rec : Int32 → Int32 → Int32 → Int32 → (Nat → Int32) → Int32 → (Option (Int32 × Int32 × Int32 × (Nat → Int32) × Int32 × (Nat → Int32) × (Nat → Int32) × (Nat → Int32) × (Nat → Int32)))) (k164 : Int32 → Int32 → (Nat → Int32) → Int32 → (Option (Int32 × Int32 × Int32 × (Nat → Int32) × Int32 × (Nat → Int32) × (Nat → Int32) × (Nat → Int32) × (Nat → Int32)))) (hrec : ∀ (x3 : Int32) (x4 : Int32) (x5 : Int32) (spot : Int32) (asked : Nat → Int32) (askedMany : Int32)  (H : Heap) (locs : List Loc) (ls : Array Slot), rec x3 x4 x5 spot asked askedMany = some o → mW E A s [(h, .inr (11, [.ref a_g, .ref a_kept, .int isKept, .ref a_tape, .int taped, .int spot, .ref a_written, .int writtenMany, .ref a_asked, .int askedMany, .ref a_there, .ref a_counts, .ref a_lasts, .ref a_cames])), (a_g, .inl (E.2.1, 8787, .inl g)), (a_kept, .inl (E.2.1, 8787, .inl kept)), (a_tape, .inl (E.2.2.1, 60, .inl tape)), (a_written, .inl (E.2.1, 40, .inl written)), (a_asked, .inl (E.2.1, 60, .inl asked)), (a_there, .inl (E.2.1, 12, .inl there)), (a_counts, .inl (E.2.1, 12, .inl counts)), (a_lasts, .inl (E.2.1, 12, .inl lasts)), (a_cames, .inl (E.2.1, 12, .inl cames))] H locs → lv_has ls 7 [(0, .ref h), (1, .int x1), (2, .int x2), (3, .int x3), (4, .int x4), (5, .int x5)] → W p l e ({ frames := 2, cells := 0, slots := 0, locals := 50 } : Room) s m args below meth c H locs 0 0 Q (F0 m 25 ls [])) (hk164 : ∀ (x4 : Int32) (spot : Int32) (asked : Nat → Int32) (askedMany : Int32)  (H : Heap) (locs : List Loc) (ls : Array Slot), k164 x4 spot asked askedMany = some o → mW E A s [(h, .inr (11, [.ref a_g, .ref a_kept, .int isKept, .ref a_tape, .int taped, .int spot, .ref a_written, .int writtenMany, .ref a_asked, .int askedMany, .ref a_there, .ref a_counts, .ref a_lasts, .ref a_cames])), (a_g, .inl (E.2.1, 8787, .inl g)), (a_kept, .inl (E.2.1, 8787, .inl kept)), (a_tape, .inl (E.2.2.1, 60, .inl tape)), (a_written, .inl (E.2.1, 40, .inl written)), (a_asked, .inl (E.2.1, 60, .inl asked)), (a_there, .inl (E.2.1, 12, .inl there)), (a_counts, .inl (E.2.1, 12, .inl counts)), (a_lasts, .inl (E.2.1, 12, .inl lasts)), (a_cames, .inl (E.2.1, 12, .inl cames))] H locs → lv_has ls 7 [(0, .ref h), (1, .int x1), (2, .int x2), (4, .int x4)] → W p l e ({ frames := 2, cells := 0, slots := 0, locals := 50 } : Room) s m args below meth c H locs 0 0 Q (F0 m 164 ls [])) {H : Heap} {locs : List Loc} {ls : Array Slot} (hf : J_X12_replay_52 N rec k164 t0 x1 x2 x6 g tape taped spot asked askedMany there counts lasts cames = some o)  (w : mW E A s [(h, .inr (11, [.ref a_g, .ref a_kept, .int isKept, .ref a_tape, .int taped, .int spot, .ref a_written, .int writtenMany, .ref a_asked, .int askedMany, .ref a_there, .ref a_counts, .ref a_lasts, .ref a_cames])), (a_g, .inl (E.2.1, 8787, .inl g)), (a_kept, .inl (E.2.1, 8787, .inl kept)), (a_tape, .inl (E.2.2.1, 60, .inl tape)), (a_written, .inl (E.2.1, 40, .inl written)), (a_asked, .inl (E.2.1, 60, .inl asked)), (a_there, .inl (E.2.1, 12, .inl there)), (a_counts, .inl (E.2.1, 12, .inl counts)), (a_lasts, .inl (E.2.1, 12, .inl lasts)), (a_cames, .inl (E.2.1, 12, .inl cames))] H locs) (hl : lv_has ls 7 [(0, .ref h), (1, .int x1), (2, .int x2), (6, .int x6)]) : W p l e ({ frames := 2, cells := 0, slots := 0, locals := 50 } : Room) s m args below meth c H locs 0 0 Q (F0 m 52 ls [.int t0]) := by
  obtain ⟨hx, hb, hml, hown, hts⟩ := id B.1
  unfold J_X12_replay_52 at hf
  refine lv_istore (lv' := [(4, .int t0), (0, .ref h), (1, .int x1), (2, .int x2), (6, .int x6)]) hx hb dX12_replay_52 hl (by decide) rfl (fun ls hl => ?_)
  refine lv_iload hx hb dX12_replay_54 (lv_at hl 0 rfl) ?_
  refine lv_if_eq (tgt := 80) hx hb dX12_replay_56 (by decide) (fun hc => ?_) (fun hc => ?_)
  · have hf := it_t hc hf
    exact j_X12_replay_80 B _ _ hrec hk164 hf  w (lv_sub hl [1, 2, 3, 0] rfl)
  · have hf := it_f hc hf
    refine lv_aload_n hx hb dX12_replay_59 rfl (lv_at hl 1 rfl) ?_
    refine mx_get B w 0 fl_X12_23 rfl rfl dX12_replay_60 ?_
    refine lv_aload_n hx hb dX12_replay_63 rfl (lv_at hl 1 rfl) ?_
    refine mx_get B w 0 fl_X12_260 rfl rfl dX12_replay_64 ?_
    refine lv_iload hx hb dX12_replay_67 (lv_at hl 4 rfl) ?_
    obtain ⟨hin, hf⟩ := sto_e hf
    refine mx_iast B w 5 rfl hin dX12_replay_69 (fun asked_6 H locs ev w => ?_)
    have hf := hf _ ev; clear ev
    have w : mW E A s [(h, .inr (11, [.ref a_g, .ref a_kept, .int isKept, .ref a_tape, .int taped, .int spot, .ref a_written, .int writtenMany, .ref a_asked, .int askedMany, .ref a_there, .ref a_counts, .ref a_lasts, .ref a_cames])), (a_g, .inl (E.2.1, 8787, .inl g)), (a_kept, .inl (E.2.1, 8787, .inl kept)), (a_tape, .inl (E.2.2.1, 60, .inl tape)), (a_written, .inl (E.2.1, 40, .inl written)), (a_asked, .inl (E.2.1, 60, .inl asked_6)), (a_there, .inl (E.2.1, 12, .inl there)), (a_counts, .inl (E.2.1, 12, .inl counts)), (a_lasts, .inl (E.2.1, 12, .inl lasts)), (a_cames, .inl (E.2.1, 12, .inl cames))] H locs := w
    refine lv_aload_n hx hb dX12_replay_70 rfl (lv_at hl 1 rfl) ?_
    refine lv_dup hx hb dX12_replay_71 rfl ?_
    refine mx_get B w 0 fl_X12_260 rfl rfl dX12_replay_72 ?_
    refine lv_iconst (v := 1) hx hb dX12_replay_75 (by decide) ?_
    refine lv_iadd hx hb dX12_replay_76 ?_
    refine mx_puti B w 0 fl_X12_260 fi_X12_9 rfl (Nat.le_of_ble_eq_true rfl) dX12_replay_77 (fun askedMany_7 H locs ev w => ?_)
    have hf := lt_n ev hf; clear ev
    have w : mW E A s [(h, .inr (11, [.ref a_g, .ref a_kept, .int isKept, .ref a_tape, .int taped, .int spot, .ref a_written, .int writtenMany, .ref a_asked, .int askedMany_7, .ref a_there, .ref a_counts, .ref a_lasts, .ref a_cames])), (a_g, .inl (E.2.1, 8787, .inl g)), (a_kept, .inl (E.2.1, 8787, .inl kept)), (a_tape, .inl (E.2.2.1, 60, .inl tape)), (a_written, .inl (E.2.1, 40, .inl written)), (a_asked, .inl (E.2.1, 60, .inl asked_6)), (a_there, .inl (E.2.1, 12, .inl there)), (a_counts, .inl (E.2.1, 12, .inl counts)), (a_lasts, .inl (E.2.1, 12, .inl lasts)), (a_cames, .inl (E.2.1, 12, .inl cames))] H locs := w
    exact j_X12_replay_80 B _ _ hrec hk164 hf  w (lv_sub hl [1, 2, 3, 0] rfl)
noncomputable def K_X12_replay_25 (N : Nat)  (rec : Int32 → Int32 → Int32 → Int32 → (Nat → Int32) → Int32 → (Option (Int32 × Int32 × Int32 × (Nat → Int32) × Int32 × (Nat → Int32) × (Nat → Int32) × (Nat → Int32) × (Nat → Int32)))) (k164 : Int32 → Int32 → (Nat → Int32) → Int32 → (Option (Int32 × Int32 × Int32 × (Nat → Int32) × Int32 × (Nat → Int32) × (Nat → Int32) × (Nat → Int32) × (Nat → Int32)))) (x1 : Int32) (x2 : Int32) (g : Nat → Int32) (tape : Nat → Int32) (taped : Int32) (there : Nat → Int32) (counts : Nat → Int32) (lasts : Nat → Int32) (cames : Nat → Int32) (x3 : Int32) (x4 : Int32) (x5 : Int32) (spot : Int32) (asked : Nat → Int32) (askedMany : Int32) : Option (Int32 × Int32 × Int32 × (Nat → Int32) × Int32 × (Nat → Int32) × (Nat → Int32) × (Nat → Int32) × (Nat → Int32)) :=
  if (x4 = 0 : Prop) then
  k164 x4 spot asked askedMany
  else
  if (x5 = 0 : Prop) then
  k164 x4 spot asked askedMany
  else
  bd (F_X12_keyAt N tape taped spot x3) (fun o_3 =>
  if (o_3.1 = 0 : Prop) then
  J_X12_replay_52 N rec k164 0 x1 x2 o_3.1 g tape taped o_3.2 asked askedMany there counts lasts cames
  else
  J_X12_replay_52 N rec k164 1 x1 x2 o_3.1 g tape taped o_3.2 asked askedMany there counts lasts cames)
noncomputable def L_X12_replay_25 (N : Nat)  (k164 : Int32 → Int32 → (Nat → Int32) → Int32 → (Option (Int32 × Int32 × Int32 × (Nat → Int32) × Int32 × (Nat → Int32) × (Nat → Int32) × (Nat → Int32) × (Nat → Int32)))) (x1 : Int32) (x2 : Int32) (g : Nat → Int32) (tape : Nat → Int32) (taped : Int32) (there : Nat → Int32) (counts : Nat → Int32) (lasts : Nat → Int32) (cames : Nat → Int32) (n : Nat) : Int32 → Int32 → Int32 → Int32 → (Nat → Int32) → Int32 → (Option (Int32 × Int32 × Int32 × (Nat → Int32) × Int32 × (Nat → Int32) × (Nat → Int32) × (Nat → Int32) × (Nat → Int32))) :=
  Nat.rec (motive := fun _ => Int32 → Int32 → Int32 → Int32 → (Nat → Int32) → Int32 → (Option (Int32 × Int32 × Int32 × (Nat → Int32) × Int32 × (Nat → Int32) × (Nat → Int32) × (Nat → Int32) × (Nat → Int32)))) (fun _ _ _ _ _ _ => none) (fun _ rec => K_X12_replay_25 N rec k164 x1 x2 g tape taped there counts lasts cames) n
set_option maxHeartbeats 4000000 in
set_option maxRecDepth 100000 in
theorem l_X12_replay_25 {E : mE} {l : Launch} {p : Program} {e : Env} {s : State} {m : MethodId} {args : Array Value} {below : List Frame} {meth : Method} {c : Code} {A : Nat → Prop} {Q : State → Prop} {N : Nat} {h : Nat} {a_g : Nat} {a_kept : Nat} {a_tape : Nat} {a_written : Nat} {a_asked : Nat} {a_there : Nat} {a_counts : Nat} {a_lasts : Nat} {a_cames : Nat}  {g : Nat → Int32} {kept : Nat → Int32} {isKept : Int32} {tape : Nat → Int32} {taped0 : Int32} {spot0 : Int32} {written : Nat → Int32} {writtenMany : Int32} {asked0 : Nat → Int32} {askedMany0 : Int32} {there0 : Nat → Int32} {counts0 : Nat → Int32} {lasts0 : Nat → Int32} {cames0 : Nat → Int32}  {o : Int32 × Int32 × Int32 × (Nat → Int32) × Int32 × (Nat → Int32) × (Nat → Int32) × (Nat → Int32) × (Nat → Int32)} (B : mB E yX12_replay cX12_replay 7 (some .int) 0 0 (po_X12_replay E h a_g a_kept a_tape a_written a_asked a_there a_counts a_lasts a_cames g kept isKept tape taped0 spot0 written writtenMany asked0 askedMany0 there0 counts0 lasts0 cames0 o) p s m args below meth c A Q) {taped : Int32} {there : Nat → Int32} {counts : Nat → Int32} {lasts : Nat → Int32} {cames : Nat → Int32}  {x1 : Int32} {x2 : Int32} (k164 : Int32 → Int32 → (Nat → Int32) → Int32 → (Option (Int32 × Int32 × Int32 × (Nat → Int32) × Int32 × (Nat → Int32) × (Nat → Int32) × (Nat → Int32) × (Nat → Int32))))  (hk164 : ∀ (x4 : Int32) (spot : Int32) (asked : Nat → Int32) (askedMany : Int32)  (H : Heap) (locs : List Loc) (ls : Array Slot), k164 x4 spot asked askedMany = some o → mW E A s [(h, .inr (11, [.ref a_g, .ref a_kept, .int isKept, .ref a_tape, .int taped, .int spot, .ref a_written, .int writtenMany, .ref a_asked, .int askedMany, .ref a_there, .ref a_counts, .ref a_lasts, .ref a_cames])), (a_g, .inl (E.2.1, 8787, .inl g)), (a_kept, .inl (E.2.1, 8787, .inl kept)), (a_tape, .inl (E.2.2.1, 60, .inl tape)), (a_written, .inl (E.2.1, 40, .inl written)), (a_asked, .inl (E.2.1, 60, .inl asked)), (a_there, .inl (E.2.1, 12, .inl there)), (a_counts, .inl (E.2.1, 12, .inl counts)), (a_lasts, .inl (E.2.1, 12, .inl lasts)), (a_cames, .inl (E.2.1, 12, .inl cames))] H locs → lv_has ls 7 [(0, .ref h), (1, .int x1), (2, .int x2), (4, .int x4)] → W p l e ({ frames := 2, cells := 0, slots := 0, locals := 50 } : Room) s m args below meth c H locs 0 0 Q (F0 m 164 ls [])) : ∀ n : Nat, ∀ (x3 : Int32) (x4 : Int32) (x5 : Int32) (spot : Int32) (asked : Nat → Int32) (askedMany : Int32)  (H : Heap) (locs : List Loc) (ls : Array Slot), L_X12_replay_25 N k164 x1 x2 g tape taped there counts lasts cames n x3 x4 x5 spot asked askedMany = some o → mW E A s [(h, .inr (11, [.ref a_g, .ref a_kept, .int isKept, .ref a_tape, .int taped, .int spot, .ref a_written, .int writtenMany, .ref a_asked, .int askedMany, .ref a_there, .ref a_counts, .ref a_lasts, .ref a_cames])), (a_g, .inl (E.2.1, 8787, .inl g)), (a_kept, .inl (E.2.1, 8787, .inl kept)), (a_tape, .inl (E.2.2.1, 60, .inl tape)), (a_written, .inl (E.2.1, 40, .inl written)), (a_asked, .inl (E.2.1, 60, .inl asked)), (a_there, .inl (E.2.1, 12, .inl there)), (a_counts, .inl (E.2.1, 12, .inl counts)), (a_lasts, .inl (E.2.1, 12, .inl lasts)), (a_cames, .inl (E.2.1, 12, .inl cames))] H locs → lv_has ls 7 [(0, .ref h), (1, .int x1), (2, .int x2), (3, .int x3), (4, .int x4), (5, .int x5)] → W p l e ({ frames := 2, cells := 0, slots := 0, locals := 50 } : Room) s m args below meth c H locs 0 0 Q (F0 m 25 ls []) := by
  obtain ⟨hx, hb, hml, hown, hts⟩ := id B.1
  intro n
  induction n with
  | zero =>
    intro x3 x4 x5 spot asked askedMany H locs ls hf w hl
    exact nomatch hf
  | succ n hrec =>
    intro x3 x4 x5 spot asked askedMany H locs ls hf w hl
    have hf : K_X12_replay_25 N (L_X12_replay_25 N k164 x1 x2 g tape taped there counts lasts cames n) k164 x1 x2 g tape taped there counts lasts cames x3 x4 x5 spot asked askedMany = some o := hf
    unfold K_X12_replay_25 at hf
    refine lv_iload hx hb dX12_replay_25 (lv_at hl 4 rfl) ?_
    refine lv_if_eq (tgt := 164) hx hb dX12_replay_27 (by decide) (fun hc => ?_) (fun hc => ?_)
    · have hf := it_t hc hf
      exact hk164 _ _ _ _ _ _ _ hf  w (lv_sub hl [0, 1, 2, 4] rfl)
    · have hf := it_f hc hf
      refine lv_iload hx hb dX12_replay_30 (lv_at hl 5 rfl) ?_
      refine lv_if_eq (tgt := 164) hx hb dX12_replay_32 (by decide) (fun hc => ?_) (fun hc => ?_)
      · have hf := it_t hc hf
        exact hk164 _ _ _ _ _ _ _ hf  w (lv_sub hl [0, 1, 2, 4] rfl)
      · have hf := it_f hc hf
        refine lv_aload_n hx hb dX12_replay_35 rfl (lv_at hl 0 rfl) ?_
        refine lv_iload_n hx hb dX12_replay_36 rfl (lv_at hl 3 rfl) ?_
        obtain ⟨o_3, hq, hf⟩ := bd_e hf
        refine mx_callV (As := [.int x3]) (rest := []) (wr := []) (d_X12_keyAt E l N h a_g a_kept a_tape a_written a_asked a_there a_counts a_lasts a_cames g kept isKept tape taped spot written writtenMany asked askedMany there counts lasts cames x3  o_3 hq) B w [0, 1, 2, 3, 4, 5, 6, 7, 8, 9] [] rfl rfl (by decide) (by decide) (by decide) 0 rfl rfl cv_X12_keyAt kw_1285 1 (by decide +kernel) ⟨Nat.le_of_ble_eq_true rfl, Nat.le_of_ble_eq_true rfl⟩ rfl hl.1 rfl (Nat.le_of_ble_eq_true rfl) dX12_replay_37 rfl rfl ⟨Nat.zero_le _, Nat.zero_le _⟩ (fun v w' H locs hpo w => ?_)
        clear hq
        obtain ⟨rfl, rfl⟩ := hpo
        have w : mW E A s [(h, .inr (11, [.ref a_g, .ref a_kept, .int isKept, .ref a_tape, .int taped, .int o_3.2, .ref a_written, .int writtenMany, .ref a_asked, .int askedMany, .ref a_there, .ref a_counts, .ref a_lasts, .ref a_cames])), (a_g, .inl (E.2.1, 8787, .inl g)), (a_kept, .inl (E.2.1, 8787, .inl kept)), (a_tape, .inl (E.2.2.1, 60, .inl tape)), (a_written, .inl (E.2.1, 40, .inl written)), (a_asked, .inl (E.2.1, 60, .inl asked)), (a_there, .inl (E.2.1, 12, .inl there)), (a_counts, .inl (E.2.1, 12, .inl counts)), (a_lasts, .inl (E.2.1, 12, .inl lasts)), (a_cames, .inl (E.2.1, 12, .inl cames))] H locs := w
        refine lv_istore (lv' := [(6, .int o_3.1), (0, .ref h), (1, .int x1), (2, .int x2), (3, .int x3), (4, .int x4), (5, .int x5)]) hx hb dX12_replay_40 hl (by decide) rfl (fun ls hl => ?_)
        refine lv_iload hx hb dX12_replay_42 (lv_at hl 0 rfl) ?_
        refine lv_if_eq (tgt := 51) hx hb dX12_replay_44 (by decide) (fun hc => ?_) (fun hc => ?_)
        · have hf := it_t hc hf
          refine lv_iconst (v := 0) hx hb dX12_replay_51 (by decide) ?_
          exact j_X12_replay_52 B _ _ hrec hk164 hf  w (lv_sub hl [1, 2, 3, 0] rfl)
        · have hf := it_f hc hf
          refine lv_iconst (v := 1) hx hb dX12_replay_47 (by decide) ?_
          refine lv_goto (tgt := 52) hx hb dX12_replay_48 (by decide) ?_
          exact j_X12_replay_52 B _ _ hrec hk164 hf  w (lv_sub hl [1, 2, 3, 0] rfl)
noncomputable def J_X12_replay_164 (N : Nat)   (x1 : Int32) (x2 : Int32) (x4 : Int32) (g : Nat → Int32) (tape : Nat → Int32) (taped : Int32) (spot : Int32) (asked : Nat → Int32) (askedMany : Int32) (there : Nat → Int32) (counts : Nat → Int32) (lasts : Nat → Int32) (cames : Nat → Int32) : Option (Int32 × Int32 × Int32 × (Nat → Int32) × Int32 × (Nat → Int32) × (Nat → Int32) × (Nat → Int32) × (Nat → Int32)) :=
  lt (0) (fun taped_8 =>
  if (x4 = 0 : Prop) then
  some ((-1002), taped_8, spot, asked, askedMany, there, counts, lasts, cames)
  else
  bd (F_X12_goes N g asked askedMany there counts lasts cames x1 x2) (fun o_9 =>
  some (o_9.1, taped_8, spot, asked, askedMany, o_9.2.1, o_9.2.2.1, o_9.2.2.2.1, o_9.2.2.2.2)))
set_option maxHeartbeats 4000000 in
set_option maxRecDepth 100000 in
theorem j_X12_replay_164 {E : mE} {l : Launch} {p : Program} {e : Env} {s : State} {m : MethodId} {args : Array Value} {below : List Frame} {meth : Method} {c : Code} {A : Nat → Prop} {Q : State → Prop} {N : Nat} {h : Nat} {a_g : Nat} {a_kept : Nat} {a_tape : Nat} {a_written : Nat} {a_asked : Nat} {a_there : Nat} {a_counts : Nat} {a_lasts : Nat} {a_cames : Nat}  {g : Nat → Int32} {kept : Nat → Int32} {isKept : Int32} {tape : Nat → Int32} {taped0 : Int32} {spot0 : Int32} {written : Nat → Int32} {writtenMany : Int32} {asked0 : Nat → Int32} {askedMany0 : Int32} {there0 : Nat → Int32} {counts0 : Nat → Int32} {lasts0 : Nat → Int32} {cames0 : Nat → Int32}  {o : Int32 × Int32 × Int32 × (Nat → Int32) × Int32 × (Nat → Int32) × (Nat → Int32) × (Nat → Int32) × (Nat → Int32)} (B : mB E yX12_replay cX12_replay 7 (some .int) 0 0 (po_X12_replay E h a_g a_kept a_tape a_written a_asked a_there a_counts a_lasts a_cames g kept isKept tape taped0 spot0 written writtenMany asked0 askedMany0 there0 counts0 lasts0 cames0 o) p s m args below meth c A Q) {x1 : Int32} {x2 : Int32} {x4 : Int32} {taped : Int32} {spot : Int32} {asked : Nat → Int32} {askedMany : Int32} {there : Nat → Int32} {counts : Nat → Int32} {lasts : Nat → Int32} {cames : Nat → Int32}    {H : Heap} {locs : List Loc} {ls : Array Slot} (hf : J_X12_replay_164 N x1 x2 x4 g tape taped spot asked askedMany there counts lasts cames = some o)  (w : mW E A s [(h, .inr (11, [.ref a_g, .ref a_kept, .int isKept, .ref a_tape, .int taped, .int spot, .ref a_written, .int writtenMany, .ref a_asked, .int askedMany, .ref a_there, .ref a_counts, .ref a_lasts, .ref a_cames])), (a_g, .inl (E.2.1, 8787, .inl g)), (a_kept, .inl (E.2.1, 8787, .inl kept)), (a_tape, .inl (E.2.2.1, 60, .inl tape)), (a_written, .inl (E.2.1, 40, .inl written)), (a_asked, .inl (E.2.1, 60, .inl asked)), (a_there, .inl (E.2.1, 12, .inl there)), (a_counts, .inl (E.2.1, 12, .inl counts)), (a_lasts, .inl (E.2.1, 12, .inl lasts)), (a_cames, .inl (E.2.1, 12, .inl cames))] H locs) (hl : lv_has ls 7 [(0, .ref h), (1, .int x1), (2, .int x2), (4, .int x4)]) : W p l e ({ frames := 2, cells := 0, slots := 0, locals := 50 } : Room) s m args below meth c H locs 0 0 Q (F0 m 164 ls []) := by
  obtain ⟨hx, hb, hml, hown, hts⟩ := id B.1
  unfold J_X12_replay_164 at hf
  refine lv_aload_n hx hb dX12_replay_164 rfl (lv_at hl 0 rfl) ?_
  refine lv_iconst (v := 0) hx hb dX12_replay_165 (by decide) ?_
  refine mx_puti B w 0 fl_X12_54 fi_X12_4 rfl (Nat.le_of_ble_eq_true rfl) dX12_replay_166 (fun taped_8 H locs ev w => ?_)
  have hf := lt_n ev hf; clear ev
  have w : mW E A s [(h, .inr (11, [.ref a_g, .ref a_kept, .int isKept, .ref a_tape, .int taped_8, .int spot, .ref a_written, .int writtenMany, .ref a_asked, .int askedMany, .ref a_there, .ref a_counts, .ref a_lasts, .ref a_cames])), (a_g, .inl (E.2.1, 8787, .inl g)), (a_kept, .inl (E.2.1, 8787, .inl kept)), (a_tape, .inl (E.2.2.1, 60, .inl tape)), (a_written, .inl (E.2.1, 40, .inl written)), (a_asked, .inl (E.2.1, 60, .inl asked)), (a_there, .inl (E.2.1, 12, .inl there)), (a_counts, .inl (E.2.1, 12, .inl counts)), (a_lasts, .inl (E.2.1, 12, .inl lasts)), (a_cames, .inl (E.2.1, 12, .inl cames))] H locs := w
  refine lv_iload hx hb dX12_replay_169 (lv_at hl 3 rfl) ?_
  refine lv_if_eq (tgt := 183) hx hb dX12_replay_171 (by decide) (fun hc => ?_) (fun hc => ?_)
  · have hf := it_t hc hf
    refine lv_sipush (v := (-1002)) hx hb dX12_replay_183 (by decide) ?_
    cases hf
    exact mx_iret B w ⟨rfl, rfl⟩ dX12_replay_186
  · have hf := it_f hc hf
    refine lv_aload_n hx hb dX12_replay_174 rfl (lv_at hl 0 rfl) ?_
    refine lv_iload_n hx hb dX12_replay_175 rfl (lv_at hl 1 rfl) ?_
    refine lv_iload_n hx hb dX12_replay_176 rfl (lv_at hl 2 rfl) ?_
    obtain ⟨o_9, hq, hf⟩ := bd_e hf
    refine mx_callV (As := [.int x1, .int x2]) (rest := []) (wr := []) (d_X12_goes E l N h a_g a_kept a_tape a_written a_asked a_there a_counts a_lasts a_cames g kept isKept tape taped_8 spot written writtenMany asked askedMany there counts lasts cames x1 x2  o_9 hq) B w [0, 1, 2, 3, 4, 5, 6, 7, 8, 9] [] rfl rfl (by decide) (by decide) (by decide) 0 rfl rfl cv_X12_goes kw_1636 2 (by decide +kernel) ⟨Nat.le_of_ble_eq_true rfl, Nat.le_of_ble_eq_true rfl⟩ rfl hl.1 rfl (Nat.le_of_ble_eq_true rfl) dX12_replay_177 rfl rfl ⟨Nat.zero_le _, Nat.zero_le _⟩ (fun v w' H locs hpo w => ?_)
    clear hq
    obtain ⟨rfl, rfl⟩ := hpo
    have w : mW E A s [(h, .inr (11, [.ref a_g, .ref a_kept, .int isKept, .ref a_tape, .int taped_8, .int spot, .ref a_written, .int writtenMany, .ref a_asked, .int askedMany, .ref a_there, .ref a_counts, .ref a_lasts, .ref a_cames])), (a_g, .inl (E.2.1, 8787, .inl g)), (a_kept, .inl (E.2.1, 8787, .inl kept)), (a_tape, .inl (E.2.2.1, 60, .inl tape)), (a_written, .inl (E.2.1, 40, .inl written)), (a_asked, .inl (E.2.1, 60, .inl asked)), (a_there, .inl (E.2.1, 12, .inl o_9.2.1)), (a_counts, .inl (E.2.1, 12, .inl o_9.2.2.1)), (a_lasts, .inl (E.2.1, 12, .inl o_9.2.2.2.1)), (a_cames, .inl (E.2.1, 12, .inl o_9.2.2.2.2))] H locs := w
    refine lv_goto (tgt := 186) hx hb dX12_replay_180 (by decide) ?_
    cases hf
    exact mx_iret B w ⟨rfl, rfl⟩ dX12_replay_186
noncomputable def F_X12_replay (N : Nat)  (g : Nat → Int32) (tape : Nat → Int32) (taped : Int32) (spot : Int32) (asked : Nat → Int32) (askedMany : Int32) (there : Nat → Int32) (counts : Nat → Int32) (lasts : Nat → Int32) (cames : Nat → Int32) (x1 : Int32) (x2 : Int32) : Option (Int32 × Int32 × Int32 × (Nat → Int32) × Int32 × (Nat → Int32) × (Nat → Int32) × (Nat → Int32) × (Nat → Int32)) :=
  bd (F_X12_isReplay x1 x2) (fun o_1 =>
  if (o_1 = 0 : Prop) then
  some ((-1001), taped, spot, asked, askedMany, there, counts, lasts, cames)
  else
  lt (0) (fun askedMany_2 =>
  L_X12_replay_25 N (fun x4 spot asked askedMany => J_X12_replay_164 N x1 x2 x4 g tape taped spot asked askedMany there counts lasts cames) x1 x2 g tape taped there counts lasts cames N 0 1 1 spot asked askedMany_2))
set_option maxHeartbeats 4000000 in
set_option maxRecDepth 100000 in
theorem d_X12_replay (E : mE) (l : Launch) (N : Nat) (h : Nat) (a_g : Nat) (a_kept : Nat) (a_tape : Nat) (a_written : Nat) (a_asked : Nat) (a_there : Nat) (a_counts : Nat) (a_lasts : Nat) (a_cames : Nat)  (g : Nat → Int32) (kept : Nat → Int32) (isKept : Int32) (tape : Nat → Int32) (taped : Int32) (spot : Int32) (written : Nat → Int32) (writtenMany : Int32) (asked : Nat → Int32) (askedMany : Int32) (there : Nat → Int32) (counts : Nat → Int32) (lasts : Nat → Int32) (cames : Nat → Int32)  (x1 : Int32) (x2 : Int32)  (o : Int32 × Int32 × Int32 × (Nat → Int32) × Int32 × (Nat → Int32) × (Nat → Int32) × (Nat → Int32) × (Nat → Int32)) (hf : F_X12_replay N g tape taped spot asked askedMany there counts lasts cames x1 x2 = some o) : MX E l yX12_replay cX12_replay 7 (some .int) ({ frames := 2, cells := 0, slots := 0, locals := 50 } : Room) [.ref h, .int x1, .int x2] [(h, .inr (11, [.ref a_g, .ref a_kept, .int isKept, .ref a_tape, .int taped, .int spot, .ref a_written, .int writtenMany, .ref a_asked, .int askedMany, .ref a_there, .ref a_counts, .ref a_lasts, .ref a_cames])), (a_g, .inl (E.2.1, 8787, .inl g)), (a_kept, .inl (E.2.1, 8787, .inl kept)), (a_tape, .inl (E.2.2.1, 60, .inl tape)), (a_written, .inl (E.2.1, 40, .inl written)), (a_asked, .inl (E.2.1, 60, .inl asked)), (a_there, .inl (E.2.1, 12, .inl there)), (a_counts, .inl (E.2.1, 12, .inl counts)), (a_lasts, .inl (E.2.1, 12, .inl lasts)), (a_cames, .inl (E.2.1, 12, .inl cames))] (po_X12_replay E h a_g a_kept a_tape a_written a_asked a_there a_counts a_lasts a_cames g kept isKept tape taped spot written writtenMany asked askedMany there counts lasts cames o) := by
  refine mx_intro (by decide +kernel) (Nat.le_of_ble_eq_true rfl) ?_
  intro p e s m args below meth c A Q ls B w hl
  obtain ⟨hx, hb, hml, hown, hts⟩ := id B.1
  unfold F_X12_replay at hf
  have hl : lv_has ls 7 [(0, .ref h), (1, .int x1), (2, .int x2)] := hl
  refine lv_iload_n hx hb dX12_replay_0 rfl (lv_at hl 1 rfl) ?_
  refine lv_iload_n hx hb dX12_replay_1 rfl (lv_at hl 2 rfl) ?_
  obtain ⟨o_1, hq, hf⟩ := bd_e hf
  refine mx_callS (As := [.int x1, .int x2]) (rest := []) (wr := [(h, .inr (11, [.ref a_g, .ref a_kept, .int isKept, .ref a_tape, .int taped, .int spot, .ref a_written, .int writtenMany, .ref a_asked, .int askedMany, .ref a_there, .ref a_counts, .ref a_lasts, .ref a_cames])), (a_g, .inl (E.2.1, 8787, .inl g)), (a_kept, .inl (E.2.1, 8787, .inl kept)), (a_tape, .inl (E.2.2.1, 60, .inl tape)), (a_written, .inl (E.2.1, 40, .inl written)), (a_asked, .inl (E.2.1, 60, .inl asked)), (a_there, .inl (E.2.1, 12, .inl there)), (a_counts, .inl (E.2.1, 12, .inl counts)), (a_lasts, .inl (E.2.1, 12, .inl lasts)), (a_cames, .inl (E.2.1, 12, .inl cames))]) (d_X12_isReplay E l   x1 x2  o_1 hq) B w [] [0, 1, 2, 3, 4, 5, 6, 7, 8, 9] rfl rfl (by decide) (by decide) (by decide) cs_X12_isReplay kw_1633 2 (by decide +kernel) ⟨Nat.le_of_ble_eq_true rfl, Nat.le_of_ble_eq_true rfl⟩ rfl hl.1 rfl (Nat.le_of_ble_eq_true rfl) dX12_replay_2 rfl rfl ⟨Nat.zero_le _, Nat.zero_le _⟩ (fun v w' H locs hpo w => ?_)
  clear hq
  obtain ⟨rfl, rfl⟩ := hpo
  have w : mW E A s [(h, .inr (11, [.ref a_g, .ref a_kept, .int isKept, .ref a_tape, .int taped, .int spot, .ref a_written, .int writtenMany, .ref a_asked, .int askedMany, .ref a_there, .ref a_counts, .ref a_lasts, .ref a_cames])), (a_g, .inl (E.2.1, 8787, .inl g)), (a_kept, .inl (E.2.1, 8787, .inl kept)), (a_tape, .inl (E.2.2.1, 60, .inl tape)), (a_written, .inl (E.2.1, 40, .inl written)), (a_asked, .inl (E.2.1, 60, .inl asked)), (a_there, .inl (E.2.1, 12, .inl there)), (a_counts, .inl (E.2.1, 12, .inl counts)), (a_lasts, .inl (E.2.1, 12, .inl lasts)), (a_cames, .inl (E.2.1, 12, .inl cames))] H locs := w
  refine lv_if_ne (tgt := 12) hx hb dX12_replay_5 (by decide) (fun hc => ?_) (fun hc => ?_)
  · have hf := it_f hc hf
    refine lv_aload_n hx hb dX12_replay_12 rfl (lv_at hl 0 rfl) ?_
    refine lv_iconst (v := 0) hx hb dX12_replay_13 (by decide) ?_
    refine mx_puti B w 0 fl_X12_260 fi_X12_9 rfl (Nat.le_of_ble_eq_true rfl) dX12_replay_14 (fun askedMany_2 H locs ev w => ?_)
    have hf := lt_n ev hf; clear ev
    have w : mW E A s [(h, .inr (11, [.ref a_g, .ref a_kept, .int isKept, .ref a_tape, .int taped, .int spot, .ref a_written, .int writtenMany, .ref a_asked, .int askedMany_2, .ref a_there, .ref a_counts, .ref a_lasts, .ref a_cames])), (a_g, .inl (E.2.1, 8787, .inl g)), (a_kept, .inl (E.2.1, 8787, .inl kept)), (a_tape, .inl (E.2.2.1, 60, .inl tape)), (a_written, .inl (E.2.1, 40, .inl written)), (a_asked, .inl (E.2.1, 60, .inl asked)), (a_there, .inl (E.2.1, 12, .inl there)), (a_counts, .inl (E.2.1, 12, .inl counts)), (a_lasts, .inl (E.2.1, 12, .inl lasts)), (a_cames, .inl (E.2.1, 12, .inl cames))] H locs := w
    refine lv_iconst (v := 0) hx hb dX12_replay_17 (by decide) ?_
    refine lv_istore_n (lv' := [(3, .int 0), (0, .ref h), (1, .int x1), (2, .int x2)]) hx hb dX12_replay_18 rfl hl (by decide) rfl (fun ls hl => ?_)
    refine lv_iconst (v := 1) hx hb dX12_replay_19 (by decide) ?_
    refine lv_istore (lv' := [(4, .int 1), (3, .int 0), (0, .ref h), (1, .int x1), (2, .int x2)]) hx hb dX12_replay_20 hl (by decide) rfl (fun ls hl => ?_)
    refine lv_iconst (v := 1) hx hb dX12_replay_22 (by decide) ?_
    refine lv_istore (lv' := [(5, .int 1), (4, .int 1), (3, .int 0), (0, .ref h), (1, .int x1), (2, .int x2)]) hx hb dX12_replay_23 hl (by decide) rfl (fun ls hl => ?_)
    refine l_X12_replay_25 B _  ?_ N _ _ _ _ _ _ _ _ _ hf  w (lv_sub hl [3, 4, 5, 2, 1, 0] rfl)
    · intro x4 spot asked askedMany H locs ls hf w hl
      exact j_X12_replay_164 B   hf  w (lv_sub hl [0, 1, 2, 3] rfl)
  · have hf := it_t hc hf
    refine lv_sipush (v := (-1001)) hx hb dX12_replay_8 (by decide) ?_
    cases hf
    exact mx_iret B w ⟨rfl, rfl⟩ dX12_replay_11
-- X12_replayed
def po_X12_replayed (E : mE) (h : Nat) (a_g : Nat) (a_kept : Nat) (a_tape : Nat) (a_written : Nat) (a_asked : Nat) (a_there : Nat) (a_counts : Nat) (a_lasts : Nat) (a_cames : Nat)  (g : Nat → Int32) (kept : Nat → Int32) (isKept : Int32) (tape : Nat → Int32) (taped : Int32) (spot : Int32) (written : Nat → Int32) (writtenMany : Int32) (asked : Nat → Int32) (askedMany : Int32) (there : Nat → Int32) (counts : Nat → Int32) (lasts : Nat → Int32) (cames : Nat → Int32)  (o : Int32 × (Nat → Int32) × Int32 × (Nat → Int32) × (Nat → Int32) × (Nat → Int32) × (Nat → Int32)) : Option Value → va_W → Prop := (fun (v : Option Value) (w' : va_W) => v = some (.int o.1) ∧ w' = [(h, .inr (11, [.ref a_g, .ref a_kept, .int isKept, .ref a_tape, .int taped, .int spot, .ref a_written, .int writtenMany, .ref a_asked, .int o.2.2.1, .ref a_there, .ref a_counts, .ref a_lasts, .ref a_cames])), (a_g, .inl (E.2.1, 8787, .inl g)), (a_kept, .inl (E.2.1, 8787, .inl kept)), (a_tape, .inl (E.2.2.1, 60, .inl tape)), (a_written, .inl (E.2.1, 40, .inl written)), (a_asked, .inl (E.2.1, 60, .inl o.2.1)), (a_there, .inl (E.2.1, 12, .inl o.2.2.2.1)), (a_counts, .inl (E.2.1, 12, .inl o.2.2.2.2.1)), (a_lasts, .inl (E.2.1, 12, .inl o.2.2.2.2.2.1)), (a_cames, .inl (E.2.1, 12, .inl o.2.2.2.2.2.2))])
noncomputable def K_X12_replayed_25 (N : Nat)  (rec : Int32 → (Nat → Int32) → (Option (Int32 × (Nat → Int32) × Int32 × (Nat → Int32) × (Nat → Int32) × (Nat → Int32) × (Nat → Int32)))) (k55 : (Nat → Int32) → (Option (Int32 × (Nat → Int32) × Int32 × (Nat → Int32) × (Nat → Int32) × (Nat → Int32) × (Nat → Int32)))) (x1 : Int32) (x2 : Int32) (g : Nat → Int32) (askedMany : Int32) (there : Nat → Int32) (counts : Nat → Int32) (lasts : Nat → Int32) (cames : Nat → Int32) (x3 : Int32) (asked : Nat → Int32) : Option (Int32 × (Nat → Int32) × Int32 × (Nat → Int32) × (Nat → Int32) × (Nat → Int32) × (Nat → Int32)) :=
  if (askedMany ≤ x3 : Prop) then
  k55 asked
  else
  ld g 8787 (8607 + x3) (fun v_4 =>
  sto asked 60 x3 v_4 (fun asked_5 =>
  lt (x3 + 1) (fun x3_6 =>
  rec x3_6 asked_5)))
noncomputable def L_X12_replayed_25 (N : Nat)  (k55 : (Nat → Int32) → (Option (Int32 × (Nat → Int32) × Int32 × (Nat → Int32) × (Nat → Int32) × (Nat → Int32) × (Nat → Int32)))) (x1 : Int32) (x2 : Int32) (g : Nat → Int32) (askedMany : Int32) (there : Nat → Int32) (counts : Nat → Int32) (lasts : Nat → Int32) (cames : Nat → Int32) (n : Nat) : Int32 → (Nat → Int32) → (Option (Int32 × (Nat → Int32) × Int32 × (Nat → Int32) × (Nat → Int32) × (Nat → Int32) × (Nat → Int32))) :=
  Nat.rec (motive := fun _ => Int32 → (Nat → Int32) → (Option (Int32 × (Nat → Int32) × Int32 × (Nat → Int32) × (Nat → Int32) × (Nat → Int32) × (Nat → Int32)))) (fun _ _ => none) (fun _ rec => K_X12_replayed_25 N rec k55 x1 x2 g askedMany there counts lasts cames) n
set_option maxHeartbeats 4000000 in
set_option maxRecDepth 100000 in
theorem l_X12_replayed_25 {E : mE} {l : Launch} {p : Program} {e : Env} {s : State} {m : MethodId} {args : Array Value} {below : List Frame} {meth : Method} {c : Code} {A : Nat → Prop} {Q : State → Prop} {N : Nat} {h : Nat} {a_g : Nat} {a_kept : Nat} {a_tape : Nat} {a_written : Nat} {a_asked : Nat} {a_there : Nat} {a_counts : Nat} {a_lasts : Nat} {a_cames : Nat}  {g : Nat → Int32} {kept : Nat → Int32} {isKept : Int32} {tape : Nat → Int32} {taped : Int32} {spot : Int32} {written : Nat → Int32} {writtenMany : Int32} {asked0 : Nat → Int32} {askedMany0 : Int32} {there0 : Nat → Int32} {counts0 : Nat → Int32} {lasts0 : Nat → Int32} {cames0 : Nat → Int32}  {o : Int32 × (Nat → Int32) × Int32 × (Nat → Int32) × (Nat → Int32) × (Nat → Int32) × (Nat → Int32)} (B : mB E yX12_replayed cX12_replayed 4 (some .int) 0 0 (po_X12_replayed E h a_g a_kept a_tape a_written a_asked a_there a_counts a_lasts a_cames g kept isKept tape taped spot written writtenMany asked0 askedMany0 there0 counts0 lasts0 cames0 o) p s m args below meth c A Q) {askedMany : Int32} {there : Nat → Int32} {counts : Nat → Int32} {lasts : Nat → Int32} {cames : Nat → Int32}  {x1 : Int32} {x2 : Int32} (k55 : (Nat → Int32) → (Option (Int32 × (Nat → Int32) × Int32 × (Nat → Int32) × (Nat → Int32) × (Nat → Int32) × (Nat → Int32))))  (hk55 : ∀  (asked : Nat → Int32)  (H : Heap) (locs : List Loc) (ls : Array Slot), k55 asked = some o → mW E A s [(h, .inr (11, [.ref a_g, .ref a_kept, .int isKept, .ref a_tape, .int taped, .int spot, .ref a_written, .int writtenMany, .ref a_asked, .int askedMany, .ref a_there, .ref a_counts, .ref a_lasts, .ref a_cames])), (a_g, .inl (E.2.1, 8787, .inl g)), (a_kept, .inl (E.2.1, 8787, .inl kept)), (a_tape, .inl (E.2.2.1, 60, .inl tape)), (a_written, .inl (E.2.1, 40, .inl written)), (a_asked, .inl (E.2.1, 60, .inl asked)), (a_there, .inl (E.2.1, 12, .inl there)), (a_counts, .inl (E.2.1, 12, .inl counts)), (a_lasts, .inl (E.2.1, 12, .inl lasts)), (a_cames, .inl (E.2.1, 12, .inl cames))] H locs → lv_has ls 4 [(0, .ref h), (1, .int x1), (2, .int x2)] → W p l e ({ frames := 2, cells := 0, slots := 0, locals := 50 } : Room) s m args below meth c H locs 0 0 Q (F0 m 55 ls [])) : ∀ n : Nat, ∀ (x3 : Int32) (asked : Nat → Int32)  (H : Heap) (locs : List Loc) (ls : Array Slot), L_X12_replayed_25 N k55 x1 x2 g askedMany there counts lasts cames n x3 asked = some o → mW E A s [(h, .inr (11, [.ref a_g, .ref a_kept, .int isKept, .ref a_tape, .int taped, .int spot, .ref a_written, .int writtenMany, .ref a_asked, .int askedMany, .ref a_there, .ref a_counts, .ref a_lasts, .ref a_cames])), (a_g, .inl (E.2.1, 8787, .inl g)), (a_kept, .inl (E.2.1, 8787, .inl kept)), (a_tape, .inl (E.2.2.1, 60, .inl tape)), (a_written, .inl (E.2.1, 40, .inl written)), (a_asked, .inl (E.2.1, 60, .inl asked)), (a_there, .inl (E.2.1, 12, .inl there)), (a_counts, .inl (E.2.1, 12, .inl counts)), (a_lasts, .inl (E.2.1, 12, .inl lasts)), (a_cames, .inl (E.2.1, 12, .inl cames))] H locs → lv_has ls 4 [(0, .ref h), (1, .int x1), (2, .int x2), (3, .int x3)] → W p l e ({ frames := 2, cells := 0, slots := 0, locals := 50 } : Room) s m args below meth c H locs 0 0 Q (F0 m 25 ls []) := by
  obtain ⟨hx, hb, hml, hown, hts⟩ := id B.1
  intro n
  induction n with
  | zero =>
    intro x3 asked H locs ls hf w hl
    exact nomatch hf
  | succ n hrec =>
    intro x3 asked H locs ls hf w hl
    have hf : K_X12_replayed_25 N (L_X12_replayed_25 N k55 x1 x2 g askedMany there counts lasts cames n) k55 x1 x2 g askedMany there counts lasts cames x3 asked = some o := hf
    unfold K_X12_replayed_25 at hf
    refine lv_iload_n hx hb dX12_replayed_25 rfl (lv_at hl 3 rfl) ?_
    refine lv_aload_n hx hb dX12_replayed_26 rfl (lv_at hl 0 rfl) ?_
    refine mx_get B w 0 fl_X12_260 rfl rfl dX12_replayed_27 ?_
    refine lv_icmp_ge (tgt := 55) hx hb dX12_replayed_30 (by decide) (fun hc => ?_) (fun hc => ?_)
    · have hf := it_t hc hf
      exact hk55 _ _ _ _ hf  w (lv_sub hl [0, 1, 2] rfl)
    · have hf := it_f hc hf
      refine lv_aload_n hx hb dX12_replayed_33 rfl (lv_at hl 0 rfl) ?_
      refine mx_get B w 0 fl_X12_23 rfl rfl dX12_replayed_34 ?_
      refine lv_iload_n hx hb dX12_replayed_37 rfl (lv_at hl 3 rfl) ?_
      refine lv_aload_n hx hb dX12_replayed_38 rfl (lv_at hl 0 rfl) ?_
      refine mx_get B w 0 fl_X12_9 rfl rfl dX12_replayed_39 ?_
      refine lv_sipush (v := 8607) hx hb dX12_replayed_42 (by decide) ?_
      refine lv_iload_n hx hb dX12_replayed_45 rfl (lv_at hl 3 rfl) ?_
      refine lv_iadd hx hb dX12_replayed_46 ?_
      obtain ⟨hin, hf⟩ := ld_e hf
      refine mx_iald B w 1 rfl hin dX12_replayed_47 (fun v_4 ev => ?_)
      have hf := hf _ ev; clear ev
      obtain ⟨hin, hf⟩ := sto_e hf
      refine mx_iast B w 5 rfl hin dX12_replayed_48 (fun asked_5 H locs ev w => ?_)
      have hf := hf _ ev; clear ev
      have w : mW E A s [(h, .inr (11, [.ref a_g, .ref a_kept, .int isKept, .ref a_tape, .int taped, .int spot, .ref a_written, .int writtenMany, .ref a_asked, .int askedMany, .ref a_there, .ref a_counts, .ref a_lasts, .ref a_cames])), (a_g, .inl (E.2.1, 8787, .inl g)), (a_kept, .inl (E.2.1, 8787, .inl kept)), (a_tape, .inl (E.2.2.1, 60, .inl tape)), (a_written, .inl (E.2.1, 40, .inl written)), (a_asked, .inl (E.2.1, 60, .inl asked_5)), (a_there, .inl (E.2.1, 12, .inl there)), (a_counts, .inl (E.2.1, 12, .inl counts)), (a_lasts, .inl (E.2.1, 12, .inl lasts)), (a_cames, .inl (E.2.1, 12, .inl cames))] H locs := w
      obtain ⟨x3_6, ev⟩ : ∃ y : Int32, y = x3 + 1 := ⟨_, rfl⟩
      refine lv_iinc (v := x3_6) (lv' := [(3, .int x3_6), (0, .ref h), (1, .int x1), (2, .int x2)]) hx hb dX12_replayed_49 hl (k := 3) rfl (by rw [ev]; rfl) (by decide) rfl (fun ls hl => ?_)
      have hf := lt_n ev hf; clear ev
      refine lv_goto (tgt := 25) hx hb dX12_replayed_52 (by decide) ?_
      exact hrec _ _ _ _ _ hf  w (lv_sub hl [1, 2, 3, 0] rfl)
noncomputable def F_X12_replayed (N : Nat)  (g : Nat → Int32) (asked : Nat → Int32) (askedMany : Int32) (there : Nat → Int32) (counts : Nat → Int32) (lasts : Nat → Int32) (cames : Nat → Int32) (x1 : Int32) (x2 : Int32) : Option (Int32 × (Nat → Int32) × Int32 × (Nat → Int32) × (Nat → Int32) × (Nat → Int32) × (Nat → Int32)) :=
  bd (F_X12_isReplay x1 x2) (fun o_1 =>
  if (o_1 = 0 : Prop) then
  some ((-1001), asked, askedMany, there, counts, lasts, cames)
  else
  ld g 8787 18 (fun v_2 =>
  lt (v_2) (fun askedMany_3 =>
  L_X12_replayed_25 N (fun asked => bd (F_X12_goes N g asked askedMany_3 there counts lasts cames x1 x2) (fun o_7 =>
  some (o_7.1, asked, askedMany_3, o_7.2.1, o_7.2.2.1, o_7.2.2.2.1, o_7.2.2.2.2))) x1 x2 g askedMany_3 there counts lasts cames N 0 asked)))
set_option maxHeartbeats 4000000 in
set_option maxRecDepth 100000 in
theorem d_X12_replayed (E : mE) (l : Launch) (N : Nat) (h : Nat) (a_g : Nat) (a_kept : Nat) (a_tape : Nat) (a_written : Nat) (a_asked : Nat) (a_there : Nat) (a_counts : Nat) (a_lasts : Nat) (a_cames : Nat)  (g : Nat → Int32) (kept : Nat → Int32) (isKept : Int32) (tape : Nat → Int32) (taped : Int32) (spot : Int32) (written : Nat → Int32) (writtenMany : Int32) (asked : Nat → Int32) (askedMany : Int32) (there : Nat → Int32) (counts : Nat → Int32) (lasts : Nat → Int32) (cames : Nat → Int32)  (x1 : Int32) (x2 : Int32)  (o : Int32 × (Nat → Int32) × Int32 × (Nat → Int32) × (Nat → Int32) × (Nat → Int32) × (Nat → Int32)) (hf : F_X12_replayed N g asked askedMany there counts lasts cames x1 x2 = some o) : MX E l yX12_replayed cX12_replayed 4 (some .int) ({ frames := 2, cells := 0, slots := 0, locals := 50 } : Room) [.ref h, .int x1, .int x2] [(h, .inr (11, [.ref a_g, .ref a_kept, .int isKept, .ref a_tape, .int taped, .int spot, .ref a_written, .int writtenMany, .ref a_asked, .int askedMany, .ref a_there, .ref a_counts, .ref a_lasts, .ref a_cames])), (a_g, .inl (E.2.1, 8787, .inl g)), (a_kept, .inl (E.2.1, 8787, .inl kept)), (a_tape, .inl (E.2.2.1, 60, .inl tape)), (a_written, .inl (E.2.1, 40, .inl written)), (a_asked, .inl (E.2.1, 60, .inl asked)), (a_there, .inl (E.2.1, 12, .inl there)), (a_counts, .inl (E.2.1, 12, .inl counts)), (a_lasts, .inl (E.2.1, 12, .inl lasts)), (a_cames, .inl (E.2.1, 12, .inl cames))] (po_X12_replayed E h a_g a_kept a_tape a_written a_asked a_there a_counts a_lasts a_cames g kept isKept tape taped spot written writtenMany asked askedMany there counts lasts cames o) := by
  refine mx_intro (by decide +kernel) (Nat.le_of_ble_eq_true rfl) ?_
  intro p e s m args below meth c A Q ls B w hl
  obtain ⟨hx, hb, hml, hown, hts⟩ := id B.1
  unfold F_X12_replayed at hf
  have hl : lv_has ls 4 [(0, .ref h), (1, .int x1), (2, .int x2)] := hl
  refine lv_iload_n hx hb dX12_replayed_0 rfl (lv_at hl 1 rfl) ?_
  refine lv_iload_n hx hb dX12_replayed_1 rfl (lv_at hl 2 rfl) ?_
  obtain ⟨o_1, hq, hf⟩ := bd_e hf
  refine mx_callS (As := [.int x1, .int x2]) (rest := []) (wr := [(h, .inr (11, [.ref a_g, .ref a_kept, .int isKept, .ref a_tape, .int taped, .int spot, .ref a_written, .int writtenMany, .ref a_asked, .int askedMany, .ref a_there, .ref a_counts, .ref a_lasts, .ref a_cames])), (a_g, .inl (E.2.1, 8787, .inl g)), (a_kept, .inl (E.2.1, 8787, .inl kept)), (a_tape, .inl (E.2.2.1, 60, .inl tape)), (a_written, .inl (E.2.1, 40, .inl written)), (a_asked, .inl (E.2.1, 60, .inl asked)), (a_there, .inl (E.2.1, 12, .inl there)), (a_counts, .inl (E.2.1, 12, .inl counts)), (a_lasts, .inl (E.2.1, 12, .inl lasts)), (a_cames, .inl (E.2.1, 12, .inl cames))]) (d_X12_isReplay E l   x1 x2  o_1 hq) B w [] [0, 1, 2, 3, 4, 5, 6, 7, 8, 9] rfl rfl (by decide) (by decide) (by decide) cs_X12_isReplay kw_1633 2 (by decide +kernel) ⟨Nat.le_of_ble_eq_true rfl, Nat.le_of_ble_eq_true rfl⟩ rfl hl.1 rfl (Nat.le_of_ble_eq_true rfl) dX12_replayed_2 rfl rfl ⟨Nat.zero_le _, Nat.zero_le _⟩ (fun v w' H locs hpo w => ?_)
  clear hq
  obtain ⟨rfl, rfl⟩ := hpo
  have w : mW E A s [(h, .inr (11, [.ref a_g, .ref a_kept, .int isKept, .ref a_tape, .int taped, .int spot, .ref a_written, .int writtenMany, .ref a_asked, .int askedMany, .ref a_there, .ref a_counts, .ref a_lasts, .ref a_cames])), (a_g, .inl (E.2.1, 8787, .inl g)), (a_kept, .inl (E.2.1, 8787, .inl kept)), (a_tape, .inl (E.2.2.1, 60, .inl tape)), (a_written, .inl (E.2.1, 40, .inl written)), (a_asked, .inl (E.2.1, 60, .inl asked)), (a_there, .inl (E.2.1, 12, .inl there)), (a_counts, .inl (E.2.1, 12, .inl counts)), (a_lasts, .inl (E.2.1, 12, .inl lasts)), (a_cames, .inl (E.2.1, 12, .inl cames))] H locs := w
  refine lv_if_ne (tgt := 12) hx hb dX12_replayed_5 (by decide) (fun hc => ?_) (fun hc => ?_)
  · have hf := it_f hc hf
    refine lv_aload_n hx hb dX12_replayed_12 rfl (lv_at hl 0 rfl) ?_
    refine lv_aload_n hx hb dX12_replayed_13 rfl (lv_at hl 0 rfl) ?_
    refine mx_get B w 0 fl_X12_9 rfl rfl dX12_replayed_14 ?_
    refine lv_bipush (v := 18) hx hb dX12_replayed_17 (by decide) ?_
    obtain ⟨hin, hf⟩ := ld_e hf
    refine mx_iald B w 1 rfl hin dX12_replayed_19 (fun v_2 ev => ?_)
    have hf := hf _ ev; clear ev
    refine mx_puti B w 0 fl_X12_260 fi_X12_9 rfl (Nat.le_of_ble_eq_true rfl) dX12_replayed_20 (fun askedMany_3 H locs ev w => ?_)
    have hf := lt_n ev hf; clear ev
    have w : mW E A s [(h, .inr (11, [.ref a_g, .ref a_kept, .int isKept, .ref a_tape, .int taped, .int spot, .ref a_written, .int writtenMany, .ref a_asked, .int askedMany_3, .ref a_there, .ref a_counts, .ref a_lasts, .ref a_cames])), (a_g, .inl (E.2.1, 8787, .inl g)), (a_kept, .inl (E.2.1, 8787, .inl kept)), (a_tape, .inl (E.2.2.1, 60, .inl tape)), (a_written, .inl (E.2.1, 40, .inl written)), (a_asked, .inl (E.2.1, 60, .inl asked)), (a_there, .inl (E.2.1, 12, .inl there)), (a_counts, .inl (E.2.1, 12, .inl counts)), (a_lasts, .inl (E.2.1, 12, .inl lasts)), (a_cames, .inl (E.2.1, 12, .inl cames))] H locs := w
    refine lv_iconst (v := 0) hx hb dX12_replayed_23 (by decide) ?_
    refine lv_istore_n (lv' := [(3, .int 0), (0, .ref h), (1, .int x1), (2, .int x2)]) hx hb dX12_replayed_24 rfl hl (by decide) rfl (fun ls hl => ?_)
    refine l_X12_replayed_25 B _  ?_ N _ _ _ _ _ hf  w (lv_sub hl [1, 2, 3, 0] rfl)
    · intro asked H locs ls hf w hl
      refine lv_aload_n hx hb dX12_replayed_55 rfl (lv_at hl 0 rfl) ?_
      refine lv_iload_n hx hb dX12_replayed_56 rfl (lv_at hl 1 rfl) ?_
      refine lv_iload_n hx hb dX12_replayed_57 rfl (lv_at hl 2 rfl) ?_
      obtain ⟨o_7, hq, hf⟩ := bd_e hf
      refine mx_callV (As := [.int x1, .int x2]) (rest := []) (wr := []) (d_X12_goes E l N h a_g a_kept a_tape a_written a_asked a_there a_counts a_lasts a_cames g kept isKept tape taped spot written writtenMany asked askedMany_3 there counts lasts cames x1 x2  o_7 hq) B w [0, 1, 2, 3, 4, 5, 6, 7, 8, 9] [] rfl rfl (by decide) (by decide) (by decide) 0 rfl rfl cv_X12_goes kw_1636 2 (by decide +kernel) ⟨Nat.le_of_ble_eq_true rfl, Nat.le_of_ble_eq_true rfl⟩ rfl hl.1 rfl (Nat.le_of_ble_eq_true rfl) dX12_replayed_58 rfl rfl ⟨Nat.zero_le _, Nat.zero_le _⟩ (fun v w' H locs hpo w => ?_)
      clear hq
      obtain ⟨rfl, rfl⟩ := hpo
      have w : mW E A s [(h, .inr (11, [.ref a_g, .ref a_kept, .int isKept, .ref a_tape, .int taped, .int spot, .ref a_written, .int writtenMany, .ref a_asked, .int askedMany_3, .ref a_there, .ref a_counts, .ref a_lasts, .ref a_cames])), (a_g, .inl (E.2.1, 8787, .inl g)), (a_kept, .inl (E.2.1, 8787, .inl kept)), (a_tape, .inl (E.2.2.1, 60, .inl tape)), (a_written, .inl (E.2.1, 40, .inl written)), (a_asked, .inl (E.2.1, 60, .inl asked)), (a_there, .inl (E.2.1, 12, .inl o_7.2.1)), (a_counts, .inl (E.2.1, 12, .inl o_7.2.2.1)), (a_lasts, .inl (E.2.1, 12, .inl o_7.2.2.2.1)), (a_cames, .inl (E.2.1, 12, .inl o_7.2.2.2.2))] H locs := w
      cases hf
      exact mx_iret B w ⟨rfl, rfl⟩ dX12_replayed_61
  · have hf := it_t hc hf
    refine lv_sipush (v := (-1001)) hx hb dX12_replayed_8 (by decide) ?_
    cases hf
    exact mx_iret B w ⟨rfl, rfl⟩ dX12_replayed_11
-- X12_book
def po_X12_book (E : mE) (h : Nat) (a_g : Nat) (a_kept : Nat) (a_tape : Nat) (a_written : Nat) (a_asked : Nat) (a_there : Nat) (a_counts : Nat) (a_lasts : Nat) (a_cames : Nat)  (g : Nat → Int32) (kept : Nat → Int32) (isKept : Int32) (tape : Nat → Int32) (taped : Int32) (spot : Int32) (written : Nat → Int32) (writtenMany : Int32) (asked : Nat → Int32) (askedMany : Int32) (there : Nat → Int32) (counts : Nat → Int32) (lasts : Nat → Int32) (cames : Nat → Int32)  (o : Int64) : Option Value → va_W → Prop := (fun (v : Option Value) (w' : va_W) => v = some (.long o) ∧ w' = [(h, .inr (11, [.ref a_g, .ref a_kept, .int isKept, .ref a_tape, .int taped, .int spot, .ref a_written, .int writtenMany, .ref a_asked, .int askedMany, .ref a_there, .ref a_counts, .ref a_lasts, .ref a_cames])), (a_g, .inl (E.2.1, 8787, .inl g)), (a_kept, .inl (E.2.1, 8787, .inl kept)), (a_tape, .inl (E.2.2.1, 60, .inl tape)), (a_written, .inl (E.2.1, 40, .inl written)), (a_asked, .inl (E.2.1, 60, .inl asked)), (a_there, .inl (E.2.1, 12, .inl there)), (a_counts, .inl (E.2.1, 12, .inl counts)), (a_lasts, .inl (E.2.1, 12, .inl lasts)), (a_cames, .inl (E.2.1, 12, .inl cames))])
noncomputable def F_X12_book  (g : Nat → Int32) (x1 : Int32) (x2 : Int32) : Option (Int64) :=
  if (x1 < 0 : Prop) then
  some ((-1001))
  else
  bd (F_X12_in x2 0 2) (fun o_1 =>
  if (o_1 = 0 : Prop) then
  some ((-1001))
  else
  ld g 8787 19 (fun v_2 =>
  if (v_2 ≤ x1 : Prop) then
  some ((-1003))
  else
  ld g 8787 ((8667 + (3 * x1)) + x2) (fun v_3 =>
  some (v_3.toInt64))))
set_option maxHeartbeats 4000000 in
set_option maxRecDepth 100000 in
theorem d_X12_book (E : mE) (l : Launch) (h : Nat) (a_g : Nat) (a_kept : Nat) (a_tape : Nat) (a_written : Nat) (a_asked : Nat) (a_there : Nat) (a_counts : Nat) (a_lasts : Nat) (a_cames : Nat)  (g : Nat → Int32) (kept : Nat → Int32) (isKept : Int32) (tape : Nat → Int32) (taped : Int32) (spot : Int32) (written : Nat → Int32) (writtenMany : Int32) (asked : Nat → Int32) (askedMany : Int32) (there : Nat → Int32) (counts : Nat → Int32) (lasts : Nat → Int32) (cames : Nat → Int32)  (x1 : Int32) (x2 : Int32)  (o : Int64) (hf : F_X12_book g x1 x2 = some o) : MX E l yX12_book cX12_book 3 (some .long) ({ frames := 1, cells := 0, slots := 0, locals := 22 } : Room) [.ref h, .int x1, .int x2] [(h, .inr (11, [.ref a_g, .ref a_kept, .int isKept, .ref a_tape, .int taped, .int spot, .ref a_written, .int writtenMany, .ref a_asked, .int askedMany, .ref a_there, .ref a_counts, .ref a_lasts, .ref a_cames])), (a_g, .inl (E.2.1, 8787, .inl g)), (a_kept, .inl (E.2.1, 8787, .inl kept)), (a_tape, .inl (E.2.2.1, 60, .inl tape)), (a_written, .inl (E.2.1, 40, .inl written)), (a_asked, .inl (E.2.1, 60, .inl asked)), (a_there, .inl (E.2.1, 12, .inl there)), (a_counts, .inl (E.2.1, 12, .inl counts)), (a_lasts, .inl (E.2.1, 12, .inl lasts)), (a_cames, .inl (E.2.1, 12, .inl cames))] (po_X12_book E h a_g a_kept a_tape a_written a_asked a_there a_counts a_lasts a_cames g kept isKept tape taped spot written writtenMany asked askedMany there counts lasts cames o) := by
  refine mx_intro (by decide +kernel) (Nat.le_of_ble_eq_true rfl) ?_
  intro p e s m args below meth c A Q ls B w hl
  obtain ⟨hx, hb, hml, hown, hts⟩ := id B.1
  unfold F_X12_book at hf
  have hl : lv_has ls 3 [(0, .ref h), (1, .int x1), (2, .int x2)] := hl
  refine lv_iload_n hx hb dX12_book_0 rfl (lv_at hl 1 rfl) ?_
  refine lv_if_lt (tgt := 13) hx hb dX12_book_1 (by decide) (fun hc => ?_) (fun hc => ?_)
  · have hf := it_t hc hf
    refine lv_ldc2 hx hb hown (hts _ kw_1652) dX12_book_13 ?_
    cases hf
    exact mx_lret B w ⟨rfl, rfl⟩ dX12_book_16
  · have hf := it_f hc hf
    refine lv_iload_n hx hb dX12_book_4 rfl (lv_at hl 2 rfl) ?_
    refine lv_iconst (v := 0) hx hb dX12_book_5 (by decide) ?_
    refine lv_iconst (v := 2) hx hb dX12_book_6 (by decide) ?_
    obtain ⟨o_1, hq, hf⟩ := bd_e hf
    refine mx_callS (As := [.int x2, .int 0, .int 2]) (rest := []) (wr := [(h, .inr (11, [.ref a_g, .ref a_kept, .int isKept, .ref a_tape, .int taped, .int spot, .ref a_written, .int writtenMany, .ref a_asked, .int askedMany, .ref a_there, .ref a_counts, .ref a_lasts, .ref a_cames])), (a_g, .inl (E.2.1, 8787, .inl g)), (a_kept, .inl (E.2.1, 8787, .inl kept)), (a_tape, .inl (E.2.2.1, 60, .inl tape)), (a_written, .inl (E.2.1, 40, .inl written)), (a_asked, .inl (E.2.1, 60, .inl asked)), (a_there, .inl (E.2.1, 12, .inl there)), (a_counts, .inl (E.2.1, 12, .inl counts)), (a_lasts, .inl (E.2.1, 12, .inl lasts)), (a_cames, .inl (E.2.1, 12, .inl cames))]) (d_X12_in E l   x2 0 2  o_1 hq) B w [] [0, 1, 2, 3, 4, 5, 6, 7, 8, 9] rfl rfl (by decide) (by decide) (by decide) cs_X12_in kw_1274 3 (by decide +kernel) ⟨Nat.le_of_ble_eq_true rfl, Nat.le_of_ble_eq_true rfl⟩ rfl hl.1 rfl (Nat.le_of_ble_eq_true rfl) dX12_book_7 rfl rfl ⟨Nat.zero_le _, Nat.zero_le _⟩ (fun v w' H locs hpo w => ?_)
    clear hq
    obtain ⟨rfl, rfl⟩ := hpo
    have w : mW E A s [(h, .inr (11, [.ref a_g, .ref a_kept, .int isKept, .ref a_tape, .int taped, .int spot, .ref a_written, .int writtenMany, .ref a_asked, .int askedMany, .ref a_there, .ref a_counts, .ref a_lasts, .ref a_cames])), (a_g, .inl (E.2.1, 8787, .inl g)), (a_kept, .inl (E.2.1, 8787, .inl kept)), (a_tape, .inl (E.2.2.1, 60, .inl tape)), (a_written, .inl (E.2.1, 40, .inl written)), (a_asked, .inl (E.2.1, 60, .inl asked)), (a_there, .inl (E.2.1, 12, .inl there)), (a_counts, .inl (E.2.1, 12, .inl counts)), (a_lasts, .inl (E.2.1, 12, .inl lasts)), (a_cames, .inl (E.2.1, 12, .inl cames))] H locs := w
    refine lv_if_ne (tgt := 17) hx hb dX12_book_10 (by decide) (fun hc => ?_) (fun hc => ?_)
    · have hf := it_f hc hf
      refine lv_iload_n hx hb dX12_book_17 rfl (lv_at hl 1 rfl) ?_
      refine lv_aload_n hx hb dX12_book_18 rfl (lv_at hl 0 rfl) ?_
      refine mx_get B w 0 fl_X12_9 rfl rfl dX12_book_19 ?_
      refine lv_bipush (v := 19) hx hb dX12_book_22 (by decide) ?_
      obtain ⟨hin, hf⟩ := ld_e hf
      refine mx_iald B w 1 rfl hin dX12_book_24 (fun v_2 ev => ?_)
      have hf := hf _ ev; clear ev
      refine lv_icmp_ge (tgt := 46) hx hb dX12_book_25 (by decide) (fun hc => ?_) (fun hc => ?_)
      · have hf := it_t hc hf
        refine lv_ldc2 hx hb hown (hts _ kw_1653) dX12_book_46 ?_
        cases hf
        exact mx_lret B w ⟨rfl, rfl⟩ dX12_book_49
      · have hf := it_f hc hf
        refine lv_aload_n hx hb dX12_book_28 rfl (lv_at hl 0 rfl) ?_
        refine mx_get B w 0 fl_X12_9 rfl rfl dX12_book_29 ?_
        refine lv_sipush (v := 8667) hx hb dX12_book_32 (by decide) ?_
        refine lv_iconst (v := 3) hx hb dX12_book_35 (by decide) ?_
        refine lv_iload_n hx hb dX12_book_36 rfl (lv_at hl 1 rfl) ?_
        refine lv_imul hx hb dX12_book_37 ?_
        refine lv_iadd hx hb dX12_book_38 ?_
        refine lv_iload_n hx hb dX12_book_39 rfl (lv_at hl 2 rfl) ?_
        refine lv_iadd hx hb dX12_book_40 ?_
        obtain ⟨hin, hf⟩ := ld_e hf
        refine mx_iald B w 1 rfl hin dX12_book_41 (fun v_3 ev => ?_)
        have hf := hf _ ev; clear ev
        refine lv_i2l (v := v_3.toInt64) hx hb dX12_book_42 rfl ?_
        refine lv_goto (tgt := 49) hx hb dX12_book_43 (by decide) ?_
        cases hf
        exact mx_lret B w ⟨rfl, rfl⟩ dX12_book_49
    · have hf := it_t hc hf
      refine lv_ldc2 hx hb hown (hts _ kw_1652) dX12_book_13 ?_
      cases hf
      exact mx_lret B w ⟨rfl, rfl⟩ dX12_book_16
-- X12_led
def po_X12_led (E : mE) (h : Nat) (a_g : Nat) (a_kept : Nat) (a_tape : Nat) (a_written : Nat) (a_asked : Nat) (a_there : Nat) (a_counts : Nat) (a_lasts : Nat) (a_cames : Nat)  (g : Nat → Int32) (kept : Nat → Int32) (isKept : Int32) (tape : Nat → Int32) (taped : Int32) (spot : Int32) (written : Nat → Int32) (writtenMany : Int32) (asked : Nat → Int32) (askedMany : Int32) (there : Nat → Int32) (counts : Nat → Int32) (lasts : Nat → Int32) (cames : Nat → Int32)  (o : Int64) : Option Value → va_W → Prop := (fun (v : Option Value) (w' : va_W) => v = some (.long o) ∧ w' = [(h, .inr (11, [.ref a_g, .ref a_kept, .int isKept, .ref a_tape, .int taped, .int spot, .ref a_written, .int writtenMany, .ref a_asked, .int askedMany, .ref a_there, .ref a_counts, .ref a_lasts, .ref a_cames])), (a_g, .inl (E.2.1, 8787, .inl g)), (a_kept, .inl (E.2.1, 8787, .inl kept)), (a_tape, .inl (E.2.2.1, 60, .inl tape)), (a_written, .inl (E.2.1, 40, .inl written)), (a_asked, .inl (E.2.1, 60, .inl asked)), (a_there, .inl (E.2.1, 12, .inl there)), (a_counts, .inl (E.2.1, 12, .inl counts)), (a_lasts, .inl (E.2.1, 12, .inl lasts)), (a_cames, .inl (E.2.1, 12, .inl cames))])
noncomputable def F_X12_led  (g : Nat → Int32) (x1 : Int32) : Option (Int64) :=
  bd (F_X12_in x1 0 13) (fun o_1 =>
  if (o_1 = 0 : Prop) then
  some ((-1001))
  else
  ld g 8787 (20 + x1) (fun v_2 =>
  some (v_2.toInt64)))
set_option maxHeartbeats 4000000 in
set_option maxRecDepth 100000 in
theorem d_X12_led (E : mE) (l : Launch) (h : Nat) (a_g : Nat) (a_kept : Nat) (a_tape : Nat) (a_written : Nat) (a_asked : Nat) (a_there : Nat) (a_counts : Nat) (a_lasts : Nat) (a_cames : Nat)  (g : Nat → Int32) (kept : Nat → Int32) (isKept : Int32) (tape : Nat → Int32) (taped : Int32) (spot : Int32) (written : Nat → Int32) (writtenMany : Int32) (asked : Nat → Int32) (askedMany : Int32) (there : Nat → Int32) (counts : Nat → Int32) (lasts : Nat → Int32) (cames : Nat → Int32)  (x1 : Int32)  (o : Int64) (hf : F_X12_led g x1 = some o) : MX E l yX12_led cX12_led 2 (some .long) ({ frames := 1, cells := 0, slots := 0, locals := 22 } : Room) [.ref h, .int x1] [(h, .inr (11, [.ref a_g, .ref a_kept, .int isKept, .ref a_tape, .int taped, .int spot, .ref a_written, .int writtenMany, .ref a_asked, .int askedMany, .ref a_there, .ref a_counts, .ref a_lasts, .ref a_cames])), (a_g, .inl (E.2.1, 8787, .inl g)), (a_kept, .inl (E.2.1, 8787, .inl kept)), (a_tape, .inl (E.2.2.1, 60, .inl tape)), (a_written, .inl (E.2.1, 40, .inl written)), (a_asked, .inl (E.2.1, 60, .inl asked)), (a_there, .inl (E.2.1, 12, .inl there)), (a_counts, .inl (E.2.1, 12, .inl counts)), (a_lasts, .inl (E.2.1, 12, .inl lasts)), (a_cames, .inl (E.2.1, 12, .inl cames))] (po_X12_led E h a_g a_kept a_tape a_written a_asked a_there a_counts a_lasts a_cames g kept isKept tape taped spot written writtenMany asked askedMany there counts lasts cames o) := by
  refine mx_intro (by decide +kernel) (Nat.le_of_ble_eq_true rfl) ?_
  intro p e s m args below meth c A Q ls B w hl
  obtain ⟨hx, hb, hml, hown, hts⟩ := id B.1
  unfold F_X12_led at hf
  have hl : lv_has ls 2 [(0, .ref h), (1, .int x1)] := hl
  refine lv_iload_n hx hb dX12_led_0 rfl (lv_at hl 1 rfl) ?_
  refine lv_iconst (v := 0) hx hb dX12_led_1 (by decide) ?_
  refine lv_bipush (v := 13) hx hb dX12_led_2 (by decide) ?_
  obtain ⟨o_1, hq, hf⟩ := bd_e hf
  refine mx_callS (As := [.int x1, .int 0, .int 13]) (rest := []) (wr := [(h, .inr (11, [.ref a_g, .ref a_kept, .int isKept, .ref a_tape, .int taped, .int spot, .ref a_written, .int writtenMany, .ref a_asked, .int askedMany, .ref a_there, .ref a_counts, .ref a_lasts, .ref a_cames])), (a_g, .inl (E.2.1, 8787, .inl g)), (a_kept, .inl (E.2.1, 8787, .inl kept)), (a_tape, .inl (E.2.2.1, 60, .inl tape)), (a_written, .inl (E.2.1, 40, .inl written)), (a_asked, .inl (E.2.1, 60, .inl asked)), (a_there, .inl (E.2.1, 12, .inl there)), (a_counts, .inl (E.2.1, 12, .inl counts)), (a_lasts, .inl (E.2.1, 12, .inl lasts)), (a_cames, .inl (E.2.1, 12, .inl cames))]) (d_X12_in E l   x1 0 13  o_1 hq) B w [] [0, 1, 2, 3, 4, 5, 6, 7, 8, 9] rfl rfl (by decide) (by decide) (by decide) cs_X12_in kw_1274 3 (by decide +kernel) ⟨Nat.le_of_ble_eq_true rfl, Nat.le_of_ble_eq_true rfl⟩ rfl hl.1 rfl (Nat.le_of_ble_eq_true rfl) dX12_led_4 rfl rfl ⟨Nat.zero_le _, Nat.zero_le _⟩ (fun v w' H locs hpo w => ?_)
  clear hq
  obtain ⟨rfl, rfl⟩ := hpo
  have w : mW E A s [(h, .inr (11, [.ref a_g, .ref a_kept, .int isKept, .ref a_tape, .int taped, .int spot, .ref a_written, .int writtenMany, .ref a_asked, .int askedMany, .ref a_there, .ref a_counts, .ref a_lasts, .ref a_cames])), (a_g, .inl (E.2.1, 8787, .inl g)), (a_kept, .inl (E.2.1, 8787, .inl kept)), (a_tape, .inl (E.2.2.1, 60, .inl tape)), (a_written, .inl (E.2.1, 40, .inl written)), (a_asked, .inl (E.2.1, 60, .inl asked)), (a_there, .inl (E.2.1, 12, .inl there)), (a_counts, .inl (E.2.1, 12, .inl counts)), (a_lasts, .inl (E.2.1, 12, .inl lasts)), (a_cames, .inl (E.2.1, 12, .inl cames))] H locs := w
  refine lv_if_eq (tgt := 23) hx hb dX12_led_7 (by decide) (fun hc => ?_) (fun hc => ?_)
  · have hf := it_t hc hf
    refine lv_ldc2 hx hb hown (hts _ kw_1652) dX12_led_23 ?_
    cases hf
    exact mx_lret B w ⟨rfl, rfl⟩ dX12_led_26
  · have hf := it_f hc hf
    refine lv_aload_n hx hb dX12_led_10 rfl (lv_at hl 0 rfl) ?_
    refine mx_get B w 0 fl_X12_9 rfl rfl dX12_led_11 ?_
    refine lv_bipush (v := 20) hx hb dX12_led_14 (by decide) ?_
    refine lv_iload_n hx hb dX12_led_16 rfl (lv_at hl 1 rfl) ?_
    refine lv_iadd hx hb dX12_led_17 ?_
    obtain ⟨hin, hf⟩ := ld_e hf
    refine mx_iald B w 1 rfl hin dX12_led_18 (fun v_2 ev => ?_)
    have hf := hf _ ev; clear ev
    refine lv_i2l (v := v_2.toInt64) hx hb dX12_led_19 rfl ?_
    refine lv_goto (tgt := 26) hx hb dX12_led_20 (by decide) ?_
    cases hf
    exact mx_lret B w ⟨rfl, rfl⟩ dX12_led_26
-- X12_lays
def po_X12_lays (E : mE) (a0 : Nat) (a1 : Nat)  (f0 : Nat → Int32) (f1 : Nat → Int32)  (o : (Nat → Int32)) : Option Value → va_W → Prop := (fun (v : Option Value) (w' : va_W) => v = none ∧ w' = [(a0, .inl (E.2.1, 8787, .inl f0)), (a1, .inl (E.2.1, 8787, .inl o))])
noncomputable def K_X12_lays_2 (N : Nat)  (rec : Int32 → (Nat → Int32) → (Option ((Nat → Int32)))) (k21 : (Nat → Int32) → (Option ((Nat → Int32))))  (f0 : Nat → Int32) (x2 : Int32) (f1 : Nat → Int32) : Option ((Nat → Int32)) :=
  if (8787 ≤ x2 : Prop) then
  k21 f1
  else
  ld f0 8787 x2 (fun v_1 =>
  sto f1 8787 x2 v_1 (fun f1_2 =>
  lt (x2 + 1) (fun x2_3 =>
  rec x2_3 f1_2)))
noncomputable def L_X12_lays_2 (N : Nat)  (k21 : (Nat → Int32) → (Option ((Nat → Int32))))  (f0 : Nat → Int32) (n : Nat) : Int32 → (Nat → Int32) → (Option ((Nat → Int32))) :=
  Nat.rec (motive := fun _ => Int32 → (Nat → Int32) → (Option ((Nat → Int32)))) (fun _ _ => none) (fun _ rec => K_X12_lays_2 N rec k21 f0) n
set_option maxHeartbeats 4000000 in
set_option maxRecDepth 100000 in
theorem l_X12_lays_2 {E : mE} {l : Launch} {p : Program} {e : Env} {s : State} {m : MethodId} {args : Array Value} {below : List Frame} {meth : Method} {c : Code} {A : Nat → Prop} {Q : State → Prop} {N : Nat} {a0 : Nat} {a1 : Nat}  {f0 : Nat → Int32} {f10 : Nat → Int32}  {o : (Nat → Int32)} (B : mB E yX12_lays cX12_lays 3 none 0 0 (po_X12_lays E a0 a1 f0 f10 o) p s m args below meth c A Q)    (k21 : (Nat → Int32) → (Option ((Nat → Int32))))  (hk21 : ∀  (f1 : Nat → Int32)  (H : Heap) (locs : List Loc) (ls : Array Slot), k21 f1 = some o → mW E A s [(a0, .inl (E.2.1, 8787, .inl f0)), (a1, .inl (E.2.1, 8787, .inl f1))] H locs → lv_has ls 3 [] → W p l e ({ frames := 0, cells := 0, slots := 0, locals := 0 } : Room) s m args below meth c H locs 0 0 Q (F0 m 21 ls [])) : ∀ n : Nat, ∀ (x2 : Int32) (f1 : Nat → Int32)  (H : Heap) (locs : List Loc) (ls : Array Slot), L_X12_lays_2 N k21 f0 n x2 f1 = some o → mW E A s [(a0, .inl (E.2.1, 8787, .inl f0)), (a1, .inl (E.2.1, 8787, .inl f1))] H locs → lv_has ls 3 [(0, .ref a0), (1, .ref a1), (2, .int x2)] → W p l e ({ frames := 0, cells := 0, slots := 0, locals := 0 } : Room) s m args below meth c H locs 0 0 Q (F0 m 2 ls []) := by
  obtain ⟨hx, hb, hml, hown, hts⟩ := id B.1
  intro n
  induction n with
  | zero =>
    intro x2 f1 H locs ls hf w hl
    exact nomatch hf
  | succ n hrec =>
    intro x2 f1 H locs ls hf w hl
    have hf : K_X12_lays_2 N (L_X12_lays_2 N k21 f0 n) k21 f0 x2 f1 = some o := hf
    unfold K_X12_lays_2 at hf
    refine lv_iload_n hx hb dX12_lays_2 rfl (lv_at hl 2 rfl) ?_
    refine lv_sipush (v := 8787) hx hb dX12_lays_3 (by decide) ?_
    refine lv_icmp_ge (tgt := 21) hx hb dX12_lays_6 (by decide) (fun hc => ?_) (fun hc => ?_)
    · have hf := it_t hc hf
      exact hk21 _ _ _ _ hf  w (lv_sub hl [] rfl)
    · have hf := it_f hc hf
      refine lv_aload_n hx hb dX12_lays_9 rfl (lv_at hl 1 rfl) ?_
      refine lv_iload_n hx hb dX12_lays_10 rfl (lv_at hl 2 rfl) ?_
      refine lv_aload_n hx hb dX12_lays_11 rfl (lv_at hl 0 rfl) ?_
      refine lv_iload_n hx hb dX12_lays_12 rfl (lv_at hl 2 rfl) ?_
      obtain ⟨hin, hf⟩ := ld_e hf
      refine mx_iald B w 0 rfl hin dX12_lays_13 (fun v_1 ev => ?_)
      have hf := hf _ ev; clear ev
      obtain ⟨hin, hf⟩ := sto_e hf
      refine mx_iast B w 1 rfl hin dX12_lays_14 (fun f1_2 H locs ev w => ?_)
      have hf := hf _ ev; clear ev
      have w : mW E A s [(a0, .inl (E.2.1, 8787, .inl f0)), (a1, .inl (E.2.1, 8787, .inl f1_2))] H locs := w
      obtain ⟨x2_3, ev⟩ : ∃ y : Int32, y = x2 + 1 := ⟨_, rfl⟩
      refine lv_iinc (v := x2_3) (lv' := [(2, .int x2_3), (0, .ref a0), (1, .ref a1)]) hx hb dX12_lays_15 hl (k := 2) rfl (by rw [ev]; rfl) (by decide) rfl (fun ls hl => ?_)
      have hf := lt_n ev hf; clear ev
      refine lv_goto (tgt := 2) hx hb dX12_lays_18 (by decide) ?_
      exact hrec _ _ _ _ _ hf  w (lv_sub hl [1, 2, 0] rfl)
noncomputable def F_X12_lays (N : Nat)  (f0 : Nat → Int32) (f1 : Nat → Int32)  : Option ((Nat → Int32)) :=
  L_X12_lays_2 N (fun f1 => some (f1)) f0 N 0 f1
set_option maxHeartbeats 4000000 in
set_option maxRecDepth 100000 in
theorem d_X12_lays (E : mE) (l : Launch) (N : Nat) (a0 : Nat) (a1 : Nat)  (f0 : Nat → Int32) (f1 : Nat → Int32)    (o : (Nat → Int32)) (hf : F_X12_lays N f0 f1 = some o) : MX E l yX12_lays cX12_lays 3 none ({ frames := 0, cells := 0, slots := 0, locals := 0 } : Room) [.ref a0, .ref a1] [(a0, .inl (E.2.1, 8787, .inl f0)), (a1, .inl (E.2.1, 8787, .inl f1))] (po_X12_lays E a0 a1 f0 f1 o) := by
  refine mx_intro (by decide +kernel) (Nat.le_of_ble_eq_true rfl) ?_
  intro p e s m args below meth c A Q ls B w hl
  obtain ⟨hx, hb, hml, hown, hts⟩ := id B.1
  unfold F_X12_lays at hf
  have hl : lv_has ls 3 [(0, .ref a0), (1, .ref a1)] := hl
  refine lv_iconst (v := 0) hx hb dX12_lays_0 (by decide) ?_
  refine lv_istore_n (lv' := [(2, .int 0), (0, .ref a0), (1, .ref a1)]) hx hb dX12_lays_1 rfl hl (by decide) rfl (fun ls hl => ?_)
  refine l_X12_lays_2 B _  ?_ N _ _ _ _ _ hf  w (lv_sub hl [1, 2, 0] rfl)
  · intro f1 H locs ls hf w hl
    cases hf
    exact mx_vret B w ⟨rfl, rfl⟩ dX12_lays_21
-- X12_image
def po_X12_image (E : mE) (h : Nat) (a_g : Nat) (a_kept : Nat) (a_tape : Nat) (a_written : Nat) (a_asked : Nat) (a_there : Nat) (a_counts : Nat) (a_lasts : Nat) (a_cames : Nat)  (g : Nat → Int32) (kept : Nat → Int32) (isKept : Int32) (tape : Nat → Int32) (taped : Int32) (spot : Int32) (written : Nat → Int32) (writtenMany : Int32) (asked : Nat → Int32) (askedMany : Int32) (there : Nat → Int32) (counts : Nat → Int32) (lasts : Nat → Int32) (cames : Nat → Int32)  (o : Int32 × (Nat → Int32) × Int32) : Option Value → va_W → Prop := (fun (v : Option Value) (w' : va_W) => v = some (.int o.1) ∧ w' = [(h, .inr (11, [.ref a_g, .ref a_kept, .int o.2.2, .ref a_tape, .int taped, .int spot, .ref a_written, .int writtenMany, .ref a_asked, .int askedMany, .ref a_there, .ref a_counts, .ref a_lasts, .ref a_cames])), (a_g, .inl (E.2.1, 8787, .inl g)), (a_kept, .inl (E.2.1, 8787, .inl o.2.1)), (a_tape, .inl (E.2.2.1, 60, .inl tape)), (a_written, .inl (E.2.1, 40, .inl written)), (a_asked, .inl (E.2.1, 60, .inl asked)), (a_there, .inl (E.2.1, 12, .inl there)), (a_counts, .inl (E.2.1, 12, .inl counts)), (a_lasts, .inl (E.2.1, 12, .inl lasts)), (a_cames, .inl (E.2.1, 12, .inl cames))])
noncomputable def F_X12_image (N : Nat)  (g : Nat → Int32) (kept : Nat → Int32) (isKept : Int32)  : Option (Int32 × (Nat → Int32) × Int32) :=
  bd (F_X12_lays N g kept) (fun o_1 =>
  lt (1) (fun isKept_2 =>
  ld g 8787 13 (fun v_3 =>
  some (v_3, o_1, isKept_2))))
set_option maxHeartbeats 4000000 in
set_option maxRecDepth 100000 in
theorem d_X12_image (E : mE) (l : Launch) (N : Nat) (h : Nat) (a_g : Nat) (a_kept : Nat) (a_tape : Nat) (a_written : Nat) (a_asked : Nat) (a_there : Nat) (a_counts : Nat) (a_lasts : Nat) (a_cames : Nat)  (g : Nat → Int32) (kept : Nat → Int32) (isKept : Int32) (tape : Nat → Int32) (taped : Int32) (spot : Int32) (written : Nat → Int32) (writtenMany : Int32) (asked : Nat → Int32) (askedMany : Int32) (there : Nat → Int32) (counts : Nat → Int32) (lasts : Nat → Int32) (cames : Nat → Int32)    (o : Int32 × (Nat → Int32) × Int32) (hf : F_X12_image N g kept isKept = some o) : MX E l yX12_image cX12_image 1 (some .int) ({ frames := 1, cells := 0, slots := 0, locals := 22 } : Room) [.ref h] [(h, .inr (11, [.ref a_g, .ref a_kept, .int isKept, .ref a_tape, .int taped, .int spot, .ref a_written, .int writtenMany, .ref a_asked, .int askedMany, .ref a_there, .ref a_counts, .ref a_lasts, .ref a_cames])), (a_g, .inl (E.2.1, 8787, .inl g)), (a_kept, .inl (E.2.1, 8787, .inl kept)), (a_tape, .inl (E.2.2.1, 60, .inl tape)), (a_written, .inl (E.2.1, 40, .inl written)), (a_asked, .inl (E.2.1, 60, .inl asked)), (a_there, .inl (E.2.1, 12, .inl there)), (a_counts, .inl (E.2.1, 12, .inl counts)), (a_lasts, .inl (E.2.1, 12, .inl lasts)), (a_cames, .inl (E.2.1, 12, .inl cames))] (po_X12_image E h a_g a_kept a_tape a_written a_asked a_there a_counts a_lasts a_cames g kept isKept tape taped spot written writtenMany asked askedMany there counts lasts cames o) := by
  refine mx_intro (by decide +kernel) (Nat.le_of_ble_eq_true rfl) ?_
  intro p e s m args below meth c A Q ls B w hl
  obtain ⟨hx, hb, hml, hown, hts⟩ := id B.1
  unfold F_X12_image at hf
  have hl : lv_has ls 1 [(0, .ref h)] := hl
  refine lv_aload_n hx hb dX12_image_0 rfl (lv_at hl 0 rfl) ?_
  refine mx_get B w 0 fl_X12_9 rfl rfl dX12_image_1 ?_
  refine lv_aload_n hx hb dX12_image_4 rfl (lv_at hl 0 rfl) ?_
  refine mx_get B w 0 fl_X12_13 rfl rfl dX12_image_5 ?_
  obtain ⟨o_1, hq, hf⟩ := bd_e hf
  refine mx_callS (As := [.ref a_g, .ref a_kept]) (rest := []) (wr := [(h, .inr (11, [.ref a_g, .ref a_kept, .int isKept, .ref a_tape, .int taped, .int spot, .ref a_written, .int writtenMany, .ref a_asked, .int askedMany, .ref a_there, .ref a_counts, .ref a_lasts, .ref a_cames])), (a_tape, .inl (E.2.2.1, 60, .inl tape)), (a_written, .inl (E.2.1, 40, .inl written)), (a_asked, .inl (E.2.1, 60, .inl asked)), (a_there, .inl (E.2.1, 12, .inl there)), (a_counts, .inl (E.2.1, 12, .inl counts)), (a_lasts, .inl (E.2.1, 12, .inl lasts)), (a_cames, .inl (E.2.1, 12, .inl cames))]) (d_X12_lays E l N a_g a_kept g kept   o_1 hq) B w [1, 2] [0, 3, 4, 5, 6, 7, 8, 9] rfl rfl (by decide) (by decide) (by decide) cs_X12_lays kw_1662 2 (by decide +kernel) ⟨Nat.le_of_ble_eq_true rfl, Nat.le_of_ble_eq_true rfl⟩ rfl hl.1 rfl (Nat.le_of_ble_eq_true rfl) dX12_image_8 rfl rfl ⟨Nat.zero_le _, Nat.zero_le _⟩ (fun v w' H locs hpo w => ?_)
  clear hq
  obtain ⟨rfl, rfl⟩ := hpo
  have w : mW E A s [(h, .inr (11, [.ref a_g, .ref a_kept, .int isKept, .ref a_tape, .int taped, .int spot, .ref a_written, .int writtenMany, .ref a_asked, .int askedMany, .ref a_there, .ref a_counts, .ref a_lasts, .ref a_cames])), (a_g, .inl (E.2.1, 8787, .inl g)), (a_kept, .inl (E.2.1, 8787, .inl o_1)), (a_tape, .inl (E.2.2.1, 60, .inl tape)), (a_written, .inl (E.2.1, 40, .inl written)), (a_asked, .inl (E.2.1, 60, .inl asked)), (a_there, .inl (E.2.1, 12, .inl there)), (a_counts, .inl (E.2.1, 12, .inl counts)), (a_lasts, .inl (E.2.1, 12, .inl lasts)), (a_cames, .inl (E.2.1, 12, .inl cames))] H locs := w.sub [0, 8, 9, 1, 2, 3, 4, 5, 6, 7] (by decide) rfl
  refine lv_aload_n hx hb dX12_image_11 rfl (lv_at hl 0 rfl) ?_
  refine lv_iconst (v := 1) hx hb dX12_image_12 (by decide) ?_
  refine mx_putz B w 0 fl_X12_280 fz_X12_2 rfl (Nat.le_of_ble_eq_true rfl) rfl rfl dX12_image_13 (fun isKept_2 H locs ev w => ?_)
  have hf := lt_n ev hf; clear ev
  have w : mW E A s [(h, .inr (11, [.ref a_g, .ref a_kept, .int isKept_2, .ref a_tape, .int taped, .int spot, .ref a_written, .int writtenMany, .ref a_asked, .int askedMany, .ref a_there, .ref a_counts, .ref a_lasts, .ref a_cames])), (a_g, .inl (E.2.1, 8787, .inl g)), (a_kept, .inl (E.2.1, 8787, .inl o_1)), (a_tape, .inl (E.2.2.1, 60, .inl tape)), (a_written, .inl (E.2.1, 40, .inl written)), (a_asked, .inl (E.2.1, 60, .inl asked)), (a_there, .inl (E.2.1, 12, .inl there)), (a_counts, .inl (E.2.1, 12, .inl counts)), (a_lasts, .inl (E.2.1, 12, .inl lasts)), (a_cames, .inl (E.2.1, 12, .inl cames))] H locs := w
  refine lv_aload_n hx hb dX12_image_16 rfl (lv_at hl 0 rfl) ?_
  refine mx_get B w 0 fl_X12_9 rfl rfl dX12_image_17 ?_
  refine lv_bipush (v := 13) hx hb dX12_image_20 (by decide) ?_
  obtain ⟨hin, hf⟩ := ld_e hf
  refine mx_iald B w 1 rfl hin dX12_image_22 (fun v_3 ev => ?_)
  have hf := hf _ ev; clear ev
  cases hf
  exact mx_iret B w ⟨rfl, rfl⟩ dX12_image_23
-- X12_back
def po_X12_back (E : mE) (h : Nat) (a_g : Nat) (a_kept : Nat) (a_tape : Nat) (a_written : Nat) (a_asked : Nat) (a_there : Nat) (a_counts : Nat) (a_lasts : Nat) (a_cames : Nat)  (g : Nat → Int32) (kept : Nat → Int32) (isKept : Int32) (tape : Nat → Int32) (taped : Int32) (spot : Int32) (written : Nat → Int32) (writtenMany : Int32) (asked : Nat → Int32) (askedMany : Int32) (there : Nat → Int32) (counts : Nat → Int32) (lasts : Nat → Int32) (cames : Nat → Int32)  (o : Int32 × (Nat → Int32)) : Option Value → va_W → Prop := (fun (v : Option Value) (w' : va_W) => v = some (.int o.1) ∧ w' = [(h, .inr (11, [.ref a_g, .ref a_kept, .int isKept, .ref a_tape, .int taped, .int spot, .ref a_written, .int writtenMany, .ref a_asked, .int askedMany, .ref a_there, .ref a_counts, .ref a_lasts, .ref a_cames])), (a_g, .inl (E.2.1, 8787, .inl o.2)), (a_kept, .inl (E.2.1, 8787, .inl kept)), (a_tape, .inl (E.2.2.1, 60, .inl tape)), (a_written, .inl (E.2.1, 40, .inl written)), (a_asked, .inl (E.2.1, 60, .inl asked)), (a_there, .inl (E.2.1, 12, .inl there)), (a_counts, .inl (E.2.1, 12, .inl counts)), (a_lasts, .inl (E.2.1, 12, .inl lasts)), (a_cames, .inl (E.2.1, 12, .inl cames))])
noncomputable def F_X12_back (N : Nat)  (g : Nat → Int32) (kept : Nat → Int32) (isKept : Int32)  : Option (Int32 × (Nat → Int32)) :=
  if (isKept = 0 : Prop) then
  some ((-1005), g)
  else
  bd (F_X12_lays N kept g) (fun o_1 =>
  ld o_1 8787 13 (fun v_2 =>
  some (v_2, o_1)))
set_option maxHeartbeats 4000000 in
set_option maxRecDepth 100000 in
theorem d_X12_back (E : mE) (l : Launch) (N : Nat) (h : Nat) (a_g : Nat) (a_kept : Nat) (a_tape : Nat) (a_written : Nat) (a_asked : Nat) (a_there : Nat) (a_counts : Nat) (a_lasts : Nat) (a_cames : Nat)  (g : Nat → Int32) (kept : Nat → Int32) (isKept : Int32) (tape : Nat → Int32) (taped : Int32) (spot : Int32) (written : Nat → Int32) (writtenMany : Int32) (asked : Nat → Int32) (askedMany : Int32) (there : Nat → Int32) (counts : Nat → Int32) (lasts : Nat → Int32) (cames : Nat → Int32)    (o : Int32 × (Nat → Int32)) (hf : F_X12_back N g kept isKept = some o) : MX E l yX12_back cX12_back 1 (some .int) ({ frames := 1, cells := 0, slots := 0, locals := 22 } : Room) [.ref h] [(h, .inr (11, [.ref a_g, .ref a_kept, .int isKept, .ref a_tape, .int taped, .int spot, .ref a_written, .int writtenMany, .ref a_asked, .int askedMany, .ref a_there, .ref a_counts, .ref a_lasts, .ref a_cames])), (a_g, .inl (E.2.1, 8787, .inl g)), (a_kept, .inl (E.2.1, 8787, .inl kept)), (a_tape, .inl (E.2.2.1, 60, .inl tape)), (a_written, .inl (E.2.1, 40, .inl written)), (a_asked, .inl (E.2.1, 60, .inl asked)), (a_there, .inl (E.2.1, 12, .inl there)), (a_counts, .inl (E.2.1, 12, .inl counts)), (a_lasts, .inl (E.2.1, 12, .inl lasts)), (a_cames, .inl (E.2.1, 12, .inl cames))] (po_X12_back E h a_g a_kept a_tape a_written a_asked a_there a_counts a_lasts a_cames g kept isKept tape taped spot written writtenMany asked askedMany there counts lasts cames o) := by
  refine mx_intro (by decide +kernel) (Nat.le_of_ble_eq_true rfl) ?_
  intro p e s m args below meth c A Q ls B w hl
  obtain ⟨hx, hb, hml, hown, hts⟩ := id B.1
  unfold F_X12_back at hf
  have hl : lv_has ls 1 [(0, .ref h)] := hl
  refine lv_aload_n hx hb dX12_back_0 rfl (lv_at hl 0 rfl) ?_
  refine mx_get B w 0 fl_X12_280 rfl rfl dX12_back_1 ?_
  refine lv_if_ne (tgt := 11) hx hb dX12_back_4 (by decide) (fun hc => ?_) (fun hc => ?_)
  · have hf := it_f hc hf
    refine lv_aload_n hx hb dX12_back_11 rfl (lv_at hl 0 rfl) ?_
    refine mx_get B w 0 fl_X12_13 rfl rfl dX12_back_12 ?_
    refine lv_aload_n hx hb dX12_back_15 rfl (lv_at hl 0 rfl) ?_
    refine mx_get B w 0 fl_X12_9 rfl rfl dX12_back_16 ?_
    obtain ⟨o_1, hq, hf⟩ := bd_e hf
    refine mx_callS (As := [.ref a_kept, .ref a_g]) (rest := []) (wr := [(h, .inr (11, [.ref a_g, .ref a_kept, .int isKept, .ref a_tape, .int taped, .int spot, .ref a_written, .int writtenMany, .ref a_asked, .int askedMany, .ref a_there, .ref a_counts, .ref a_lasts, .ref a_cames])), (a_tape, .inl (E.2.2.1, 60, .inl tape)), (a_written, .inl (E.2.1, 40, .inl written)), (a_asked, .inl (E.2.1, 60, .inl asked)), (a_there, .inl (E.2.1, 12, .inl there)), (a_counts, .inl (E.2.1, 12, .inl counts)), (a_lasts, .inl (E.2.1, 12, .inl lasts)), (a_cames, .inl (E.2.1, 12, .inl cames))]) (d_X12_lays E l N a_kept a_g kept g   o_1 hq) B w [2, 1] [0, 3, 4, 5, 6, 7, 8, 9] rfl rfl (by decide) (by decide) (by decide) cs_X12_lays kw_1662 2 (by decide +kernel) ⟨Nat.le_of_ble_eq_true rfl, Nat.le_of_ble_eq_true rfl⟩ rfl hl.1 rfl (Nat.le_of_ble_eq_true rfl) dX12_back_19 rfl rfl ⟨Nat.zero_le _, Nat.zero_le _⟩ (fun v w' H locs hpo w => ?_)
    clear hq
    obtain ⟨rfl, rfl⟩ := hpo
    have w : mW E A s [(h, .inr (11, [.ref a_g, .ref a_kept, .int isKept, .ref a_tape, .int taped, .int spot, .ref a_written, .int writtenMany, .ref a_asked, .int askedMany, .ref a_there, .ref a_counts, .ref a_lasts, .ref a_cames])), (a_g, .inl (E.2.1, 8787, .inl o_1)), (a_kept, .inl (E.2.1, 8787, .inl kept)), (a_tape, .inl (E.2.2.1, 60, .inl tape)), (a_written, .inl (E.2.1, 40, .inl written)), (a_asked, .inl (E.2.1, 60, .inl asked)), (a_there, .inl (E.2.1, 12, .inl there)), (a_counts, .inl (E.2.1, 12, .inl counts)), (a_lasts, .inl (E.2.1, 12, .inl lasts)), (a_cames, .inl (E.2.1, 12, .inl cames))] H locs := w.sub [0, 9, 8, 1, 2, 3, 4, 5, 6, 7] (by decide) rfl
    refine lv_aload_n hx hb dX12_back_22 rfl (lv_at hl 0 rfl) ?_
    refine mx_get B w 0 fl_X12_9 rfl rfl dX12_back_23 ?_
    refine lv_bipush (v := 13) hx hb dX12_back_26 (by decide) ?_
    obtain ⟨hin, hf⟩ := ld_e hf
    refine mx_iald B w 1 rfl hin dX12_back_28 (fun v_2 ev => ?_)
    have hf := hf _ ev; clear ev
    cases hf
    exact mx_iret B w ⟨rfl, rfl⟩ dX12_back_29
  · have hf := it_t hc hf
    refine lv_sipush (v := (-1005)) hx hb dX12_back_7 (by decide) ?_
    cases hf
    exact mx_iret B w ⟨rfl, rfl⟩ dX12_back_10
-- X12_count
def po_X12_count (E : mE) (h : Nat) (a_g : Nat) (a_kept : Nat) (a_tape : Nat) (a_written : Nat) (a_asked : Nat) (a_there : Nat) (a_counts : Nat) (a_lasts : Nat) (a_cames : Nat)  (g : Nat → Int32) (kept : Nat → Int32) (isKept : Int32) (tape : Nat → Int32) (taped : Int32) (spot : Int32) (written : Nat → Int32) (writtenMany : Int32) (asked : Nat → Int32) (askedMany : Int32) (there : Nat → Int32) (counts : Nat → Int32) (lasts : Nat → Int32) (cames : Nat → Int32)  (o : Int32) : Option Value → va_W → Prop := (fun (v : Option Value) (w' : va_W) => v = some (.int o) ∧ w' = [(h, .inr (11, [.ref a_g, .ref a_kept, .int isKept, .ref a_tape, .int taped, .int spot, .ref a_written, .int writtenMany, .ref a_asked, .int askedMany, .ref a_there, .ref a_counts, .ref a_lasts, .ref a_cames])), (a_g, .inl (E.2.1, 8787, .inl g)), (a_kept, .inl (E.2.1, 8787, .inl kept)), (a_tape, .inl (E.2.2.1, 60, .inl tape)), (a_written, .inl (E.2.1, 40, .inl written)), (a_asked, .inl (E.2.1, 60, .inl asked)), (a_there, .inl (E.2.1, 12, .inl there)), (a_counts, .inl (E.2.1, 12, .inl counts)), (a_lasts, .inl (E.2.1, 12, .inl lasts)), (a_cames, .inl (E.2.1, 12, .inl cames))])
noncomputable def J_X12_count_121 (N : Nat)  (rec : Int32 → Int32 → Option (Int32)) (k129 : Int32 → Option (Int32)) (t0 : Int32) (t1 : Int32) (x3 : Int32) (g : Nat → Int32) (taped : Int32) : Option (Int32) :=
  lt (t0 + t1) (fun x2_8 =>
  lt (x3 + 1) (fun x3_9 =>
  rec x2_8 x3_9))
set_option maxHeartbeats 4000000 in
set_option maxRecDepth 100000 in
theorem j_X12_count_121 {E : mE} {l : Launch} {p : Program} {e : Env} {s : State} {m : MethodId} {args : Array Value} {below : List Frame} {meth : Method} {c : Code} {A : Nat → Prop} {Q : State → Prop} {N : Nat} {h : Nat} {a_g : Nat} {a_kept : Nat} {a_tape : Nat} {a_written : Nat} {a_asked : Nat} {a_there : Nat} {a_counts : Nat} {a_lasts : Nat} {a_cames : Nat}  {g : Nat → Int32} {kept : Nat → Int32} {isKept : Int32} {tape : Nat → Int32} {taped : Int32} {spot : Int32} {written : Nat → Int32} {writtenMany : Int32} {asked : Nat → Int32} {askedMany : Int32} {there : Nat → Int32} {counts : Nat → Int32} {lasts : Nat → Int32} {cames : Nat → Int32}  {o : Int32} (B : mB E yX12_count cX12_count 4 (some .int) 0 0 (po_X12_count E h a_g a_kept a_tape a_written a_asked a_there a_counts a_lasts a_cames g kept isKept tape taped spot written writtenMany asked askedMany there counts lasts cames o) p s m args below meth c A Q) {t0 : Int32} {t1 : Int32} {x3 : Int32}   (rec : Int32 → Int32 → Option (Int32)) (k129 : Int32 → Option (Int32)) (hrec : ∀ (x2 : Int32) (x3 : Int32)   (H : Heap) (locs : List Loc) (ls : Array Slot), rec x2 x3 = some o → mW E A s [(h, .inr (11, [.ref a_g, .ref a_kept, .int isKept, .ref a_tape, .int taped, .int spot, .ref a_written, .int writtenMany, .ref a_asked, .int askedMany, .ref a_there, .ref a_counts, .ref a_lasts, .ref a_cames])), (a_g, .inl (E.2.1, 8787, .inl g)), (a_kept, .inl (E.2.1, 8787, .inl kept)), (a_tape, .inl (E.2.2.1, 60, .inl tape)), (a_written, .inl (E.2.1, 40, .inl written)), (a_asked, .inl (E.2.1, 60, .inl asked)), (a_there, .inl (E.2.1, 12, .inl there)), (a_counts, .inl (E.2.1, 12, .inl counts)), (a_lasts, .inl (E.2.1, 12, .inl lasts)), (a_cames, .inl (E.2.1, 12, .inl cames))] H locs → lv_has ls 4 [(0, .ref h), (2, .int x2), (3, .int x3)] → W p l e ({ frames := 3, cells := 0, slots := 0, locals := 69 } : Room) s m args below meth c H locs 0 0 Q (F0 m 96 ls [])) (hk129 : ∀ (x2 : Int32)   (H : Heap) (locs : List Loc) (ls : Array Slot), k129 x2 = some o → mW E A s [(h, .inr (11, [.ref a_g, .ref a_kept, .int isKept, .ref a_tape, .int taped, .int spot, .ref a_written, .int writtenMany, .ref a_asked, .int askedMany, .ref a_there, .ref a_counts, .ref a_lasts, .ref a_cames])), (a_g, .inl (E.2.1, 8787, .inl g)), (a_kept, .inl (E.2.1, 8787, .inl kept)), (a_tape, .inl (E.2.2.1, 60, .inl tape)), (a_written, .inl (E.2.1, 40, .inl written)), (a_asked, .inl (E.2.1, 60, .inl asked)), (a_there, .inl (E.2.1, 12, .inl there)), (a_counts, .inl (E.2.1, 12, .inl counts)), (a_lasts, .inl (E.2.1, 12, .inl lasts)), (a_cames, .inl (E.2.1, 12, .inl cames))] H locs → lv_has ls 4 [(2, .int x2)] → W p l e ({ frames := 3, cells := 0, slots := 0, locals := 69 } : Room) s m args below meth c H locs 0 0 Q (F0 m 129 ls [])) {H : Heap} {locs : List Loc} {ls : Array Slot} (hf : J_X12_count_121 N rec k129 t0 t1 x3 g taped = some o)  (w : mW E A s [(h, .inr (11, [.ref a_g, .ref a_kept, .int isKept, .ref a_tape, .int taped, .int spot, .ref a_written, .int writtenMany, .ref a_asked, .int askedMany, .ref a_there, .ref a_counts, .ref a_lasts, .ref a_cames])), (a_g, .inl (E.2.1, 8787, .inl g)), (a_kept, .inl (E.2.1, 8787, .inl kept)), (a_tape, .inl (E.2.2.1, 60, .inl tape)), (a_written, .inl (E.2.1, 40, .inl written)), (a_asked, .inl (E.2.1, 60, .inl asked)), (a_there, .inl (E.2.1, 12, .inl there)), (a_counts, .inl (E.2.1, 12, .inl counts)), (a_lasts, .inl (E.2.1, 12, .inl lasts)), (a_cames, .inl (E.2.1, 12, .inl cames))] H locs) (hl : lv_has ls 4 [(0, .ref h), (3, .int x3)]) : W p l e ({ frames := 3, cells := 0, slots := 0, locals := 69 } : Room) s m args below meth c H locs 0 0 Q (F0 m 121 ls [.int t1, .int t0]) := by
  obtain ⟨hx, hb, hml, hown, hts⟩ := id B.1
  unfold J_X12_count_121 at hf
  refine lv_iadd hx hb dX12_count_121 ?_
  refine lv_topi (fun x2_8 ev => ?_)
  have hf := lt_n ev hf; clear ev
  refine lv_istore_n (lv' := [(2, .int x2_8), (0, .ref h), (3, .int x3)]) hx hb dX12_count_122 rfl hl (by decide) rfl (fun ls hl => ?_)
  obtain ⟨x3_9, ev⟩ : ∃ y : Int32, y = x3 + 1 := ⟨_, rfl⟩
  refine lv_iinc (v := x3_9) (lv' := [(3, .int x3_9), (2, .int x2_8), (0, .ref h)]) hx hb dX12_count_123 hl (k := 2) rfl (by rw [ev]; rfl) (by decide) rfl (fun ls hl => ?_)
  have hf := lt_n ev hf; clear ev
  refine lv_goto (tgt := 96) hx hb dX12_count_126 (by decide) ?_
  exact hrec _ _ _ _ _ hf  w (lv_sub hl [2, 1, 0] rfl)
noncomputable def K_X12_count_96 (N : Nat)  (rec : Int32 → Int32 → Option (Int32)) (k129 : Int32 → Option (Int32))  (g : Nat → Int32) (taped : Int32) (x2 : Int32) (x3 : Int32)  : Option (Int32) :=
  ld g 8787 13 (fun v_6 =>
  if (v_6 ≤ x3 : Prop) then
  k129 x2
  else
  bd (F_X12_isStale g x3) (fun o_7 =>
  if (o_7 = 0 : Prop) then
  J_X12_count_121 N rec k129 x2 0 x3 g taped
  else
  J_X12_count_121 N rec k129 x2 1 x3 g taped))
noncomputable def L_X12_count_96 (N : Nat)  (k129 : Int32 → Option (Int32))  (g : Nat → Int32) (taped : Int32) (n : Nat) : Int32 → Int32 → Option (Int32) :=
  Nat.rec (motive := fun _ => Int32 → Int32 → Option (Int32)) (fun _ _ => none) (fun _ rec => K_X12_count_96 N rec k129 g taped) n
set_option maxHeartbeats 4000000 in
set_option maxRecDepth 100000 in
theorem l_X12_count_96 {E : mE} {l : Launch} {p : Program} {e : Env} {s : State} {m : MethodId} {args : Array Value} {below : List Frame} {meth : Method} {c : Code} {A : Nat → Prop} {Q : State → Prop} {N : Nat} {h : Nat} {a_g : Nat} {a_kept : Nat} {a_tape : Nat} {a_written : Nat} {a_asked : Nat} {a_there : Nat} {a_counts : Nat} {a_lasts : Nat} {a_cames : Nat}  {g : Nat → Int32} {kept : Nat → Int32} {isKept : Int32} {tape : Nat → Int32} {taped : Int32} {spot : Int32} {written : Nat → Int32} {writtenMany : Int32} {asked : Nat → Int32} {askedMany : Int32} {there : Nat → Int32} {counts : Nat → Int32} {lasts : Nat → Int32} {cames : Nat → Int32}  {o : Int32} (B : mB E yX12_count cX12_count 4 (some .int) 0 0 (po_X12_count E h a_g a_kept a_tape a_written a_asked a_there a_counts a_lasts a_cames g kept isKept tape taped spot written writtenMany asked askedMany there counts lasts cames o) p s m args below meth c A Q)    (k129 : Int32 → Option (Int32))  (hk129 : ∀ (x2 : Int32)   (H : Heap) (locs : List Loc) (ls : Array Slot), k129 x2 = some o → mW E A s [(h, .inr (11, [.ref a_g, .ref a_kept, .int isKept, .ref a_tape, .int taped, .int spot, .ref a_written, .int writtenMany, .ref a_asked, .int askedMany, .ref a_there, .ref a_counts, .ref a_lasts, .ref a_cames])), (a_g, .inl (E.2.1, 8787, .inl g)), (a_kept, .inl (E.2.1, 8787, .inl kept)), (a_tape, .inl (E.2.2.1, 60, .inl tape)), (a_written, .inl (E.2.1, 40, .inl written)), (a_asked, .inl (E.2.1, 60, .inl asked)), (a_there, .inl (E.2.1, 12, .inl there)), (a_counts, .inl (E.2.1, 12, .inl counts)), (a_lasts, .inl (E.2.1, 12, .inl lasts)), (a_cames, .inl (E.2.1, 12, .inl cames))] H locs → lv_has ls 4 [(2, .int x2)] → W p l e ({ frames := 3, cells := 0, slots := 0, locals := 69 } : Room) s m args below meth c H locs 0 0 Q (F0 m 129 ls [])) : ∀ n : Nat, ∀ (x2 : Int32) (x3 : Int32)   (H : Heap) (locs : List Loc) (ls : Array Slot), L_X12_count_96 N k129 g taped n x2 x3 = some o → mW E A s [(h, .inr (11, [.ref a_g, .ref a_kept, .int isKept, .ref a_tape, .int taped, .int spot, .ref a_written, .int writtenMany, .ref a_asked, .int askedMany, .ref a_there, .ref a_counts, .ref a_lasts, .ref a_cames])), (a_g, .inl (E.2.1, 8787, .inl g)), (a_kept, .inl (E.2.1, 8787, .inl kept)), (a_tape, .inl (E.2.2.1, 60, .inl tape)), (a_written, .inl (E.2.1, 40, .inl written)), (a_asked, .inl (E.2.1, 60, .inl asked)), (a_there, .inl (E.2.1, 12, .inl there)), (a_counts, .inl (E.2.1, 12, .inl counts)), (a_lasts, .inl (E.2.1, 12, .inl lasts)), (a_cames, .inl (E.2.1, 12, .inl cames))] H locs → lv_has ls 4 [(0, .ref h), (2, .int x2), (3, .int x3)] → W p l e ({ frames := 3, cells := 0, slots := 0, locals := 69 } : Room) s m args below meth c H locs 0 0 Q (F0 m 96 ls []) := by
  obtain ⟨hx, hb, hml, hown, hts⟩ := id B.1
  intro n
  induction n with
  | zero =>
    intro x2 x3 H locs ls hf w hl
    exact nomatch hf
  | succ n hrec =>
    intro x2 x3 H locs ls hf w hl
    have hf : K_X12_count_96 N (L_X12_count_96 N k129 g taped n) k129 g taped x2 x3 = some o := hf
    unfold K_X12_count_96 at hf
    refine lv_iload_n hx hb dX12_count_96 rfl (lv_at hl 2 rfl) ?_
    refine lv_aload_n hx hb dX12_count_97 rfl (lv_at hl 0 rfl) ?_
    refine mx_get B w 0 fl_X12_9 rfl rfl dX12_count_98 ?_
    refine lv_bipush (v := 13) hx hb dX12_count_101 (by decide) ?_
    obtain ⟨hin, hf⟩ := ld_e hf
    refine mx_iald B w 1 rfl hin dX12_count_103 (fun v_6 ev => ?_)
    have hf := hf _ ev; clear ev
    refine lv_icmp_ge (tgt := 129) hx hb dX12_count_104 (by decide) (fun hc => ?_) (fun hc => ?_)
    · have hf := it_t hc hf
      exact hk129 _ _ _ _ hf  w (lv_sub hl [1] rfl)
    · have hf := it_f hc hf
      refine lv_iload_n hx hb dX12_count_107 rfl (lv_at hl 1 rfl) ?_
      refine lv_aload_n hx hb dX12_count_108 rfl (lv_at hl 0 rfl) ?_
      refine lv_iload_n hx hb dX12_count_109 rfl (lv_at hl 2 rfl) ?_
      obtain ⟨o_7, hq, hf⟩ := bd_e hf
      refine mx_callV (As := [.int x3]) (rest := [.int x2]) (wr := []) (d_X12_isStale E l  h a_g a_kept a_tape a_written a_asked a_there a_counts a_lasts a_cames g kept isKept tape taped spot written writtenMany asked askedMany there counts lasts cames x3  o_7 hq) B w [0, 1, 2, 3, 4, 5, 6, 7, 8, 9] [] rfl rfl (by decide) (by decide) (by decide) 0 rfl rfl cv_X12_isStale kw_1337 1 (by decide +kernel) ⟨Nat.le_of_ble_eq_true rfl, Nat.le_of_ble_eq_true rfl⟩ rfl hl.1 rfl (Nat.le_of_ble_eq_true rfl) dX12_count_110 rfl rfl ⟨Nat.zero_le _, Nat.zero_le _⟩ (fun v w' H locs hpo w => ?_)
      clear hq
      obtain ⟨rfl, rfl⟩ := hpo
      have w : mW E A s [(h, .inr (11, [.ref a_g, .ref a_kept, .int isKept, .ref a_tape, .int taped, .int spot, .ref a_written, .int writtenMany, .ref a_asked, .int askedMany, .ref a_there, .ref a_counts, .ref a_lasts, .ref a_cames])), (a_g, .inl (E.2.1, 8787, .inl g)), (a_kept, .inl (E.2.1, 8787, .inl kept)), (a_tape, .inl (E.2.2.1, 60, .inl tape)), (a_written, .inl (E.2.1, 40, .inl written)), (a_asked, .inl (E.2.1, 60, .inl asked)), (a_there, .inl (E.2.1, 12, .inl there)), (a_counts, .inl (E.2.1, 12, .inl counts)), (a_lasts, .inl (E.2.1, 12, .inl lasts)), (a_cames, .inl (E.2.1, 12, .inl cames))] H locs := w
      refine lv_if_eq (tgt := 120) hx hb dX12_count_113 (by decide) (fun hc => ?_) (fun hc => ?_)
      · have hf := it_t hc hf
        refine lv_iconst (v := 0) hx hb dX12_count_120 (by decide) ?_
        exact j_X12_count_121 B _ _ hrec hk129 hf  w (lv_sub hl [0, 2] rfl)
      · have hf := it_f hc hf
        refine lv_iconst (v := 1) hx hb dX12_count_116 (by decide) ?_
        refine lv_goto (tgt := 121) hx hb dX12_count_117 (by decide) ?_
        exact j_X12_count_121 B _ _ hrec hk129 hf  w (lv_sub hl [0, 2] rfl)
noncomputable def J_X12_count_154 (N : Nat)  (rec : Int32 → Int32 → Option (Int32)) (k162 : Int32 → Option (Int32)) (t0 : Int32) (t1 : Int32) (x3 : Int32) (g : Nat → Int32) (taped : Int32) : Option (Int32) :=
  lt (t0 + t1) (fun x2_11 =>
  lt (x3 + 1) (fun x3_12 =>
  rec x2_11 x3_12))
set_option maxHeartbeats 4000000 in
set_option maxRecDepth 100000 in
theorem j_X12_count_154 {E : mE} {l : Launch} {p : Program} {e : Env} {s : State} {m : MethodId} {args : Array Value} {below : List Frame} {meth : Method} {c : Code} {A : Nat → Prop} {Q : State → Prop} {N : Nat} {h : Nat} {a_g : Nat} {a_kept : Nat} {a_tape : Nat} {a_written : Nat} {a_asked : Nat} {a_there : Nat} {a_counts : Nat} {a_lasts : Nat} {a_cames : Nat}  {g : Nat → Int32} {kept : Nat → Int32} {isKept : Int32} {tape : Nat → Int32} {taped : Int32} {spot : Int32} {written : Nat → Int32} {writtenMany : Int32} {asked : Nat → Int32} {askedMany : Int32} {there : Nat → Int32} {counts : Nat → Int32} {lasts : Nat → Int32} {cames : Nat → Int32}  {o : Int32} (B : mB E yX12_count cX12_count 4 (some .int) 0 0 (po_X12_count E h a_g a_kept a_tape a_written a_asked a_there a_counts a_lasts a_cames g kept isKept tape taped spot written writtenMany asked askedMany there counts lasts cames o) p s m args below meth c A Q) {t0 : Int32} {t1 : Int32} {x3 : Int32}   (rec : Int32 → Int32 → Option (Int32)) (k162 : Int32 → Option (Int32)) (hrec : ∀ (x2 : Int32) (x3 : Int32)   (H : Heap) (locs : List Loc) (ls : Array Slot), rec x2 x3 = some o → mW E A s [(h, .inr (11, [.ref a_g, .ref a_kept, .int isKept, .ref a_tape, .int taped, .int spot, .ref a_written, .int writtenMany, .ref a_asked, .int askedMany, .ref a_there, .ref a_counts, .ref a_lasts, .ref a_cames])), (a_g, .inl (E.2.1, 8787, .inl g)), (a_kept, .inl (E.2.1, 8787, .inl kept)), (a_tape, .inl (E.2.2.1, 60, .inl tape)), (a_written, .inl (E.2.1, 40, .inl written)), (a_asked, .inl (E.2.1, 60, .inl asked)), (a_there, .inl (E.2.1, 12, .inl there)), (a_counts, .inl (E.2.1, 12, .inl counts)), (a_lasts, .inl (E.2.1, 12, .inl lasts)), (a_cames, .inl (E.2.1, 12, .inl cames))] H locs → lv_has ls 4 [(0, .ref h), (2, .int x2), (3, .int x3)] → W p l e ({ frames := 3, cells := 0, slots := 0, locals := 69 } : Room) s m args below meth c H locs 0 0 Q (F0 m 133 ls [])) (hk162 : ∀ (x2 : Int32)   (H : Heap) (locs : List Loc) (ls : Array Slot), k162 x2 = some o → mW E A s [(h, .inr (11, [.ref a_g, .ref a_kept, .int isKept, .ref a_tape, .int taped, .int spot, .ref a_written, .int writtenMany, .ref a_asked, .int askedMany, .ref a_there, .ref a_counts, .ref a_lasts, .ref a_cames])), (a_g, .inl (E.2.1, 8787, .inl g)), (a_kept, .inl (E.2.1, 8787, .inl kept)), (a_tape, .inl (E.2.2.1, 60, .inl tape)), (a_written, .inl (E.2.1, 40, .inl written)), (a_asked, .inl (E.2.1, 60, .inl asked)), (a_there, .inl (E.2.1, 12, .inl there)), (a_counts, .inl (E.2.1, 12, .inl counts)), (a_lasts, .inl (E.2.1, 12, .inl lasts)), (a_cames, .inl (E.2.1, 12, .inl cames))] H locs → lv_has ls 4 [(2, .int x2)] → W p l e ({ frames := 3, cells := 0, slots := 0, locals := 69 } : Room) s m args below meth c H locs 0 0 Q (F0 m 162 ls [])) {H : Heap} {locs : List Loc} {ls : Array Slot} (hf : J_X12_count_154 N rec k162 t0 t1 x3 g taped = some o)  (w : mW E A s [(h, .inr (11, [.ref a_g, .ref a_kept, .int isKept, .ref a_tape, .int taped, .int spot, .ref a_written, .int writtenMany, .ref a_asked, .int askedMany, .ref a_there, .ref a_counts, .ref a_lasts, .ref a_cames])), (a_g, .inl (E.2.1, 8787, .inl g)), (a_kept, .inl (E.2.1, 8787, .inl kept)), (a_tape, .inl (E.2.2.1, 60, .inl tape)), (a_written, .inl (E.2.1, 40, .inl written)), (a_asked, .inl (E.2.1, 60, .inl asked)), (a_there, .inl (E.2.1, 12, .inl there)), (a_counts, .inl (E.2.1, 12, .inl counts)), (a_lasts, .inl (E.2.1, 12, .inl lasts)), (a_cames, .inl (E.2.1, 12, .inl cames))] H locs) (hl : lv_has ls 4 [(0, .ref h), (3, .int x3)]) : W p l e ({ frames := 3, cells := 0, slots := 0, locals := 69 } : Room) s m args below meth c H locs 0 0 Q (F0 m 154 ls [.int t1, .int t0]) := by
  obtain ⟨hx, hb, hml, hown, hts⟩ := id B.1
  unfold J_X12_count_154 at hf
  refine lv_iadd hx hb dX12_count_154 ?_
  refine lv_topi (fun x2_11 ev => ?_)
  have hf := lt_n ev hf; clear ev
  refine lv_istore_n (lv' := [(2, .int x2_11), (0, .ref h), (3, .int x3)]) hx hb dX12_count_155 rfl hl (by decide) rfl (fun ls hl => ?_)
  obtain ⟨x3_12, ev⟩ : ∃ y : Int32, y = x3 + 1 := ⟨_, rfl⟩
  refine lv_iinc (v := x3_12) (lv' := [(3, .int x3_12), (2, .int x2_11), (0, .ref h)]) hx hb dX12_count_156 hl (k := 2) rfl (by rw [ev]; rfl) (by decide) rfl (fun ls hl => ?_)
  have hf := lt_n ev hf; clear ev
  refine lv_goto (tgt := 133) hx hb dX12_count_159 (by decide) ?_
  exact hrec _ _ _ _ _ hf  w (lv_sub hl [2, 1, 0] rfl)
noncomputable def K_X12_count_133 (N : Nat)  (rec : Int32 → Int32 → Option (Int32)) (k162 : Int32 → Option (Int32))  (g : Nat → Int32) (taped : Int32) (x2 : Int32) (x3 : Int32)  : Option (Int32) :=
  if (16 ≤ x3 : Prop) then
  k162 x2
  else
  bd (F_X12_box N g x3 1) (fun o_10 =>
  if (o_10 ≤ 0 : Prop) then
  J_X12_count_154 N rec k162 x2 0 x3 g taped
  else
  J_X12_count_154 N rec k162 x2 1 x3 g taped)
noncomputable def L_X12_count_133 (N : Nat)  (k162 : Int32 → Option (Int32))  (g : Nat → Int32) (taped : Int32) (n : Nat) : Int32 → Int32 → Option (Int32) :=
  Nat.rec (motive := fun _ => Int32 → Int32 → Option (Int32)) (fun _ _ => none) (fun _ rec => K_X12_count_133 N rec k162 g taped) n
set_option maxHeartbeats 4000000 in
set_option maxRecDepth 100000 in
theorem l_X12_count_133 {E : mE} {l : Launch} {p : Program} {e : Env} {s : State} {m : MethodId} {args : Array Value} {below : List Frame} {meth : Method} {c : Code} {A : Nat → Prop} {Q : State → Prop} {N : Nat} {h : Nat} {a_g : Nat} {a_kept : Nat} {a_tape : Nat} {a_written : Nat} {a_asked : Nat} {a_there : Nat} {a_counts : Nat} {a_lasts : Nat} {a_cames : Nat}  {g : Nat → Int32} {kept : Nat → Int32} {isKept : Int32} {tape : Nat → Int32} {taped : Int32} {spot : Int32} {written : Nat → Int32} {writtenMany : Int32} {asked : Nat → Int32} {askedMany : Int32} {there : Nat → Int32} {counts : Nat → Int32} {lasts : Nat → Int32} {cames : Nat → Int32}  {o : Int32} (B : mB E yX12_count cX12_count 4 (some .int) 0 0 (po_X12_count E h a_g a_kept a_tape a_written a_asked a_there a_counts a_lasts a_cames g kept isKept tape taped spot written writtenMany asked askedMany there counts lasts cames o) p s m args below meth c A Q)    (k162 : Int32 → Option (Int32))  (hk162 : ∀ (x2 : Int32)   (H : Heap) (locs : List Loc) (ls : Array Slot), k162 x2 = some o → mW E A s [(h, .inr (11, [.ref a_g, .ref a_kept, .int isKept, .ref a_tape, .int taped, .int spot, .ref a_written, .int writtenMany, .ref a_asked, .int askedMany, .ref a_there, .ref a_counts, .ref a_lasts, .ref a_cames])), (a_g, .inl (E.2.1, 8787, .inl g)), (a_kept, .inl (E.2.1, 8787, .inl kept)), (a_tape, .inl (E.2.2.1, 60, .inl tape)), (a_written, .inl (E.2.1, 40, .inl written)), (a_asked, .inl (E.2.1, 60, .inl asked)), (a_there, .inl (E.2.1, 12, .inl there)), (a_counts, .inl (E.2.1, 12, .inl counts)), (a_lasts, .inl (E.2.1, 12, .inl lasts)), (a_cames, .inl (E.2.1, 12, .inl cames))] H locs → lv_has ls 4 [(2, .int x2)] → W p l e ({ frames := 3, cells := 0, slots := 0, locals := 69 } : Room) s m args below meth c H locs 0 0 Q (F0 m 162 ls [])) : ∀ n : Nat, ∀ (x2 : Int32) (x3 : Int32)   (H : Heap) (locs : List Loc) (ls : Array Slot), L_X12_count_133 N k162 g taped n x2 x3 = some o → mW E A s [(h, .inr (11, [.ref a_g, .ref a_kept, .int isKept, .ref a_tape, .int taped, .int spot, .ref a_written, .int writtenMany, .ref a_asked, .int askedMany, .ref a_there, .ref a_counts, .ref a_lasts, .ref a_cames])), (a_g, .inl (E.2.1, 8787, .inl g)), (a_kept, .inl (E.2.1, 8787, .inl kept)), (a_tape, .inl (E.2.2.1, 60, .inl tape)), (a_written, .inl (E.2.1, 40, .inl written)), (a_asked, .inl (E.2.1, 60, .inl asked)), (a_there, .inl (E.2.1, 12, .inl there)), (a_counts, .inl (E.2.1, 12, .inl counts)), (a_lasts, .inl (E.2.1, 12, .inl lasts)), (a_cames, .inl (E.2.1, 12, .inl cames))] H locs → lv_has ls 4 [(0, .ref h), (2, .int x2), (3, .int x3)] → W p l e ({ frames := 3, cells := 0, slots := 0, locals := 69 } : Room) s m args below meth c H locs 0 0 Q (F0 m 133 ls []) := by
  obtain ⟨hx, hb, hml, hown, hts⟩ := id B.1
  intro n
  induction n with
  | zero =>
    intro x2 x3 H locs ls hf w hl
    exact nomatch hf
  | succ n hrec =>
    intro x2 x3 H locs ls hf w hl
    have hf : K_X12_count_133 N (L_X12_count_133 N k162 g taped n) k162 g taped x2 x3 = some o := hf
    unfold K_X12_count_133 at hf
    refine lv_iload_n hx hb dX12_count_133 rfl (lv_at hl 2 rfl) ?_
    refine lv_bipush (v := 16) hx hb dX12_count_134 (by decide) ?_
    refine lv_icmp_ge (tgt := 162) hx hb dX12_count_136 (by decide) (fun hc => ?_) (fun hc => ?_)
    · have hf := it_t hc hf
      exact hk162 _ _ _ _ hf  w (lv_sub hl [1] rfl)
    · have hf := it_f hc hf
      refine lv_iload_n hx hb dX12_count_139 rfl (lv_at hl 1 rfl) ?_
      refine lv_aload_n hx hb dX12_count_140 rfl (lv_at hl 0 rfl) ?_
      refine lv_iload_n hx hb dX12_count_141 rfl (lv_at hl 2 rfl) ?_
      refine lv_iconst (v := 1) hx hb dX12_count_142 (by decide) ?_
      obtain ⟨o_10, hq, hf⟩ := bd_e hf
      refine mx_callV (As := [.int x3, .int 1]) (rest := [.int x2]) (wr := []) (d_X12_box E l N h a_g a_kept a_tape a_written a_asked a_there a_counts a_lasts a_cames g kept isKept tape taped spot written writtenMany asked askedMany there counts lasts cames x3 1  o_10 hq) B w [0, 1, 2, 3, 4, 5, 6, 7, 8, 9] [] rfl rfl (by decide) (by decide) (by decide) 0 rfl rfl cv_X12_box kw_1673 2 (by decide +kernel) ⟨Nat.le_of_ble_eq_true rfl, Nat.le_of_ble_eq_true rfl⟩ rfl hl.1 rfl (Nat.le_of_ble_eq_true rfl) dX12_count_143 rfl rfl ⟨Nat.zero_le _, Nat.zero_le _⟩ (fun v w' H locs hpo w => ?_)
      clear hq
      obtain ⟨rfl, rfl⟩ := hpo
      have w : mW E A s [(h, .inr (11, [.ref a_g, .ref a_kept, .int isKept, .ref a_tape, .int taped, .int spot, .ref a_written, .int writtenMany, .ref a_asked, .int askedMany, .ref a_there, .ref a_counts, .ref a_lasts, .ref a_cames])), (a_g, .inl (E.2.1, 8787, .inl g)), (a_kept, .inl (E.2.1, 8787, .inl kept)), (a_tape, .inl (E.2.2.1, 60, .inl tape)), (a_written, .inl (E.2.1, 40, .inl written)), (a_asked, .inl (E.2.1, 60, .inl asked)), (a_there, .inl (E.2.1, 12, .inl there)), (a_counts, .inl (E.2.1, 12, .inl counts)), (a_lasts, .inl (E.2.1, 12, .inl lasts)), (a_cames, .inl (E.2.1, 12, .inl cames))] H locs := w
      refine lv_if_le (tgt := 153) hx hb dX12_count_146 (by decide) (fun hc => ?_) (fun hc => ?_)
      · have hf := it_t hc hf
        refine lv_iconst (v := 0) hx hb dX12_count_153 (by decide) ?_
        exact j_X12_count_154 B _ _ hrec hk162 hf  w (lv_sub hl [0, 2] rfl)
      · have hf := it_f hc hf
        refine lv_iconst (v := 1) hx hb dX12_count_149 (by decide) ?_
        refine lv_goto (tgt := 154) hx hb dX12_count_150 (by decide) ?_
        exact j_X12_count_154 B _ _ hrec hk162 hf  w (lv_sub hl [0, 2] rfl)
noncomputable def J_X12_count_193 (N : Nat)  (rec : Int32 → Int32 → Option (Int32)) (k201 : Int32 → Option (Int32)) (t0 : Int32) (t1 : Int32) (x3 : Int32) (g : Nat → Int32) (taped : Int32) : Option (Int32) :=
  lt (t0 + t1) (fun x2_15 =>
  lt (x3 + 1) (fun x3_16 =>
  rec x2_15 x3_16))
set_option maxHeartbeats 4000000 in
set_option maxRecDepth 100000 in
theorem j_X12_count_193 {E : mE} {l : Launch} {p : Program} {e : Env} {s : State} {m : MethodId} {args : Array Value} {below : List Frame} {meth : Method} {c : Code} {A : Nat → Prop} {Q : State → Prop} {N : Nat} {h : Nat} {a_g : Nat} {a_kept : Nat} {a_tape : Nat} {a_written : Nat} {a_asked : Nat} {a_there : Nat} {a_counts : Nat} {a_lasts : Nat} {a_cames : Nat}  {g : Nat → Int32} {kept : Nat → Int32} {isKept : Int32} {tape : Nat → Int32} {taped : Int32} {spot : Int32} {written : Nat → Int32} {writtenMany : Int32} {asked : Nat → Int32} {askedMany : Int32} {there : Nat → Int32} {counts : Nat → Int32} {lasts : Nat → Int32} {cames : Nat → Int32}  {o : Int32} (B : mB E yX12_count cX12_count 4 (some .int) 0 0 (po_X12_count E h a_g a_kept a_tape a_written a_asked a_there a_counts a_lasts a_cames g kept isKept tape taped spot written writtenMany asked askedMany there counts lasts cames o) p s m args below meth c A Q) {t0 : Int32} {t1 : Int32} {x3 : Int32}   (rec : Int32 → Int32 → Option (Int32)) (k201 : Int32 → Option (Int32)) (hrec : ∀ (x2 : Int32) (x3 : Int32)   (H : Heap) (locs : List Loc) (ls : Array Slot), rec x2 x3 = some o → mW E A s [(h, .inr (11, [.ref a_g, .ref a_kept, .int isKept, .ref a_tape, .int taped, .int spot, .ref a_written, .int writtenMany, .ref a_asked, .int askedMany, .ref a_there, .ref a_counts, .ref a_lasts, .ref a_cames])), (a_g, .inl (E.2.1, 8787, .inl g)), (a_kept, .inl (E.2.1, 8787, .inl kept)), (a_tape, .inl (E.2.2.1, 60, .inl tape)), (a_written, .inl (E.2.1, 40, .inl written)), (a_asked, .inl (E.2.1, 60, .inl asked)), (a_there, .inl (E.2.1, 12, .inl there)), (a_counts, .inl (E.2.1, 12, .inl counts)), (a_lasts, .inl (E.2.1, 12, .inl lasts)), (a_cames, .inl (E.2.1, 12, .inl cames))] H locs → lv_has ls 4 [(0, .ref h), (2, .int x2), (3, .int x3)] → W p l e ({ frames := 3, cells := 0, slots := 0, locals := 69 } : Room) s m args below meth c H locs 0 0 Q (F0 m 166 ls [])) (hk201 : ∀ (x2 : Int32)   (H : Heap) (locs : List Loc) (ls : Array Slot), k201 x2 = some o → mW E A s [(h, .inr (11, [.ref a_g, .ref a_kept, .int isKept, .ref a_tape, .int taped, .int spot, .ref a_written, .int writtenMany, .ref a_asked, .int askedMany, .ref a_there, .ref a_counts, .ref a_lasts, .ref a_cames])), (a_g, .inl (E.2.1, 8787, .inl g)), (a_kept, .inl (E.2.1, 8787, .inl kept)), (a_tape, .inl (E.2.2.1, 60, .inl tape)), (a_written, .inl (E.2.1, 40, .inl written)), (a_asked, .inl (E.2.1, 60, .inl asked)), (a_there, .inl (E.2.1, 12, .inl there)), (a_counts, .inl (E.2.1, 12, .inl counts)), (a_lasts, .inl (E.2.1, 12, .inl lasts)), (a_cames, .inl (E.2.1, 12, .inl cames))] H locs → lv_has ls 4 [(2, .int x2)] → W p l e ({ frames := 3, cells := 0, slots := 0, locals := 69 } : Room) s m args below meth c H locs 0 0 Q (F0 m 201 ls [])) {H : Heap} {locs : List Loc} {ls : Array Slot} (hf : J_X12_count_193 N rec k201 t0 t1 x3 g taped = some o)  (w : mW E A s [(h, .inr (11, [.ref a_g, .ref a_kept, .int isKept, .ref a_tape, .int taped, .int spot, .ref a_written, .int writtenMany, .ref a_asked, .int askedMany, .ref a_there, .ref a_counts, .ref a_lasts, .ref a_cames])), (a_g, .inl (E.2.1, 8787, .inl g)), (a_kept, .inl (E.2.1, 8787, .inl kept)), (a_tape, .inl (E.2.2.1, 60, .inl tape)), (a_written, .inl (E.2.1, 40, .inl written)), (a_asked, .inl (E.2.1, 60, .inl asked)), (a_there, .inl (E.2.1, 12, .inl there)), (a_counts, .inl (E.2.1, 12, .inl counts)), (a_lasts, .inl (E.2.1, 12, .inl lasts)), (a_cames, .inl (E.2.1, 12, .inl cames))] H locs) (hl : lv_has ls 4 [(0, .ref h), (3, .int x3)]) : W p l e ({ frames := 3, cells := 0, slots := 0, locals := 69 } : Room) s m args below meth c H locs 0 0 Q (F0 m 193 ls [.int t1, .int t0]) := by
  obtain ⟨hx, hb, hml, hown, hts⟩ := id B.1
  unfold J_X12_count_193 at hf
  refine lv_iadd hx hb dX12_count_193 ?_
  refine lv_topi (fun x2_15 ev => ?_)
  have hf := lt_n ev hf; clear ev
  refine lv_istore_n (lv' := [(2, .int x2_15), (0, .ref h), (3, .int x3)]) hx hb dX12_count_194 rfl hl (by decide) rfl (fun ls hl => ?_)
  obtain ⟨x3_16, ev⟩ : ∃ y : Int32, y = x3 + 1 := ⟨_, rfl⟩
  refine lv_iinc (v := x3_16) (lv' := [(3, .int x3_16), (2, .int x2_15), (0, .ref h)]) hx hb dX12_count_195 hl (k := 2) rfl (by rw [ev]; rfl) (by decide) rfl (fun ls hl => ?_)
  have hf := lt_n ev hf; clear ev
  refine lv_goto (tgt := 166) hx hb dX12_count_198 (by decide) ?_
  exact hrec _ _ _ _ _ hf  w (lv_sub hl [2, 1, 0] rfl)
noncomputable def K_X12_count_166 (N : Nat)  (rec : Int32 → Int32 → Option (Int32)) (k201 : Int32 → Option (Int32))  (g : Nat → Int32) (taped : Int32) (x2 : Int32) (x3 : Int32)  : Option (Int32) :=
  ld g 8787 13 (fun v_13 =>
  if (v_13 ≤ x3 : Prop) then
  k201 x2
  else
  bd (F_X12_at g x3 8) (fun o_14 =>
  if (o_14 = 0 : Prop) then
  J_X12_count_193 N rec k201 x2 0 x3 g taped
  else
  J_X12_count_193 N rec k201 x2 1 x3 g taped))
noncomputable def L_X12_count_166 (N : Nat)  (k201 : Int32 → Option (Int32))  (g : Nat → Int32) (taped : Int32) (n : Nat) : Int32 → Int32 → Option (Int32) :=
  Nat.rec (motive := fun _ => Int32 → Int32 → Option (Int32)) (fun _ _ => none) (fun _ rec => K_X12_count_166 N rec k201 g taped) n
set_option maxHeartbeats 4000000 in
set_option maxRecDepth 100000 in
theorem l_X12_count_166 {E : mE} {l : Launch} {p : Program} {e : Env} {s : State} {m : MethodId} {args : Array Value} {below : List Frame} {meth : Method} {c : Code} {A : Nat → Prop} {Q : State → Prop} {N : Nat} {h : Nat} {a_g : Nat} {a_kept : Nat} {a_tape : Nat} {a_written : Nat} {a_asked : Nat} {a_there : Nat} {a_counts : Nat} {a_lasts : Nat} {a_cames : Nat}  {g : Nat → Int32} {kept : Nat → Int32} {isKept : Int32} {tape : Nat → Int32} {taped : Int32} {spot : Int32} {written : Nat → Int32} {writtenMany : Int32} {asked : Nat → Int32} {askedMany : Int32} {there : Nat → Int32} {counts : Nat → Int32} {lasts : Nat → Int32} {cames : Nat → Int32}  {o : Int32} (B : mB E yX12_count cX12_count 4 (some .int) 0 0 (po_X12_count E h a_g a_kept a_tape a_written a_asked a_there a_counts a_lasts a_cames g kept isKept tape taped spot written writtenMany asked askedMany there counts lasts cames o) p s m args below meth c A Q)    (k201 : Int32 → Option (Int32))  (hk201 : ∀ (x2 : Int32)   (H : Heap) (locs : List Loc) (ls : Array Slot), k201 x2 = some o → mW E A s [(h, .inr (11, [.ref a_g, .ref a_kept, .int isKept, .ref a_tape, .int taped, .int spot, .ref a_written, .int writtenMany, .ref a_asked, .int askedMany, .ref a_there, .ref a_counts, .ref a_lasts, .ref a_cames])), (a_g, .inl (E.2.1, 8787, .inl g)), (a_kept, .inl (E.2.1, 8787, .inl kept)), (a_tape, .inl (E.2.2.1, 60, .inl tape)), (a_written, .inl (E.2.1, 40, .inl written)), (a_asked, .inl (E.2.1, 60, .inl asked)), (a_there, .inl (E.2.1, 12, .inl there)), (a_counts, .inl (E.2.1, 12, .inl counts)), (a_lasts, .inl (E.2.1, 12, .inl lasts)), (a_cames, .inl (E.2.1, 12, .inl cames))] H locs → lv_has ls 4 [(2, .int x2)] → W p l e ({ frames := 3, cells := 0, slots := 0, locals := 69 } : Room) s m args below meth c H locs 0 0 Q (F0 m 201 ls [])) : ∀ n : Nat, ∀ (x2 : Int32) (x3 : Int32)   (H : Heap) (locs : List Loc) (ls : Array Slot), L_X12_count_166 N k201 g taped n x2 x3 = some o → mW E A s [(h, .inr (11, [.ref a_g, .ref a_kept, .int isKept, .ref a_tape, .int taped, .int spot, .ref a_written, .int writtenMany, .ref a_asked, .int askedMany, .ref a_there, .ref a_counts, .ref a_lasts, .ref a_cames])), (a_g, .inl (E.2.1, 8787, .inl g)), (a_kept, .inl (E.2.1, 8787, .inl kept)), (a_tape, .inl (E.2.2.1, 60, .inl tape)), (a_written, .inl (E.2.1, 40, .inl written)), (a_asked, .inl (E.2.1, 60, .inl asked)), (a_there, .inl (E.2.1, 12, .inl there)), (a_counts, .inl (E.2.1, 12, .inl counts)), (a_lasts, .inl (E.2.1, 12, .inl lasts)), (a_cames, .inl (E.2.1, 12, .inl cames))] H locs → lv_has ls 4 [(0, .ref h), (2, .int x2), (3, .int x3)] → W p l e ({ frames := 3, cells := 0, slots := 0, locals := 69 } : Room) s m args below meth c H locs 0 0 Q (F0 m 166 ls []) := by
  obtain ⟨hx, hb, hml, hown, hts⟩ := id B.1
  intro n
  induction n with
  | zero =>
    intro x2 x3 H locs ls hf w hl
    exact nomatch hf
  | succ n hrec =>
    intro x2 x3 H locs ls hf w hl
    have hf : K_X12_count_166 N (L_X12_count_166 N k201 g taped n) k201 g taped x2 x3 = some o := hf
    unfold K_X12_count_166 at hf
    refine lv_iload_n hx hb dX12_count_166 rfl (lv_at hl 2 rfl) ?_
    refine lv_aload_n hx hb dX12_count_167 rfl (lv_at hl 0 rfl) ?_
    refine mx_get B w 0 fl_X12_9 rfl rfl dX12_count_168 ?_
    refine lv_bipush (v := 13) hx hb dX12_count_171 (by decide) ?_
    obtain ⟨hin, hf⟩ := ld_e hf
    refine mx_iald B w 1 rfl hin dX12_count_173 (fun v_13 ev => ?_)
    have hf := hf _ ev; clear ev
    refine lv_icmp_ge (tgt := 201) hx hb dX12_count_174 (by decide) (fun hc => ?_) (fun hc => ?_)
    · have hf := it_t hc hf
      exact hk201 _ _ _ _ hf  w (lv_sub hl [1] rfl)
    · have hf := it_f hc hf
      refine lv_iload_n hx hb dX12_count_177 rfl (lv_at hl 1 rfl) ?_
      refine lv_aload_n hx hb dX12_count_178 rfl (lv_at hl 0 rfl) ?_
      refine lv_iload_n hx hb dX12_count_179 rfl (lv_at hl 2 rfl) ?_
      refine lv_bipush (v := 8) hx hb dX12_count_180 (by decide) ?_
      obtain ⟨o_14, hq, hf⟩ := bd_e hf
      refine mx_callV (As := [.int x3, .int 8]) (rest := [.int x2]) (wr := []) (d_X12_at E l  h a_g a_kept a_tape a_written a_asked a_there a_counts a_lasts a_cames g kept isKept tape taped spot written writtenMany asked askedMany there counts lasts cames x3 8  o_14 hq) B w [0, 1, 2, 3, 4, 5, 6, 7, 8, 9] [] rfl rfl (by decide) (by decide) (by decide) 0 rfl rfl cv_X12_at kw_1325 2 (by decide +kernel) ⟨Nat.le_of_ble_eq_true rfl, Nat.le_of_ble_eq_true rfl⟩ rfl hl.1 rfl (Nat.le_of_ble_eq_true rfl) dX12_count_182 rfl rfl ⟨Nat.zero_le _, Nat.zero_le _⟩ (fun v w' H locs hpo w => ?_)
      clear hq
      obtain ⟨rfl, rfl⟩ := hpo
      have w : mW E A s [(h, .inr (11, [.ref a_g, .ref a_kept, .int isKept, .ref a_tape, .int taped, .int spot, .ref a_written, .int writtenMany, .ref a_asked, .int askedMany, .ref a_there, .ref a_counts, .ref a_lasts, .ref a_cames])), (a_g, .inl (E.2.1, 8787, .inl g)), (a_kept, .inl (E.2.1, 8787, .inl kept)), (a_tape, .inl (E.2.2.1, 60, .inl tape)), (a_written, .inl (E.2.1, 40, .inl written)), (a_asked, .inl (E.2.1, 60, .inl asked)), (a_there, .inl (E.2.1, 12, .inl there)), (a_counts, .inl (E.2.1, 12, .inl counts)), (a_lasts, .inl (E.2.1, 12, .inl lasts)), (a_cames, .inl (E.2.1, 12, .inl cames))] H locs := w
      refine lv_if_eq (tgt := 192) hx hb dX12_count_185 (by decide) (fun hc => ?_) (fun hc => ?_)
      · have hf := it_t hc hf
        refine lv_iconst (v := 0) hx hb dX12_count_192 (by decide) ?_
        exact j_X12_count_193 B _ _ hrec hk201 hf  w (lv_sub hl [0, 2] rfl)
      · have hf := it_f hc hf
        refine lv_iconst (v := 1) hx hb dX12_count_188 (by decide) ?_
        refine lv_goto (tgt := 193) hx hb dX12_count_189 (by decide) ?_
        exact j_X12_count_193 B _ _ hrec hk201 hf  w (lv_sub hl [0, 2] rfl)
noncomputable def F_X12_count (N : Nat)  (g : Nat → Int32) (taped : Int32) (x1 : Int32) : Option (Int32) :=
  if (x1 = 0 : Prop) then
  ld g 8787 13 (fun v_1 =>
  some (v_1))
  else
  if (x1 = 1 : Prop) then
  bd (F_X12_weight N g) (fun o_2 =>
  some (o_2))
  else
  if (x1 = 2 : Prop) then
  bd (F_X12_loads N g 2) (fun o_3 =>
  some (o_3))
  else
  if (x1 = 3 : Prop) then
  bd (F_X12_loads N g 1) (fun o_4 =>
  some (o_4))
  else
  if (x1 = 4 : Prop) then
  some (taped)
  else
  if (x1 = 5 : Prop) then
  ld g 8787 8 (fun v_5 =>
  some (v_5))
  else
  if (x1 = 6 : Prop) then
  L_X12_count_96 N (fun x2 => some (x2)) g taped N 0 0
  else
  if (x1 = 7 : Prop) then
  L_X12_count_133 N (fun x2 => some (x2)) g taped N 0 0
  else
  if (x1 = 8 : Prop) then
  L_X12_count_166 N (fun x2 => some (x2)) g taped N 0 0
  else
  if (x1 = 9 : Prop) then
  ld g 8787 14 (fun v_17 =>
  some (v_17))
  else
  some ((-1001))
set_option maxHeartbeats 4000000 in
set_option maxRecDepth 100000 in
theorem d_X12_count (E : mE) (l : Launch) (N : Nat) (h : Nat) (a_g : Nat) (a_kept : Nat) (a_tape : Nat) (a_written : Nat) (a_asked : Nat) (a_there : Nat) (a_counts : Nat) (a_lasts : Nat) (a_cames : Nat)  (g : Nat → Int32) (kept : Nat → Int32) (isKept : Int32) (tape : Nat → Int32) (taped : Int32) (spot : Int32) (written : Nat → Int32) (writtenMany : Int32) (asked : Nat → Int32) (askedMany : Int32) (there : Nat → Int32) (counts : Nat → Int32) (lasts : Nat → Int32) (cames : Nat → Int32)  (x1 : Int32)  (o : Int32) (hf : F_X12_count N g taped x1 = some o) : MX E l yX12_count cX12_count 4 (some .int) ({ frames := 3, cells := 0, slots := 0, locals := 69 } : Room) [.ref h, .int x1] [(h, .inr (11, [.ref a_g, .ref a_kept, .int isKept, .ref a_tape, .int taped, .int spot, .ref a_written, .int writtenMany, .ref a_asked, .int askedMany, .ref a_there, .ref a_counts, .ref a_lasts, .ref a_cames])), (a_g, .inl (E.2.1, 8787, .inl g)), (a_kept, .inl (E.2.1, 8787, .inl kept)), (a_tape, .inl (E.2.2.1, 60, .inl tape)), (a_written, .inl (E.2.1, 40, .inl written)), (a_asked, .inl (E.2.1, 60, .inl asked)), (a_there, .inl (E.2.1, 12, .inl there)), (a_counts, .inl (E.2.1, 12, .inl counts)), (a_lasts, .inl (E.2.1, 12, .inl lasts)), (a_cames, .inl (E.2.1, 12, .inl cames))] (po_X12_count E h a_g a_kept a_tape a_written a_asked a_there a_counts a_lasts a_cames g kept isKept tape taped spot written writtenMany asked askedMany there counts lasts cames o) := by
  refine mx_intro (by decide +kernel) (Nat.le_of_ble_eq_true rfl) ?_
  intro p e s m args below meth c A Q ls B w hl
  obtain ⟨hx, hb, hml, hown, hts⟩ := id B.1
  unfold F_X12_count at hf
  have hl : lv_has ls 4 [(0, .ref h), (1, .int x1)] := hl
  refine lv_iconst (v := 0) hx hb dX12_count_0 (by decide) ?_
  refine lv_istore_n (lv' := [(2, .int 0), (0, .ref h), (1, .int x1)]) hx hb dX12_count_1 rfl hl (by decide) rfl (fun ls hl => ?_)
  refine lv_iload_n hx hb dX12_count_2 rfl (lv_at hl 2 rfl) ?_
  by_cases hs0 : x1 = 0
  · have hf := it_t hs0 hf
    refine lv_tableIn (off := 53) (tgt := 56) hx hb dX12_count_3 (by rw [hs0]; decide) (by rw [hs0]; decide) (by rw [hs0]; decide) (by decide) ?_
    refine lv_aload_n hx hb dX12_count_56 rfl (lv_at hl 1 rfl) ?_
    refine mx_get B w 0 fl_X12_9 rfl rfl dX12_count_57 ?_
    refine lv_bipush (v := 13) hx hb dX12_count_60 (by decide) ?_
    obtain ⟨hin, hf⟩ := ld_e hf
    refine mx_iald B w 1 rfl hin dX12_count_62 (fun v_1 ev => ?_)
    have hf := hf _ ev; clear ev
    cases hf
    exact mx_iret B w ⟨rfl, rfl⟩ dX12_count_63
  · have hf := it_f hs0 hf
    by_cases hs1 : x1 = 1
    · have hf := it_t hs1 hf
      refine lv_tableIn (off := 61) (tgt := 64) hx hb dX12_count_3 (by rw [hs1]; decide) (by rw [hs1]; decide) (by rw [hs1]; decide) (by decide) ?_
      refine lv_aload_n hx hb dX12_count_64 rfl (lv_at hl 1 rfl) ?_
      obtain ⟨o_2, hq, hf⟩ := bd_e hf
      refine mx_callV (As := []) (rest := []) (wr := []) (d_X12_weight E l N h a_g a_kept a_tape a_written a_asked a_there a_counts a_lasts a_cames g kept isKept tape taped spot written writtenMany asked askedMany there counts lasts cames   o_2 hq) B w [0, 1, 2, 3, 4, 5, 6, 7, 8, 9] [] rfl rfl (by decide) (by decide) (by decide) 0 rfl rfl cv_X12_weight kw_1321 0 (by decide +kernel) ⟨Nat.le_of_ble_eq_true rfl, Nat.le_of_ble_eq_true rfl⟩ rfl hl.1 rfl (Nat.le_of_ble_eq_true rfl) dX12_count_65 rfl rfl ⟨Nat.zero_le _, Nat.zero_le _⟩ (fun v w' H locs hpo w => ?_)
      clear hq
      obtain ⟨rfl, rfl⟩ := hpo
      have w : mW E A s [(h, .inr (11, [.ref a_g, .ref a_kept, .int isKept, .ref a_tape, .int taped, .int spot, .ref a_written, .int writtenMany, .ref a_asked, .int askedMany, .ref a_there, .ref a_counts, .ref a_lasts, .ref a_cames])), (a_g, .inl (E.2.1, 8787, .inl g)), (a_kept, .inl (E.2.1, 8787, .inl kept)), (a_tape, .inl (E.2.2.1, 60, .inl tape)), (a_written, .inl (E.2.1, 40, .inl written)), (a_asked, .inl (E.2.1, 60, .inl asked)), (a_there, .inl (E.2.1, 12, .inl there)), (a_counts, .inl (E.2.1, 12, .inl counts)), (a_lasts, .inl (E.2.1, 12, .inl lasts)), (a_cames, .inl (E.2.1, 12, .inl cames))] H locs := w
      cases hf
      exact mx_iret B w ⟨rfl, rfl⟩ dX12_count_68
    · have hf := it_f hs1 hf
      by_cases hs2 : x1 = 2
      · have hf := it_t hs2 hf
        refine lv_tableIn (off := 66) (tgt := 69) hx hb dX12_count_3 (by rw [hs2]; decide) (by rw [hs2]; decide) (by rw [hs2]; decide) (by decide) ?_
        refine lv_aload_n hx hb dX12_count_69 rfl (lv_at hl 1 rfl) ?_
        refine lv_iconst (v := 2) hx hb dX12_count_70 (by decide) ?_
        obtain ⟨o_3, hq, hf⟩ := bd_e hf
        refine mx_callV (As := [.int 2]) (rest := []) (wr := []) (d_X12_loads E l N h a_g a_kept a_tape a_written a_asked a_there a_counts a_lasts a_cames g kept isKept tape taped spot written writtenMany asked askedMany there counts lasts cames 2  o_3 hq) B w [0, 1, 2, 3, 4, 5, 6, 7, 8, 9] [] rfl rfl (by decide) (by decide) (by decide) 0 rfl rfl cv_X12_loads kw_1381 1 (by decide +kernel) ⟨Nat.le_of_ble_eq_true rfl, Nat.le_of_ble_eq_true rfl⟩ rfl hl.1 rfl (Nat.le_of_ble_eq_true rfl) dX12_count_71 rfl rfl ⟨Nat.zero_le _, Nat.zero_le _⟩ (fun v w' H locs hpo w => ?_)
        clear hq
        obtain ⟨rfl, rfl⟩ := hpo
        have w : mW E A s [(h, .inr (11, [.ref a_g, .ref a_kept, .int isKept, .ref a_tape, .int taped, .int spot, .ref a_written, .int writtenMany, .ref a_asked, .int askedMany, .ref a_there, .ref a_counts, .ref a_lasts, .ref a_cames])), (a_g, .inl (E.2.1, 8787, .inl g)), (a_kept, .inl (E.2.1, 8787, .inl kept)), (a_tape, .inl (E.2.2.1, 60, .inl tape)), (a_written, .inl (E.2.1, 40, .inl written)), (a_asked, .inl (E.2.1, 60, .inl asked)), (a_there, .inl (E.2.1, 12, .inl there)), (a_counts, .inl (E.2.1, 12, .inl counts)), (a_lasts, .inl (E.2.1, 12, .inl lasts)), (a_cames, .inl (E.2.1, 12, .inl cames))] H locs := w
        cases hf
        exact mx_iret B w ⟨rfl, rfl⟩ dX12_count_74
      · have hf := it_f hs2 hf
        by_cases hs3 : x1 = 3
        · have hf := it_t hs3 hf
          refine lv_tableIn (off := 72) (tgt := 75) hx hb dX12_count_3 (by rw [hs3]; decide) (by rw [hs3]; decide) (by rw [hs3]; decide) (by decide) ?_
          refine lv_aload_n hx hb dX12_count_75 rfl (lv_at hl 1 rfl) ?_
          refine lv_iconst (v := 1) hx hb dX12_count_76 (by decide) ?_
          obtain ⟨o_4, hq, hf⟩ := bd_e hf
          refine mx_callV (As := [.int 1]) (rest := []) (wr := []) (d_X12_loads E l N h a_g a_kept a_tape a_written a_asked a_there a_counts a_lasts a_cames g kept isKept tape taped spot written writtenMany asked askedMany there counts lasts cames 1  o_4 hq) B w [0, 1, 2, 3, 4, 5, 6, 7, 8, 9] [] rfl rfl (by decide) (by decide) (by decide) 0 rfl rfl cv_X12_loads kw_1381 1 (by decide +kernel) ⟨Nat.le_of_ble_eq_true rfl, Nat.le_of_ble_eq_true rfl⟩ rfl hl.1 rfl (Nat.le_of_ble_eq_true rfl) dX12_count_77 rfl rfl ⟨Nat.zero_le _, Nat.zero_le _⟩ (fun v w' H locs hpo w => ?_)
          clear hq
          obtain ⟨rfl, rfl⟩ := hpo
          have w : mW E A s [(h, .inr (11, [.ref a_g, .ref a_kept, .int isKept, .ref a_tape, .int taped, .int spot, .ref a_written, .int writtenMany, .ref a_asked, .int askedMany, .ref a_there, .ref a_counts, .ref a_lasts, .ref a_cames])), (a_g, .inl (E.2.1, 8787, .inl g)), (a_kept, .inl (E.2.1, 8787, .inl kept)), (a_tape, .inl (E.2.2.1, 60, .inl tape)), (a_written, .inl (E.2.1, 40, .inl written)), (a_asked, .inl (E.2.1, 60, .inl asked)), (a_there, .inl (E.2.1, 12, .inl there)), (a_counts, .inl (E.2.1, 12, .inl counts)), (a_lasts, .inl (E.2.1, 12, .inl lasts)), (a_cames, .inl (E.2.1, 12, .inl cames))] H locs := w
          cases hf
          exact mx_iret B w ⟨rfl, rfl⟩ dX12_count_80
        · have hf := it_f hs3 hf
          by_cases hs4 : x1 = 4
          · have hf := it_t hs4 hf
            refine lv_tableIn (off := 78) (tgt := 81) hx hb dX12_count_3 (by rw [hs4]; decide) (by rw [hs4]; decide) (by rw [hs4]; decide) (by decide) ?_
            refine lv_aload_n hx hb dX12_count_81 rfl (lv_at hl 1 rfl) ?_
            refine mx_get B w 0 fl_X12_54 rfl rfl dX12_count_82 ?_
            cases hf
            exact mx_iret B w ⟨rfl, rfl⟩ dX12_count_85
          · have hf := it_f hs4 hf
            by_cases hs5 : x1 = 5
            · have hf := it_t hs5 hf
              refine lv_tableIn (off := 83) (tgt := 86) hx hb dX12_count_3 (by rw [hs5]; decide) (by rw [hs5]; decide) (by rw [hs5]; decide) (by decide) ?_
              refine lv_aload_n hx hb dX12_count_86 rfl (lv_at hl 1 rfl) ?_
              refine mx_get B w 0 fl_X12_9 rfl rfl dX12_count_87 ?_
              refine lv_bipush (v := 8) hx hb dX12_count_90 (by decide) ?_
              obtain ⟨hin, hf⟩ := ld_e hf
              refine mx_iald B w 1 rfl hin dX12_count_92 (fun v_5 ev => ?_)
              have hf := hf _ ev; clear ev
              cases hf
              exact mx_iret B w ⟨rfl, rfl⟩ dX12_count_93
            · have hf := it_f hs5 hf
              by_cases hs6 : x1 = 6
              · have hf := it_t hs6 hf
                refine lv_tableIn (off := 91) (tgt := 94) hx hb dX12_count_3 (by rw [hs6]; decide) (by rw [hs6]; decide) (by rw [hs6]; decide) (by decide) ?_
                refine lv_iconst (v := 0) hx hb dX12_count_94 (by decide) ?_
                refine lv_istore_n (lv' := [(3, .int 0), (2, .int 0), (0, .ref h), (1, .int x1)]) hx hb dX12_count_95 rfl hl (by decide) rfl (fun ls hl => ?_)
                refine l_X12_count_96 B _  ?_ N _ _ _ _ _ hf  w (lv_sub hl [2, 1, 0] rfl)
                · intro x2 H locs ls hf w hl
                  refine lv_iload_n hx hb dX12_count_129 rfl (lv_at hl 0 rfl) ?_
                  cases hf
                  exact mx_iret B w ⟨rfl, rfl⟩ dX12_count_130
              · have hf := it_f hs6 hf
                by_cases hs7 : x1 = 7
                · have hf := it_t hs7 hf
                  refine lv_tableIn (off := 128) (tgt := 131) hx hb dX12_count_3 (by rw [hs7]; decide) (by rw [hs7]; decide) (by rw [hs7]; decide) (by decide) ?_
                  refine lv_iconst (v := 0) hx hb dX12_count_131 (by decide) ?_
                  refine lv_istore_n (lv' := [(3, .int 0), (2, .int 0), (0, .ref h), (1, .int x1)]) hx hb dX12_count_132 rfl hl (by decide) rfl (fun ls hl => ?_)
                  refine l_X12_count_133 B _  ?_ N _ _ _ _ _ hf  w (lv_sub hl [2, 1, 0] rfl)
                  · intro x2 H locs ls hf w hl
                    refine lv_iload_n hx hb dX12_count_162 rfl (lv_at hl 0 rfl) ?_
                    cases hf
                    exact mx_iret B w ⟨rfl, rfl⟩ dX12_count_163
                · have hf := it_f hs7 hf
                  by_cases hs8 : x1 = 8
                  · have hf := it_t hs8 hf
                    refine lv_tableIn (off := 161) (tgt := 164) hx hb dX12_count_3 (by rw [hs8]; decide) (by rw [hs8]; decide) (by rw [hs8]; decide) (by decide) ?_
                    refine lv_iconst (v := 0) hx hb dX12_count_164 (by decide) ?_
                    refine lv_istore_n (lv' := [(3, .int 0), (2, .int 0), (0, .ref h), (1, .int x1)]) hx hb dX12_count_165 rfl hl (by decide) rfl (fun ls hl => ?_)
                    refine l_X12_count_166 B _  ?_ N _ _ _ _ _ hf  w (lv_sub hl [2, 1, 0] rfl)
                    · intro x2 H locs ls hf w hl
                      refine lv_iload_n hx hb dX12_count_201 rfl (lv_at hl 0 rfl) ?_
                      cases hf
                      exact mx_iret B w ⟨rfl, rfl⟩ dX12_count_202
                  · have hf := it_f hs8 hf
                    by_cases hs9 : x1 = 9
                    · have hf := it_t hs9 hf
                      refine lv_tableIn (off := 200) (tgt := 203) hx hb dX12_count_3 (by rw [hs9]; decide) (by rw [hs9]; decide) (by rw [hs9]; decide) (by decide) ?_
                      refine lv_aload_n hx hb dX12_count_203 rfl (lv_at hl 1 rfl) ?_
                      refine mx_get B w 0 fl_X12_9 rfl rfl dX12_count_204 ?_
                      refine lv_bipush (v := 14) hx hb dX12_count_207 (by decide) ?_
                      obtain ⟨hin, hf⟩ := ld_e hf
                      refine mx_iald B w 1 rfl hin dX12_count_209 (fun v_17 ev => ?_)
                      have hf := hf _ ev; clear ev
                      cases hf
                      exact mx_iret B w ⟨rfl, rfl⟩ dX12_count_210
                    · have hf := it_f hs9 hf
                      have hz0 := lv_neT (a := 0) hs0 (by decide)
                      have hz1 := lv_neT (a := 1) hs1 (by decide)
                      have hz2 := lv_neT (a := 2) hs2 (by decide)
                      have hz3 := lv_neT (a := 3) hs3 (by decide)
                      have hz4 := lv_neT (a := 4) hs4 (by decide)
                      have hz5 := lv_neT (a := 5) hs5 (by decide)
                      have hz6 := lv_neT (a := 6) hs6 (by decide)
                      have hz7 := lv_neT (a := 7) hs7 (by decide)
                      have hz8 := lv_neT (a := 8) hs8 (by decide)
                      have hz9 := lv_neT (a := 9) hs9 (by decide)
                      refine lv_tableOut (tgt := 211) hx hb dX12_count_3 (by omega) (by decide) ?_
                      refine lv_sipush (v := (-1001)) hx hb dX12_count_211 (by decide) ?_
                      cases hf
                      exact mx_iret B w ⟨rfl, rfl⟩ dX12_count_214
