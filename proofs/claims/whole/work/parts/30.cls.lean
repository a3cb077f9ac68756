abbrev cX5_allow : ByteArray := prog_7_method_2_code
def yX5_allow : MethodName := ⟨RX5, "allow", "(II)Z"⟩
theorem dX5_allow_0 : decode cX5_allow 0 = .ok (.iload_n 0, 1) := by decide +kernel
theorem dX5_allow_1 : decode cX5_allow 1 = .ok (.ifCond .lt 41, 3) := by decide +kernel
theorem dX5_allow_4 : decode cX5_allow 4 = .ok (.iload_n 0, 1) := by decide +kernel
theorem dX5_allow_5 : decode cX5_allow 5 = .ok (.getstatic 17, 3) := by decide +kernel
theorem dX5_allow_8 : decode cX5_allow 8 = .ok (.arraylength, 1) := by decide +kernel
theorem dX5_allow_9 : decode cX5_allow 9 = .ok (.if_icmp .ge 33, 3) := by decide +kernel
theorem dX5_allow_12 : decode cX5_allow 12 = .ok (.iload_n 0, 1) := by decide +kernel
theorem dX5_allow_13 : decode cX5_allow 13 = .ok (.getstatic 20, 3) := by decide +kernel
theorem dX5_allow_16 : decode cX5_allow 16 = .ok (.arraylength, 1) := by decide +kernel
theorem dX5_allow_17 : decode cX5_allow 17 = .ok (.if_icmp .ge 25, 3) := by decide +kernel
theorem dX5_allow_20 : decode cX5_allow 20 = .ok (.iload_n 1, 1) := by decide +kernel
theorem dX5_allow_21 : decode cX5_allow 21 = .ok (.getstatic 17, 3) := by decide +kernel
theorem dX5_allow_24 : decode cX5_allow 24 = .ok (.iload_n 0, 1) := by decide +kernel
theorem dX5_allow_25 : decode cX5_allow 25 = .ok (.iaload, 1) := by decide +kernel
theorem dX5_allow_26 : decode cX5_allow 26 = .ok (.if_icmp .lt 16, 3) := by decide +kernel
theorem dX5_allow_29 : decode cX5_allow 29 = .ok (.iload_n 1, 1) := by decide +kernel
theorem dX5_allow_30 : decode cX5_allow 30 = .ok (.getstatic 20, 3) := by decide +kernel
theorem dX5_allow_33 : decode cX5_allow 33 = .ok (.iload_n 0, 1) := by decide +kernel
theorem dX5_allow_34 : decode cX5_allow 34 = .ok (.iaload, 1) := by decide +kernel
theorem dX5_allow_35 : decode cX5_allow 35 = .ok (.if_icmp .gt 7, 3) := by decide +kernel
theorem dX5_allow_38 : decode cX5_allow 38 = .ok (.iconst 1, 1) := by decide +kernel
theorem dX5_allow_39 : decode cX5_allow 39 = .ok (.goto 4, 3) := by decide +kernel
theorem dX5_allow_42 : decode cX5_allow 42 = .ok (.iconst 0, 1) := by decide +kernel
theorem dX5_allow_43 : decode cX5_allow 43 = .ok (.ireturn, 1) := by decide +kernel
theorem kw_336 : Cond.fieldLink "FrequencyShelf$Rules" 17 "FrequencyShelf$Rules" "LEAST" "[I" ∈ TB := tb_at 336 (by decide +kernel) (by decide +kernel)
theorem kw_338 : Cond.fieldLink "FrequencyShelf$Rules" 20 "FrequencyShelf$Rules" "MOST" "[I" ∈ TB := tb_at 338 (by decide +kernel) (by decide +kernel)
abbrev cX5_value : ByteArray := prog_7_method_3_code
def yX5_value : MethodName := ⟨RX5, "value", "(I)I"⟩
theorem dX5_value_0 : decode cX5_value 0 = .ok (.iload_n 1, 1) := by decide +kernel
theorem dX5_value_1 : decode cX5_value 1 = .ok (.ifCond .lt 21, 3) := by decide +kernel
theorem dX5_value_4 : decode cX5_value 4 = .ok (.iload_n 1, 1) := by decide +kernel
theorem dX5_value_5 : decode cX5_value 5 = .ok (.aload_n 0, 1) := by decide +kernel
theorem dX5_value_6 : decode cX5_value 6 = .ok (.getfield 7, 3) := by decide +kernel
theorem dX5_value_9 : decode cX5_value 9 = .ok (.arraylength, 1) := by decide +kernel
theorem dX5_value_10 : decode cX5_value 10 = .ok (.if_icmp .ge 12, 3) := by decide +kernel
theorem dX5_value_13 : decode cX5_value 13 = .ok (.aload_n 0, 1) := by decide +kernel
theorem dX5_value_14 : decode cX5_value 14 = .ok (.getfield 7, 3) := by decide +kernel
theorem dX5_value_17 : decode cX5_value 17 = .ok (.iload_n 1, 1) := by decide +kernel
theorem dX5_value_18 : decode cX5_value 18 = .ok (.iaload, 1) := by decide +kernel
theorem dX5_value_19 : decode cX5_value 19 = .ok (.goto 4, 3) := by decide +kernel
theorem dX5_value_22 : decode cX5_value 22 = .ok (.iconst 0, 1) := by decide +kernel
theorem dX5_value_23 : decode cX5_value 23 = .ok (.ireturn, 1) := by decide +kernel
theorem kw_155 : Cond.fieldLink "FrequencyShelf$Rules" 7 "FrequencyShelf$Rules" "values" "[I" ∈ TB := tb_at 155 (by decide +kernel) (by decide +kernel)
theorem in_X5 : ∀ w ∈ u_ws RX5 TX5 2, w ∈ TB := by decide +kernel
theorem fl_X5_7 : mF RX5 7 4 0 := ⟨RX5, TX5, 2, tyX5, rfl, by decide, in_X5, kw_155, tyX5_ok, nmX5⟩
abbrev cX5_set : ByteArray := prog_7_method_4_code
def yX5_set : MethodName := ⟨RX5, "set", "(II)V"⟩
theorem dX5_set_0 : decode cX5_set 0 = .ok (.iload_n 1, 1) := by decide +kernel
theorem dX5_set_1 : decode cX5_set 1 = .ok (.ifCond .lt 19, 3) := by decide +kernel
theorem dX5_set_4 : decode cX5_set 4 = .ok (.iload_n 1, 1) := by decide +kernel
theorem dX5_set_5 : decode cX5_set 5 = .ok (.aload_n 0, 1) := by decide +kernel
theorem dX5_set_6 : decode cX5_set 6 = .ok (.getfield 7, 3) := by decide +kernel
theorem dX5_set_9 : decode cX5_set 9 = .ok (.arraylength, 1) := by decide +kernel
theorem dX5_set_10 : decode cX5_set 10 = .ok (.if_icmp .ge 10, 3) := by decide +kernel
theorem dX5_set_13 : decode cX5_set 13 = .ok (.aload_n 0, 1) := by decide +kernel
theorem dX5_set_14 : decode cX5_set 14 = .ok (.getfield 7, 3) := by decide +kernel
theorem dX5_set_17 : decode cX5_set 17 = .ok (.iload_n 1, 1) := by decide +kernel
theorem dX5_set_18 : decode cX5_set 18 = .ok (.iload_n 2, 1) := by decide +kernel
theorem dX5_set_19 : decode cX5_set 19 = .ok (.iastore, 1) := by decide +kernel
theorem dX5_set_20 : decode cX5_set 20 = .ok (.return_, 1) := by decide +kernel
abbrev cX0_size : ByteArray := prog_2_method_2_code
def yX0_size : MethodName := ⟨RX0, "size", "()I"⟩
theorem dX0_size_0 : decode cX0_size 0 = .ok (.aload_n 0, 1) := by decide +kernel
theorem dX0_size_1 : decode cX0_size 1 = .ok (.getfield 20, 3) := by decide +kernel
theorem dX0_size_4 : decode cX0_size 4 = .ok (.invokevirtual 24, 3) := by decide +kernel
theorem dX0_size_7 : decode cX0_size 7 = .ok (.ireturn, 1) := by decide +kernel
theorem kw_211 : Cond.fieldLink "FrequencyShelf$Entries" 20 "FrequencyShelf$Entries" "rows" "LFrequencyShelf$Table;" ∈ TB := tb_at 211 (by decide +kernel) (by decide +kernel)
theorem in_X0 : ∀ w ∈ u_ws RX0 TX0 2, w ∈ TB := by decide +kernel
theorem fl_X0_20 : mF RX0 20 0 1 := ⟨RX0, TX0, 2, tyX0, rfl, by decide, in_X0, kw_211, tyX0_ok, nmX0⟩
theorem kw_360 : Cond.methodLink "FrequencyShelf$Entries" 24 yX9_size ∈ TB := tb_at 360 (by decide +kernel) (by decide +kernel)
theorem kw_363 : Cond.code yX9_size cX9_size 1 (some .int) ∈ TB := tb_at 363 (by decide +kernel) (by decide +kernel)
theorem kw_361 : Cond.instanceMethod yX9_size ∈ TB := tb_at 361 (by decide +kernel) (by decide +kernel)
theorem kw_362 : Cond.selects "FrequencyShelf$Table" yX9_size yX9_size ∈ TB := tb_at 362 (by decide +kernel) (by decide +kernel)
theorem cv_X9_size : Cond.code yX9_size cX9_size 1 (some .int) ∈ TB ∧ Cond.instanceMethod yX9_size ∈ TB ∧ Cond.selects "FrequencyShelf$Table" yX9_size yX9_size ∈ TB ∧ Cond.initialized "FrequencyShelf$Table" ∈ TB := ⟨kw_363, kw_361, kw_362, kw_65⟩
abbrev cX0_weight : ByteArray := prog_2_method_17_code
def yX0_weight : MethodName := ⟨RX0, "weight", "()I"⟩
theorem dX0_weight_0 : decode cX0_weight 0 = .ok (.iconst 0, 1) := by decide +kernel
theorem dX0_weight_1 : decode cX0_weight 1 = .ok (.istore_n 1, 1) := by decide +kernel
theorem dX0_weight_2 : decode cX0_weight 2 = .ok (.iconst 0, 1) := by decide +kernel
theorem dX0_weight_3 : decode cX0_weight 3 = .ok (.istore_n 2, 1) := by decide +kernel
theorem dX0_weight_4 : decode cX0_weight 4 = .ok (.iload_n 2, 1) := by decide +kernel
theorem dX0_weight_5 : decode cX0_weight 5 = .ok (.aload_n 0, 1) := by decide +kernel
theorem dX0_weight_6 : decode cX0_weight 6 = .ok (.getfield 20, 3) := by decide +kernel
theorem dX0_weight_9 : decode cX0_weight 9 = .ok (.invokevirtual 24, 3) := by decide +kernel
theorem dX0_weight_12 : decode cX0_weight 12 = .ok (.if_icmp .ge 21, 3) := by decide +kernel
theorem dX0_weight_15 : decode cX0_weight 15 = .ok (.iload_n 1, 1) := by decide +kernel
theorem dX0_weight_16 : decode cX0_weight 16 = .ok (.aload_n 0, 1) := by decide +kernel
theorem dX0_weight_17 : decode cX0_weight 17 = .ok (.getfield 20, 3) := by decide +kernel
theorem dX0_weight_20 : decode cX0_weight 20 = .ok (.iload_n 2, 1) := by decide +kernel
theorem dX0_weight_21 : decode cX0_weight 21 = .ok (.iconst 1, 1) := by decide +kernel
theorem dX0_weight_22 : decode cX0_weight 22 = .ok (.invokevirtual 28, 3) := by decide +kernel
theorem dX0_weight_25 : decode cX0_weight 25 = .ok (.iadd, 1) := by decide +kernel
theorem dX0_weight_26 : decode cX0_weight 26 = .ok (.istore_n 1, 1) := by decide +kernel
theorem dX0_weight_27 : decode cX0_weight 27 = .ok (.iinc 2 1, 3) := by decide +kernel
theorem dX0_weight_30 : decode cX0_weight 30 = .ok (.goto (-26), 3) := by decide +kernel
theorem dX0_weight_33 : decode cX0_weight 33 = .ok (.iload_n 1, 1) := by decide +kernel
theorem dX0_weight_34 : decode cX0_weight 34 = .ok (.ireturn, 1) := by decide +kernel
theorem kw_368 : Cond.methodLink "FrequencyShelf$Entries" 28 yX9_get ∈ TB := tb_at 368 (by decide +kernel) (by decide +kernel)
abbrev cX5_hasPassed : ByteArray := prog_7_method_7_code
def yX5_hasPassed : MethodName := ⟨RX5, "hasPassed", "(II)Z"⟩
theorem dX5_hasPassed_0 : decode cX5_hasPassed 0 = .ok (.iload_n 1, 1) := by decide +kernel
theorem dX5_hasPassed_1 : decode cX5_hasPassed 1 = .ok (.ifCond .lt 21, 3) := by decide +kernel
theorem dX5_hasPassed_4 : decode cX5_hasPassed 4 = .ok (.iload_n 1, 1) := by decide +kernel
theorem dX5_hasPassed_5 : decode cX5_hasPassed 5 = .ok (.aload_n 0, 1) := by decide +kernel
theorem dX5_hasPassed_6 : decode cX5_hasPassed 6 = .ok (.getfield 7, 3) := by decide +kernel
theorem dX5_hasPassed_9 : decode cX5_hasPassed 9 = .ok (.arraylength, 1) := by decide +kernel
theorem dX5_hasPassed_10 : decode cX5_hasPassed 10 = .ok (.if_icmp .ge 12, 3) := by decide +kernel
theorem dX5_hasPassed_13 : decode cX5_hasPassed 13 = .ok (.aload_n 0, 1) := by decide +kernel
theorem dX5_hasPassed_14 : decode cX5_hasPassed 14 = .ok (.getfield 7, 3) := by decide +kernel
theorem dX5_hasPassed_17 : decode cX5_hasPassed 17 = .ok (.iload_n 1, 1) := by decide +kernel
theorem dX5_hasPassed_18 : decode cX5_hasPassed 18 = .ok (.iaload, 1) := by decide +kernel
theorem dX5_hasPassed_19 : decode cX5_hasPassed 19 = .ok (.goto 4, 3) := by decide +kernel
theorem dX5_hasPassed_22 : decode cX5_hasPassed 22 = .ok (.iconst 0, 1) := by decide +kernel
theorem dX5_hasPassed_23 : decode cX5_hasPassed 23 = .ok (.istore_n 3, 1) := by decide +kernel
theorem dX5_hasPassed_24 : decode cX5_hasPassed 24 = .ok (.iload_n 3, 1) := by decide +kernel
theorem dX5_hasPassed_25 : decode cX5_hasPassed 25 = .ok (.ifCond .eq 17, 3) := by decide +kernel
theorem dX5_hasPassed_28 : decode cX5_hasPassed 28 = .ok (.aload_n 0, 1) := by decide +kernel
theorem dX5_hasPassed_29 : decode cX5_hasPassed 29 = .ok (.getfield 13, 3) := by decide +kernel
theorem dX5_hasPassed_32 : decode cX5_hasPassed 32 = .ok (.iload_n 2, 1) := by decide +kernel
theorem dX5_hasPassed_33 : decode cX5_hasPassed 33 = .ok (.iload_n 3, 1) := by decide +kernel
theorem dX5_hasPassed_34 : decode cX5_hasPassed 34 = .ok (.iadd, 1) := by decide +kernel
theorem dX5_hasPassed_35 : decode cX5_hasPassed 35 = .ok (.if_icmp .lt 7, 3) := by decide +kernel
theorem dX5_hasPassed_38 : decode cX5_hasPassed 38 = .ok (.iconst 1, 1) := by decide +kernel
theorem dX5_hasPassed_39 : decode cX5_hasPassed 39 = .ok (.goto 4, 3) := by decide +kernel
theorem dX5_hasPassed_42 : decode cX5_hasPassed 42 = .ok (.iconst 0, 1) := by decide +kernel
theorem dX5_hasPassed_43 : decode cX5_hasPassed 43 = .ok (.ireturn, 1) := by decide +kernel
theorem kw_156 : Cond.fieldLink "FrequencyShelf$Rules" 13 "FrequencyShelf$Rules" "now" "I" ∈ TB := tb_at 156 (by decide +kernel) (by decide +kernel)
theorem fl_X5_13 : mF RX5 13 4 1 := ⟨RX5, TX5, 2, tyX5, rfl, by decide, in_X5, kw_156, tyX5_ok, nmX5⟩
abbrev cX0_isStale : ByteArray := prog_2_method_9_code
def yX0_isStale : MethodName := ⟨RX0, "isStale", "(I)Z"⟩
theorem dX0_isStale_0 : decode cX0_isStale 0 = .ok (.aload_n 0, 1) := by decide +kernel
theorem dX0_isStale_1 : decode cX0_isStale 1 = .ok (.getfield 9, 3) := by decide +kernel
theorem dX0_isStale_4 : decode cX0_isStale 4 = .ok (.iconst 2, 1) := by decide +kernel
theorem dX0_isStale_5 : decode cX0_isStale 5 = .ok (.aload_n 0, 1) := by decide +kernel
theorem dX0_isStale_6 : decode cX0_isStale 6 = .ok (.getfield 20, 3) := by decide +kernel
theorem dX0_isStale_9 : decode cX0_isStale 9 = .ok (.iload_n 1, 1) := by decide +kernel
theorem dX0_isStale_10 : decode cX0_isStale 10 = .ok (.bipush 6, 2) := by decide +kernel
theorem dX0_isStale_12 : decode cX0_isStale 12 = .ok (.invokevirtual 28, 3) := by decide +kernel
theorem dX0_isStale_15 : decode cX0_isStale 15 = .ok (.invokevirtual 53, 3) := by decide +kernel
theorem dX0_isStale_18 : decode cX0_isStale 18 = .ok (.ireturn, 1) := by decide +kernel
theorem kw_210 : Cond.fieldLink "FrequencyShelf$Entries" 9 "FrequencyShelf$Entries" "rules" "LFrequencyShelf$Rules;" ∈ TB := tb_at 210 (by decide +kernel) (by decide +kernel)
theorem fl_X0_9 : mF RX0 9 0 0 := ⟨RX0, TX0, 2, tyX0, rfl, by decide, in_X0, kw_210, tyX0_ok, nmX0⟩
theorem kw_384 : Cond.methodLink "FrequencyShelf$Entries" 53 yX5_hasPassed ∈ TB := tb_at 384 (by decide +kernel) (by decide +kernel)
theorem kw_387 : Cond.code yX5_hasPassed cX5_hasPassed 4 (some .boolean) ∈ TB := tb_at 387 (by decide +kernel) (by decide +kernel)
theorem kw_385 : Cond.instanceMethod yX5_hasPassed ∈ TB := tb_at 385 (by decide +kernel) (by decide +kernel)
theorem kw_386 : Cond.selects "FrequencyShelf$Rules" yX5_hasPassed yX5_hasPassed ∈ TB := tb_at 386 (by decide +kernel) (by decide +kernel)
theorem kw_69 : Cond.initialized "FrequencyShelf$Rules" ∈ TB := tb_at 69 (by decide +kernel) (by decide +kernel)
theorem cv_X5_hasPassed : Cond.code yX5_hasPassed cX5_hasPassed 4 (some .boolean) ∈ TB ∧ Cond.instanceMethod yX5_hasPassed ∈ TB ∧ Cond.selects "FrequencyShelf$Rules" yX5_hasPassed yX5_hasPassed ∈ TB ∧ Cond.initialized "FrequencyShelf$Rules" ∈ TB := ⟨kw_387, kw_385, kw_386, kw_69⟩
abbrev cX0_goesAhead : ByteArray := prog_2_method_18_code
def yX0_goesAhead : MethodName := ⟨RX0, "goesAhead", "(II)Z"⟩
theorem dX0_goesAhead_0 : decode cX0_goesAhead 0 = .ok (.aload_n 0, 1) := by decide +kernel
theorem dX0_goesAhead_1 : decode cX0_goesAhead 1 = .ok (.iload_n 1, 1) := by decide +kernel
theorem dX0_goesAhead_2 : decode cX0_goesAhead 2 = .ok (.invokevirtual 57, 3) := by decide +kernel
theorem dX0_goesAhead_5 : decode cX0_goesAhead 5 = .ok (.istore_n 3, 1) := by decide +kernel
theorem dX0_goesAhead_6 : decode cX0_goesAhead 6 = .ok (.iload_n 3, 1) := by decide +kernel
theorem dX0_goesAhead_7 : decode cX0_goesAhead 7 = .ok (.aload_n 0, 1) := by decide +kernel
theorem dX0_goesAhead_8 : decode cX0_goesAhead 8 = .ok (.iload_n 2, 1) := by decide +kernel
theorem dX0_goesAhead_9 : decode cX0_goesAhead 9 = .ok (.invokevirtual 57, 3) := by decide +kernel
theorem dX0_goesAhead_12 : decode cX0_goesAhead 12 = .ok (.if_icmp .eq 5, 3) := by decide +kernel
theorem dX0_goesAhead_15 : decode cX0_goesAhead 15 = .ok (.iload_n 3, 1) := by decide +kernel
theorem dX0_goesAhead_16 : decode cX0_goesAhead 16 = .ok (.ireturn, 1) := by decide +kernel
theorem dX0_goesAhead_17 : decode cX0_goesAhead 17 = .ok (.iconst 3, 1) := by decide +kernel
theorem dX0_goesAhead_18 : decode cX0_goesAhead 18 = .ok (.istore 4, 2) := by decide +kernel
theorem dX0_goesAhead_20 : decode cX0_goesAhead 20 = .ok (.iload 4, 2) := by decide +kernel
theorem dX0_goesAhead_22 : decode cX0_goesAhead 22 = .ok (.iconst 5, 1) := by decide +kernel
theorem dX0_goesAhead_23 : decode cX0_goesAhead 23 = .ok (.if_icmp .gt 53, 3) := by decide +kernel
theorem dX0_goesAhead_26 : decode cX0_goesAhead 26 = .ok (.aload_n 0, 1) := by decide +kernel
theorem dX0_goesAhead_27 : decode cX0_goesAhead 27 = .ok (.getfield 20, 3) := by decide +kernel
theorem dX0_goesAhead_30 : decode cX0_goesAhead 30 = .ok (.iload_n 1, 1) := by decide +kernel
theorem dX0_goesAhead_31 : decode cX0_goesAhead 31 = .ok (.iload 4, 2) := by decide +kernel
theorem dX0_goesAhead_33 : decode cX0_goesAhead 33 = .ok (.invokevirtual 28, 3) := by decide +kernel
theorem dX0_goesAhead_36 : decode cX0_goesAhead 36 = .ok (.istore 5, 2) := by decide +kernel
theorem dX0_goesAhead_38 : decode cX0_goesAhead 38 = .ok (.aload_n 0, 1) := by decide +kernel
theorem dX0_goesAhead_39 : decode cX0_goesAhead 39 = .ok (.getfield 20, 3) := by decide +kernel
theorem dX0_goesAhead_42 : decode cX0_goesAhead 42 = .ok (.iload_n 2, 1) := by decide +kernel
theorem dX0_goesAhead_43 : decode cX0_goesAhead 43 = .ok (.iload 4, 2) := by decide +kernel
theorem dX0_goesAhead_45 : decode cX0_goesAhead 45 = .ok (.invokevirtual 28, 3) := by decide +kernel
theorem dX0_goesAhead_48 : decode cX0_goesAhead 48 = .ok (.istore 6, 2) := by decide +kernel
theorem dX0_goesAhead_50 : decode cX0_goesAhead 50 = .ok (.iload 5, 2) := by decide +kernel
theorem dX0_goesAhead_52 : decode cX0_goesAhead 52 = .ok (.iload 6, 2) := by decide +kernel
theorem dX0_goesAhead_54 : decode cX0_goesAhead 54 = .ok (.if_icmp .eq 16, 3) := by decide +kernel
theorem dX0_goesAhead_57 : decode cX0_goesAhead 57 = .ok (.iload 5, 2) := by decide +kernel
theorem dX0_goesAhead_59 : decode cX0_goesAhead 59 = .ok (.iload 6, 2) := by decide +kernel
theorem dX0_goesAhead_61 : decode cX0_goesAhead 61 = .ok (.if_icmp .ge 7, 3) := by decide +kernel
theorem dX0_goesAhead_64 : decode cX0_goesAhead 64 = .ok (.iconst 1, 1) := by decide +kernel
theorem dX0_goesAhead_65 : decode cX0_goesAhead 65 = .ok (.goto 4, 3) := by decide +kernel
theorem dX0_goesAhead_68 : decode cX0_goesAhead 68 = .ok (.iconst 0, 1) := by decide +kernel
theorem dX0_goesAhead_69 : decode cX0_goesAhead 69 = .ok (.ireturn, 1) := by decide +kernel
theorem dX0_goesAhead_70 : decode cX0_goesAhead 70 = .ok (.iinc 4 1, 3) := by decide +kernel
theorem dX0_goesAhead_73 : decode cX0_goesAhead 73 = .ok (.goto (-53), 3) := by decide +kernel
theorem dX0_goesAhead_76 : decode cX0_goesAhead 76 = .ok (.iconst 0, 1) := by decide +kernel
theorem dX0_goesAhead_77 : decode cX0_goesAhead 77 = .ok (.ireturn, 1) := by decide +kernel
theorem kw_380 : Cond.methodLink "FrequencyShelf$Entries" 57 yX0_isStale ∈ TB := tb_at 380 (by decide +kernel) (by decide +kernel)
theorem kw_383 : Cond.code yX0_isStale cX0_isStale 2 (some .boolean) ∈ TB := tb_at 383 (by decide +kernel) (by decide +kernel)
theorem kw_381 : Cond.instanceMethod yX0_isStale ∈ TB := tb_at 381 (by decide +kernel) (by decide +kernel)
theorem kw_382 : Cond.selects "FrequencyShelf$Entries" yX0_isStale yX0_isStale ∈ TB := tb_at 382 (by decide +kernel) (by decide +kernel)
theorem kw_72 : Cond.initialized "FrequencyShelf$Entries" ∈ TB := tb_at 72 (by decide +kernel) (by decide +kernel)
theorem cv_X0_isStale : Cond.code yX0_isStale cX0_isStale 2 (some .boolean) ∈ TB ∧ Cond.instanceMethod yX0_isStale ∈ TB ∧ Cond.selects "FrequencyShelf$Entries" yX0_isStale yX0_isStale ∈ TB ∧ Cond.initialized "FrequencyShelf$Entries" ∈ TB := ⟨kw_383, kw_381, kw_382, kw_72⟩
abbrev cX0_nextToGo : ByteArray := prog_2_method_19_code
def yX0_nextToGo : MethodName := ⟨RX0, "nextToGo", "(II)I"⟩
theorem dX0_nextToGo_0 : decode cX0_nextToGo 0 = .ok (.iconst (-1), 1) := by decide +kernel
theorem dX0_nextToGo_1 : decode cX0_nextToGo 1 = .ok (.istore_n 3, 1) := by decide +kernel
theorem dX0_nextToGo_2 : decode cX0_nextToGo 2 = .ok (.iconst 0, 1) := by decide +kernel
theorem dX0_nextToGo_3 : decode cX0_nextToGo 3 = .ok (.istore 4, 2) := by decide +kernel
theorem dX0_nextToGo_5 : decode cX0_nextToGo 5 = .ok (.iload 4, 2) := by decide +kernel
theorem dX0_nextToGo_7 : decode cX0_nextToGo 7 = .ok (.aload_n 0, 1) := by decide +kernel
theorem dX0_nextToGo_8 : decode cX0_nextToGo 8 = .ok (.getfield 20, 3) := by decide +kernel
theorem dX0_nextToGo_11 : decode cX0_nextToGo 11 = .ok (.invokevirtual 24, 3) := by decide +kernel
theorem dX0_nextToGo_14 : decode cX0_nextToGo 14 = .ok (.if_icmp .ge 60, 3) := by decide +kernel
theorem dX0_nextToGo_17 : decode cX0_nextToGo 17 = .ok (.aload_n 0, 1) := by decide +kernel
theorem dX0_nextToGo_18 : decode cX0_nextToGo 18 = .ok (.getfield 20, 3) := by decide +kernel
theorem dX0_nextToGo_21 : decode cX0_nextToGo 21 = .ok (.iload 4, 2) := by decide +kernel
theorem dX0_nextToGo_23 : decode cX0_nextToGo 23 = .ok (.bipush 7, 2) := by decide +kernel
theorem dX0_nextToGo_25 : decode cX0_nextToGo 25 = .ok (.invokevirtual 28, 3) := by decide +kernel
theorem dX0_nextToGo_28 : decode cX0_nextToGo 28 = .ok (.iload_n 2, 1) := by decide +kernel
theorem dX0_nextToGo_29 : decode cX0_nextToGo 29 = .ok (.if_icmp .eq 39, 3) := by decide +kernel
theorem dX0_nextToGo_32 : decode cX0_nextToGo 32 = .ok (.iload_n 1, 1) := by decide +kernel
theorem dX0_nextToGo_33 : decode cX0_nextToGo 33 = .ok (.iconst (-1), 1) := by decide +kernel
theorem dX0_nextToGo_34 : decode cX0_nextToGo 34 = .ok (.if_icmp .eq 16, 3) := by decide +kernel
theorem dX0_nextToGo_37 : decode cX0_nextToGo 37 = .ok (.aload_n 0, 1) := by decide +kernel
theorem dX0_nextToGo_38 : decode cX0_nextToGo 38 = .ok (.iload_n 1, 1) := by decide +kernel
theorem dX0_nextToGo_39 : decode cX0_nextToGo 39 = .ok (.iload 4, 2) := by decide +kernel
theorem dX0_nextToGo_41 : decode cX0_nextToGo 41 = .ok (.invokevirtual 78, 3) := by decide +kernel
theorem dX0_nextToGo_44 : decode cX0_nextToGo 44 = .ok (.ifCond .ne 6, 3) := by decide +kernel
theorem dX0_nextToGo_47 : decode cX0_nextToGo 47 = .ok (.goto 21, 3) := by decide +kernel
theorem dX0_nextToGo_50 : decode cX0_nextToGo 50 = .ok (.iload_n 3, 1) := by decide +kernel
theorem dX0_nextToGo_51 : decode cX0_nextToGo 51 = .ok (.iconst (-1), 1) := by decide +kernel
theorem dX0_nextToGo_52 : decode cX0_nextToGo 52 = .ok (.if_icmp .eq 13, 3) := by decide +kernel
theorem dX0_nextToGo_55 : decode cX0_nextToGo 55 = .ok (.aload_n 0, 1) := by decide +kernel
theorem dX0_nextToGo_56 : decode cX0_nextToGo 56 = .ok (.iload 4, 2) := by decide +kernel
theorem dX0_nextToGo_58 : decode cX0_nextToGo 58 = .ok (.iload_n 3, 1) := by decide +kernel
theorem dX0_nextToGo_59 : decode cX0_nextToGo 59 = .ok (.invokevirtual 78, 3) := by decide +kernel
theorem dX0_nextToGo_62 : decode cX0_nextToGo 62 = .ok (.ifCond .eq 6, 3) := by decide +kernel
theorem dX0_nextToGo_65 : decode cX0_nextToGo 65 = .ok (.iload 4, 2) := by decide +kernel
theorem dX0_nextToGo_67 : decode cX0_nextToGo 67 = .ok (.istore_n 3, 1) := by decide +kernel
theorem dX0_nextToGo_68 : decode cX0_nextToGo 68 = .ok (.iinc 4 1, 3) := by decide +kernel
theorem dX0_nextToGo_71 : decode cX0_nextToGo 71 = .ok (.goto (-66), 3) := by decide +kernel
theorem dX0_nextToGo_74 : decode cX0_nextToGo 74 = .ok (.iload_n 3, 1) := by decide +kernel
theorem dX0_nextToGo_75 : decode cX0_nextToGo 75 = .ok (.ireturn, 1) := by decide +kernel
theorem kw_376 : Cond.methodLink "FrequencyShelf$Entries" 78 yX0_goesAhead ∈ TB := tb_at 376 (by decide +kernel) (by decide +kernel)
theorem kw_379 : Cond.code yX0_goesAhead cX0_goesAhead 7 (some .boolean) ∈ TB := tb_at 379 (by decide +kernel) (by decide +kernel)
theorem kw_378 : Cond.instanceMethod yX0_goesAhead ∈ TB := tb_at 378 (by decide +kernel) (by decide +kernel)
theorem kw_1 : Cond.selects "FrequencyShelf$Entries" yX0_goesAhead yX0_goesAhead ∈ TB := tb_at 1 (by decide +kernel) (by decide +kernel)
theorem cv_X0_goesAhead : Cond.code yX0_goesAhead cX0_goesAhead 7 (some .boolean) ∈ TB ∧ Cond.instanceMethod yX0_goesAhead ∈ TB ∧ Cond.selects "FrequencyShelf$Entries" yX0_goesAhead yX0_goesAhead ∈ TB ∧ Cond.initialized "FrequencyShelf$Entries" ∈ TB := ⟨kw_379, kw_378, kw_1, kw_72⟩
abbrev cX0_get : ByteArray := prog_2_method_3_code
def yX0_get : MethodName := ⟨RX0, "get", "(II)I"⟩
theorem dX0_get_0 : decode cX0_get 0 = .ok (.aload_n 0, 1) := by decide +kernel
theorem dX0_get_1 : decode cX0_get 1 = .ok (.getfield 20, 3) := by decide +kernel
theorem dX0_get_4 : decode cX0_get 4 = .ok (.iload_n 1, 1) := by decide +kernel
theorem dX0_get_5 : decode cX0_get 5 = .ok (.iload_n 2, 1) := by decide +kernel
theorem dX0_get_6 : decode cX0_get 6 = .ok (.invokevirtual 28, 3) := by decide +kernel
theorem dX0_get_9 : decode cX0_get 9 = .ok (.ireturn, 1) := by decide +kernel
abbrev cX0_add : ByteArray := prog_2_method_7_code
def yX0_add : MethodName := ⟨RX0, "add", "(IIIII)I"⟩
theorem dX0_add_0 : decode cX0_add 0 = .ok (.aload_n 0, 1) := by decide +kernel
theorem dX0_add_1 : decode cX0_add 1 = .ok (.getfield 20, 3) := by decide +kernel
theorem dX0_add_4 : decode cX0_add 4 = .ok (.iload_n 2, 1) := by decide +kernel
theorem dX0_add_5 : decode cX0_add 5 = .ok (.iload_n 3, 1) := by decide +kernel
theorem dX0_add_6 : decode cX0_add 6 = .ok (.iload 4, 2) := by decide +kernel
theorem dX0_add_8 : decode cX0_add 8 = .ok (.invokevirtual 44, 3) := by decide +kernel
theorem dX0_add_11 : decode cX0_add 11 = .ok (.istore 6, 2) := by decide +kernel
theorem dX0_add_13 : decode cX0_add 13 = .ok (.aload_n 0, 1) := by decide +kernel
theorem dX0_add_14 : decode cX0_add 14 = .ok (.getfield 20, 3) := by decide +kernel
theorem dX0_add_17 : decode cX0_add 17 = .ok (.iload 6, 2) := by decide +kernel
theorem dX0_add_19 : decode cX0_add 19 = .ok (.bipush 7, 2) := by decide +kernel
theorem dX0_add_21 : decode cX0_add 21 = .ok (.iload_n 1, 1) := by decide +kernel
theorem dX0_add_22 : decode cX0_add 22 = .ok (.invokevirtual 32, 3) := by decide +kernel
theorem dX0_add_25 : decode cX0_add 25 = .ok (.aload_n 0, 1) := by decide +kernel
theorem dX0_add_26 : decode cX0_add 26 = .ok (.getfield 20, 3) := by decide +kernel
theorem dX0_add_29 : decode cX0_add 29 = .ok (.iload 6, 2) := by decide +kernel
theorem dX0_add_31 : decode cX0_add 31 = .ok (.bipush 6, 2) := by decide +kernel
theorem dX0_add_33 : decode cX0_add 33 = .ok (.iload 5, 2) := by decide +kernel
theorem dX0_add_35 : decode cX0_add 35 = .ok (.invokevirtual 32, 3) := by decide +kernel
theorem dX0_add_38 : decode cX0_add 38 = .ok (.iload 6, 2) := by decide +kernel
theorem dX0_add_40 : decode cX0_add 40 = .ok (.ireturn, 1) := by decide +kernel
theorem kw_401 : Cond.methodLink "FrequencyShelf$Entries" 44 yX9_push ∈ TB := tb_at 401 (by decide +kernel) (by decide +kernel)
theorem kw_404 : Cond.code yX9_push cX9_push 6 (some .int) ∈ TB := tb_at 404 (by decide +kernel) (by decide +kernel)
theorem kw_402 : Cond.instanceMethod yX9_push ∈ TB := tb_at 402 (by decide +kernel) (by decide +kernel)
theorem kw_403 : Cond.selects "FrequencyShelf$Table" yX9_push yX9_push ∈ TB := tb_at 403 (by decide +kernel) (by decide +kernel)
theorem cv_X9_push : Cond.code yX9_push cX9_push 6 (some .int) ∈ TB ∧ Cond.instanceMethod yX9_push ∈ TB ∧ Cond.selects "FrequencyShelf$Table" yX9_push yX9_push ∈ TB ∧ Cond.initialized "FrequencyShelf$Table" ∈ TB := ⟨kw_404, kw_402, kw_403, kw_65⟩
theorem kw_405 : Cond.methodLink "FrequencyShelf$Entries" 32 yX9_set ∈ TB := tb_at 405 (by decide +kernel) (by decide +kernel)
theorem kw_408 : Cond.code yX9_set cX9_set 6 none ∈ TB := tb_at 408 (by decide +kernel) (by decide +kernel)
theorem kw_406 : Cond.instanceMethod yX9_set ∈ TB := tb_at 406 (by decide +kernel) (by decide +kernel)
theorem kw_407 : Cond.selects "FrequencyShelf$Table" yX9_set yX9_set ∈ TB := tb_at 407 (by decide +kernel) (by decide +kernel)
theorem cv_X9_set : Cond.code yX9_set cX9_set 6 none ∈ TB ∧ Cond.instanceMethod yX9_set ∈ TB ∧ Cond.selects "FrequencyShelf$Table" yX9_set yX9_set ∈ TB ∧ Cond.initialized "FrequencyShelf$Table" ∈ TB := ⟨kw_408, kw_406, kw_407, kw_65⟩
abbrev cX0_remove : ByteArray := prog_2_method_8_code
def yX0_remove : MethodName := ⟨RX0, "remove", "(I)V"⟩
theorem dX0_remove_0 : decode cX0_remove 0 = .ok (.aload_n 0, 1) := by decide +kernel
theorem dX0_remove_1 : decode cX0_remove 1 = .ok (.getfield 20, 3) := by decide +kernel
theorem dX0_remove_4 : decode cX0_remove 4 = .ok (.iload_n 1, 1) := by decide +kernel
theorem dX0_remove_5 : decode cX0_remove 5 = .ok (.invokevirtual 47, 3) := by decide +kernel
theorem dX0_remove_8 : decode cX0_remove 8 = .ok (.return_, 1) := by decide +kernel
theorem kw_418 : Cond.methodLink "FrequencyShelf$Entries" 47 yX9_remove ∈ TB := tb_at 418 (by decide +kernel) (by decide +kernel)
abbrev cX6_trimCold : ByteArray := prog_8_method_14_code
def yX6_trimCold : MethodName := ⟨RX6, "trimCold", "()V"⟩
theorem dX6_trimCold_0 : decode cX6_trimCold 0 = .ok (.aload_n 0, 1) := by decide +kernel
theorem dX6_trimCold_1 : decode cX6_trimCold 1 = .ok (.getfield 28, 3) := by decide +kernel
theorem dX6_trimCold_4 : decode cX6_trimCold 4 = .ok (.invokevirtual 137, 3) := by decide +kernel
theorem dX6_trimCold_7 : decode cX6_trimCold 7 = .ok (.aload_n 0, 1) := by decide +kernel
theorem dX6_trimCold_8 : decode cX6_trimCold 8 = .ok (.getfield 9, 3) := by decide +kernel
theorem dX6_trimCold_11 : decode cX6_trimCold 11 = .ok (.bipush 6, 2) := by decide +kernel
theorem dX6_trimCold_13 : decode cX6_trimCold 13 = .ok (.invokevirtual 74, 3) := by decide +kernel
theorem dX6_trimCold_16 : decode cX6_trimCold 16 = .ok (.isub, 1) := by decide +kernel
theorem dX6_trimCold_17 : decode cX6_trimCold 17 = .ok (.istore_n 1, 1) := by decide +kernel
theorem dX6_trimCold_18 : decode cX6_trimCold 18 = .ok (.iload_n 1, 1) := by decide +kernel
theorem dX6_trimCold_19 : decode cX6_trimCold 19 = .ok (.ifCond .le 17, 3) := by decide +kernel
theorem dX6_trimCold_22 : decode cX6_trimCold 22 = .ok (.aload_n 0, 1) := by decide +kernel
theorem dX6_trimCold_23 : decode cX6_trimCold 23 = .ok (.getfield 28, 3) := by decide +kernel
theorem dX6_trimCold_26 : decode cX6_trimCold 26 = .ok (.iconst 0, 1) := by decide +kernel
theorem dX6_trimCold_27 : decode cX6_trimCold 27 = .ok (.invokevirtual 69, 3) := by decide +kernel
theorem dX6_trimCold_30 : decode cX6_trimCold 30 = .ok (.iinc 1 (-1), 3) := by decide +kernel
theorem dX6_trimCold_33 : decode cX6_trimCold 33 = .ok (.goto (-15), 3) := by decide +kernel
theorem dX6_trimCold_36 : decode cX6_trimCold 36 = .ok (.return_, 1) := by decide +kernel
theorem kw_231 : Cond.fieldLink "FrequencyShelf$Shelf" 28 "FrequencyShelf$Shelf" "cold" "LFrequencyShelf$Entries;" ∈ TB := tb_at 231 (by decide +kernel) (by decide +kernel)
theorem in_X6 : ∀ w ∈ u_ws RX6 TX6 9, w ∈ TB := by decide +kernel
theorem fl_X6_28 : mF RX6 28 5 3 := ⟨RX6, TX6, 9, tyX6, rfl, by decide, in_X6, kw_231, tyX6_ok, nmX6⟩
theorem kw_356 : Cond.methodLink "FrequencyShelf$Shelf" 137 yX0_size ∈ TB := tb_at 356 (by decide +kernel) (by decide +kernel)
theorem kw_359 : Cond.code yX0_size cX0_size 1 (some .int) ∈ TB := tb_at 359 (by decide +kernel) (by decide +kernel)
theorem kw_357 : Cond.instanceMethod yX0_size ∈ TB := tb_at 357 (by decide +kernel) (by decide +kernel)
theorem kw_358 : Cond.selects "FrequencyShelf$Entries" yX0_size yX0_size ∈ TB := tb_at 358 (by decide +kernel) (by decide +kernel)
theorem cv_X0_size : Cond.code yX0_size cX0_size 1 (some .int) ∈ TB ∧ Cond.instanceMethod yX0_size ∈ TB ∧ Cond.selects "FrequencyShelf$Entries" yX0_size yX0_size ∈ TB ∧ Cond.initialized "FrequencyShelf$Entries" ∈ TB := ⟨kw_359, kw_357, kw_358, kw_72⟩
theorem kw_227 : Cond.fieldLink "FrequencyShelf$Shelf" 9 "FrequencyShelf$Shelf" "rules" "LFrequencyShelf$Rules;" ∈ TB := tb_at 227 (by decide +kernel) (by decide +kernel)
theorem fl_X6_9 : mF RX6 9 5 0 := ⟨RX6, TX6, 9, tyX6, rfl, by decide, in_X6, kw_227, tyX6_ok, nmX6⟩
theorem kw_413 : Cond.methodLink "FrequencyShelf$Shelf" 74 yX5_value ∈ TB := tb_at 413 (by decide +kernel) (by decide +kernel)
theorem kw_343 : Cond.code yX5_value cX5_value 2 (some .int) ∈ TB := tb_at 343 (by decide +kernel) (by decide +kernel)
theorem kw_341 : Cond.instanceMethod yX5_value ∈ TB := tb_at 341 (by decide +kernel) (by decide +kernel)
theorem kw_342 : Cond.selects "FrequencyShelf$Rules" yX5_value yX5_value ∈ TB := tb_at 342 (by decide +kernel) (by decide +kernel)
theorem cv_X5_value : Cond.code yX5_value cX5_value 2 (some .int) ∈ TB ∧ Cond.instanceMethod yX5_value ∈ TB ∧ Cond.selects "FrequencyShelf$Rules" yX5_value yX5_value ∈ TB ∧ Cond.initialized "FrequencyShelf$Rules" ∈ TB := ⟨kw_343, kw_341, kw_342, kw_69⟩
theorem kw_414 : Cond.methodLink "FrequencyShelf$Shelf" 69 yX0_remove ∈ TB := tb_at 414 (by decide +kernel) (by decide +kernel)
theorem kw_417 : Cond.code yX0_remove cX0_remove 2 none ∈ TB := tb_at 417 (by decide +kernel) (by decide +kernel)
theorem kw_415 : Cond.instanceMethod yX0_remove ∈ TB := tb_at 415 (by decide +kernel) (by decide +kernel)
theorem kw_416 : Cond.selects "FrequencyShelf$Entries" yX0_remove yX0_remove ∈ TB := tb_at 416 (by decide +kernel) (by decide +kernel)
theorem cv_X0_remove : Cond.code yX0_remove cX0_remove 2 none ∈ TB ∧ Cond.instanceMethod yX0_remove ∈ TB ∧ Cond.selects "FrequencyShelf$Entries" yX0_remove yX0_remove ∈ TB ∧ Cond.initialized "FrequencyShelf$Entries" ∈ TB := ⟨kw_417, kw_415, kw_416, kw_72⟩
abbrev cX6_putOnCold : ByteArray := prog_8_method_13_code
def yX6_putOnCold : MethodName := ⟨RX6, "putOnCold", "(I)V"⟩
theorem dX6_putOnCold_0 : decode cX6_putOnCold 0 = .ok (.aload_n 0, 1) := by decide +kernel
theorem dX6_putOnCold_1 : decode cX6_putOnCold 1 = .ok (.getfield 24, 3) := by decide +kernel
theorem dX6_putOnCold_4 : decode cX6_putOnCold 4 = .ok (.iload_n 1, 1) := by decide +kernel
theorem dX6_putOnCold_5 : decode cX6_putOnCold 5 = .ok (.bipush 7, 2) := by decide +kernel
theorem dX6_putOnCold_7 : decode cX6_putOnCold 7 = .ok (.invokevirtual 89, 3) := by decide +kernel
theorem dX6_putOnCold_10 : decode cX6_putOnCold 10 = .ok (.istore_n 2, 1) := by decide +kernel
theorem dX6_putOnCold_11 : decode cX6_putOnCold 11 = .ok (.aload_n 0, 1) := by decide +kernel
theorem dX6_putOnCold_12 : decode cX6_putOnCold 12 = .ok (.getfield 24, 3) := by decide +kernel
theorem dX6_putOnCold_15 : decode cX6_putOnCold 15 = .ok (.iload_n 1, 1) := by decide +kernel
theorem dX6_putOnCold_16 : decode cX6_putOnCold 16 = .ok (.iconst 0, 1) := by decide +kernel
theorem dX6_putOnCold_17 : decode cX6_putOnCold 17 = .ok (.invokevirtual 89, 3) := by decide +kernel
theorem dX6_putOnCold_20 : decode cX6_putOnCold 20 = .ok (.istore_n 3, 1) := by decide +kernel
theorem dX6_putOnCold_21 : decode cX6_putOnCold 21 = .ok (.aload_n 0, 1) := by decide +kernel
theorem dX6_putOnCold_22 : decode cX6_putOnCold 22 = .ok (.getfield 24, 3) := by decide +kernel
theorem dX6_putOnCold_25 : decode cX6_putOnCold 25 = .ok (.iload_n 1, 1) := by decide +kernel
theorem dX6_putOnCold_26 : decode cX6_putOnCold 26 = .ok (.iconst 1, 1) := by decide +kernel
theorem dX6_putOnCold_27 : decode cX6_putOnCold 27 = .ok (.invokevirtual 89, 3) := by decide +kernel
theorem dX6_putOnCold_30 : decode cX6_putOnCold 30 = .ok (.istore 4, 2) := by decide +kernel
theorem dX6_putOnCold_32 : decode cX6_putOnCold 32 = .ok (.aload_n 0, 1) := by decide +kernel
theorem dX6_putOnCold_33 : decode cX6_putOnCold 33 = .ok (.getfield 24, 3) := by decide +kernel
theorem dX6_putOnCold_36 : decode cX6_putOnCold 36 = .ok (.iload_n 1, 1) := by decide +kernel
theorem dX6_putOnCold_37 : decode cX6_putOnCold 37 = .ok (.iconst 2, 1) := by decide +kernel
theorem dX6_putOnCold_38 : decode cX6_putOnCold 38 = .ok (.invokevirtual 89, 3) := by decide +kernel
theorem dX6_putOnCold_41 : decode cX6_putOnCold 41 = .ok (.istore 5, 2) := by decide +kernel
theorem dX6_putOnCold_43 : decode cX6_putOnCold 43 = .ok (.aload_n 0, 1) := by decide +kernel
theorem dX6_putOnCold_44 : decode cX6_putOnCold 44 = .ok (.getfield 28, 3) := by decide +kernel
theorem dX6_putOnCold_47 : decode cX6_putOnCold 47 = .ok (.iload_n 2, 1) := by decide +kernel
theorem dX6_putOnCold_48 : decode cX6_putOnCold 48 = .ok (.iload_n 3, 1) := by decide +kernel
theorem dX6_putOnCold_49 : decode cX6_putOnCold 49 = .ok (.iload 4, 2) := by decide +kernel
theorem dX6_putOnCold_51 : decode cX6_putOnCold 51 = .ok (.iload 5, 2) := by decide +kernel
theorem dX6_putOnCold_53 : decode cX6_putOnCold 53 = .ok (.aload_n 0, 1) := by decide +kernel
theorem dX6_putOnCold_54 : decode cX6_putOnCold 54 = .ok (.getfield 24, 3) := by decide +kernel
theorem dX6_putOnCold_57 : decode cX6_putOnCold 57 = .ok (.iload_n 1, 1) := by decide +kernel
theorem dX6_putOnCold_58 : decode cX6_putOnCold 58 = .ok (.bipush 6, 2) := by decide +kernel
theorem dX6_putOnCold_60 : decode cX6_putOnCold 60 = .ok (.invokevirtual 89, 3) := by decide +kernel
theorem dX6_putOnCold_63 : decode cX6_putOnCold 63 = .ok (.invokevirtual 97, 3) := by decide +kernel
theorem dX6_putOnCold_66 : decode cX6_putOnCold 66 = .ok (.pop, 1) := by decide +kernel
theorem dX6_putOnCold_67 : decode cX6_putOnCold 67 = .ok (.aload_n 0, 1) := by decide +kernel
theorem dX6_putOnCold_68 : decode cX6_putOnCold 68 = .ok (.invokevirtual 143, 3) := by decide +kernel
theorem dX6_putOnCold_71 : decode cX6_putOnCold 71 = .ok (.return_, 1) := by decide +kernel
theorem kw_229 : Cond.fieldLink "FrequencyShelf$Shelf" 24 "FrequencyShelf$Shelf" "entries" "LFrequencyShelf$Entries;" ∈ TB := tb_at 229 (by decide +kernel) (by decide +kernel)
theorem fl_X6_24 : mF RX6 24 5 2 := ⟨RX6, TX6, 9, tyX6, rfl, by decide, in_X6, kw_229, tyX6_ok, nmX6⟩
theorem kw_393 : Cond.methodLink "FrequencyShelf$Shelf" 89 yX0_get ∈ TB := tb_at 393 (by decide +kernel) (by decide +kernel)
theorem kw_396 : Cond.code yX0_get cX0_get 3 (some .int) ∈ TB := tb_at 396 (by decide +kernel) (by decide +kernel)
theorem kw_394 : Cond.instanceMethod yX0_get ∈ TB := tb_at 394 (by decide +kernel) (by decide +kernel)
theorem kw_395 : Cond.selects "FrequencyShelf$Entries" yX0_get yX0_get ∈ TB := tb_at 395 (by decide +kernel) (by decide +kernel)
theorem cv_X0_get : Cond.code yX0_get cX0_get 3 (some .int) ∈ TB ∧ Cond.instanceMethod yX0_get ∈ TB ∧ Cond.selects "FrequencyShelf$Entries" yX0_get yX0_get ∈ TB ∧ Cond.initialized "FrequencyShelf$Entries" ∈ TB := ⟨kw_396, kw_394, kw_395, kw_72⟩
theorem kw_397 : Cond.methodLink "FrequencyShelf$Shelf" 97 yX0_add ∈ TB := tb_at 397 (by decide +kernel) (by decide +kernel)
theorem kw_400 : Cond.code yX0_add cX0_add 7 (some .int) ∈ TB := tb_at 400 (by decide +kernel) (by decide +kernel)
theorem kw_398 : Cond.instanceMethod yX0_add ∈ TB := tb_at 398 (by decide +kernel) (by decide +kernel)
theorem kw_399 : Cond.selects "FrequencyShelf$Entries" yX0_add yX0_add ∈ TB := tb_at 399 (by decide +kernel) (by decide +kernel)
theorem cv_X0_add : Cond.code yX0_add cX0_add 7 (some .int) ∈ TB ∧ Cond.instanceMethod yX0_add ∈ TB ∧ Cond.selects "FrequencyShelf$Entries" yX0_add yX0_add ∈ TB ∧ Cond.initialized "FrequencyShelf$Entries" ∈ TB := ⟨kw_400, kw_398, kw_399, kw_72⟩
theorem kw_409 : Cond.methodLink "FrequencyShelf$Shelf" 143 yX6_trimCold ∈ TB := tb_at 409 (by decide +kernel) (by decide +kernel)
theorem kw_412 : Cond.code yX6_trimCold cX6_trimCold 2 none ∈ TB := tb_at 412 (by decide +kernel) (by decide +kernel)
theorem kw_410 : Cond.instanceMethod yX6_trimCold ∈ TB := tb_at 410 (by decide +kernel) (by decide +kernel)
theorem kw_411 : Cond.selects "FrequencyShelf$Shelf" yX6_trimCold yX6_trimCold ∈ TB := tb_at 411 (by decide +kernel) (by decide +kernel)
theorem kw_71 : Cond.initialized "FrequencyShelf$Shelf" ∈ TB := tb_at 71 (by decide +kernel) (by decide +kernel)
theorem cv_X6_trimCold : Cond.code yX6_trimCold cX6_trimCold 2 none ∈ TB ∧ Cond.instanceMethod yX6_trimCold ∈ TB ∧ Cond.selects "FrequencyShelf$Shelf" yX6_trimCold yX6_trimCold ∈ TB ∧ Cond.initialized "FrequencyShelf$Shelf" ∈ TB := ⟨kw_412, kw_410, kw_411, kw_71⟩
abbrev cX0_isDirty : ByteArray := prog_2_method_11_code
def yX0_isDirty : MethodName := ⟨RX0, "isDirty", "(I)Z"⟩
theorem dX0_isDirty_0 : decode cX0_isDirty 0 = .ok (.aload_n 0, 1) := by decide +kernel
theorem dX0_isDirty_1 : decode cX0_isDirty 1 = .ok (.getfield 20, 3) := by decide +kernel
theorem dX0_isDirty_4 : decode cX0_isDirty 4 = .ok (.iload_n 1, 1) := by decide +kernel
theorem dX0_isDirty_5 : decode cX0_isDirty 5 = .ok (.bipush 8, 2) := by decide +kernel
theorem dX0_isDirty_7 : decode cX0_isDirty 7 = .ok (.invokevirtual 28, 3) := by decide +kernel
theorem dX0_isDirty_10 : decode cX0_isDirty 10 = .ok (.ifCond .eq 7, 3) := by decide +kernel
theorem dX0_isDirty_13 : decode cX0_isDirty 13 = .ok (.iconst 1, 1) := by decide +kernel
theorem dX0_isDirty_14 : decode cX0_isDirty 14 = .ok (.goto 4, 3) := by decide +kernel
theorem dX0_isDirty_17 : decode cX0_isDirty 17 = .ok (.iconst 0, 1) := by decide +kernel
theorem dX0_isDirty_18 : decode cX0_isDirty 18 = .ok (.ireturn, 1) := by decide +kernel
abbrev cX5_now : ByteArray := prog_7_method_5_code
def yX5_now : MethodName := ⟨RX5, "now", "()I"⟩
theorem dX5_now_0 : decode cX5_now 0 = .ok (.aload_n 0, 1) := by decide +kernel
theorem dX5_now_1 : decode cX5_now 1 = .ok (.getfield 13, 3) := by decide +kernel
theorem dX5_now_4 : decode cX5_now 4 = .ok (.ireturn, 1) := by decide +kernel
abbrev cX1_number : ByteArray := prog_3_method_7_code
def yX1_number : MethodName := ⟨RX1, "numbe\x72", "(I)I"⟩
theorem dX1_number_0 : decode cX1_number 0 = .ok (.iload_n 0, 1) := by decide +kernel
theorem dX1_number_1 : decode cX1_number 1 = .ok (.ifCond .ne 5, 3) := by decide +kernel
theorem dX1_number_4 : decode cX1_number 4 = .ok (.iconst 0, 1) := by decide +kernel
theorem dX1_number_5 : decode cX1_number 5 = .ok (.ireturn, 1) := by decide +kernel
theorem dX1_number_6 : decode cX1_number 6 = .ok (.bipush 7, 2) := by decide +kernel
theorem dX1_number_8 : decode cX1_number 8 = .ok (.istore_n 1, 1) := by decide +kernel
theorem dX1_number_9 : decode cX1_number 9 = .ok (.bipush 25, 2) := by decide +kernel
theorem dX1_number_11 : decode cX1_number 11 = .ok (.istore_n 2, 1) := by decide +kernel
theorem dX1_number_12 : decode cX1_number 12 = .ok (.iload_n 2, 1) := by decide +kernel
theorem dX1_number_13 : decode cX1_number 13 = .ok (.ifCond .lt 30, 3) := by decide +kernel
theorem dX1_number_16 : decode cX1_number 16 = .ok (.iload_n 0, 1) := by decide +kernel
theorem dX1_number_17 : decode cX1_number 17 = .ok (.iload_n 2, 1) := by decide +kernel
theorem dX1_number_18 : decode cX1_number 18 = .ok (.ishr, 1) := by decide +kernel
theorem dX1_number_19 : decode cX1_number 19 = .ok (.bipush 31, 2) := by decide +kernel
theorem dX1_number_21 : decode cX1_number 21 = .ok (.iand, 1) := by decide +kernel
theorem dX1_number_22 : decode cX1_number 22 = .ok (.istore_n 3, 1) := by decide +kernel
theorem dX1_number_23 : decode cX1_number 23 = .ok (.iload_n 3, 1) := by decide +kernel
theorem dX1_number_24 : decode cX1_number 24 = .ok (.ifCond .eq 13, 3) := by decide +kernel
theorem dX1_number_27 : decode cX1_number 27 = .ok (.iload_n 1, 1) := by decide +kernel
theorem dX1_number_28 : decode cX1_number 28 = .ok (.bipush 31, 2) := by decide +kernel
theorem dX1_number_30 : decode cX1_number 30 = .ok (.imul, 1) := by decide +kernel
theorem dX1_number_31 : decode cX1_number 31 = .ok (.iload_n 3, 1) := by decide +kernel
theorem dX1_number_32 : decode cX1_number 32 = .ok (.iadd, 1) := by decide +kernel
theorem dX1_number_33 : decode cX1_number 33 = .ok (.bipush 96, 2) := by decide +kernel
theorem dX1_number_35 : decode cX1_number 35 = .ok (.iadd, 1) := by decide +kernel
theorem dX1_number_36 : decode cX1_number 36 = .ok (.istore_n 1, 1) := by decide +kernel
theorem dX1_number_37 : decode cX1_number 37 = .ok (.iinc 2 (-5), 3) := by decide +kernel
theorem dX1_number_40 : decode cX1_number 40 = .ok (.goto (-28), 3) := by decide +kernel
theorem dX1_number_43 : decode cX1_number 43 = .ok (.iload_n 1, 1) := by decide +kernel
theorem dX1_number_44 : decode cX1_number 44 = .ok (.ireturn, 1) := by decide +kernel
abbrev cX2_tally : ByteArray := prog_4_method_3_code
def yX2_tally : MethodName := ⟨RX2, "tally", "(I)V"⟩
theorem dX2_tally_0 : decode cX2_tally 0 = .ok (.iload_n 1, 1) := by decide +kernel
theorem dX2_tally_1 : decode cX2_tally 1 = .ok (.ifCond .lt 22, 3) := by decide +kernel
theorem dX2_tally_4 : decode cX2_tally 4 = .ok (.iload_n 1, 1) := by decide +kernel
theorem dX2_tally_5 : decode cX2_tally 5 = .ok (.aload_n 0, 1) := by decide +kernel
theorem dX2_tally_6 : decode cX2_tally 6 = .ok (.getfield 33, 3) := by decide +kernel
theorem dX2_tally_9 : decode cX2_tally 9 = .ok (.arraylength, 1) := by decide +kernel
theorem dX2_tally_10 : decode cX2_tally 10 = .ok (.if_icmp .ge 13, 3) := by decide +kernel
theorem dX2_tally_13 : decode cX2_tally 13 = .ok (.aload_n 0, 1) := by decide +kernel
theorem dX2_tally_14 : decode cX2_tally 14 = .ok (.getfield 33, 3) := by decide +kernel
theorem dX2_tally_17 : decode cX2_tally 17 = .ok (.iload_n 1, 1) := by decide +kernel
theorem dX2_tally_18 : decode cX2_tally 18 = .ok (.dup2, 1) := by decide +kernel
theorem dX2_tally_19 : decode cX2_tally 19 = .ok (.iaload, 1) := by decide +kernel
theorem dX2_tally_20 : decode cX2_tally 20 = .ok (.iconst 1, 1) := by decide +kernel
theorem dX2_tally_21 : decode cX2_tally 21 = .ok (.iadd, 1) := by decide +kernel
theorem dX2_tally_22 : decode cX2_tally 22 = .ok (.iastore, 1) := by decide +kernel
theorem dX2_tally_23 : decode cX2_tally 23 = .ok (.return_, 1) := by decide +kernel
theorem kw_179 : Cond.fieldLink "FrequencyShelf$Ledge\x72" 33 "FrequencyShelf$Ledge\x72" "sums" "[I" ∈ TB := tb_at 179 (by decide +kernel) (by decide +kernel)
theorem in_X2 : ∀ w ∈ u_ws RX2 TX2 7, w ∈ TB := by decide +kernel
theorem fl_X2_33 : mF RX2 33 1 5 := ⟨RX2, TX2, 7, tyX2, rfl, by decide, in_X2, kw_179, tyX2_ok, nmX2⟩
abbrev cX2_note : ByteArray := prog_4_method_2_code
def yX2_note : MethodName := ⟨RX2, "note", "(II)V"⟩
theorem dX2_note_0 : decode cX2_note 0 = .ok (.aload_n 0, 1) := by decide +kernel
theorem dX2_note_1 : decode cX2_note 1 = .ok (.getfield 20, 3) := by decide +kernel
theorem dX2_note_4 : decode cX2_note 4 = .ok (.iload_n 1, 1) := by decide +kernel
theorem dX2_note_5 : decode cX2_note 5 = .ok (.aload_n 0, 1) := by decide +kernel
theorem dX2_note_6 : decode cX2_note 6 = .ok (.getfield 9, 3) := by decide +kernel
theorem dX2_note_9 : decode cX2_note 9 = .ok (.invokevirtual 40, 3) := by decide +kernel
theorem dX2_note_12 : decode cX2_note 12 = .ok (.iload_n 2, 1) := by decide +kernel
theorem dX2_note_13 : decode cX2_note 13 = .ok (.invokestatic 46, 3) := by decide +kernel
theorem dX2_note_16 : decode cX2_note 16 = .ok (.invokevirtual 52, 3) := by decide +kernel
theorem dX2_note_19 : decode cX2_note 19 = .ok (.pop, 1) := by decide +kernel
theorem dX2_note_20 : decode cX2_note 20 = .ok (.iload_n 1, 1) := by decide +kernel
theorem dX2_note_21 : decode cX2_note 21 = .ok (.ifCond .lt 20, 3) := by decide +kernel
theorem dX2_note_24 : decode cX2_note 24 = .ok (.iload_n 1, 1) := by decide +kernel
theorem dX2_note_25 : decode cX2_note 25 = .ok (.getstatic 56, 3) := by decide +kernel
theorem dX2_note_28 : decode cX2_note 28 = .ok (.arraylength, 1) := by decide +kernel
theorem dX2_note_29 : decode cX2_note 29 = .ok (.if_icmp .ge 12, 3) := by decide +kernel
theorem dX2_note_32 : decode cX2_note 32 = .ok (.aload_n 0, 1) := by decide +kernel
theorem dX2_note_33 : decode cX2_note 33 = .ok (.getstatic 56, 3) := by decide +kernel
theorem dX2_note_36 : decode cX2_note 36 = .ok (.iload_n 1, 1) := by decide +kernel
theorem dX2_note_37 : decode cX2_note 37 = .ok (.iaload, 1) := by decide +kernel
theorem dX2_note_38 : decode cX2_note 38 = .ok (.invokevirtual 59, 3) := by decide +kernel
theorem dX2_note_41 : decode cX2_note 41 = .ok (.return_, 1) := by decide +kernel
theorem kw_171 : Cond.fieldLink "FrequencyShelf$Ledge\x72" 20 "FrequencyShelf$Ledge\x72" "book" "LFrequencyShelf$Table;" ∈ TB := tb_at 171 (by decide +kernel) (by decide +kernel)
theorem fl_X2_20 : mF RX2 20 1 1 := ⟨RX2, TX2, 7, tyX2, rfl, by decide, in_X2, kw_171, tyX2_ok, nmX2⟩
theorem kw_170 : Cond.fieldLink "FrequencyShelf$Ledge\x72" 9 "FrequencyShelf$Ledge\x72" "rules" "LFrequencyShelf$Rules;" ∈ TB := tb_at 170 (by decide +kernel) (by decide +kernel)
theorem fl_X2_9 : mF RX2 9 1 0 := ⟨RX2, TX2, 7, tyX2, rfl, by decide, in_X2, kw_170, tyX2_ok, nmX2⟩
theorem kw_439 : Cond.methodLink "FrequencyShelf$Ledge\x72" 40 yX5_now ∈ TB := tb_at 439 (by decide +kernel) (by decide +kernel)
theorem kw_442 : Cond.code yX5_now cX5_now 1 (some .int) ∈ TB := tb_at 442 (by decide +kernel) (by decide +kernel)
theorem kw_440 : Cond.instanceMethod yX5_now ∈ TB := tb_at 440 (by decide +kernel) (by decide +kernel)
theorem kw_441 : Cond.selects "FrequencyShelf$Rules" yX5_now yX5_now ∈ TB := tb_at 441 (by decide +kernel) (by decide +kernel)
theorem cv_X5_now : Cond.code yX5_now cX5_now 1 (some .int) ∈ TB ∧ Cond.instanceMethod yX5_now ∈ TB ∧ Cond.selects "FrequencyShelf$Rules" yX5_now yX5_now ∈ TB ∧ Cond.initialized "FrequencyShelf$Rules" ∈ TB := ⟨kw_442, kw_440, kw_441, kw_69⟩
theorem kw_443 : Cond.methodLink "FrequencyShelf$Ledge\x72" 46 yX1_number ∈ TB := tb_at 443 (by decide +kernel) (by decide +kernel)
theorem kw_445 : Cond.code yX1_number cX1_number 4 (some .int) ∈ TB := tb_at 445 (by decide +kernel) (by decide +kernel)
theorem kw_444 : Cond.static yX1_number ∈ TB := tb_at 444 (by decide +kernel) (by decide +kernel)
theorem kw_76 : Cond.initialized "FrequencyShelf$Key" ∈ TB := tb_at 76 (by decide +kernel) (by decide +kernel)
theorem cs_X1_number : Cond.code yX1_number cX1_number 4 (some .int) ∈ TB ∧ Cond.static yX1_number ∈ TB ∧ Cond.initialized "FrequencyShelf$Key" ∈ TB := ⟨kw_445, kw_444, kw_76⟩
theorem kw_434 : Cond.methodLink "FrequencyShelf$Ledge\x72" 52 yX9_push ∈ TB := tb_at 434 (by decide +kernel) (by decide +kernel)
theorem kw_446 : Cond.fieldLink "FrequencyShelf$Ledge\x72" 56 "FrequencyShelf$Ledge\x72" "SUM_OF" "[I" ∈ TB := tb_at 446 (by decide +kernel) (by decide +kernel)
theorem kw_448 : Cond.methodLink "FrequencyShelf$Ledge\x72" 59 yX2_tally ∈ TB := tb_at 448 (by decide +kernel) (by decide +kernel)
theorem kw_451 : Cond.code yX2_tally cX2_tally 2 none ∈ TB := tb_at 451 (by decide +kernel) (by decide +kernel)
theorem kw_449 : Cond.instanceMethod yX2_tally ∈ TB := tb_at 449 (by decide +kernel) (by decide +kernel)
theorem kw_450 : Cond.selects "FrequencyShelf$Ledge\x72" yX2_tally yX2_tally ∈ TB := tb_at 450 (by decide +kernel) (by decide +kernel)
theorem kw_70 : Cond.initialized "FrequencyShelf$Ledge\x72" ∈ TB := tb_at 70 (by decide +kernel) (by decide +kernel)
theorem cv_X2_tally : Cond.code yX2_tally cX2_tally 2 none ∈ TB ∧ Cond.instanceMethod yX2_tally ∈ TB ∧ Cond.selects "FrequencyShelf$Ledge\x72" yX2_tally yX2_tally ∈ TB ∧ Cond.initialized "FrequencyShelf$Ledge\x72" ∈ TB := ⟨kw_451, kw_449, kw_450, kw_70⟩
abbrev cX2_noteWritten : ByteArray := prog_4_method_10_code
def yX2_noteWritten : MethodName := ⟨RX2, "noteWritten", "(II)V"⟩
theorem dX2_noteWritten_0 : decode cX2_noteWritten 0 = .ok (.aload_n 0, 1) := by decide +kernel
theorem dX2_noteWritten_1 : decode cX2_noteWritten 1 = .ok (.getfield 27, 3) := by decide +kernel
theorem dX2_noteWritten_4 : decode cX2_noteWritten 4 = .ok (.iload_n 1, 1) := by decide +kernel
theorem dX2_noteWritten_5 : decode cX2_noteWritten 5 = .ok (.iload_n 2, 1) := by decide +kernel
theorem dX2_noteWritten_6 : decode cX2_noteWritten 6 = .ok (.iconst 0, 1) := by decide +kernel
theorem dX2_noteWritten_7 : decode cX2_noteWritten 7 = .ok (.invokevirtual 52, 3) := by decide +kernel
theorem dX2_noteWritten_10 : decode cX2_noteWritten 10 = .ok (.pop, 1) := by decide +kernel
theorem dX2_noteWritten_11 : decode cX2_noteWritten 11 = .ok (.aload_n 0, 1) := by decide +kernel
theorem dX2_noteWritten_12 : decode cX2_noteWritten 12 = .ok (.bipush 11, 2) := by decide +kernel
theorem dX2_noteWritten_14 : decode cX2_noteWritten 14 = .ok (.iload_n 1, 1) := by decide +kernel
theorem dX2_noteWritten_15 : decode cX2_noteWritten 15 = .ok (.invokevirtual 66, 3) := by decide +kernel
theorem dX2_noteWritten_18 : decode cX2_noteWritten 18 = .ok (.return_, 1) := by decide +kernel
theorem kw_175 : Cond.fieldLink "FrequencyShelf$Ledge\x72" 27 "FrequencyShelf$Ledge\x72" "written" "LFrequencyShelf$Table;" ∈ TB := tb_at 175 (by decide +kernel) (by decide +kernel)
theorem fl_X2_27 : mF RX2 27 1 3 := ⟨RX2, TX2, 7, tyX2, rfl, by decide, in_X2, kw_175, tyX2_ok, nmX2⟩
theorem kw_435 : Cond.methodLink "FrequencyShelf$Ledge\x72" 66 yX2_note ∈ TB := tb_at 435 (by decide +kernel) (by decide +kernel)
theorem kw_438 : Cond.code yX2_note cX2_note 3 none ∈ TB := tb_at 438 (by decide +kernel) (by decide +kernel)
theorem kw_436 : Cond.instanceMethod yX2_note ∈ TB := tb_at 436 (by decide +kernel) (by decide +kernel)
theorem kw_437 : Cond.selects "FrequencyShelf$Ledge\x72" yX2_note yX2_note ∈ TB := tb_at 437 (by decide +kernel) (by decide +kernel)
theorem cv_X2_note : Cond.code yX2_note cX2_note 3 none ∈ TB ∧ Cond.instanceMethod yX2_note ∈ TB ∧ Cond.selects "FrequencyShelf$Ledge\x72" yX2_note yX2_note ∈ TB ∧ Cond.initialized "FrequencyShelf$Ledge\x72" ∈ TB := ⟨kw_438, kw_436, kw_437, kw_70⟩
abbrev cX6_letGo : ByteArray := prog_8_method_15_code
def yX6_letGo : MethodName := ⟨RX6, "letGo", "(II)V"⟩
theorem dX6_letGo_0 : decode cX6_letGo 0 = .ok (.aload_n 0, 1) := by decide +kernel
theorem dX6_letGo_1 : decode cX6_letGo 1 = .ok (.getfield 24, 3) := by decide +kernel
theorem dX6_letGo_4 : decode cX6_letGo 4 = .ok (.iload_n 1, 1) := by decide +kernel
theorem dX6_letGo_5 : decode cX6_letGo 5 = .ok (.bipush 7, 2) := by decide +kernel
theorem dX6_letGo_7 : decode cX6_letGo 7 = .ok (.invokevirtual 89, 3) := by decide +kernel
theorem dX6_letGo_10 : decode cX6_letGo 10 = .ok (.istore_n 3, 1) := by decide +kernel
theorem dX6_letGo_11 : decode cX6_letGo 11 = .ok (.aload_n 0, 1) := by decide +kernel
theorem dX6_letGo_12 : decode cX6_letGo 12 = .ok (.getfield 24, 3) := by decide +kernel
theorem dX6_letGo_15 : decode cX6_letGo 15 = .ok (.iload_n 1, 1) := by decide +kernel
theorem dX6_letGo_16 : decode cX6_letGo 16 = .ok (.invokevirtual 114, 3) := by decide +kernel
theorem dX6_letGo_19 : decode cX6_letGo 19 = .ok (.ifCond .eq 20, 3) := by decide +kernel
theorem dX6_letGo_22 : decode cX6_letGo 22 = .ok (.aload_n 0, 1) := by decide +kernel
theorem dX6_letGo_23 : decode cX6_letGo 23 = .ok (.getfield 15, 3) := by decide +kernel
theorem dX6_letGo_26 : decode cX6_letGo 26 = .ok (.iload_n 3, 1) := by decide +kernel
theorem dX6_letGo_27 : decode cX6_letGo 27 = .ok (.aload_n 0, 1) := by decide +kernel
theorem dX6_letGo_28 : decode cX6_letGo 28 = .ok (.getfield 24, 3) := by decide +kernel
theorem dX6_letGo_31 : decode cX6_letGo 31 = .ok (.iload_n 1, 1) := by decide +kernel
theorem dX6_letGo_32 : decode cX6_letGo 32 = .ok (.iconst 0, 1) := by decide +kernel
theorem dX6_letGo_33 : decode cX6_letGo 33 = .ok (.invokevirtual 89, 3) := by decide +kernel
theorem dX6_letGo_36 : decode cX6_letGo 36 = .ok (.invokevirtual 146, 3) := by decide +kernel
theorem dX6_letGo_39 : decode cX6_letGo 39 = .ok (.aload_n 0, 1) := by decide +kernel
theorem dX6_letGo_40 : decode cX6_letGo 40 = .ok (.getfield 15, 3) := by decide +kernel
theorem dX6_letGo_43 : decode cX6_letGo 43 = .ok (.iload_n 2, 1) := by decide +kernel
theorem dX6_letGo_44 : decode cX6_letGo 44 = .ok (.iload_n 3, 1) := by decide +kernel
theorem dX6_letGo_45 : decode cX6_letGo 45 = .ok (.invokevirtual 83, 3) := by decide +kernel
theorem dX6_letGo_48 : decode cX6_letGo 48 = .ok (.aload_n 0, 1) := by decide +kernel
theorem dX6_letGo_49 : decode cX6_letGo 49 = .ok (.getfield 24, 3) := by decide +kernel
theorem dX6_letGo_52 : decode cX6_letGo 52 = .ok (.iload_n 1, 1) := by decide +kernel
theorem dX6_letGo_53 : decode cX6_letGo 53 = .ok (.invokevirtual 69, 3) := by decide +kernel
theorem dX6_letGo_56 : decode cX6_letGo 56 = .ok (.return_, 1) := by decide +kernel
theorem kw_426 : Cond.methodLink "FrequencyShelf$Shelf" 114 yX0_isDirty ∈ TB := tb_at 426 (by decide +kernel) (by decide +kernel)
theorem kw_429 : Cond.code yX0_isDirty cX0_isDirty 2 (some .boolean) ∈ TB := tb_at 429 (by decide +kernel) (by decide +kernel)
theorem kw_427 : Cond.instanceMethod yX0_isDirty ∈ TB := tb_at 427 (by decide +kernel) (by decide +kernel)
theorem kw_428 : Cond.selects "FrequencyShelf$Entries" yX0_isDirty yX0_isDirty ∈ TB := tb_at 428 (by decide +kernel) (by decide +kernel)
theorem cv_X0_isDirty : Cond.code yX0_isDirty cX0_isDirty 2 (some .boolean) ∈ TB ∧ Cond.instanceMethod yX0_isDirty ∈ TB ∧ Cond.selects "FrequencyShelf$Entries" yX0_isDirty yX0_isDirty ∈ TB ∧ Cond.initialized "FrequencyShelf$Entries" ∈ TB := ⟨kw_429, kw_427, kw_428, kw_72⟩
theorem kw_228 : Cond.fieldLink "FrequencyShelf$Shelf" 15 "FrequencyShelf$Shelf" "ledge\x72" "LFrequencyShelf$Ledger;" ∈ TB := tb_at 228 (by decide +kernel) (by decide +kernel)
theorem fl_X6_15 : mF RX6 15 5 1 := ⟨RX6, TX6, 9, tyX6, rfl, by decide, in_X6, kw_228, tyX6_ok, nmX6⟩
theorem kw_452 : Cond.methodLink "FrequencyShelf$Shelf" 83 yX2_note ∈ TB := tb_at 452 (by decide +kernel) (by decide +kernel)
theorem kw_430 : Cond.methodLink "FrequencyShelf$Shelf" 146 yX2_noteWritten ∈ TB := tb_at 430 (by decide +kernel) (by decide +kernel)
theorem kw_433 : Cond.code yX2_noteWritten cX2_noteWritten 3 none ∈ TB := tb_at 433 (by decide +kernel) (by decide +kernel)
theorem kw_431 : Cond.instanceMethod yX2_noteWritten ∈ TB := tb_at 431 (by decide +kernel) (by decide +kernel)
theorem kw_432 : Cond.selects "FrequencyShelf$Ledge\x72" yX2_noteWritten yX2_noteWritten ∈ TB := tb_at 432 (by decide +kernel) (by decide +kernel)
theorem cv_X2_noteWritten : Cond.code yX2_noteWritten cX2_noteWritten 3 none ∈ TB ∧ Cond.instanceMethod yX2_noteWritten ∈ TB ∧ Cond.selects "FrequencyShelf$Ledge\x72" yX2_noteWritten yX2_noteWritten ∈ TB ∧ Cond.initialized "FrequencyShelf$Ledge\x72" ∈ TB := ⟨kw_433, kw_431, kw_432, kw_70⟩
abbrev cX6_makePlace : ByteArray := prog_8_method_12_code
def yX6_makePlace : MethodName := ⟨RX6, "makePlace", "(II)V"⟩
theorem dX6_makePlace_0 : decode cX6_makePlace 0 = .ok (.aload_n 0, 1) := by decide +kernel
theorem dX6_makePlace_1 : decode cX6_makePlace 1 = .ok (.getfield 24, 3) := by decide +kernel
theorem dX6_makePlace_4 : decode cX6_makePlace 4 = .ok (.invokevirtual 137, 3) := by decide +kernel
theorem dX6_makePlace_7 : decode cX6_makePlace 7 = .ok (.istore_n 3, 1) := by decide +kernel
theorem dX6_makePlace_8 : decode cX6_makePlace 8 = .ok (.iload_n 3, 1) := by decide +kernel
theorem dX6_makePlace_9 : decode cX6_makePlace 9 = .ok (.ifCond .le 64, 3) := by decide +kernel
theorem dX6_makePlace_12 : decode cX6_makePlace 12 = .ok (.aload_n 0, 1) := by decide +kernel
theorem dX6_makePlace_13 : decode cX6_makePlace 13 = .ok (.getfield 24, 3) := by decide +kernel
theorem dX6_makePlace_16 : decode cX6_makePlace 16 = .ok (.invokevirtual 131, 3) := by decide +kernel
theorem dX6_makePlace_19 : decode cX6_makePlace 19 = .ok (.iload_n 1, 1) := by decide +kernel
theorem dX6_makePlace_20 : decode cX6_makePlace 20 = .ok (.if_icmp .le 53, 3) := by decide +kernel
theorem dX6_makePlace_23 : decode cX6_makePlace 23 = .ok (.aload_n 0, 1) := by decide +kernel
theorem dX6_makePlace_24 : decode cX6_makePlace 24 = .ok (.getfield 24, 3) := by decide +kernel
theorem dX6_makePlace_27 : decode cX6_makePlace 27 = .ok (.iconst (-1), 1) := by decide +kernel
theorem dX6_makePlace_28 : decode cX6_makePlace 28 = .ok (.iload_n 2, 1) := by decide +kernel
theorem dX6_makePlace_29 : decode cX6_makePlace 29 = .ok (.invokevirtual 134, 3) := by decide +kernel
theorem dX6_makePlace_32 : decode cX6_makePlace 32 = .ok (.istore 4, 2) := by decide +kernel
theorem dX6_makePlace_34 : decode cX6_makePlace 34 = .ok (.iload 4, 2) := by decide +kernel
theorem dX6_makePlace_36 : decode cX6_makePlace 36 = .ok (.iconst (-1), 1) := by decide +kernel
theorem dX6_makePlace_37 : decode cX6_makePlace 37 = .ok (.if_icmp .ne 4, 3) := by decide +kernel
theorem dX6_makePlace_40 : decode cX6_makePlace 40 = .ok (.return_, 1) := by decide +kernel
theorem dX6_makePlace_41 : decode cX6_makePlace 41 = .ok (.aload_n 0, 1) := by decide +kernel
theorem dX6_makePlace_42 : decode cX6_makePlace 42 = .ok (.getfield 24, 3) := by decide +kernel
theorem dX6_makePlace_45 : decode cX6_makePlace 45 = .ok (.iload 4, 2) := by decide +kernel
theorem dX6_makePlace_47 : decode cX6_makePlace 47 = .ok (.invokevirtual 59, 3) := by decide +kernel
theorem dX6_makePlace_50 : decode cX6_makePlace 50 = .ok (.ifCond .ne 9, 3) := by decide +kernel
theorem dX6_makePlace_53 : decode cX6_makePlace 53 = .ok (.aload_n 0, 1) := by decide +kernel
theorem dX6_makePlace_54 : decode cX6_makePlace 54 = .ok (.iload 4, 2) := by decide +kernel
theorem dX6_makePlace_56 : decode cX6_makePlace 56 = .ok (.invokevirtual 140, 3) := by decide +kernel
theorem dX6_makePlace_59 : decode cX6_makePlace 59 = .ok (.aload_n 0, 1) := by decide +kernel
theorem dX6_makePlace_60 : decode cX6_makePlace 60 = .ok (.iload 4, 2) := by decide +kernel
theorem dX6_makePlace_62 : decode cX6_makePlace 62 = .ok (.bipush 7, 2) := by decide +kernel
theorem dX6_makePlace_64 : decode cX6_makePlace 64 = .ok (.invokevirtual 65, 3) := by decide +kernel
theorem dX6_makePlace_67 : decode cX6_makePlace 67 = .ok (.iinc 3 (-1), 3) := by decide +kernel
theorem dX6_makePlace_70 : decode cX6_makePlace 70 = .ok (.goto (-62), 3) := by decide +kernel
theorem dX6_makePlace_73 : decode cX6_makePlace 73 = .ok (.return_, 1) := by decide +kernel
theorem kw_364 : Cond.methodLink "FrequencyShelf$Shelf" 131 yX0_weight ∈ TB := tb_at 364 (by decide +kernel) (by decide +kernel)
theorem kw_367 : Cond.code yX0_weight cX0_weight 3 (some .int) ∈ TB := tb_at 367 (by decide +kernel) (by decide +kernel)
theorem kw_365 : Cond.instanceMethod yX0_weight ∈ TB := tb_at 365 (by decide +kernel) (by decide +kernel)
theorem kw_366 : Cond.selects "FrequencyShelf$Entries" yX0_weight yX0_weight ∈ TB := tb_at 366 (by decide +kernel) (by decide +kernel)
theorem cv_X0_weight : Cond.code yX0_weight cX0_weight 3 (some .int) ∈ TB ∧ Cond.instanceMethod yX0_weight ∈ TB ∧ Cond.selects "FrequencyShelf$Entries" yX0_weight yX0_weight ∈ TB ∧ Cond.initialized "FrequencyShelf$Entries" ∈ TB := ⟨kw_367, kw_365, kw_366, kw_72⟩
theorem kw_372 : Cond.methodLink "FrequencyShelf$Shelf" 134 yX0_nextToGo ∈ TB := tb_at 372 (by decide +kernel) (by decide +kernel)
theorem kw_375 : Cond.code yX0_nextToGo cX0_nextToGo 5 (some .int) ∈ TB := tb_at 375 (by decide +kernel) (by decide +kernel)
theorem kw_373 : Cond.instanceMethod yX0_nextToGo ∈ TB := tb_at 373 (by decide +kernel) (by decide +kernel)
theorem kw_374 : Cond.selects "FrequencyShelf$Entries" yX0_nextToGo yX0_nextToGo ∈ TB := tb_at 374 (by decide +kernel) (by decide +kernel)
theorem cv_X0_nextToGo : Cond.code yX0_nextToGo cX0_nextToGo 5 (some .int) ∈ TB ∧ Cond.instanceMethod yX0_nextToGo ∈ TB ∧ Cond.selects "FrequencyShelf$Entries" yX0_nextToGo yX0_nextToGo ∈ TB ∧ Cond.initialized "FrequencyShelf$Entries" ∈ TB := ⟨kw_375, kw_373, kw_374, kw_72⟩
theorem kw_388 : Cond.methodLink "FrequencyShelf$Shelf" 59 yX0_isStale ∈ TB := tb_at 388 (by decide +kernel) (by decide +kernel)
theorem kw_422 : Cond.methodLink "FrequencyShelf$Shelf" 65 yX6_letGo ∈ TB := tb_at 422 (by decide +kernel) (by decide +kernel)
theorem kw_425 : Cond.code yX6_letGo cX6_letGo 4 none ∈ TB := tb_at 425 (by decide +kernel) (by decide +kernel)
theorem kw_424 : Cond.instanceMethod yX6_letGo ∈ TB := tb_at 424 (by decide +kernel) (by decide +kernel)
theorem kw_3 : Cond.selects "FrequencyShelf$Shelf" yX6_letGo yX6_letGo ∈ TB := tb_at 3 (by decide +kernel) (by decide +kernel)
theorem cv_X6_letGo : Cond.code yX6_letGo cX6_letGo 4 none ∈ TB ∧ Cond.instanceMethod yX6_letGo ∈ TB ∧ Cond.selects "FrequencyShelf$Shelf" yX6_letGo yX6_letGo ∈ TB ∧ Cond.initialized "FrequencyShelf$Shelf" ∈ TB := ⟨kw_425, kw_424, kw_3, kw_71⟩
theorem kw_389 : Cond.methodLink "FrequencyShelf$Shelf" 140 yX6_putOnCold ∈ TB := tb_at 389 (by decide +kernel) (by decide +kernel)
theorem kw_392 : Cond.code yX6_putOnCold cX6_putOnCold 6 none ∈ TB := tb_at 392 (by decide +kernel) (by decide +kernel)
theorem kw_391 : Cond.instanceMethod yX6_putOnCold ∈ TB := tb_at 391 (by decide +kernel) (by decide +kernel)
theorem kw_2 : Cond.selects "FrequencyShelf$Shelf" yX6_putOnCold yX6_putOnCold ∈ TB := tb_at 2 (by decide +kernel) (by decide +kernel)
theorem cv_X6_putOnCold : Cond.code yX6_putOnCold cX6_putOnCold 6 none ∈ TB ∧ Cond.instanceMethod yX6_putOnCold ∈ TB ∧ Cond.selects "FrequencyShelf$Shelf" yX6_putOnCold yX6_putOnCold ∈ TB ∧ Cond.initialized "FrequencyShelf$Shelf" ∈ TB := ⟨kw_392, kw_391, kw_2, kw_71⟩
abbrev cX6_fitInto : ByteArray := prog_8_method_11_code
def yX6_fitInto : MethodName := ⟨RX6, "fitInto", "(I)V"⟩
theorem dX6_fitInto_0 : decode cX6_fitInto 0 = .ok (.aload_n 0, 1) := by decide +kernel
theorem dX6_fitInto_1 : decode cX6_fitInto 1 = .ok (.iload_n 1, 1) := by decide +kernel
theorem dX6_fitInto_2 : decode cX6_fitInto 2 = .ok (.iconst 0, 1) := by decide +kernel
theorem dX6_fitInto_3 : decode cX6_fitInto 3 = .ok (.invokevirtual 121, 3) := by decide +kernel
theorem dX6_fitInto_6 : decode cX6_fitInto 6 = .ok (.return_, 1) := by decide +kernel
theorem kw_352 : Cond.methodLink "FrequencyShelf$Shelf" 121 yX6_makePlace ∈ TB := tb_at 352 (by decide +kernel) (by decide +kernel)
theorem kw_355 : Cond.code yX6_makePlace cX6_makePlace 5 none ∈ TB := tb_at 355 (by decide +kernel) (by decide +kernel)
theorem kw_354 : Cond.instanceMethod yX6_makePlace ∈ TB := tb_at 354 (by decide +kernel) (by decide +kernel)
theorem kw_0 : Cond.selects "FrequencyShelf$Shelf" yX6_makePlace yX6_makePlace ∈ TB := tb_at 0 (by decide +kernel) (by decide +kernel)
theorem cv_X6_makePlace : Cond.code yX6_makePlace cX6_makePlace 5 none ∈ TB ∧ Cond.instanceMethod yX6_makePlace ∈ TB ∧ Cond.selects "FrequencyShelf$Shelf" yX6_makePlace yX6_makePlace ∈ TB ∧ Cond.initialized "FrequencyShelf$Shelf" ∈ TB := ⟨kw_355, kw_354, kw_0, kw_71⟩
abbrev cX6_beginWindow : ByteArray := prog_8_method_2_code
def yX6_beginWindow : MethodName := ⟨RX6, "beginWindow", "()V"⟩
theorem dX6_beginWindow_0 : decode cX6_beginWindow 0 = .ok (.aload_n 0, 1) := by decide +kernel
theorem dX6_beginWindow_1 : decode cX6_beginWindow 1 = .ok (.iconst 0, 1) := by decide +kernel
theorem dX6_beginWindow_2 : decode cX6_beginWindow 2 = .ok (.putfield 42, 3) := by decide +kernel
theorem dX6_beginWindow_5 : decode cX6_beginWindow 5 = .ok (.return_, 1) := by decide +kernel
theorem kw_236 : Cond.fieldLink "FrequencyShelf$Shelf" 42 "FrequencyShelf$Shelf" "usesInWindow" "I" ∈ TB := tb_at 236 (by decide +kernel) (by decide +kernel)
theorem fl_X6_42 : mF RX6 42 5 6 := ⟨RX6, TX6, 9, tyX6, rfl, by decide, in_X6, kw_236, tyX6_ok, nmX6⟩
theorem fi_X6_6 : mFi 5 6 := fun _ _ _ h => by cases h; exact ⟨rfl, by decide +kernel⟩
abbrev cX3_running : ByteArray := prog_5_method_4_code
def yX3_running : MethodName := ⟨RX3, "running", "()I"⟩
theorem dX3_running_0 : decode cX3_running 0 = .ok (.aload_n 0, 1) := by decide +kernel
theorem dX3_running_1 : decode cX3_running 1 = .ok (.getfield 24, 3) := by decide +kernel
theorem dX3_running_4 : decode cX3_running 4 = .ok (.iconst 1, 1) := by decide +kernel
theorem dX3_running_5 : decode cX3_running 5 = .ok (.iconst 1, 1) := by decide +kernel
theorem dX3_running_6 : decode cX3_running 6 = .ok (.invokevirtual 46, 3) := by decide +kernel
theorem dX3_running_9 : decode cX3_running 9 = .ok (.ireturn, 1) := by decide +kernel
theorem kw_268 : Cond.fieldLink "FrequencyShelf$Loads" 24 "FrequencyShelf$Loads" "line" "LFrequencyShelf$Table;" ∈ TB := tb_at 268 (by decide +kernel) (by decide +kernel)
theorem in_X3 : ∀ w ∈ u_ws RX3 TX3 5, w ∈ TB := by decide +kernel
theorem fl_X3_24 : mF RX3 24 2 2 := ⟨RX3, TX3, 5, tyX3, rfl, by decide, in_X3, kw_268, tyX3_ok, nmX3⟩
theorem kw_465 : Cond.methodLink "FrequencyShelf$Loads" 46 yX9_howMany ∈ TB := tb_at 465 (by decide +kernel) (by decide +kernel)
theorem kw_468 : Cond.code yX9_howMany cX9_howMany 5 (some .int) ∈ TB := tb_at 468 (by decide +kernel) (by decide +kernel)
theorem kw_466 : Cond.instanceMethod yX9_howMany ∈ TB := tb_at 466 (by decide +kernel) (by decide +kernel)
theorem kw_467 : Cond.selects "FrequencyShelf$Table" yX9_howMany yX9_howMany ∈ TB := tb_at 467 (by decide +kernel) (by decide +kernel)
theorem cv_X9_howMany : Cond.code yX9_howMany cX9_howMany 5 (some .int) ∈ TB ∧ Cond.instanceMethod yX9_howMany ∈ TB ∧ Cond.selects "FrequencyShelf$Table" yX9_howMany yX9_howMany ∈ TB ∧ Cond.initialized "FrequencyShelf$Table" ∈ TB := ⟨kw_468, kw_466, kw_467, kw_65⟩
abbrev cX2_noteTold : ByteArray := prog_4_method_9_code
def yX2_noteTold : MethodName := ⟨RX2, "noteTold", "(I)V"⟩
theorem dX2_noteTold_0 : decode cX2_noteTold 0 = .ok (.aload_n 0, 1) := by decide +kernel
theorem dX2_noteTold_1 : decode cX2_noteTold 1 = .ok (.getfield 24, 3) := by decide +kernel
theorem dX2_noteTold_4 : decode cX2_noteTold 4 = .ok (.iload_n 1, 1) := by decide +kernel
theorem dX2_noteTold_5 : decode cX2_noteTold 5 = .ok (.iconst 0, 1) := by decide +kernel
theorem dX2_noteTold_6 : decode cX2_noteTold 6 = .ok (.iconst 0, 1) := by decide +kernel
theorem dX2_noteTold_7 : decode cX2_noteTold 7 = .ok (.invokevirtual 52, 3) := by decide +kernel
theorem dX2_noteTold_10 : decode cX2_noteTold 10 = .ok (.pop, 1) := by decide +kernel
theorem dX2_noteTold_11 : decode cX2_noteTold 11 = .ok (.aload_n 0, 1) := by decide +kernel
theorem dX2_noteTold_12 : decode cX2_noteTold 12 = .ok (.iconst 3, 1) := by decide +kernel
theorem dX2_noteTold_13 : decode cX2_noteTold 13 = .ok (.iload_n 1, 1) := by decide +kernel
theorem dX2_noteTold_14 : decode cX2_noteTold 14 = .ok (.invokevirtual 66, 3) := by decide +kernel
theorem dX2_noteTold_17 : decode cX2_noteTold 17 = .ok (.return_, 1) := by decide +kernel
theorem kw_173 : Cond.fieldLink "FrequencyShelf$Ledge\x72" 24 "FrequencyShelf$Ledge\x72" "told" "LFrequencyShelf$Table;" ∈ TB := tb_at 173 (by decide +kernel) (by decide +kernel)
theorem fl_X2_24 : mF RX2 24 1 2 := ⟨RX2, TX2, 7, tyX2, rfl, by decide, in_X2, kw_173, tyX2_ok, nmX2⟩
abbrev cX3_runWhatMay : ByteArray := prog_5_method_7_code
def yX3_runWhatMay : MethodName := ⟨RX3, "runWhatMay", "()V"⟩
theorem dX3_runWhatMay_0 : decode cX3_runWhatMay 0 = .ok (.aload_n 0, 1) := by decide +kernel
theorem dX3_runWhatMay_1 : decode cX3_runWhatMay 1 = .ok (.invokevirtual 60, 3) := by decide +kernel
theorem dX3_runWhatMay_4 : decode cX3_runWhatMay 4 = .ok (.istore_n 1, 1) := by decide +kernel
theorem dX3_runWhatMay_5 : decode cX3_runWhatMay 5 = .ok (.aload_n 0, 1) := by decide +kernel
theorem dX3_runWhatMay_6 : decode cX3_runWhatMay 6 = .ok (.getfield 9, 3) := by decide +kernel
theorem dX3_runWhatMay_9 : decode cX3_runWhatMay 9 = .ok (.iconst 4, 1) := by decide +kernel
theorem dX3_runWhatMay_10 : decode cX3_runWhatMay 10 = .ok (.invokevirtual 66, 3) := by decide +kernel
theorem dX3_runWhatMay_13 : decode cX3_runWhatMay 13 = .ok (.iload_n 1, 1) := by decide +kernel
theorem dX3_runWhatMay_14 : decode cX3_runWhatMay 14 = .ok (.isub, 1) := by decide +kernel
theorem dX3_runWhatMay_15 : decode cX3_runWhatMay 15 = .ok (.istore_n 2, 1) := by decide +kernel
theorem dX3_runWhatMay_16 : decode cX3_runWhatMay 16 = .ok (.iload_n 2, 1) := by decide +kernel
theorem dX3_runWhatMay_17 : decode cX3_runWhatMay 17 = .ok (.ifCond .le 65, 3) := by decide +kernel
theorem dX3_runWhatMay_20 : decode cX3_runWhatMay 20 = .ok (.iload_n 1, 1) := by decide +kernel
theorem dX3_runWhatMay_21 : decode cX3_runWhatMay 21 = .ok (.aload_n 0, 1) := by decide +kernel
theorem dX3_runWhatMay_22 : decode cX3_runWhatMay 22 = .ok (.getfield 24, 3) := by decide +kernel
theorem dX3_runWhatMay_25 : decode cX3_runWhatMay 25 = .ok (.invokevirtual 69, 3) := by decide +kernel
theorem dX3_runWhatMay_28 : decode cX3_runWhatMay 28 = .ok (.if_icmp .ge 54, 3) := by decide +kernel
theorem dX3_runWhatMay_31 : decode cX3_runWhatMay 31 = .ok (.aload_n 0, 1) := by decide +kernel
theorem dX3_runWhatMay_32 : decode cX3_runWhatMay 32 = .ok (.getfield 24, 3) := by decide +kernel
theorem dX3_runWhatMay_35 : decode cX3_runWhatMay 35 = .ok (.iload_n 1, 1) := by decide +kernel
theorem dX3_runWhatMay_36 : decode cX3_runWhatMay 36 = .ok (.iconst 1, 1) := by decide +kernel
theorem dX3_runWhatMay_37 : decode cX3_runWhatMay 37 = .ok (.iconst 1, 1) := by decide +kernel
theorem dX3_runWhatMay_38 : decode cX3_runWhatMay 38 = .ok (.invokevirtual 72, 3) := by decide +kernel
theorem dX3_runWhatMay_41 : decode cX3_runWhatMay 41 = .ok (.aload_n 0, 1) := by decide +kernel
theorem dX3_runWhatMay_42 : decode cX3_runWhatMay 42 = .ok (.getfield 24, 3) := by decide +kernel
theorem dX3_runWhatMay_45 : decode cX3_runWhatMay 45 = .ok (.iload_n 1, 1) := by decide +kernel
theorem dX3_runWhatMay_46 : decode cX3_runWhatMay 46 = .ok (.iconst 2, 1) := by decide +kernel
theorem dX3_runWhatMay_47 : decode cX3_runWhatMay 47 = .ok (.aload_n 0, 1) := by decide +kernel
theorem dX3_runWhatMay_48 : decode cX3_runWhatMay 48 = .ok (.getfield 9, 3) := by decide +kernel
theorem dX3_runWhatMay_51 : decode cX3_runWhatMay 51 = .ok (.invokevirtual 76, 3) := by decide +kernel
theorem dX3_runWhatMay_54 : decode cX3_runWhatMay 54 = .ok (.invokevirtual 72, 3) := by decide +kernel
theorem dX3_runWhatMay_57 : decode cX3_runWhatMay 57 = .ok (.aload_n 0, 1) := by decide +kernel
theorem dX3_runWhatMay_58 : decode cX3_runWhatMay 58 = .ok (.getfield 15, 3) := by decide +kernel
theorem dX3_runWhatMay_61 : decode cX3_runWhatMay 61 = .ok (.aload_n 0, 1) := by decide +kernel
theorem dX3_runWhatMay_62 : decode cX3_runWhatMay 62 = .ok (.getfield 24, 3) := by decide +kernel
theorem dX3_runWhatMay_65 : decode cX3_runWhatMay 65 = .ok (.iload_n 1, 1) := by decide +kernel
theorem dX3_runWhatMay_66 : decode cX3_runWhatMay 66 = .ok (.iconst 0, 1) := by decide +kernel
theorem dX3_runWhatMay_67 : decode cX3_runWhatMay 67 = .ok (.invokevirtual 42, 3) := by decide +kernel
theorem dX3_runWhatMay_70 : decode cX3_runWhatMay 70 = .ok (.invokevirtual 79, 3) := by decide +kernel
theorem dX3_runWhatMay_73 : decode cX3_runWhatMay 73 = .ok (.iinc 1 1, 3) := by decide +kernel
theorem dX3_runWhatMay_76 : decode cX3_runWhatMay 76 = .ok (.iinc 2 (-1), 3) := by decide +kernel
theorem dX3_runWhatMay_79 : decode cX3_runWhatMay 79 = .ok (.goto (-63), 3) := by decide +kernel
theorem dX3_runWhatMay_82 : decode cX3_runWhatMay 82 = .ok (.return_, 1) := by decide +kernel
theorem kw_461 : Cond.methodLink "FrequencyShelf$Loads" 60 yX3_running ∈ TB := tb_at 461 (by decide +kernel) (by decide +kernel)
theorem kw_464 : Cond.code yX3_running cX3_running 1 (some .int) ∈ TB := tb_at 464 (by decide +kernel) (by decide +kernel)
theorem kw_462 : Cond.instanceMethod yX3_running ∈ TB := tb_at 462 (by decide +kernel) (by decide +kernel)
theorem kw_463 : Cond.selects "FrequencyShelf$Loads" yX3_running yX3_running ∈ TB := tb_at 463 (by decide +kernel) (by decide +kernel)
theorem kw_74 : Cond.initialized "FrequencyShelf$Loads" ∈ TB := tb_at 74 (by decide +kernel) (by decide +kernel)
theorem cv_X3_running : Cond.code yX3_running cX3_running 1 (some .int) ∈ TB ∧ Cond.instanceMethod yX3_running ∈ TB ∧ Cond.selects "FrequencyShelf$Loads" yX3_running yX3_running ∈ TB ∧ Cond.initialized "FrequencyShelf$Loads" ∈ TB := ⟨kw_464, kw_462, kw_463, kw_74⟩
theorem kw_266 : Cond.fieldLink "FrequencyShelf$Loads" 9 "FrequencyShelf$Loads" "rules" "LFrequencyShelf$Rules;" ∈ TB := tb_at 266 (by decide +kernel) (by decide +kernel)
theorem fl_X3_9 : mF RX3 9 2 0 := ⟨RX3, TX3, 5, tyX3, rfl, by decide, in_X3, kw_266, tyX3_ok, nmX3⟩
theorem kw_470 : Cond.methodLink "FrequencyShelf$Loads" 66 yX5_value ∈ TB := tb_at 470 (by decide +kernel) (by decide +kernel)
theorem kw_471 : Cond.methodLink "FrequencyShelf$Loads" 69 yX9_size ∈ TB := tb_at 471 (by decide +kernel) (by decide +kernel)
theorem kw_472 : Cond.methodLink "FrequencyShelf$Loads" 72 yX9_set ∈ TB := tb_at 472 (by decide +kernel) (by decide +kernel)
theorem kw_473 : Cond.methodLink "FrequencyShelf$Loads" 76 yX5_now ∈ TB := tb_at 473 (by decide +kernel) (by decide +kernel)
theorem kw_267 : Cond.fieldLink "FrequencyShelf$Loads" 15 "FrequencyShelf$Loads" "ledge\x72" "LFrequencyShelf$Ledger;" ∈ TB := tb_at 267 (by decide +kernel) (by decide +kernel)
theorem fl_X3_15 : mF RX3 15 2 1 := ⟨RX3, TX3, 5, tyX3, rfl, by decide, in_X3, kw_267, tyX3_ok, nmX3⟩
theorem kw_474 : Cond.methodLink "FrequencyShelf$Loads" 42 yX9_get ∈ TB := tb_at 474 (by decide +kernel) (by decide +kernel)
theorem kw_475 : Cond.methodLink "FrequencyShelf$Loads" 79 yX2_noteTold ∈ TB := tb_at 475 (by decide +kernel) (by decide +kernel)
theorem kw_478 : Cond.code yX2_noteTold cX2_noteTold 2 none ∈ TB := tb_at 478 (by decide +kernel) (by decide +kernel)
theorem kw_476 : Cond.instanceMethod yX2_noteTold ∈ TB := tb_at 476 (by decide +kernel) (by decide +kernel)
theorem kw_477 : Cond.selects "FrequencyShelf$Ledge\x72" yX2_noteTold yX2_noteTold ∈ TB := tb_at 477 (by decide +kernel) (by decide +kernel)
theorem cv_X2_noteTold : Cond.code yX2_noteTold cX2_noteTold 2 none ∈ TB ∧ Cond.instanceMethod yX2_noteTold ∈ TB ∧ Cond.selects "FrequencyShelf$Ledge\x72" yX2_noteTold yX2_noteTold ∈ TB ∧ Cond.initialized "FrequencyShelf$Ledge\x72" ∈ TB := ⟨kw_478, kw_476, kw_477, kw_70⟩
abbrev cX11_rule : ByteArray := prog_1_method_2_code
def yX11_rule : MethodName := ⟨RX11, "rule", "(II)I"⟩
theorem dX11_rule_0 : decode cX11_rule 0 = .ok (.iload_n 1, 1) := by decide +kernel
theorem dX11_rule_1 : decode cX11_rule 1 = .ok (.iload_n 2, 1) := by decide +kernel
theorem dX11_rule_2 : decode cX11_rule 2 = .ok (.invokestatic 62, 3) := by decide +kernel
theorem dX11_rule_5 : decode cX11_rule 5 = .ok (.ifCond .ne 7, 3) := by decide +kernel
theorem dX11_rule_8 : decode cX11_rule 8 = .ok (.sipush (-1001), 3) := by decide +kernel
theorem dX11_rule_11 : decode cX11_rule 11 = .ok (.ireturn, 1) := by decide +kernel
theorem dX11_rule_12 : decode cX11_rule 12 = .ok (.aload_n 0, 1) := by decide +kernel
theorem dX11_rule_13 : decode cX11_rule 13 = .ok (.getfield 43, 3) := by decide +kernel
theorem dX11_rule_16 : decode cX11_rule 16 = .ok (.iload_n 1, 1) := by decide +kernel
theorem dX11_rule_17 : decode cX11_rule 17 = .ok (.invokevirtual 68, 3) := by decide +kernel
theorem dX11_rule_20 : decode cX11_rule 20 = .ok (.istore_n 3, 1) := by decide +kernel
theorem dX11_rule_21 : decode cX11_rule 21 = .ok (.aload_n 0, 1) := by decide +kernel
theorem dX11_rule_22 : decode cX11_rule 22 = .ok (.getfield 43, 3) := by decide +kernel
theorem dX11_rule_25 : decode cX11_rule 25 = .ok (.iload_n 1, 1) := by decide +kernel
theorem dX11_rule_26 : decode cX11_rule 26 = .ok (.iload_n 2, 1) := by decide +kernel
theorem dX11_rule_27 : decode cX11_rule 27 = .ok (.invokevirtual 72, 3) := by decide +kernel
theorem dX11_rule_30 : decode cX11_rule 30 = .ok (.iload_n 1, 1) := by decide +kernel
theorem dX11_rule_31 : decode cX11_rule 31 = .ok (.ifCond .ne 14, 3) := by decide +kernel
theorem dX11_rule_34 : decode cX11_rule 34 = .ok (.aload_n 0, 1) := by decide +kernel
theorem dX11_rule_35 : decode cX11_rule 35 = .ok (.getfield 53, 3) := by decide +kernel
theorem dX11_rule_38 : decode cX11_rule 38 = .ok (.iload_n 2, 1) := by decide +kernel
theorem dX11_rule_39 : decode cX11_rule 39 = .ok (.invokevirtual 75, 3) := by decide +kernel
theorem dX11_rule_42 : decode cX11_rule 42 = .ok (.goto 46, 3) := by decide +kernel
theorem dX11_rule_45 : decode cX11_rule 45 = .ok (.iload_n 1, 1) := by decide +kernel
theorem dX11_rule_46 : decode cX11_rule 46 = .ok (.iconst 1, 1) := by decide +kernel
theorem dX11_rule_47 : decode cX11_rule 47 = .ok (.if_icmp .ne 13, 3) := by decide +kernel
theorem dX11_rule_50 : decode cX11_rule 50 = .ok (.aload_n 0, 1) := by decide +kernel
theorem dX11_rule_51 : decode cX11_rule 51 = .ok (.getfield 53, 3) := by decide +kernel
theorem dX11_rule_54 : decode cX11_rule 54 = .ok (.invokevirtual 81, 3) := by decide +kernel
theorem dX11_rule_57 : decode cX11_rule 57 = .ok (.goto 31, 3) := by decide +kernel
theorem dX11_rule_60 : decode cX11_rule 60 = .ok (.iload_n 1, 1) := by decide +kernel
theorem dX11_rule_61 : decode cX11_rule 61 = .ok (.iconst 4, 1) := by decide +kernel
theorem dX11_rule_62 : decode cX11_rule 62 = .ok (.if_icmp .ne 13, 3) := by decide +kernel
theorem dX11_rule_65 : decode cX11_rule 65 = .ok (.aload_n 0, 1) := by decide +kernel
theorem dX11_rule_66 : decode cX11_rule 66 = .ok (.getfield 58, 3) := by decide +kernel
theorem dX11_rule_69 : decode cX11_rule 69 = .ok (.invokevirtual 84, 3) := by decide +kernel
theorem dX11_rule_72 : decode cX11_rule 72 = .ok (.goto 16, 3) := by decide +kernel
theorem dX11_rule_75 : decode cX11_rule 75 = .ok (.iload_n 1, 1) := by decide +kernel
theorem dX11_rule_76 : decode cX11_rule 76 = .ok (.bipush 6, 2) := by decide +kernel
theorem dX11_rule_78 : decode cX11_rule 78 = .ok (.if_icmp .ne 10, 3) := by decide +kernel
theorem dX11_rule_81 : decode cX11_rule 81 = .ok (.aload_n 0, 1) := by decide +kernel
theorem dX11_rule_82 : decode cX11_rule 82 = .ok (.getfield 53, 3) := by decide +kernel
theorem dX11_rule_85 : decode cX11_rule 85 = .ok (.invokevirtual 89, 3) := by decide +kernel
theorem dX11_rule_88 : decode cX11_rule 88 = .ok (.iload_n 3, 1) := by decide +kernel
theorem dX11_rule_89 : decode cX11_rule 89 = .ok (.ireturn, 1) := by decide +kernel
theorem kw_333 : Cond.methodLink "FrequencyShelf" 62 yX5_allow ∈ TB := tb_at 333 (by decide +kernel) (by decide +kernel)
theorem kw_335 : Cond.code yX5_allow cX5_allow 2 (some .boolean) ∈ TB := tb_at 335 (by decide +kernel) (by decide +kernel)
theorem kw_334 : Cond.static yX5_allow ∈ TB := tb_at 334 (by decide +kernel) (by decide +kernel)
theorem cs_X5_allow : Cond.code yX5_allow cX5_allow 2 (some .boolean) ∈ TB ∧ Cond.static yX5_allow ∈ TB ∧ Cond.initialized "FrequencyShelf$Rules" ∈ TB := ⟨kw_335, kw_334, kw_69⟩
theorem kw_305 : Cond.fieldLink "FrequencyShelf" 43 "FrequencyShelf" "rules" "LFrequencyShelf$Rules;" ∈ TB := tb_at 305 (by decide +kernel) (by decide +kernel)
theorem in_X11 : ∀ w ∈ u_ws RX11 TX11 9, w ∈ TB := by decide +kernel
theorem fl_X11_43 : mF RX11 43 10 4 := ⟨RX11, TX11, 9, tyX11, rfl, by decide, in_X11, kw_305, tyX11_ok, nmX11⟩
theorem kw_340 : Cond.methodLink "FrequencyShelf" 68 yX5_value ∈ TB := tb_at 340 (by decide +kernel) (by decide +kernel)
theorem kw_344 : Cond.methodLink "FrequencyShelf" 72 yX5_set ∈ TB := tb_at 344 (by decide +kernel) (by decide +kernel)
theorem kw_347 : Cond.code yX5_set cX5_set 3 none ∈ TB := tb_at 347 (by decide +kernel) (by decide +kernel)
theorem kw_345 : Cond.instanceMethod yX5_set ∈ TB := tb_at 345 (by decide +kernel) (by decide +kernel)
theorem kw_346 : Cond.selects "FrequencyShelf$Rules" yX5_set yX5_set ∈ TB := tb_at 346 (by decide +kernel) (by decide +kernel)
theorem cv_X5_set : Cond.code yX5_set cX5_set 3 none ∈ TB ∧ Cond.instanceMethod yX5_set ∈ TB ∧ Cond.selects "FrequencyShelf$Rules" yX5_set yX5_set ∈ TB ∧ Cond.initialized "FrequencyShelf$Rules" ∈ TB := ⟨kw_347, kw_345, kw_346, kw_69⟩
theorem kw_307 : Cond.fieldLink "FrequencyShelf" 53 "FrequencyShelf" "shelf" "LFrequencyShelf$Shelf;" ∈ TB := tb_at 307 (by decide +kernel) (by decide +kernel)
theorem fl_X11_53 : mF RX11 53 10 6 := ⟨RX11, TX11, 9, tyX11, rfl, by decide, in_X11, kw_307, tyX11_ok, nmX11⟩
theorem kw_479 : Cond.methodLink "FrequencyShelf" 89 yX6_trimCold ∈ TB := tb_at 479 (by decide +kernel) (by decide +kernel)
theorem kw_308 : Cond.fieldLink "FrequencyShelf" 58 "FrequencyShelf" "loads" "LFrequencyShelf$Loads;" ∈ TB := tb_at 308 (by decide +kernel) (by decide +kernel)
theorem fl_X11_58 : mF RX11 58 10 7 := ⟨RX11, TX11, 9, tyX11, rfl, by decide, in_X11, kw_308, tyX11_ok, nmX11⟩
theorem kw_457 : Cond.methodLink "FrequencyShelf" 84 yX3_runWhatMay ∈ TB := tb_at 457 (by decide +kernel) (by decide +kernel)
theorem kw_460 : Cond.code yX3_runWhatMay cX3_runWhatMay 3 none ∈ TB := tb_at 460 (by decide +kernel) (by decide +kernel)
theorem kw_458 : Cond.instanceMethod yX3_runWhatMay ∈ TB := tb_at 458 (by decide +kernel) (by decide +kernel)
theorem kw_459 : Cond.selects "FrequencyShelf$Loads" yX3_runWhatMay yX3_runWhatMay ∈ TB := tb_at 459 (by decide +kernel) (by decide +kernel)
theorem cv_X3_runWhatMay : Cond.code yX3_runWhatMay cX3_runWhatMay 3 none ∈ TB ∧ Cond.instanceMethod yX3_runWhatMay ∈ TB ∧ Cond.selects "FrequencyShelf$Loads" yX3_runWhatMay yX3_runWhatMay ∈ TB ∧ Cond.initialized "FrequencyShelf$Loads" ∈ TB := ⟨kw_460, kw_458, kw_459, kw_74⟩
theorem kw_453 : Cond.methodLink "FrequencyShelf" 81 yX6_beginWindow ∈ TB := tb_at 453 (by decide +kernel) (by decide +kernel)
theorem kw_456 : Cond.code yX6_beginWindow cX6_beginWindow 1 none ∈ TB := tb_at 456 (by decide +kernel) (by decide +kernel)
theorem kw_454 : Cond.instanceMethod yX6_beginWindow ∈ TB := tb_at 454 (by decide +kernel) (by decide +kernel)
theorem kw_455 : Cond.selects "FrequencyShelf$Shelf" yX6_beginWindow yX6_beginWindow ∈ TB := tb_at 455 (by decide +kernel) (by decide +kernel)
theorem cv_X6_beginWindow : Cond.code yX6_beginWindow cX6_beginWindow 1 none ∈ TB ∧ Cond.instanceMethod yX6_beginWindow ∈ TB ∧ Cond.selects "FrequencyShelf$Shelf" yX6_beginWindow yX6_beginWindow ∈ TB ∧ Cond.initialized "FrequencyShelf$Shelf" ∈ TB := ⟨kw_456, kw_454, kw_455, kw_71⟩
theorem kw_348 : Cond.methodLink "FrequencyShelf" 75 yX6_fitInto ∈ TB := tb_at 348 (by decide +kernel) (by decide +kernel)
theorem kw_351 : Cond.code yX6_fitInto cX6_fitInto 2 none ∈ TB := tb_at 351 (by decide +kernel) (by decide +kernel)
theorem kw_349 : Cond.instanceMethod yX6_fitInto ∈ TB := tb_at 349 (by decide +kernel) (by decide +kernel)
theorem kw_350 : Cond.selects "FrequencyShelf$Shelf" yX6_fitInto yX6_fitInto ∈ TB := tb_at 350 (by decide +kernel) (by decide +kernel)
theorem cv_X6_fitInto : Cond.code yX6_fitInto cX6_fitInto 2 none ∈ TB ∧ Cond.instanceMethod yX6_fitInto ∈ TB ∧ Cond.selects "FrequencyShelf$Shelf" yX6_fitInto yX6_fitInto ∈ TB ∧ Cond.initialized "FrequencyShelf$Shelf" ∈ TB := ⟨kw_351, kw_349, kw_350, kw_71⟩
abbrev cX5_pass : ByteArray := prog_7_method_6_code
def yX5_pass : MethodName := ⟨RX5, "pass", "(I)V"⟩
theorem dX5_pass_0 : decode cX5_pass 0 = .ok (.aload_n 0, 1) := by decide +kernel
theorem dX5_pass_1 : decode cX5_pass 1 = .ok (.dup, 1) := by decide +kernel
theorem dX5_pass_2 : decode cX5_pass 2 = .ok (.getfield 13, 3) := by decide +kernel
theorem dX5_pass_5 : decode cX5_pass 5 = .ok (.iload_n 1, 1) := by decide +kernel
theorem dX5_pass_6 : decode cX5_pass 6 = .ok (.iadd, 1) := by decide +kernel
theorem dX5_pass_7 : decode cX5_pass 7 = .ok (.putfield 13, 3) := by decide +kernel
theorem dX5_pass_10 : decode cX5_pass 10 = .ok (.return_, 1) := by decide +kernel
theorem fi_X5_1 : mFi 4 1 := fun _ _ _ h => by cases h; exact ⟨rfl, by decide +kernel⟩
abbrev cX3_firstDelivery : ByteArray := prog_5_method_14_code
def yX3_firstDelivery : MethodName := ⟨RX3, "firstDelivery", "(I)I"⟩
theorem dX3_firstDelivery_0 : decode cX3_firstDelivery 0 = .ok (.aload_n 0, 1) := by decide +kernel
theorem dX3_firstDelivery_1 : decode cX3_firstDelivery 1 = .ok (.getfield 31, 3) := by decide +kernel
theorem dX3_firstDelivery_4 : decode cX3_firstDelivery 4 = .ok (.iconst 0, 1) := by decide +kernel
theorem dX3_firstDelivery_5 : decode cX3_firstDelivery 5 = .ok (.iload_n 1, 1) := by decide +kernel
theorem dX3_firstDelivery_6 : decode cX3_firstDelivery 6 = .ok (.iconst 0, 1) := by decide +kernel
theorem dX3_firstDelivery_7 : decode cX3_firstDelivery 7 = .ok (.invokevirtual 34, 3) := by decide +kernel
theorem dX3_firstDelivery_10 : decode cX3_firstDelivery 10 = .ok (.ireturn, 1) := by decide +kernel
theorem kw_271 : Cond.fieldLink "FrequencyShelf$Loads" 31 "FrequencyShelf$Loads" "boxes" "LFrequencyShelf$Table;" ∈ TB := tb_at 271 (by decide +kernel) (by decide +kernel)
theorem fl_X3_31 : mF RX3 31 2 4 := ⟨RX3, TX3, 5, tyX3, rfl, by decide, in_X3, kw_271, tyX3_ok, nmX3⟩
theorem kw_512 : Cond.methodLink "FrequencyShelf$Loads" 34 yX9_find ∈ TB := tb_at 512 (by decide +kernel) (by decide +kernel)
theorem kw_515 : Cond.code yX9_find cX9_find 6 (some .int) ∈ TB := tb_at 515 (by decide +kernel) (by decide +kernel)
theorem kw_513 : Cond.instanceMethod yX9_find ∈ TB := tb_at 513 (by decide +kernel) (by decide +kernel)
theorem kw_514 : Cond.selects "FrequencyShelf$Table" yX9_find yX9_find ∈ TB := tb_at 514 (by decide +kernel) (by decide +kernel)
theorem cv_X9_find : Cond.code yX9_find cX9_find 6 (some .int) ∈ TB ∧ Cond.instanceMethod yX9_find ∈ TB ∧ Cond.selects "FrequencyShelf$Table" yX9_find yX9_find ∈ TB ∧ Cond.initialized "FrequencyShelf$Table" ∈ TB := ⟨kw_515, kw_513, kw_514, kw_65⟩
abbrev cX2_tallyOf : ByteArray := prog_4_method_4_code
def yX2_tallyOf : MethodName := ⟨RX2, "tallyOf", "(II)V"⟩
theorem dX2_tallyOf_0 : decode cX2_tallyOf 0 = .ok (.iload_n 1, 1) := by decide +kernel
theorem dX2_tallyOf_1 : decode cX2_tallyOf 1 = .ok (.iconst 4, 1) := by decide +kernel
theorem dX2_tallyOf_2 : decode cX2_tallyOf 2 = .ok (.imul, 1) := by decide +kernel
theorem dX2_tallyOf_3 : decode cX2_tallyOf 3 = .ok (.iload_n 2, 1) := by decide +kernel
theorem dX2_tallyOf_4 : decode cX2_tallyOf 4 = .ok (.iadd, 1) := by decide +kernel
theorem dX2_tallyOf_5 : decode cX2_tallyOf 5 = .ok (.istore_n 3, 1) := by decide +kernel
theorem dX2_tallyOf_6 : decode cX2_tallyOf 6 = .ok (.iload_n 3, 1) := by decide +kernel
theorem dX2_tallyOf_7 : decode cX2_tallyOf 7 = .ok (.ifCond .lt 22, 3) := by decide +kernel
theorem dX2_tallyOf_10 : decode cX2_tallyOf 10 = .ok (.iload_n 3, 1) := by decide +kernel
theorem dX2_tallyOf_11 : decode cX2_tallyOf 11 = .ok (.aload_n 0, 1) := by decide +kernel
theorem dX2_tallyOf_12 : decode cX2_tallyOf 12 = .ok (.getfield 37, 3) := by decide +kernel
theorem dX2_tallyOf_15 : decode cX2_tallyOf 15 = .ok (.arraylength, 1) := by decide +kernel
theorem dX2_tallyOf_16 : decode cX2_tallyOf 16 = .ok (.if_icmp .ge 13, 3) := by decide +kernel
theorem dX2_tallyOf_19 : decode cX2_tallyOf 19 = .ok (.aload_n 0, 1) := by decide +kernel
theorem dX2_tallyOf_20 : decode cX2_tallyOf 20 = .ok (.getfield 37, 3) := by decide +kernel
theorem dX2_tallyOf_23 : decode cX2_tallyOf 23 = .ok (.iload_n 3, 1) := by decide +kernel
theorem dX2_tallyOf_24 : decode cX2_tallyOf 24 = .ok (.dup2, 1) := by decide +kernel
theorem dX2_tallyOf_25 : decode cX2_tallyOf 25 = .ok (.iaload, 1) := by decide +kernel
theorem dX2_tallyOf_26 : decode cX2_tallyOf 26 = .ok (.iconst 1, 1) := by decide +kernel
theorem dX2_tallyOf_27 : decode cX2_tallyOf 27 = .ok (.iadd, 1) := by decide +kernel
theorem dX2_tallyOf_28 : decode cX2_tallyOf 28 = .ok (.iastore, 1) := by decide +kernel
theorem dX2_tallyOf_29 : decode cX2_tallyOf 29 = .ok (.return_, 1) := by decide +kernel
theorem kw_180 : Cond.fieldLink "FrequencyShelf$Ledge\x72" 37 "FrequencyShelf$Ledge\x72" "askerSums" "[I" ∈ TB := tb_at 180 (by decide +kernel) (by decide +kernel)
theorem fl_X2_37 : mF RX2 37 1 6 := ⟨RX2, TX2, 7, tyX2, rfl, by decide, in_X2, kw_180, tyX2_ok, nmX2⟩
abbrev cX2_noteDelivered : ByteArray := prog_4_method_11_code
def yX2_noteDelivered : MethodName := ⟨RX2, "noteDelivered", "(I)V"⟩
theorem dX2_noteDelivered_0 : decode cX2_noteDelivered 0 = .ok (.aload_n 0, 1) := by decide +kernel
theorem dX2_noteDelivered_1 : decode cX2_noteDelivered 1 = .ok (.bipush 8, 2) := by decide +kernel
theorem dX2_noteDelivered_3 : decode cX2_noteDelivered 3 = .ok (.invokevirtual 59, 3) := by decide +kernel
theorem dX2_noteDelivered_6 : decode cX2_noteDelivered 6 = .ok (.aload_n 0, 1) := by decide +kernel
theorem dX2_noteDelivered_7 : decode cX2_noteDelivered 7 = .ok (.iload_n 1, 1) := by decide +kernel
theorem dX2_noteDelivered_8 : decode cX2_noteDelivered 8 = .ok (.iconst 2, 1) := by decide +kernel
theorem dX2_noteDelivered_9 : decode cX2_noteDelivered 9 = .ok (.invokevirtual 63, 3) := by decide +kernel
theorem dX2_noteDelivered_12 : decode cX2_noteDelivered 12 = .ok (.return_, 1) := by decide +kernel
theorem kw_523 : Cond.methodLink "FrequencyShelf$Ledge\x72" 63 yX2_tallyOf ∈ TB := tb_at 523 (by decide +kernel) (by decide +kernel)
theorem kw_526 : Cond.code yX2_tallyOf cX2_tallyOf 4 none ∈ TB := tb_at 526 (by decide +kernel) (by decide +kernel)
theorem kw_524 : Cond.instanceMethod yX2_tallyOf ∈ TB := tb_at 524 (by decide +kernel) (by decide +kernel)
theorem kw_525 : Cond.selects "FrequencyShelf$Ledge\x72" yX2_tallyOf yX2_tallyOf ∈ TB := tb_at 525 (by decide +kernel) (by decide +kernel)
theorem cv_X2_tallyOf : Cond.code yX2_tallyOf cX2_tallyOf 4 none ∈ TB ∧ Cond.instanceMethod yX2_tallyOf ∈ TB ∧ Cond.selects "FrequencyShelf$Ledge\x72" yX2_tallyOf yX2_tallyOf ∈ TB ∧ Cond.initialized "FrequencyShelf$Ledge\x72" ∈ TB := ⟨kw_526, kw_524, kw_525, kw_70⟩
abbrev cX3_deliver : ByteArray := prog_5_method_13_code
def yX3_deliver : MethodName := ⟨RX3, "delive\x72", "(III)V"⟩
theorem dX3_deliver_0 : decode cX3_deliver 0 = .ok (.aload_n 0, 1) := by decide +kernel
theorem dX3_deliver_1 : decode cX3_deliver 1 = .ok (.getfield 31, 3) := by decide +kernel
theorem dX3_deliver_4 : decode cX3_deliver 4 = .ok (.iconst 0, 1) := by decide +kernel
theorem dX3_deliver_5 : decode cX3_deliver 5 = .ok (.iload_n 1, 1) := by decide +kernel
theorem dX3_deliver_6 : decode cX3_deliver 6 = .ok (.invokevirtual 46, 3) := by decide +kernel
theorem dX3_deliver_9 : decode cX3_deliver 9 = .ok (.bipush 12, 2) := by decide +kernel
theorem dX3_deliver_11 : decode cX3_deliver 11 = .ok (.if_icmp .lt 24, 3) := by decide +kernel
theorem dX3_deliver_14 : decode cX3_deliver 14 = .ok (.aload_n 0, 1) := by decide +kernel
theorem dX3_deliver_15 : decode cX3_deliver 15 = .ok (.getfield 31, 3) := by decide +kernel
theorem dX3_deliver_18 : decode cX3_deliver 18 = .ok (.aload_n 0, 1) := by decide +kernel
theorem dX3_deliver_19 : decode cX3_deliver 19 = .ok (.iload_n 1, 1) := by decide +kernel
theorem dX3_deliver_20 : decode cX3_deliver 20 = .ok (.invokevirtual 102, 3) := by decide +kernel
theorem dX3_deliver_23 : decode cX3_deliver 23 = .ok (.invokevirtual 89, 3) := by decide +kernel
theorem dX3_deliver_26 : decode cX3_deliver 26 = .ok (.aload_n 0, 1) := by decide +kernel
theorem dX3_deliver_27 : decode cX3_deliver 27 = .ok (.getfield 15, 3) := by decide +kernel
theorem dX3_deliver_30 : decode cX3_deliver 30 = .ok (.bipush 9, 2) := by decide +kernel
theorem dX3_deliver_32 : decode cX3_deliver 32 = .ok (.invokevirtual 105, 3) := by decide +kernel
theorem dX3_deliver_35 : decode cX3_deliver 35 = .ok (.aload_n 0, 1) := by decide +kernel
theorem dX3_deliver_36 : decode cX3_deliver 36 = .ok (.getfield 31, 3) := by decide +kernel
theorem dX3_deliver_39 : decode cX3_deliver 39 = .ok (.iload_n 1, 1) := by decide +kernel
theorem dX3_deliver_40 : decode cX3_deliver 40 = .ok (.iload_n 2, 1) := by decide +kernel
theorem dX3_deliver_41 : decode cX3_deliver 41 = .ok (.iload_n 3, 1) := by decide +kernel
theorem dX3_deliver_42 : decode cX3_deliver 42 = .ok (.invokevirtual 49, 3) := by decide +kernel
theorem dX3_deliver_45 : decode cX3_deliver 45 = .ok (.pop, 1) := by decide +kernel
theorem dX3_deliver_46 : decode cX3_deliver 46 = .ok (.aload_n 0, 1) := by decide +kernel
theorem dX3_deliver_47 : decode cX3_deliver 47 = .ok (.getfield 15, 3) := by decide +kernel
theorem dX3_deliver_50 : decode cX3_deliver 50 = .ok (.iload_n 1, 1) := by decide +kernel
theorem dX3_deliver_51 : decode cX3_deliver 51 = .ok (.invokevirtual 108, 3) := by decide +kernel
theorem dX3_deliver_54 : decode cX3_deliver 54 = .ok (.return_, 1) := by decide +kernel
theorem kw_518 : Cond.methodLink "FrequencyShelf$Loads" 49 yX9_push ∈ TB := tb_at 518 (by decide +kernel) (by decide +kernel)
theorem kw_519 : Cond.methodLink "FrequencyShelf$Loads" 108 yX2_noteDelivered ∈ TB := tb_at 519 (by decide +kernel) (by decide +kernel)
theorem kw_522 : Cond.code yX2_noteDelivered cX2_noteDelivered 2 none ∈ TB := tb_at 522 (by decide +kernel) (by decide +kernel)
theorem kw_520 : Cond.instanceMethod yX2_noteDelivered ∈ TB := tb_at 520 (by decide +kernel) (by decide +kernel)
theorem kw_521 : Cond.selects "FrequencyShelf$Ledge\x72" yX2_noteDelivered yX2_noteDelivered ∈ TB := tb_at 521 (by decide +kernel) (by decide +kernel)
theorem cv_X2_noteDelivered : Cond.code yX2_noteDelivered cX2_noteDelivered 2 none ∈ TB ∧ Cond.instanceMethod yX2_noteDelivered ∈ TB ∧ Cond.selects "FrequencyShelf$Ledge\x72" yX2_noteDelivered yX2_noteDelivered ∈ TB ∧ Cond.initialized "FrequencyShelf$Ledge\x72" ∈ TB := ⟨kw_522, kw_520, kw_521, kw_70⟩
theorem kw_508 : Cond.methodLink "FrequencyShelf$Loads" 102 yX3_firstDelivery ∈ TB := tb_at 508 (by decide +kernel) (by decide +kernel)
theorem kw_511 : Cond.code yX3_firstDelivery cX3_firstDelivery 2 (some .int) ∈ TB := tb_at 511 (by decide +kernel) (by decide +kernel)
theorem kw_509 : Cond.instanceMethod yX3_firstDelivery ∈ TB := tb_at 509 (by decide +kernel) (by decide +kernel)
theorem kw_510 : Cond.selects "FrequencyShelf$Loads" yX3_firstDelivery yX3_firstDelivery ∈ TB := tb_at 510 (by decide +kernel) (by decide +kernel)
theorem cv_X3_firstDelivery : Cond.code yX3_firstDelivery cX3_firstDelivery 2 (some .int) ∈ TB ∧ Cond.instanceMethod yX3_firstDelivery ∈ TB ∧ Cond.selects "FrequencyShelf$Loads" yX3_firstDelivery yX3_firstDelivery ∈ TB ∧ Cond.initialized "FrequencyShelf$Loads" ∈ TB := ⟨kw_511, kw_509, kw_510, kw_74⟩
theorem kw_516 : Cond.methodLink "FrequencyShelf$Loads" 89 yX9_remove ∈ TB := tb_at 516 (by decide +kernel) (by decide +kernel)
theorem kw_517 : Cond.methodLink "FrequencyShelf$Loads" 105 yX2_tally ∈ TB := tb_at 517 (by decide +kernel) (by decide +kernel)
abbrev cX3_rowOf : ByteArray := prog_5_method_2_code
def yX3_rowOf : MethodName := ⟨RX3, "rowOf", "(I)I"⟩
theorem dX3_rowOf_0 : decode cX3_rowOf 0 = .ok (.aload_n 0, 1) := by decide +kernel
theorem dX3_rowOf_1 : decode cX3_rowOf 1 = .ok (.getfield 24, 3) := by decide +kernel
theorem dX3_rowOf_4 : decode cX3_rowOf 4 = .ok (.iconst 0, 1) := by decide +kernel
theorem dX3_rowOf_5 : decode cX3_rowOf 5 = .ok (.iload_n 1, 1) := by decide +kernel
theorem dX3_rowOf_6 : decode cX3_rowOf 6 = .ok (.iconst 0, 1) := by decide +kernel
theorem dX3_rowOf_7 : decode cX3_rowOf 7 = .ok (.invokevirtual 34, 3) := by decide +kernel
theorem dX3_rowOf_10 : decode cX3_rowOf 10 = .ok (.ireturn, 1) := by decide +kernel
abbrev cX3_end : ByteArray := prog_5_method_12_code
def yX3_end : MethodName := ⟨RX3, "end", "(II)I"⟩
theorem dX3_end_0 : decode cX3_end 0 = .ok (.iconst 0, 1) := by decide +kernel
theorem dX3_end_1 : decode cX3_end 1 = .ok (.istore_n 3, 1) := by decide +kernel
theorem dX3_end_2 : decode cX3_end 2 = .ok (.iconst 0, 1) := by decide +kernel
theorem dX3_end_3 : decode cX3_end 3 = .ok (.istore 4, 2) := by decide +kernel
theorem dX3_end_5 : decode cX3_end 5 = .ok (.iload 4, 2) := by decide +kernel
theorem dX3_end_7 : decode cX3_end 7 = .ok (.aload_n 0, 1) := by decide +kernel
theorem dX3_end_8 : decode cX3_end 8 = .ok (.getfield 28, 3) := by decide +kernel
theorem dX3_end_11 : decode cX3_end 11 = .ok (.invokevirtual 69, 3) := by decide +kernel
theorem dX3_end_14 : decode cX3_end 14 = .ok (.if_icmp .ge 42, 3) := by decide +kernel
theorem dX3_end_17 : decode cX3_end 17 = .ok (.aload_n 0, 1) := by decide +kernel
theorem dX3_end_18 : decode cX3_end 18 = .ok (.getfield 28, 3) := by decide +kernel
theorem dX3_end_21 : decode cX3_end 21 = .ok (.iload 4, 2) := by decide +kernel
theorem dX3_end_23 : decode cX3_end 23 = .ok (.iconst 0, 1) := by decide +kernel
theorem dX3_end_24 : decode cX3_end 24 = .ok (.invokevirtual 42, 3) := by decide +kernel
theorem dX3_end_27 : decode cX3_end 27 = .ok (.iload_n 1, 1) := by decide +kernel
theorem dX3_end_28 : decode cX3_end 28 = .ok (.if_icmp .ne 22, 3) := by decide +kernel
theorem dX3_end_31 : decode cX3_end 31 = .ok (.aload_n 0, 1) := by decide +kernel
theorem dX3_end_32 : decode cX3_end 32 = .ok (.aload_n 0, 1) := by decide +kernel
theorem dX3_end_33 : decode cX3_end 33 = .ok (.getfield 28, 3) := by decide +kernel
theorem dX3_end_36 : decode cX3_end 36 = .ok (.iload 4, 2) := by decide +kernel
theorem dX3_end_38 : decode cX3_end 38 = .ok (.iconst 1, 1) := by decide +kernel
theorem dX3_end_39 : decode cX3_end 39 = .ok (.invokevirtual 42, 3) := by decide +kernel
theorem dX3_end_42 : decode cX3_end 42 = .ok (.iload_n 1, 1) := by decide +kernel
theorem dX3_end_43 : decode cX3_end 43 = .ok (.iload_n 2, 1) := by decide +kernel
theorem dX3_end_44 : decode cX3_end 44 = .ok (.invokevirtual 96, 3) := by decide +kernel
theorem dX3_end_47 : decode cX3_end 47 = .ok (.iinc 3 1, 3) := by decide +kernel
theorem dX3_end_50 : decode cX3_end 50 = .ok (.iinc 4 1, 3) := by decide +kernel
theorem dX3_end_53 : decode cX3_end 53 = .ok (.goto (-48), 3) := by decide +kernel
theorem dX3_end_56 : decode cX3_end 56 = .ok (.aload_n 0, 1) := by decide +kernel
theorem dX3_end_57 : decode cX3_end 57 = .ok (.getfield 28, 3) := by decide +kernel
theorem dX3_end_60 : decode cX3_end 60 = .ok (.iconst 0, 1) := by decide +kernel
theorem dX3_end_61 : decode cX3_end 61 = .ok (.iload_n 1, 1) := by decide +kernel
theorem dX3_end_62 : decode cX3_end 62 = .ok (.invokevirtual 99, 3) := by decide +kernel
theorem dX3_end_65 : decode cX3_end 65 = .ok (.aload_n 0, 1) := by decide +kernel
theorem dX3_end_66 : decode cX3_end 66 = .ok (.getfield 24, 3) := by decide +kernel
theorem dX3_end_69 : decode cX3_end 69 = .ok (.aload_n 0, 1) := by decide +kernel
theorem dX3_end_70 : decode cX3_end 70 = .ok (.iload_n 1, 1) := by decide +kernel
theorem dX3_end_71 : decode cX3_end 71 = .ok (.invokevirtual 38, 3) := by decide +kernel
theorem dX3_end_74 : decode cX3_end 74 = .ok (.invokevirtual 89, 3) := by decide +kernel
theorem dX3_end_77 : decode cX3_end 77 = .ok (.iload_n 3, 1) := by decide +kernel
theorem dX3_end_78 : decode cX3_end 78 = .ok (.ireturn, 1) := by decide +kernel
theorem kw_269 : Cond.fieldLink "FrequencyShelf$Loads" 28 "FrequencyShelf$Loads" "waits" "LFrequencyShelf$Table;" ∈ TB := tb_at 269 (by decide +kernel) (by decide +kernel)
theorem fl_X3_28 : mF RX3 28 2 3 := ⟨RX3, TX3, 5, tyX3, rfl, by decide, in_X3, kw_269, tyX3_ok, nmX3⟩
theorem kw_504 : Cond.methodLink "FrequencyShelf$Loads" 96 yX3_deliver ∈ TB := tb_at 504 (by decide +kernel) (by decide +kernel)
theorem kw_507 : Cond.code yX3_deliver cX3_deliver 4 none ∈ TB := tb_at 507 (by decide +kernel) (by decide +kernel)
theorem kw_506 : Cond.instanceMethod yX3_deliver ∈ TB := tb_at 506 (by decide +kernel) (by decide +kernel)
theorem kw_4 : Cond.selects "FrequencyShelf$Loads" yX3_deliver yX3_deliver ∈ TB := tb_at 4 (by decide +kernel) (by decide +kernel)
theorem cv_X3_deliver : Cond.code yX3_deliver cX3_deliver 4 none ∈ TB ∧ Cond.instanceMethod yX3_deliver ∈ TB ∧ Cond.selects "FrequencyShelf$Loads" yX3_deliver yX3_deliver ∈ TB ∧ Cond.initialized "FrequencyShelf$Loads" ∈ TB := ⟨kw_507, kw_506, kw_4, kw_74⟩
theorem kw_527 : Cond.methodLink "FrequencyShelf$Loads" 99 yX9_removeAll ∈ TB := tb_at 527 (by decide +kernel) (by decide +kernel)
theorem kw_530 : Cond.code yX9_removeAll cX9_removeAll 4 none ∈ TB := tb_at 530 (by decide +kernel) (by decide +kernel)
theorem kw_528 : Cond.instanceMethod yX9_removeAll ∈ TB := tb_at 528 (by decide +kernel) (by decide +kernel)
theorem kw_529 : Cond.selects "FrequencyShelf$Table" yX9_removeAll yX9_removeAll ∈ TB := tb_at 529 (by decide +kernel) (by decide +kernel)
theorem cv_X9_removeAll : Cond.code yX9_removeAll cX9_removeAll 4 none ∈ TB ∧ Cond.instanceMethod yX9_removeAll ∈ TB ∧ Cond.selects "FrequencyShelf$Table" yX9_removeAll yX9_removeAll ∈ TB ∧ Cond.initialized "FrequencyShelf$Table" ∈ TB := ⟨kw_530, kw_528, kw_529, kw_65⟩
theorem kw_532 : Cond.methodLink "FrequencyShelf$Loads" 38 yX3_rowOf ∈ TB := tb_at 532 (by decide +kernel) (by decide +kernel)
theorem kw_535 : Cond.code yX3_rowOf cX3_rowOf 2 (some .int) ∈ TB := tb_at 535 (by decide +kernel) (by decide +kernel)
theorem kw_533 : Cond.instanceMethod yX3_rowOf ∈ TB := tb_at 533 (by decide +kernel) (by decide +kernel)
theorem kw_534 : Cond.selects "FrequencyShelf$Loads" yX3_rowOf yX3_rowOf ∈ TB := tb_at 534 (by decide +kernel) (by decide +kernel)
theorem cv_X3_rowOf : Cond.code yX3_rowOf cX3_rowOf 2 (some .int) ∈ TB ∧ Cond.instanceMethod yX3_rowOf ∈ TB ∧ Cond.selects "FrequencyShelf$Loads" yX3_rowOf yX3_rowOf ∈ TB ∧ Cond.initialized "FrequencyShelf$Loads" ∈ TB := ⟨kw_535, kw_533, kw_534, kw_74⟩
abbrev cX3_fail : ByteArray := prog_5_method_15_code
def yX3_fail : MethodName := ⟨RX3, "fail", "(II)I"⟩
theorem dX3_fail_0 : decode cX3_fail 0 = .ok (.aload_n 0, 1) := by decide +kernel
theorem dX3_fail_1 : decode cX3_fail 1 = .ok (.getfield 15, 3) := by decide +kernel
theorem dX3_fail_4 : decode cX3_fail 4 = .ok (.bipush 6, 2) := by decide +kernel
theorem dX3_fail_6 : decode cX3_fail 6 = .ok (.iload_n 1, 1) := by decide +kernel
theorem dX3_fail_7 : decode cX3_fail 7 = .ok (.invokevirtual 54, 3) := by decide +kernel
theorem dX3_fail_10 : decode cX3_fail 10 = .ok (.aload_n 0, 1) := by decide +kernel
theorem dX3_fail_11 : decode cX3_fail 11 = .ok (.iload_n 1, 1) := by decide +kernel
theorem dX3_fail_12 : decode cX3_fail 12 = .ok (.iload_n 2, 1) := by decide +kernel
theorem dX3_fail_13 : decode cX3_fail 13 = .ok (.ineg, 1) := by decide +kernel
theorem dX3_fail_14 : decode cX3_fail 14 = .ok (.invokevirtual 111, 3) := by decide +kernel
theorem dX3_fail_17 : decode cX3_fail 17 = .ok (.istore_n 3, 1) := by decide +kernel
theorem dX3_fail_18 : decode cX3_fail 18 = .ok (.aload_n 0, 1) := by decide +kernel
theorem dX3_fail_19 : decode cX3_fail 19 = .ok (.invokevirtual 57, 3) := by decide +kernel
theorem dX3_fail_22 : decode cX3_fail 22 = .ok (.iload_n 3, 1) := by decide +kernel
theorem dX3_fail_23 : decode cX3_fail 23 = .ok (.ireturn, 1) := by decide +kernel
theorem kw_495 : Cond.methodLink "FrequencyShelf$Loads" 54 yX2_note ∈ TB := tb_at 495 (by decide +kernel) (by decide +kernel)
theorem kw_500 : Cond.methodLink "FrequencyShelf$Loads" 111 yX3_end ∈ TB := tb_at 500 (by decide +kernel) (by decide +kernel)
theorem kw_503 : Cond.code yX3_end cX3_end 5 (some .int) ∈ TB := tb_at 503 (by decide +kernel) (by decide +kernel)
theorem kw_501 : Cond.instanceMethod yX3_end ∈ TB := tb_at 501 (by decide +kernel) (by decide +kernel)
theorem kw_502 : Cond.selects "FrequencyShelf$Loads" yX3_end yX3_end ∈ TB := tb_at 502 (by decide +kernel) (by decide +kernel)
theorem cv_X3_end : Cond.code yX3_end cX3_end 5 (some .int) ∈ TB ∧ Cond.instanceMethod yX3_end ∈ TB ∧ Cond.selects "FrequencyShelf$Loads" yX3_end yX3_end ∈ TB ∧ Cond.initialized "FrequencyShelf$Loads" ∈ TB := ⟨kw_503, kw_501, kw_502, kw_74⟩
theorem kw_536 : Cond.methodLink "FrequencyShelf$Loads" 57 yX3_runWhatMay ∈ TB := tb_at 536 (by decide +kernel) (by decide +kernel)
abbrev cX3_endLeases : ByteArray := prog_5_method_16_code
def yX3_endLeases : MethodName := ⟨RX3, "endLeases", "()V"⟩
theorem dX3_endLeases_0 : decode cX3_endLeases 0 = .ok (.aload_n 0, 1) := by decide +kernel
theorem dX3_endLeases_1 : decode cX3_endLeases 1 = .ok (.invokevirtual 60, 3) := by decide +kernel
theorem dX3_endLeases_4 : decode cX3_endLeases 4 = .ok (.istore_n 1, 1) := by decide +kernel
theorem dX3_endLeases_5 : decode cX3_endLeases 5 = .ok (.iload_n 1, 1) := by decide +kernel
theorem dX3_endLeases_6 : decode cX3_endLeases 6 = .ok (.ifCond .le 58, 3) := by decide +kernel
theorem dX3_endLeases_9 : decode cX3_endLeases 9 = .ok (.aload_n 0, 1) := by decide +kernel
theorem dX3_endLeases_10 : decode cX3_endLeases 10 = .ok (.getfield 9, 3) := by decide +kernel
theorem dX3_endLeases_13 : decode cX3_endLeases 13 = .ok (.bipush 7, 2) := by decide +kernel
theorem dX3_endLeases_15 : decode cX3_endLeases 15 = .ok (.aload_n 0, 1) := by decide +kernel
theorem dX3_endLeases_16 : decode cX3_endLeases 16 = .ok (.getfield 24, 3) := by decide +kernel
theorem dX3_endLeases_19 : decode cX3_endLeases 19 = .ok (.iconst 0, 1) := by decide +kernel
theorem dX3_endLeases_20 : decode cX3_endLeases 20 = .ok (.iconst 2, 1) := by decide +kernel
theorem dX3_endLeases_21 : decode cX3_endLeases 21 = .ok (.invokevirtual 42, 3) := by decide +kernel
theorem dX3_endLeases_24 : decode cX3_endLeases 24 = .ok (.invokevirtual 114, 3) := by decide +kernel
theorem dX3_endLeases_27 : decode cX3_endLeases 27 = .ok (.ifCond .eq 37, 3) := by decide +kernel
theorem dX3_endLeases_30 : decode cX3_endLeases 30 = .ok (.aload_n 0, 1) := by decide +kernel
theorem dX3_endLeases_31 : decode cX3_endLeases 31 = .ok (.getfield 24, 3) := by decide +kernel
theorem dX3_endLeases_34 : decode cX3_endLeases 34 = .ok (.iconst 0, 1) := by decide +kernel
theorem dX3_endLeases_35 : decode cX3_endLeases 35 = .ok (.iconst 0, 1) := by decide +kernel
theorem dX3_endLeases_36 : decode cX3_endLeases 36 = .ok (.invokevirtual 42, 3) := by decide +kernel
theorem dX3_endLeases_39 : decode cX3_endLeases 39 = .ok (.istore_n 2, 1) := by decide +kernel
theorem dX3_endLeases_40 : decode cX3_endLeases 40 = .ok (.aload_n 0, 1) := by decide +kernel
theorem dX3_endLeases_41 : decode cX3_endLeases 41 = .ok (.getfield 15, 3) := by decide +kernel
theorem dX3_endLeases_44 : decode cX3_endLeases 44 = .ok (.bipush 13, 2) := by decide +kernel
theorem dX3_endLeases_46 : decode cX3_endLeases 46 = .ok (.iload_n 2, 1) := by decide +kernel
theorem dX3_endLeases_47 : decode cX3_endLeases 47 = .ok (.invokevirtual 54, 3) := by decide +kernel
theorem dX3_endLeases_50 : decode cX3_endLeases 50 = .ok (.aload_n 0, 1) := by decide +kernel
theorem dX3_endLeases_51 : decode cX3_endLeases 51 = .ok (.iload_n 2, 1) := by decide +kernel
theorem dX3_endLeases_52 : decode cX3_endLeases 52 = .ok (.bipush 99, 2) := by decide +kernel
theorem dX3_endLeases_54 : decode cX3_endLeases 54 = .ok (.invokevirtual 118, 3) := by decide +kernel
theorem dX3_endLeases_57 : decode cX3_endLeases 57 = .ok (.pop, 1) := by decide +kernel
theorem dX3_endLeases_58 : decode cX3_endLeases 58 = .ok (.iinc 1 (-1), 3) := by decide +kernel
theorem dX3_endLeases_61 : decode cX3_endLeases 61 = .ok (.goto (-56), 3) := by decide +kernel
theorem dX3_endLeases_64 : decode cX3_endLeases 64 = .ok (.return_, 1) := by decide +kernel
theorem kw_494 : Cond.methodLink "FrequencyShelf$Loads" 114 yX5_hasPassed ∈ TB := tb_at 494 (by decide +kernel) (by decide +kernel)
theorem kw_496 : Cond.methodLink "FrequencyShelf$Loads" 118 yX3_fail ∈ TB := tb_at 496 (by decide +kernel) (by decide +kernel)
theorem kw_499 : Cond.code yX3_fail cX3_fail 4 (some .int) ∈ TB := tb_at 499 (by decide +kernel) (by decide +kernel)
theorem kw_497 : Cond.instanceMethod yX3_fail ∈ TB := tb_at 497 (by decide +kernel) (by decide +kernel)
theorem kw_498 : Cond.selects "FrequencyShelf$Loads" yX3_fail yX3_fail ∈ TB := tb_at 498 (by decide +kernel) (by decide +kernel)
theorem cv_X3_fail : Cond.code yX3_fail cX3_fail 4 (some .int) ∈ TB ∧ Cond.instanceMethod yX3_fail ∈ TB ∧ Cond.selects "FrequencyShelf$Loads" yX3_fail yX3_fail ∈ TB ∧ Cond.initialized "FrequencyShelf$Loads" ∈ TB := ⟨kw_499, kw_497, kw_498, kw_74⟩
abbrev cX11_step : ByteArray := prog_1_method_3_code
def yX11_step : MethodName := ⟨RX11, "step", "(I)I"⟩
theorem dX11_step_0 : decode cX11_step 0 = .ok (.iload_n 1, 1) := by decide +kernel
theorem dX11_step_1 : decode cX11_step 1 = .ok (.iconst 1, 1) := by decide +kernel
theorem dX11_step_2 : decode cX11_step 2 = .ok (.if_icmp .lt 10, 3) := by decide +kernel
theorem dX11_step_5 : decode cX11_step 5 = .ok (.iload_n 1, 1) := by decide +kernel
theorem dX11_step_6 : decode cX11_step 6 = .ok (.sipush 1000, 3) := by decide +kernel
theorem dX11_step_9 : decode cX11_step 9 = .ok (.if_icmp .le 7, 3) := by decide +kernel
theorem dX11_step_12 : decode cX11_step 12 = .ok (.sipush (-1001), 3) := by decide +kernel
theorem dX11_step_15 : decode cX11_step 15 = .ok (.ireturn, 1) := by decide +kernel
theorem dX11_step_16 : decode cX11_step 16 = .ok (.aload_n 0, 1) := by decide +kernel
theorem dX11_step_17 : decode cX11_step 17 = .ok (.getfield 43, 3) := by decide +kernel
theorem dX11_step_20 : decode cX11_step 20 = .ok (.invokevirtual 92, 3) := by decide +kernel
theorem dX11_step_23 : decode cX11_step 23 = .ok (.iload_n 1, 1) := by decide +kernel
theorem dX11_step_24 : decode cX11_step 24 = .ok (.iadd, 1) := by decide +kernel
theorem dX11_step_25 : decode cX11_step 25 = .ok (.ldc 96, 2) := by decide +kernel
theorem dX11_step_27 : decode cX11_step 27 = .ok (.if_icmp .le 7, 3) := by decide +kernel
theorem dX11_step_30 : decode cX11_step 30 = .ok (.sipush (-1004), 3) := by decide +kernel
theorem dX11_step_33 : decode cX11_step 33 = .ok (.ireturn, 1) := by decide +kernel
theorem dX11_step_34 : decode cX11_step 34 = .ok (.aload_n 0, 1) := by decide +kernel
theorem dX11_step_35 : decode cX11_step 35 = .ok (.getfield 43, 3) := by decide +kernel
theorem dX11_step_38 : decode cX11_step 38 = .ok (.iload_n 1, 1) := by decide +kernel
theorem dX11_step_39 : decode cX11_step 39 = .ok (.invokevirtual 97, 3) := by decide +kernel
theorem dX11_step_42 : decode cX11_step 42 = .ok (.aload_n 0, 1) := by decide +kernel
theorem dX11_step_43 : decode cX11_step 43 = .ok (.getfield 58, 3) := by decide +kernel
theorem dX11_step_46 : decode cX11_step 46 = .ok (.invokevirtual 100, 3) := by decide +kernel
theorem dX11_step_49 : decode cX11_step 49 = .ok (.aload_n 0, 1) := by decide +kernel
theorem dX11_step_50 : decode cX11_step 50 = .ok (.getfield 43, 3) := by decide +kernel
theorem dX11_step_53 : decode cX11_step 53 = .ok (.invokevirtual 92, 3) := by decide +kernel
theorem dX11_step_56 : decode cX11_step 56 = .ok (.ireturn, 1) := by decide +kernel
theorem kw_484 : Cond.methodLink "FrequencyShelf" 92 yX5_now ∈ TB := tb_at 484 (by decide +kernel) (by decide +kernel)
theorem kw_485 : Cond.constant "FrequencyShelf" 96 99999 ∈ TB := tb_at 485 (by decide +kernel) (by decide +kernel)
theorem kw_486 : Cond.methodLink "FrequencyShelf" 97 yX5_pass ∈ TB := tb_at 486 (by decide +kernel) (by decide +kernel)
theorem kw_489 : Cond.code yX5_pass cX5_pass 2 none ∈ TB := tb_at 489 (by decide +kernel) (by decide +kernel)
theorem kw_487 : Cond.instanceMethod yX5_pass ∈ TB := tb_at 487 (by decide +kernel) (by decide +kernel)
theorem kw_488 : Cond.selects "FrequencyShelf$Rules" yX5_pass yX5_pass ∈ TB := tb_at 488 (by decide +kernel) (by decide +kernel)
theorem cv_X5_pass : Cond.code yX5_pass cX5_pass 2 none ∈ TB ∧ Cond.instanceMethod yX5_pass ∈ TB ∧ Cond.selects "FrequencyShelf$Rules" yX5_pass yX5_pass ∈ TB ∧ Cond.initialized "FrequencyShelf$Rules" ∈ TB := ⟨kw_489, kw_487, kw_488, kw_69⟩
theorem kw_490 : Cond.methodLink "FrequencyShelf" 100 yX3_endLeases ∈ TB := tb_at 490 (by decide +kernel) (by decide +kernel)
theorem kw_493 : Cond.code yX3_endLeases cX3_endLeases 3 none ∈ TB := tb_at 493 (by decide +kernel) (by decide +kernel)
theorem kw_491 : Cond.instanceMethod yX3_endLeases ∈ TB := tb_at 491 (by decide +kernel) (by decide +kernel)
theorem kw_492 : Cond.selects "FrequencyShelf$Loads" yX3_endLeases yX3_endLeases ∈ TB := tb_at 492 (by decide +kernel) (by decide +kernel)
theorem cv_X3_endLeases : Cond.code yX3_endLeases cX3_endLeases 3 none ∈ TB ∧ Cond.instanceMethod yX3_endLeases ∈ TB ∧ Cond.selects "FrequencyShelf$Loads" yX3_endLeases yX3_endLeases ∈ TB ∧ Cond.initialized "FrequencyShelf$Loads" ∈ TB := ⟨kw_493, kw_491, kw_492, kw_74⟩
abbrev cX1_isLetter : ByteArray := prog_3_method_2_code
def yX1_isLetter : MethodName := ⟨RX1, "isLette\x72", "(I)Z"⟩
theorem dX1_isLetter_0 : decode cX1_isLetter 0 = .ok (.iload_n 0, 1) := by decide +kernel
theorem dX1_isLetter_1 : decode cX1_isLetter 1 = .ok (.bipush 97, 2) := by decide +kernel
theorem dX1_isLetter_3 : decode cX1_isLetter 3 = .ok (.if_icmp .lt 13, 3) := by decide +kernel
theorem dX1_isLetter_6 : decode cX1_isLetter 6 = .ok (.iload_n 0, 1) := by decide +kernel
theorem dX1_isLetter_7 : decode cX1_isLetter 7 = .ok (.bipush 122, 2) := by decide +kernel
theorem dX1_isLetter_9 : decode cX1_isLetter 9 = .ok (.if_icmp .gt 7, 3) := by decide +kernel
theorem dX1_isLetter_12 : decode cX1_isLetter 12 = .ok (.iconst 1, 1) := by decide +kernel
theorem dX1_isLetter_13 : decode cX1_isLetter 13 = .ok (.goto 4, 3) := by decide +kernel
theorem dX1_isLetter_16 : decode cX1_isLetter 16 = .ok (.iconst 0, 1) := by decide +kernel
theorem dX1_isLetter_17 : decode cX1_isLetter 17 = .ok (.ireturn, 1) := by decide +kernel
abbrev cX10_add : ByteArray := prog_12_method_3_code
def yX10_add : MethodName := ⟨RX10, "add", "(I)Z"⟩
theorem dX10_add_0 : decode cX10_add 0 = .ok (.aload_n 0, 1) := by decide +kernel
theorem dX10_add_1 : decode cX10_add 1 = .ok (.getfield 15, 3) := by decide +kernel
theorem dX10_add_4 : decode cX10_add 4 = .ok (.ifCond .lt 15, 3) := by decide +kernel
theorem dX10_add_7 : decode cX10_add 7 = .ok (.aload_n 0, 1) := by decide +kernel
theorem dX10_add_8 : decode cX10_add 8 = .ok (.getfield 15, 3) := by decide +kernel
theorem dX10_add_11 : decode cX10_add 11 = .ok (.aload_n 0, 1) := by decide +kernel
theorem dX10_add_12 : decode cX10_add 12 = .ok (.getfield 11, 3) := by decide +kernel
theorem dX10_add_15 : decode cX10_add 15 = .ok (.arraylength, 1) := by decide +kernel
theorem dX10_add_16 : decode cX10_add 16 = .ok (.if_icmp .lt 5, 3) := by decide +kernel
theorem dX10_add_19 : decode cX10_add 19 = .ok (.iconst 0, 1) := by decide +kernel
theorem dX10_add_20 : decode cX10_add 20 = .ok (.ireturn, 1) := by decide +kernel
theorem dX10_add_21 : decode cX10_add 21 = .ok (.aload_n 0, 1) := by decide +kernel
theorem dX10_add_22 : decode cX10_add 22 = .ok (.getfield 11, 3) := by decide +kernel
theorem dX10_add_25 : decode cX10_add 25 = .ok (.aload_n 0, 1) := by decide +kernel
theorem dX10_add_26 : decode cX10_add 26 = .ok (.getfield 15, 3) := by decide +kernel
theorem dX10_add_29 : decode cX10_add 29 = .ok (.iload_n 1, 1) := by decide +kernel
theorem dX10_add_30 : decode cX10_add 30 = .ok (.iastore, 1) := by decide +kernel
theorem dX10_add_31 : decode cX10_add 31 = .ok (.aload_n 0, 1) := by decide +kernel
theorem dX10_add_32 : decode cX10_add 32 = .ok (.dup, 1) := by decide +kernel
theorem dX10_add_33 : decode cX10_add 33 = .ok (.getfield 15, 3) := by decide +kernel
theorem dX10_add_36 : decode cX10_add 36 = .ok (.iconst 1, 1) := by decide +kernel
theorem dX10_add_37 : decode cX10_add 37 = .ok (.iadd, 1) := by decide +kernel
theorem dX10_add_38 : decode cX10_add 38 = .ok (.putfield 15, 3) := by decide +kernel
theorem dX10_add_41 : decode cX10_add 41 = .ok (.iconst 1, 1) := by decide +kernel
theorem dX10_add_42 : decode cX10_add 42 = .ok (.ireturn, 1) := by decide +kernel
theorem kw_102 : Cond.fieldLink "FrequencyShelf$Tape" 15 "FrequencyShelf$Tape" "size" "I" ∈ TB := tb_at 102 (by decide +kernel) (by decide +kernel)
theorem in_X10 : ∀ w ∈ u_ws RX10 TX10 2, w ∈ TB := by decide +kernel
theorem fl_X10_15 : mF RX10 15 9 1 := ⟨RX10, TX10, 2, tyX10, rfl, by decide, in_X10, kw_102, tyX10_ok, nmX10⟩
theorem kw_101 : Cond.fieldLink "FrequencyShelf$Tape" 11 "FrequencyShelf$Tape" "bytes" "[I" ∈ TB := tb_at 101 (by decide +kernel) (by decide +kernel)
theorem fl_X10_11 : mF RX10 11 9 0 := ⟨RX10, TX10, 2, tyX10, rfl, by decide, in_X10, kw_101, tyX10_ok, nmX10⟩
theorem fi_X10_1 : mFi 9 1 := fun _ _ _ h => by cases h; exact ⟨rfl, by decide +kernel⟩
-- X5_allow
def po_X5_allow (E : mE)     (o : Int32) : Option Value → va_W → Prop := (fun (v : Option Value) (w' : va_W) => v = some (.int o) ∧ w' = [])
noncomputable def F_X5_allow   (x0 : Int32) (x1 : Int32) : Option (Int32) :=
  if (x0 < 0 : Prop) then
  some (0)
  else
  if (8 ≤ x0 : Prop) then
  some (0)
  else
  if (8 ≤ x0 : Prop) then
  some (0)
  else
  ld zLEAST 8 x0 (fun v_1 =>
  if (x1 < v_1 : Prop) then
  some (0)
  else
  ld zMOST 8 x0 (fun v_2 =>
  if (v_2 < x1 : Prop) then
  some (0)
  else
  some (1)))
set_option maxHeartbeats 4000000 in
set_option maxRecDepth 100000 in
theorem d_X5_allow (E : mE) (l : Launch)     (x0 : Int32) (x1 : Int32)  (o : Int32) (hf : F_X5_allow x0 x1 = some o) : MX E l yX5_allow cX5_allow 2 (some .boolean) ({ frames := 0, cells := 0, slots := 0, locals := 0 } : Room) [.int x0, .int x1] [] (po_X5_allow E o) := by
  refine mx_intro (by decide +kernel) (Nat.le_of_ble_eq_true rfl) ?_
  intro p e s m args below meth c A Q ls B w hl
  obtain ⟨hx, hb, hml, hown, hts⟩ := id B.1
  unfold F_X5_allow at hf
  have hl : lv_has ls 2 [(0, .int x0), (1, .int x1)] := hl
  refine lv_iload_n hx hb dX5_allow_0 rfl (lv_at hl 0 rfl) ?_
  refine lv_if_lt (tgt := 42) hx hb dX5_allow_1 (by decide) (fun hc => ?_) (fun hc => ?_)
  · have hf := it_t hc hf
    refine lv_iconst (v := 0) hx hb dX5_allow_42 (by decide) ?_
    cases hf
    exact mx_zret B w rfl ⟨rfl, rfl⟩ dX5_allow_43
  · have hf := it_f hc hf
    refine lv_iload_n hx hb dX5_allow_4 rfl (lv_at hl 0 rfl) ?_
    refine va_gets hx hb (B.2.2.2.2.2.1.1.1) w.2.2 hown (hts _ kw_336) (fun _ h => h) dX5_allow_5 ?_
    refine va_tlen (v := 8) hx hb (B.2.2.2.2.2.1.1.2) w.2.2 rfl dX5_allow_8 ?_
    refine lv_icmp_ge (tgt := 42) hx hb dX5_allow_9 (by decide) (fun hc => ?_) (fun hc => ?_)
    · have hf := it_t hc hf
      refine lv_iconst (v := 0) hx hb dX5_allow_42 (by decide) ?_
      cases hf
      exact mx_zret B w rfl ⟨rfl, rfl⟩ dX5_allow_43
    · have hf := it_f hc hf
      refine lv_iload_n hx hb dX5_allow_12 rfl (lv_at hl 0 rfl) ?_
      refine va_gets hx hb (B.2.2.2.2.2.1.2.1.1) w.2.2 hown (hts _ kw_338) (fun _ h => h) dX5_allow_13 ?_
      refine va_tlen (v := 8) hx hb (B.2.2.2.2.2.1.2.1.2) w.2.2 rfl dX5_allow_16 ?_
      refine lv_icmp_ge (tgt := 42) hx hb dX5_allow_17 (by decide) (fun hc => ?_) (fun hc => ?_)
      · have hf := it_t hc hf
        refine lv_iconst (v := 0) hx hb dX5_allow_42 (by decide) ?_
        cases hf
        exact mx_zret B w rfl ⟨rfl, rfl⟩ dX5_allow_43
      · have hf := it_f hc hf
        refine lv_iload_n hx hb dX5_allow_20 rfl (lv_at hl 1 rfl) ?_
        refine va_gets hx hb (B.2.2.2.2.2.1.1.1) w.2.2 hown (hts _ kw_336) (fun _ h => h) dX5_allow_21 ?_
        refine lv_iload_n hx hb dX5_allow_24 rfl (lv_at hl 0 rfl) ?_
        obtain ⟨hin, hf⟩ := ld_e hf
        refine va_ti hx hb (B.2.2.2.2.2.1.1.2) w.2.2 hin rfl dX5_allow_25 ?_
        refine lv_topi (fun v_1 ev => ?_)
        have hf := hf _ ev; clear ev
        refine lv_icmp_lt (tgt := 42) hx hb dX5_allow_26 (by decide) (fun hc => ?_) (fun hc => ?_)
        · have hf := it_t hc hf
          refine lv_iconst (v := 0) hx hb dX5_allow_42 (by decide) ?_
          cases hf
          exact mx_zret B w rfl ⟨rfl, rfl⟩ dX5_allow_43
        · have hf := it_f hc hf
          refine lv_iload_n hx hb dX5_allow_29 rfl (lv_at hl 1 rfl) ?_
          refine va_gets hx hb (B.2.2.2.2.2.1.2.1.1) w.2.2 hown (hts _ kw_338) (fun _ h => h) dX5_allow_30 ?_
          refine lv_iload_n hx hb dX5_allow_33 rfl (lv_at hl 0 rfl) ?_
          obtain ⟨hin, hf⟩ := ld_e hf
          refine va_ti hx hb (B.2.2.2.2.2.1.2.1.2) w.2.2 hin rfl dX5_allow_34 ?_
          refine lv_topi (fun v_2 ev => ?_)
          have hf := hf _ ev; clear ev
          refine lv_icmp_gt (tgt := 42) hx hb dX5_allow_35 (by decide) (fun hc => ?_) (fun hc => ?_)
          · have hf := it_t hc hf
            refine lv_iconst (v := 0) hx hb dX5_allow_42 (by decide) ?_
            cases hf
            exact mx_zret B w rfl ⟨rfl, rfl⟩ dX5_allow_43
          · have hf := it_f hc hf
            refine lv_iconst (v := 1) hx hb dX5_allow_38 (by decide) ?_
            refine lv_goto (tgt := 43) hx hb dX5_allow_39 (by decide) ?_
            cases hf
            exact mx_zret B w rfl ⟨rfl, rfl⟩ dX5_allow_43
-- X5_value
def po_X5_value (E : mE) (h : Nat) (a_vals : Nat)  (vals : Nat → Int32) (now : Int32)  (o : Int32) : Option Value → va_W → Prop := (fun (v : Option Value) (w' : va_W) => v = some (.int o) ∧ w' = [(h, .inr (4, [.ref a_vals, .int now])), (a_vals, .inl (E.2.1, 8, .inl vals))])
noncomputable def F_X5_value  (vals : Nat → Int32) (x1 : Int32) : Option (Int32) :=
  if (x1 < 0 : Prop) then
  some (0)
  else
  if ((nI 8) ≤ x1 : Prop) then
  some (0)
  else
  ld vals 8 x1 (fun v_1 =>
  some (v_1))
set_option maxHeartbeats 4000000 in
set_option maxRecDepth 100000 in
theorem d_X5_value (E : mE) (l : Launch) (h : Nat) (a_vals : Nat)  (vals : Nat → Int32) (now : Int32)  (x1 : Int32)  (o : Int32) (hf : F_X5_value vals x1 = some o) : MX E l yX5_value cX5_value 2 (some .int) ({ frames := 0, cells := 0, slots := 0, locals := 0 } : Room) [.ref h, .int x1] [(h, .inr (4, [.ref a_vals, .int now])), (a_vals, .inl (E.2.1, 8, .inl vals))] (po_X5_value E h a_vals vals now o) := by
  refine mx_intro (by decide +kernel) (Nat.le_of_ble_eq_true rfl) ?_
  intro p e s m args below meth c A Q ls B w hl
  obtain ⟨hx, hb, hml, hown, hts⟩ := id B.1
  unfold F_X5_value at hf
  have hl : lv_has ls 2 [(0, .ref h), (1, .int x1)] := hl
  refine lv_iload_n hx hb dX5_value_0 rfl (lv_at hl 1 rfl) ?_
  refine lv_if_lt (tgt := 22) hx hb dX5_value_1 (by decide) (fun hc => ?_) (fun hc => ?_)
  · have hf := it_t hc hf
    refine lv_iconst (v := 0) hx hb dX5_value_22 (by decide) ?_
    cases hf
    exact mx_iret B w ⟨rfl, rfl⟩ dX5_value_23
  · have hf := it_f hc hf
    refine lv_iload_n hx hb dX5_value_4 rfl (lv_at hl 1 rfl) ?_
    refine lv_aload_n hx hb dX5_value_5 rfl (lv_at hl 0 rfl) ?_
    refine mx_get B w 0 fl_X5_7 rfl rfl dX5_value_6 ?_
    refine mx_alen B w 1 rfl dX5_value_9 ?_
    refine lv_icmp_ge (tgt := 22) hx hb dX5_value_10 (by decide) (fun hc => ?_) (fun hc => ?_)
    · have hf := it_t hc hf
      refine lv_iconst (v := 0) hx hb dX5_value_22 (by decide) ?_
      cases hf
      exact mx_iret B w ⟨rfl, rfl⟩ dX5_value_23
    · have hf := it_f hc hf
      refine lv_aload_n hx hb dX5_value_13 rfl (lv_at hl 0 rfl) ?_
      refine mx_get B w 0 fl_X5_7 rfl rfl dX5_value_14 ?_
      refine lv_iload_n hx hb dX5_value_17 rfl (lv_at hl 1 rfl) ?_
      obtain ⟨hin, hf⟩ := ld_e hf
      refine mx_iald B w 1 rfl hin dX5_value_18 (fun v_1 ev => ?_)
      have hf := hf _ ev; clear ev
      refine lv_goto (tgt := 23) hx hb dX5_value_19 (by decide) ?_
      cases hf
      exact mx_iret B w ⟨rfl, rfl⟩ dX5_value_23
-- X5_set
def po_X5_set (E : mE) (h : Nat) (a_vals : Nat)  (vals : Nat → Int32) (now : Int32)  (o : (Nat → Int32)) : Option Value → va_W → Prop := (fun (v : Option Value) (w' : va_W) => v = none ∧ w' = [(h, .inr (4, [.ref a_vals, .int now])), (a_vals, .inl (E.2.1, 8, .inl o))])
noncomputable def F_X5_set  (vals : Nat → Int32) (x1 : Int32) (x2 : Int32) : Option ((Nat → Int32)) :=
  if (x1 < 0 : Prop) then
  some (vals)
  else
  if ((nI 8) ≤ x1 : Prop) then
  some (vals)
  else
  sto vals 8 x1 x2 (fun vals_1 =>
  some (vals_1))
set_option maxHeartbeats 4000000 in
set_option maxRecDepth 100000 in
theorem d_X5_set (E : mE) (l : Launch) (h : Nat) (a_vals : Nat)  (vals : Nat → Int32) (now : Int32)  (x1 : Int32) (x2 : Int32)  (o : (Nat → Int32)) (hf : F_X5_set vals x1 x2 = some o) : MX E l yX5_set cX5_set 3 none ({ frames := 0, cells := 0, slots := 0, locals := 0 } : Room) [.ref h, .int x1, .int x2] [(h, .inr (4, [.ref a_vals, .int now])), (a_vals, .inl (E.2.1, 8, .inl vals))] (po_X5_set E h a_vals vals now o) := by
  refine mx_intro (by decide +kernel) (Nat.le_of_ble_eq_true rfl) ?_
  intro p e s m args below meth c A Q ls B w hl
  obtain ⟨hx, hb, hml, hown, hts⟩ := id B.1
  unfold F_X5_set at hf
  have hl : lv_has ls 3 [(0, .ref h), (1, .int x1), (2, .int x2)] := hl
  refine lv_iload_n hx hb dX5_set_0 rfl (lv_at hl 1 rfl) ?_
  refine lv_if_lt (tgt := 20) hx hb dX5_set_1 (by decide) (fun hc => ?_) (fun hc => ?_)
  · have hf := it_t hc hf
    cases hf
    exact mx_vret B w ⟨rfl, rfl⟩ dX5_set_20
  · have hf := it_f hc hf
    refine lv_iload_n hx hb dX5_set_4 rfl (lv_at hl 1 rfl) ?_
    refine lv_aload_n hx hb dX5_set_5 rfl (lv_at hl 0 rfl) ?_
    refine mx_get B w 0 fl_X5_7 rfl rfl dX5_set_6 ?_
    refine mx_alen B w 1 rfl dX5_set_9 ?_
    refine lv_icmp_ge (tgt := 20) hx hb dX5_set_10 (by decide) (fun hc => ?_) (fun hc => ?_)
    · have hf := it_t hc hf
      cases hf
      exact mx_vret B w ⟨rfl, rfl⟩ dX5_set_20
    · have hf := it_f hc hf
      refine lv_aload_n hx hb dX5_set_13 rfl (lv_at hl 0 rfl) ?_
      refine mx_get B w 0 fl_X5_7 rfl rfl dX5_set_14 ?_
      refine lv_iload_n hx hb dX5_set_17 rfl (lv_at hl 1 rfl) ?_
      refine lv_iload_n hx hb dX5_set_18 rfl (lv_at hl 2 rfl) ?_
      obtain ⟨hin, hf⟩ := sto_e hf
      refine mx_iast B w 1 rfl hin dX5_set_19 (fun vals_1 H locs ev w => ?_)
      have hf := hf _ ev; clear ev
      have w : mW E A s [(h, .inr (4, [.ref a_vals, .int now])), (a_vals, .inl (E.2.1, 8, .inl vals_1))] H locs := w
      cases hf
      exact mx_vret B w ⟨rfl, rfl⟩ dX5_set_20
-- X0_size
def po_X0_size (E : mE) (h : Nat) (h_rules : Nat) (a_vals : Nat) (h_rows : Nat) (a_rows : Nat) (dm : Nat) (vals : Nat → Int32) (now : Int32) (rows : Rows) (s_rows : Int32) (f_rows : Nat → Int32) (o : Int32) : Option Value → va_W → Prop := (fun (v : Option Value) (w' : va_W) => v = some (.int o) ∧ w' = [(h, .inr (0, [.ref h_rules, .ref h_rows])), (h_rules, .inr (4, [.ref a_vals, .int now])), (a_vals, .inl (E.2.1, 8, .inl vals)), (h_rows, .inr (8, [.int (nI dm), .int (nI 9), .ref a_rows, .int s_rows])), (a_rows, .inl (E.2.1, (dm * 9), .inl f_rows))])
noncomputable def F_X0_size (dm : Nat) (rows : Rows)  : Option (Int32) :=
  lt (tsize rows) (fun o_1 =>
  some (o_1))
set_option maxHeartbeats 4000000 in
set_option maxRecDepth 100000 in
theorem d_X0_size (E : mE) (l : Launch) (h : Nat) (h_rules : Nat) (a_vals : Nat) (h_rows : Nat) (a_rows : Nat) (dm : Nat) (vals : Nat → Int32) (now : Int32) (rows : Rows) (s_rows : Int32) (f_rows : Nat → Int32)  (ok_rows : tb_ok dm 9 rows s_rows f_rows) (o : Int32) (hf : F_X0_size dm rows = some o) : MX E l yX0_size cX0_size 1 (some .int) ({ frames := 1, cells := 0, slots := 0, locals := 20 } : Room) [.ref h] [(h, .inr (0, [.ref h_rules, .ref h_rows])), (h_rules, .inr (4, [.ref a_vals, .int now])), (a_vals, .inl (E.2.1, 8, .inl vals)), (h_rows, .inr (8, [.int (nI dm), .int (nI 9), .ref a_rows, .int s_rows])), (a_rows, .inl (E.2.1, (dm * 9), .inl f_rows))] (po_X0_size E h h_rules a_vals h_rows a_rows dm vals now rows s_rows f_rows o) := by
  refine mx_intro (by decide +kernel) (Nat.le_of_ble_eq_true rfl) ?_
  intro p e s m args below meth c A Q ls B w hl
  obtain ⟨hx, hb, hml, hown, hts⟩ := id B.1
  unfold F_X0_size at hf
  have hl : lv_has ls 1 [(0, .ref h)] := hl
  refine lv_aload_n hx hb dX0_size_0 rfl (lv_at hl 0 rfl) ?_
  refine mx_get B w 0 fl_X0_20 rfl rfl dX0_size_1 ?_
  obtain ⟨o_1, ev⟩ : ∃ y, y = tsize rows := ⟨_, rfl⟩
  have hf := lt_n ev hf
  refine mx_callV (As := []) (rest := []) (wr := [(h, .inr (0, [.ref h_rules, .ref h_rows])), (h_rules, .inr (4, [.ref a_vals, .int now])), (a_vals, .inl (E.2.1, 8, .inl vals))]) (c_X9_size E l h_rows a_rows dm 9 rows s_rows f_rows  ok_rows o_1 ev) B w [3, 4] [0, 1, 2] rfl rfl (by decide) (by decide) (by decide) 3 rfl rfl cv_X9_size kw_360 0 (by decide +kernel) ⟨Nat.le_of_ble_eq_true rfl, Nat.le_of_ble_eq_true rfl⟩ rfl hl.1 rfl (Nat.le_of_ble_eq_true rfl) dX0_size_4 rfl rfl ⟨Nat.zero_le _, Nat.zero_le _⟩ (fun v w' H locs hpo w => ?_)
  clear ev
  obtain ⟨rfl, rfl⟩ := hpo
  have w : mW E A s [(h, .inr (0, [.ref h_rules, .ref h_rows])), (h_rules, .inr (4, [.ref a_vals, .int now])), (a_vals, .inl (E.2.1, 8, .inl vals)), (h_rows, .inr (8, [.int (nI dm), .int (nI 9), .ref a_rows, .int s_rows])), (a_rows, .inl (E.2.1, (dm * 9), .inl f_rows))] H locs := w
  cases hf
  exact mx_iret B w ⟨rfl, rfl⟩ dX0_size_7
-- X0_weight
def po_X0_weight (E : mE) (h : Nat) (h_rules : Nat) (a_vals : Nat) (h_rows : Nat) (a_rows : Nat) (dm : Nat) (vals : Nat → Int32) (now : Int32) (rows : Rows) (s_rows : Int32) (f_rows : Nat → Int32) (o : Int32) : Option Value → va_W → Prop := (fun (v : Option Value) (w' : va_W) => v = some (.int o) ∧ w' = [(h, .inr (0, [.ref h_rules, .ref h_rows])), (h_rules, .inr (4, [.ref a_vals, .int now])), (a_vals, .inl (E.2.1, 8, .inl vals)), (h_rows, .inr (8, [.int (nI dm), .int (nI 9), .ref a_rows, .int s_rows])), (a_rows, .inl (E.2.1, (dm * 9), .inl f_rows))])
noncomputable def K_X0_weight_4 (N : Nat) (dm : Nat) (rec : Int32 → Int32 → Option (Int32)) (k33 : Int32 → Option (Int32))  (rows : Rows) (x1 : Int32) (x2 : Int32)  : Option (Int32) :=
  lt (tsize rows) (fun o_1 =>
  if (o_1 ≤ x2 : Prop) then
  k33 x1
  else
  lt (tget rows x2 1) (fun o_2 =>
  lt (x1 + o_2) (fun x1_3 =>
  lt (x2 + 1) (fun x2_4 =>
  rec x1_3 x2_4))))
noncomputable def L_X0_weight_4 (N : Nat) (dm : Nat) (k33 : Int32 → Option (Int32))  (rows : Rows) (n : Nat) : Int32 → Int32 → Option (Int32) :=
  Nat.rec (motive := fun _ => Int32 → Int32 → Option (Int32)) (fun _ _ => none) (fun _ rec => K_X0_weight_4 N dm rec k33 rows) n
set_option maxHeartbeats 4000000 in
set_option maxRecDepth 100000 in
theorem l_X0_weight_4 {E : mE} {l : Launch} {p : Program} {e : Env} {s : State} {m : MethodId} {args : Array Value} {below : List Frame} {meth : Method} {c : Code} {A : Nat → Prop} {Q : State → Prop} {N : Nat} {h : Nat} {h_rules : Nat} {a_vals : Nat} {h_rows : Nat} {a_rows : Nat} {dm : Nat} {vals : Nat → Int32} {now : Int32} {rows : Rows} {s_rows : Int32} {f_rows : Nat → Int32} {o : Int32} (B : mB E yX0_weight cX0_weight 3 (some .int) 0 0 (po_X0_weight E h h_rules a_vals h_rows a_rows dm vals now rows s_rows f_rows o) p s m args below meth c A Q)    (k33 : Int32 → Option (Int32)) (ok_rows : tb_ok dm 9 rows s_rows f_rows) (hk33 : ∀ (x1 : Int32)   (H : Heap) (locs : List Loc) (ls : Array Slot), k33 x1 = some o → mW E A s [(h, .inr (0, [.ref h_rules, .ref h_rows])), (h_rules, .inr (4, [.ref a_vals, .int now])), (a_vals, .inl (E.2.1, 8, .inl vals)), (h_rows, .inr (8, [.int (nI dm), .int (nI 9), .ref a_rows, .int s_rows])), (a_rows, .inl (E.2.1, (dm * 9), .inl f_rows))] H locs → lv_has ls 3 [(1, .int x1)] → W p l e ({ frames := 1, cells := 0, slots := 0, locals := 24 } : Room) s m args below meth c H locs 0 0 Q (F0 m 33 ls [])) : ∀ n : Nat, ∀ (x1 : Int32) (x2 : Int32)   (H : Heap) (locs : List Loc) (ls : Array Slot), L_X0_weight_4 N dm k33 rows n x1 x2 = some o → mW E A s [(h, .inr (0, [.ref h_rules, .ref h_rows])), (h_rules, .inr (4, [.ref a_vals, .int now])), (a_vals, .inl (E.2.1, 8, .inl vals)), (h_rows, .inr (8, [.int (nI dm), .int (nI 9), .ref a_rows, .int s_rows])), (a_rows, .inl (E.2.1, (dm * 9), .inl f_rows))] H locs → lv_has ls 3 [(0, .ref h), (1, .int x1), (2, .int x2)] → W p l e ({ frames := 1, cells := 0, slots := 0, locals := 24 } : Room) s m args below meth c H locs 0 0 Q (F0 m 4 ls []) := by
  obtain ⟨hx, hb, hml, hown, hts⟩ := id B.1
  intro n
  induction n with
  | zero =>
    intro x1 x2 H locs ls hf w hl
    exact nomatch hf
  | succ n hrec =>
    intro x1 x2 H locs ls hf w hl
    have hf : K_X0_weight_4 N dm (L_X0_weight_4 N dm k33 rows n) k33 rows x1 x2 = some o := hf
    unfold K_X0_weight_4 at hf
    refine lv_iload_n hx hb dX0_weight_4 rfl (lv_at hl 2 rfl) ?_
    refine lv_aload_n hx hb dX0_weight_5 rfl (lv_at hl 0 rfl) ?_
    refine mx_get B w 0 fl_X0_20 rfl rfl dX0_weight_6 ?_
    obtain ⟨o_1, ev⟩ : ∃ y, y = tsize rows := ⟨_, rfl⟩
    have hf := lt_n ev hf
    refine mx_callV (As := []) (rest := [.int x2]) (wr := [(h, .inr (0, [.ref h_rules, .ref h_rows])), (h_rules, .inr (4, [.ref a_vals, .int now])), (a_vals, .inl (E.2.1, 8, .inl vals))]) (c_X9_size E l h_rows a_rows dm 9 rows s_rows f_rows  ok_rows o_1 ev) B w [3, 4] [0, 1, 2] rfl rfl (by decide) (by decide) (by decide) 3 rfl rfl cv_X9_size kw_360 0 (by decide +kernel) ⟨Nat.le_of_ble_eq_true rfl, Nat.le_of_ble_eq_true rfl⟩ rfl hl.1 rfl (Nat.le_of_ble_eq_true rfl) dX0_weight_9 rfl rfl ⟨Nat.zero_le _, Nat.zero_le _⟩ (fun v w' H locs hpo w => ?_)
    clear ev
    obtain ⟨rfl, rfl⟩ := hpo
    have w : mW E A s [(h, .inr (0, [.ref h_rules, .ref h_rows])), (h_rules, .inr (4, [.ref a_vals, .int now])), (a_vals, .inl (E.2.1, 8, .inl vals)), (h_rows, .inr (8, [.int (nI dm), .int (nI 9), .ref a_rows, .int s_rows])), (a_rows, .inl (E.2.1, (dm * 9), .inl f_rows))] H locs := w
    refine lv_icmp_ge (tgt := 33) hx hb dX0_weight_12 (by decide) (fun hc => ?_) (fun hc => ?_)
    · have hf := it_t hc hf
      exact hk33 _ _ _ _ hf  w (lv_sub hl [1] rfl)
    · have hf := it_f hc hf
      refine lv_iload_n hx hb dX0_weight_15 rfl (lv_at hl 1 rfl) ?_
      refine lv_aload_n hx hb dX0_weight_16 rfl (lv_at hl 0 rfl) ?_
      refine mx_get B w 0 fl_X0_20 rfl rfl dX0_weight_17 ?_
      refine lv_iload_n hx hb dX0_weight_20 rfl (lv_at hl 2 rfl) ?_
      refine lv_iconst (v := 1) hx hb dX0_weight_21 (by decide) ?_
      obtain ⟨o_2, ev⟩ : ∃ y, y = tget rows x2 1 := ⟨_, rfl⟩
      have hf := lt_n ev hf
      refine mx_callV (As := [.int x2, .int 1]) (rest := [.int x1]) (wr := [(h, .inr (0, [.ref h_rules, .ref h_rows])), (h_rules, .inr (4, [.ref a_vals, .int now])), (a_vals, .inl (E.2.1, 8, .inl vals))]) (c_X9_get E l h_rows a_rows dm 9 rows s_rows f_rows x2 1 ok_rows o_2 ev) B w [3, 4] [0, 1, 2] rfl rfl (by decide) (by decide) (by decide) 3 rfl rfl cv_X9_get kw_368 2 (by decide +kernel) ⟨Nat.le_of_ble_eq_true rfl, Nat.le_of_ble_eq_true rfl⟩ rfl hl.1 rfl (Nat.le_of_ble_eq_true rfl) dX0_weight_22 rfl rfl ⟨Nat.zero_le _, Nat.zero_le _⟩ (fun v w' H locs hpo w => ?_)
      clear ev
      obtain ⟨rfl, rfl⟩ := hpo
      have w : mW E A s [(h, .inr (0, [.ref h_rules, .ref h_rows])), (h_rules, .inr (4, [.ref a_vals, .int now])), (a_vals, .inl (E.2.1, 8, .inl vals)), (h_rows, .inr (8, [.int (nI dm), .int (nI 9), .ref a_rows, .int s_rows])), (a_rows, .inl (E.2.1, (dm * 9), .inl f_rows))] H locs := w
      refine lv_iadd hx hb dX0_weight_25 ?_
      refine lv_topi (fun x1_3 ev => ?_)
      have hf := lt_n ev hf; clear ev
      refine lv_istore_n (lv' := [(1, .int x1_3), (0, .ref h), (2, .int x2)]) hx hb dX0_weight_26 rfl hl (by decide) rfl (fun ls hl => ?_)
      obtain ⟨x2_4, ev⟩ : ∃ y : Int32, y = x2 + 1 := ⟨_, rfl⟩
      refine lv_iinc (v := x2_4) (lv' := [(2, .int x2_4), (1, .int x1_3), (0, .ref h)]) hx hb dX0_weight_27 hl (k := 2) rfl (by rw [ev]; rfl) (by decide) rfl (fun ls hl => ?_)
      have hf := lt_n ev hf; clear ev
      refine lv_goto (tgt := 4) hx hb dX0_weight_30 (by decide) ?_
      exact hrec _ _ _ _ _ hf  w (lv_sub hl [2, 1, 0] rfl)
noncomputable def F_X0_weight (N : Nat) (dm : Nat) (rows : Rows)  : Option (Int32) :=
  L_X0_weight_4 N dm (fun x1 => some (x1)) rows N 0 0
set_option maxHeartbeats 4000000 in
set_option maxRecDepth 100000 in
theorem d_X0_weight (E : mE) (l : Launch) (N : Nat) (h : Nat) (h_rules : Nat) (a_vals : Nat) (h_rows : Nat) (a_rows : Nat) (dm : Nat) (vals : Nat → Int32) (now : Int32) (rows : Rows) (s_rows : Int32) (f_rows : Nat → Int32)  (ok_rows : tb_ok dm 9 rows s_rows f_rows) (o : Int32) (hf : F_X0_weight N dm rows = some o) : MX E l yX0_weight cX0_weight 3 (some .int) ({ frames := 1, cells := 0, slots := 0, locals := 24 } : Room) [.ref h] [(h, .inr (0, [.ref h_rules, .ref h_rows])), (h_rules, .inr (4, [.ref a_vals, .int now])), (a_vals, .inl (E.2.1, 8, .inl vals)), (h_rows, .inr (8, [.int (nI dm), .int (nI 9), .ref a_rows, .int s_rows])), (a_rows, .inl (E.2.1, (dm * 9), .inl f_rows))] (po_X0_weight E h h_rules a_vals h_rows a_rows dm vals now rows s_rows f_rows o) := by
  refine mx_intro (by decide +kernel) (Nat.le_of_ble_eq_true rfl) ?_
  intro p e s m args below meth c A Q ls B w hl
  obtain ⟨hx, hb, hml, hown, hts⟩ := id B.1
  unfold F_X0_weight at hf
  have hl : lv_has ls 3 [(0, .ref h)] := hl
  refine lv_iconst (v := 0) hx hb dX0_weight_0 (by decide) ?_
  refine lv_istore_n (lv' := [(1, .int 0), (0, .ref h)]) hx hb dX0_weight_1 rfl hl (by decide) rfl (fun ls hl => ?_)
  refine lv_iconst (v := 0) hx hb dX0_weight_2 (by decide) ?_
  refine lv_istore_n (lv' := [(2, .int 0), (1, .int 0), (0, .ref h)]) hx hb dX0_weight_3 rfl hl (by decide) rfl (fun ls hl => ?_)
  refine l_X0_weight_4 B _ ok_rows ?_ N _ _ _ _ _ hf  w (lv_sub hl [2, 1, 0] rfl)
  · intro x1 H locs ls hf w hl
    refine lv_iload_n hx hb dX0_weight_33 rfl (lv_at hl 0 rfl) ?_
    cases hf
    exact mx_iret B w ⟨rfl, rfl⟩ dX0_weight_34
-- X5_hasPassed
def po_X5_hasPassed (E : mE) (h : Nat) (a_vals : Nat)  (vals : Nat → Int32) (now : Int32)  (o : Int32) : Option Value → va_W → Prop := (fun (v : Option Value) (w' : va_W) => v = some (.int o) ∧ w' = [(h, .inr (4, [.ref a_vals, .int now])), (a_vals, .inl (E.2.1, 8, .inl vals))])
noncomputable def J_X5_hasPassed_23   (t0 : Int32) (x2 : Int32) (vals : Nat → Int32) (now : Int32) : Option (Int32) :=
  if (t0 = 0 : Prop) then
  some (0)
  else
  if (now < (x2 + t0) : Prop) then
  some (0)
  else
  some (1)
set_option maxHeartbeats 4000000 in
set_option maxRecDepth 100000 in
theorem j_X5_hasPassed_23 {E : mE} {l : Launch} {p : Program} {e : Env} {s : State} {m : MethodId} {args : Array Value} {below : List Frame} {meth : Method} {c : Code} {A : Nat → Prop} {Q : State → Prop} {h : Nat} {a_vals : Nat}  {vals : Nat → Int32} {now : Int32}  {o : Int32} (B : mB E yX5_hasPassed cX5_hasPassed 4 (some .boolean) 0 0 (po_X5_hasPassed E h a_vals vals now o) p s m args below meth c A Q) {t0 : Int32} {x2 : Int32}     {H : Heap} {locs : List Loc} {ls : Array Slot} (hf : J_X5_hasPassed_23 t0 x2 vals now = some o)  (w : mW E A s [(h, .inr (4, [.ref a_vals, .int now])), (a_vals, .inl (E.2.1, 8, .inl vals))] H locs) (hl : lv_has ls 4 [(0, .ref h), (2, .int x2)]) : W p l e ({ frames := 0, cells := 0, slots := 0, locals := 0 } : Room) s m args below meth c H locs 0 0 Q (F0 m 23 ls [.int t0]) := by
  obtain ⟨hx, hb, hml, hown, hts⟩ := id B.1
  unfold J_X5_hasPassed_23 at hf
  refine lv_istore_n (lv' := [(3, .int t0), (0, .ref h), (2, .int x2)]) hx hb dX5_hasPassed_23 rfl hl (by decide) rfl (fun ls hl => ?_)
  refine lv_iload_n hx hb dX5_hasPassed_24 rfl (lv_at hl 0 rfl) ?_
  refine lv_if_eq (tgt := 42) hx hb dX5_hasPassed_25 (by decide) (fun hc => ?_) (fun hc => ?_)
  · have hf := it_t hc hf
    refine lv_iconst (v := 0) hx hb dX5_hasPassed_42 (by decide) ?_
    cases hf
    exact mx_zret B w rfl ⟨rfl, rfl⟩ dX5_hasPassed_43
  · have hf := it_f hc hf
    refine lv_aload_n hx hb dX5_hasPassed_28 rfl (lv_at hl 1 rfl) ?_
    refine mx_get B w 0 fl_X5_13 rfl rfl dX5_hasPassed_29 ?_
    refine lv_iload_n hx hb dX5_hasPassed_32 rfl (lv_at hl 2 rfl) ?_
    refine lv_iload_n hx hb dX5_hasPassed_33 rfl (lv_at hl 0 rfl) ?_
    refine lv_iadd hx hb dX5_hasPassed_34 ?_
    refine lv_icmp_lt (tgt := 42) hx hb dX5_hasPassed_35 (by decide) (fun hc => ?_) (fun hc => ?_)
    · have hf := it_t hc hf
      refine lv_iconst (v := 0) hx hb dX5_hasPassed_42 (by decide) ?_
      cases hf
      exact mx_zret B w rfl ⟨rfl, rfl⟩ dX5_hasPassed_43
    · have hf := it_f hc hf
      refine lv_iconst (v := 1) hx hb dX5_hasPassed_38 (by decide) ?_
      refine lv_goto (tgt := 43) hx hb dX5_hasPassed_39 (by decide) ?_
      cases hf
      exact mx_zret B w rfl ⟨rfl, rfl⟩ dX5_hasPassed_43
noncomputable def J_X5_hasPassed_22   (x2 : Int32) (vals : Nat → Int32) (now : Int32) : Option (Int32) :=
  J_X5_hasPassed_23 0 x2 vals now
set_option maxHeartbeats 4000000 in
set_option maxRecDepth 100000 in
theorem j_X5_hasPassed_22 {E : mE} {l : Launch} {p : Program} {e : Env} {s : State} {m : MethodId} {args : Array Value} {below : List Frame} {meth : Method} {c : Code} {A : Nat → Prop} {Q : State → Prop} {h : Nat} {a_vals : Nat}  {vals : Nat → Int32} {now : Int32}  {o : Int32} (B : mB E yX5_hasPassed cX5_hasPassed 4 (some .boolean) 0 0 (po_X5_hasPassed E h a_vals vals now o) p s m args below meth c A Q) {x2 : Int32}     {H : Heap} {locs : List Loc} {ls : Array Slot} (hf : J_X5_hasPassed_22 x2 vals now = some o)  (w : mW E A s [(h, .inr (4, [.ref a_vals, .int now])), (a_vals, .inl (E.2.1, 8, .inl vals))] H locs) (hl : lv_has ls 4 [(0, .ref h), (2, .int x2)]) : W p l e ({ frames := 0, cells := 0, slots := 0, locals := 0 } : Room) s m args below meth c H locs 0 0 Q (F0 m 22 ls []) := by
  obtain ⟨hx, hb, hml, hown, hts⟩ := id B.1
  unfold J_X5_hasPassed_22 at hf
  refine lv_iconst (v := 0) hx hb dX5_hasPassed_22 (by decide) ?_
  exact j_X5_hasPassed_23 B   hf  w (lv_sub hl [0, 1] rfl)
noncomputable def F_X5_hasPassed  (vals : Nat → Int32) (now : Int32) (x1 : Int32) (x2 : Int32) : Option (Int32) :=
  if (x1 < 0 : Prop) then
  J_X5_hasPassed_22 x2 vals now
  else
  if ((nI 8) ≤ x1 : Prop) then
  J_X5_hasPassed_22 x2 vals now
  else
  ld vals 8 x1 (fun v_1 =>
  J_X5_hasPassed_23 v_1 x2 vals now)
set_option maxHeartbeats 4000000 in
set_option maxRecDepth 100000 in
theorem d_X5_hasPassed (E : mE) (l : Launch) (h : Nat) (a_vals : Nat)  (vals : Nat → Int32) (now : Int32)  (x1 : Int32) (x2 : Int32)  (o : Int32) (hf : F_X5_hasPassed vals now x1 x2 = some o) : MX E l yX5_hasPassed cX5_hasPassed 4 (some .boolean) ({ frames := 0, cells := 0, slots := 0, locals := 0 } : Room) [.ref h, .int x1, .int x2] [(h, .inr (4, [.ref a_vals, .int now])), (a_vals, .inl (E.2.1, 8, .inl vals))] (po_X5_hasPassed E h a_vals vals now o) := by
  refine mx_intro (by decide +kernel) (Nat.le_of_ble_eq_true rfl) ?_
  intro p e s m args below meth c A Q ls B w hl
  obtain ⟨hx, hb, hml, hown, hts⟩ := id B.1
  unfold F_X5_hasPassed at hf
  have hl : lv_has ls 4 [(0, .ref h), (1, .int x1), (2, .int x2)] := hl
  refine lv_iload_n hx hb dX5_hasPassed_0 rfl (lv_at hl 1 rfl) ?_
  refine lv_if_lt (tgt := 22) hx hb dX5_hasPassed_1 (by decide) (fun hc => ?_) (fun hc => ?_)
  · have hf := it_t hc hf
    exact j_X5_hasPassed_22 B   hf  w (lv_sub hl [0, 2] rfl)
  · have hf := it_f hc hf
    refine lv_iload_n hx hb dX5_hasPassed_4 rfl (lv_at hl 1 rfl) ?_
    refine lv_aload_n hx hb dX5_hasPassed_5 rfl (lv_at hl 0 rfl) ?_
    refine mx_get B w 0 fl_X5_7 rfl rfl dX5_hasPassed_6 ?_
    refine mx_alen B w 1 rfl dX5_hasPassed_9 ?_
    refine lv_icmp_ge (tgt := 22) hx hb dX5_hasPassed_10 (by decide) (fun hc => ?_) (fun hc => ?_)
    · have hf := it_t hc hf
      exact j_X5_hasPassed_22 B   hf  w (lv_sub hl [0, 2] rfl)
    · have hf := it_f hc hf
      refine lv_aload_n hx hb dX5_hasPassed_13 rfl (lv_at hl 0 rfl) ?_
      refine mx_get B w 0 fl_X5_7 rfl rfl dX5_hasPassed_14 ?_
      refine lv_iload_n hx hb dX5_hasPassed_17 rfl (lv_at hl 1 rfl) ?_
      obtain ⟨hin, hf⟩ := ld_e hf
      refine mx_iald B w 1 rfl hin dX5_hasPassed_18 (fun v_1 ev => ?_)
      have hf := hf _ ev; clear ev
      refine lv_goto (tgt := 23) hx hb dX5_hasPassed_19 (by decide) ?_
      exact j_X5_hasPassed_23 B   hf  w (lv_sub hl [0, 2] rfl)
-- X0_isStale
def po_X0_isStale (E : mE) (h : Nat) (h_rules : Nat) (a_vals : Nat) (h_rows : Nat) (a_rows : Nat) (dm : Nat) (vals : Nat → Int32) (now : Int32) (rows : Rows) (s_rows : Int32) (f_rows : Nat → Int32) (o : Int32) : Option Value → va_W → Prop := (fun (v : Option Value) (w' : va_W) => v = some (.int o) ∧ w' = [(h, .inr (0, [.ref h_rules, .ref h_rows])), (h_rules, .inr (4, [.ref a_vals, .int now])), (a_vals, .inl (E.2.1, 8, .inl vals)), (h_rows, .inr (8, [.int (nI dm), .int (nI 9), .ref a_rows, .int s_rows])), (a_rows, .inl (E.2.1, (dm * 9), .inl f_rows))])
noncomputable def F_X0_isStale (dm : Nat) (vals : Nat → Int32) (now : Int32) (rows : Rows) (x1 : Int32) : Option (Int32) :=
  lt (tget rows x1 6) (fun o_1 =>
  bd (F_X5_hasPassed vals now 2 o_1) (fun o_2 =>
  ck (o_2 = 0 ∨ o_2 = 1) (some (o_2))))
set_option maxHeartbeats 4000000 in
set_option maxRecDepth 100000 in
theorem d_X0_isStale (E : mE) (l : Launch) (h : Nat) (h_rules : Nat) (a_vals : Nat) (h_rows : Nat) (a_rows : Nat) (dm : Nat) (vals : Nat → Int32) (now : Int32) (rows : Rows) (s_rows : Int32) (f_rows : Nat → Int32) (x1 : Int32) (ok_rows : tb_ok dm 9 rows s_rows f_rows) (o : Int32) (hf : F_X0_isStale dm vals now rows x1 = some o) : MX E l yX0_isStale cX0_isStale 2 (some .boolean) ({ frames := 1, cells := 0, slots := 0, locals := 24 } : Room) [.ref h, .int x1] [(h, .inr (0, [.ref h_rules, .ref h_rows])), (h_rules, .inr (4, [.ref a_vals, .int now])), (a_vals, .inl (E.2.1, 8, .inl vals)), (h_rows, .inr (8, [.int (nI dm), .int (nI 9), .ref a_rows, .int s_rows])), (a_rows, .inl (E.2.1, (dm * 9), .inl f_rows))] (po_X0_isStale E h h_rules a_vals h_rows a_rows dm vals now rows s_rows f_rows o) := by
  refine mx_intro (by decide +kernel) (Nat.le_of_ble_eq_true rfl) ?_
  intro p e s m args below meth c A Q ls B w hl
  obtain ⟨hx, hb, hml, hown, hts⟩ := id B.1
  unfold F_X0_isStale at hf
  have hl : lv_has ls 2 [(0, .ref h), (1, .int x1)] := hl
  refine lv_aload_n hx hb dX0_isStale_0 rfl (lv_at hl 0 rfl) ?_
  refine mx_get B w 0 fl_X0_9 rfl rfl dX0_isStale_1 ?_
  refine lv_iconst (v := 2) hx hb dX0_isStale_4 (by decide) ?_
  refine lv_aload_n hx hb dX0_isStale_5 rfl (lv_at hl 0 rfl) ?_
  refine mx_get B w 0 fl_X0_20 rfl rfl dX0_isStale_6 ?_
  refine lv_iload_n hx hb dX0_isStale_9 rfl (lv_at hl 1 rfl) ?_
  refine lv_bipush (v := 6) hx hb dX0_isStale_10 (by decide) ?_
  obtain ⟨o_1, ev⟩ : ∃ y, y = tget rows x1 6 := ⟨_, rfl⟩
  have hf := lt_n ev hf
  refine mx_callV (As := [.int x1, .int 6]) (rest := [.int 2, .ref h_rules]) (wr := [(h, .inr (0, [.ref h_rules, .ref h_rows])), (h_rules, .inr (4, [.ref a_vals, .int now])), (a_vals, .inl (E.2.1, 8, .inl vals))]) (c_X9_get E l h_rows a_rows dm 9 rows s_rows f_rows x1 6 ok_rows o_1 ev) B w [3, 4] [0, 1, 2] rfl rfl (by decide) (by decide) (by decide) 3 rfl rfl cv_X9_get kw_368 2 (by decide +kernel) ⟨Nat.le_of_ble_eq_true rfl, Nat.le_of_ble_eq_true rfl⟩ rfl hl.1 rfl (Nat.le_of_ble_eq_true rfl) dX0_isStale_12 rfl rfl ⟨Nat.zero_le _, Nat.zero_le _⟩ (fun v w' H locs hpo w => ?_)
  clear ev
  obtain ⟨rfl, rfl⟩ := hpo
  have w : mW E A s [(h, .inr (0, [.ref h_rules, .ref h_rows])), (h_rules, .inr (4, [.ref a_vals, .int now])), (a_vals, .inl (E.2.1, 8, .inl vals)), (h_rows, .inr (8, [.int (nI dm), .int (nI 9), .ref a_rows, .int s_rows])), (a_rows, .inl (E.2.1, (dm * 9), .inl f_rows))] H locs := w
  obtain ⟨o_2, hq, hf⟩ := bd_e hf
  refine mx_callV (As := [.int 2, .int o_1]) (rest := []) (wr := [(h, .inr (0, [.ref h_rules, .ref h_rows])), (h_rows, .inr (8, [.int (nI dm), .int (nI 9), .ref a_rows, .int s_rows])), (a_rows, .inl (E.2.1, (dm * 9), .inl f_rows))]) (d_X5_hasPassed E l  h_rules a_vals vals now 2 o_1  o_2 hq) B w [1, 2] [0, 3, 4] rfl rfl (by decide) (by decide) (by decide) 1 rfl rfl cv_X5_hasPassed kw_384 2 (by decide +kernel) ⟨Nat.le_of_ble_eq_true rfl, Nat.le_of_ble_eq_true rfl⟩ rfl hl.1 rfl (Nat.le_of_ble_eq_true rfl) dX0_isStale_15 rfl rfl ⟨Nat.zero_le _, Nat.zero_le _⟩ (fun v w' H locs hpo w => ?_)
  clear hq
  obtain ⟨rfl, rfl⟩ := hpo
  have w : mW E A s [(h, .inr (0, [.ref h_rules, .ref h_rows])), (h_rules, .inr (4, [.ref a_vals, .int now])), (a_vals, .inl (E.2.1, 8, .inl vals)), (h_rows, .inr (8, [.int (nI dm), .int (nI 9), .ref a_rows, .int s_rows])), (a_rows, .inl (E.2.1, (dm * 9), .inl f_rows))] H locs := w.sub [0, 3, 4, 1, 2] (by decide) rfl
  obtain ⟨hz, hf⟩ := ck_e hf
  cases hf
  exact mx_zret B w (nar_z hz) ⟨rfl, rfl⟩ dX0_isStale_18
-- X0_goesAhead
def po_X0_goesAhead (E : mE) (h : Nat) (h_rules : Nat) (a_vals : Nat) (h_rows : Nat) (a_rows : Nat) (dm : Nat) (vals : Nat → Int32) (now : Int32) (rows : Rows) (s_rows : Int32) (f_rows : Nat → Int32) (o : Int32) : Option Value → va_W → Prop := (fun (v : Option Value) (w' : va_W) => v = some (.int o) ∧ w' = [(h, .inr (0, [.ref h_rules, .ref h_rows])), (h_rules, .inr (4, [.ref a_vals, .int now])), (a_vals, .inl (E.2.1, 8, .inl vals)), (h_rows, .inr (8, [.int (nI dm), .int (nI 9), .ref a_rows, .int s_rows])), (a_rows, .inl (E.2.1, (dm * 9), .inl f_rows))])
noncomputable def K_X0_goesAhead_20 (N : Nat) (dm : Nat) (rec : Int32 → Option (Int32)) (k76 : Unit → Option (Int32)) (k57 : Int32 → Int32 → Option (Int32)) (x1 : Int32) (x2 : Int32) (vals : Nat → Int32) (now : Int32) (rows : Rows) (x4 : Int32)  : Option (Int32) :=
  if (5 < x4 : Prop) then
  k76 ()
  else
  lt (tget rows x1 x4) (fun o_3 =>
  lt (tget rows x2 x4) (fun o_4 =>
  if (o_3 = o_4 : Prop) then
  lt (x4 + 1) (fun x4_5 =>
  rec x4_5)
  else
  k57 o_3 o_4))
noncomputable def L_X0_goesAhead_20 (N : Nat) (dm : Nat) (k76 : Unit → Option (Int32)) (k57 : Int32 → Int32 → Option (Int32)) (x1 : Int32) (x2 : Int32) (vals : Nat → Int32) (now : Int32) (rows : Rows) (n : Nat) : Int32 → Option (Int32) :=
  Nat.rec (motive := fun _ => Int32 → Option (Int32)) (fun _ => none) (fun _ rec => K_X0_goesAhead_20 N dm rec k76 k57 x1 x2 vals now rows) n
set_option maxHeartbeats 4000000 in
set_option maxRecDepth 100000 in
theorem l_X0_goesAhead_20 {E : mE} {l : Launch} {p : Program} {e : Env} {s : State} {m : MethodId} {args : Array Value} {below : List Frame} {meth : Method} {c : Code} {A : Nat → Prop} {Q : State → Prop} {N : Nat} {h : Nat} {h_rules : Nat} {a_vals : Nat} {h_rows : Nat} {a_rows : Nat} {dm : Nat} {vals : Nat → Int32} {now : Int32} {rows : Rows} {s_rows : Int32} {f_rows : Nat → Int32} {o : Int32} (B : mB E yX0_goesAhead cX0_goesAhead 7 (some .boolean) 0 0 (po_X0_goesAhead E h h_rules a_vals h_rows a_rows dm vals now rows s_rows f_rows o) p s m args below meth c A Q)   {x1 : Int32} {x2 : Int32} (k76 : Unit → Option (Int32)) (k57 : Int32 → Int32 → Option (Int32)) (ok_rows : tb_ok dm 9 rows s_rows f_rows) (hk76 : ∀    (H : Heap) (locs : List Loc) (ls : Array Slot), k76 () = some o → mW E A s [(h, .inr (0, [.ref h_rules, .ref h_rows])), (h_rules, .inr (4, [.ref a_vals, .int now])), (a_vals, .inl (E.2.1, 8, .inl vals)), (h_rows, .inr (8, [.int (nI dm), .int (nI 9), .ref a_rows, .int s_rows])), (a_rows, .inl (E.2.1, (dm * 9), .inl f_rows))] H locs → lv_has ls 7 [] → W p l e ({ frames := 2, cells := 0, slots := 0, locals := 45 } : Room) s m args below meth c H locs 0 0 Q (F0 m 76 ls [])) (hk57 : ∀ (x5 : Int32) (x6 : Int32)   (H : Heap) (locs : List Loc) (ls : Array Slot), k57 x5 x6 = some o → mW E A s [(h, .inr (0, [.ref h_rules, .ref h_rows])), (h_rules, .inr (4, [.ref a_vals, .int now])), (a_vals, .inl (E.2.1, 8, .inl vals)), (h_rows, .inr (8, [.int (nI dm), .int (nI 9), .ref a_rows, .int s_rows])), (a_rows, .inl (E.2.1, (dm * 9), .inl f_rows))] H locs → lv_has ls 7 [(5, .int x5), (6, .int x6)] → W p l e ({ frames := 2, cells := 0, slots := 0, locals := 45 } : Room) s m args below meth c H locs 0 0 Q (F0 m 57 ls [])) : ∀ n : Nat, ∀ (x4 : Int32)   (H : Heap) (locs : List Loc) (ls : Array Slot), L_X0_goesAhead_20 N dm k76 k57 x1 x2 vals now rows n x4 = some o → mW E A s [(h, .inr (0, [.ref h_rules, .ref h_rows])), (h_rules, .inr (4, [.ref a_vals, .int now])), (a_vals, .inl (E.2.1, 8, .inl vals)), (h_rows, .inr (8, [.int (nI dm), .int (nI 9), .ref a_rows, .int s_rows])), (a_rows, .inl (E.2.1, (dm * 9), .inl f_rows))] H locs → lv_has ls 7 [(0, .ref h), (1, .int x1), (2, .int x2), (4, .int x4)] → W p l e ({ frames := 2, cells := 0, slots := 0, locals := 45 } : Room) s m args below meth c H locs 0 0 Q (F0 m 20 ls []) := by
  obtain ⟨hx, hb, hml, hown, hts⟩ := id B.1
  intro n
  induction n with
  | zero =>
    intro x4 H locs ls hf w hl
    exact nomatch hf
  | succ n hrec =>
    intro x4 H locs ls hf w hl
    have hf : K_X0_goesAhead_20 N dm (L_X0_goesAhead_20 N dm k76 k57 x1 x2 vals now rows n) k76 k57 x1 x2 vals now rows x4 = some o := hf
    unfold K_X0_goesAhead_20 at hf
    refine lv_iload hx hb dX0_goesAhead_20 (lv_at hl 3 rfl) ?_
    refine lv_iconst (v := 5) hx hb dX0_goesAhead_22 (by decide) ?_
    refine lv_icmp_gt (tgt := 76) hx hb dX0_goesAhead_23 (by decide) (fun hc => ?_) (fun hc => ?_)
    · have hf := it_t hc hf
      exact hk76 _ _ _ hf  w (lv_sub hl [] rfl)
    · have hf := it_f hc hf
      refine lv_aload_n hx hb dX0_goesAhead_26 rfl (lv_at hl 0 rfl) ?_
      refine mx_get B w 0 fl_X0_20 rfl rfl dX0_goesAhead_27 ?_
      refine lv_iload_n hx hb dX0_goesAhead_30 rfl (lv_at hl 1 rfl) ?_
      refine lv_iload hx hb dX0_goesAhead_31 (lv_at hl 3 rfl) ?_
      obtain ⟨o_3, ev⟩ : ∃ y, y = tget rows x1 x4 := ⟨_, rfl⟩
      have hf := lt_n ev hf
      refine mx_callV (As := [.int x1, .int x4]) (rest := []) (wr := [(h, .inr (0, [.ref h_rules, .ref h_rows])), (h_rules, .inr (4, [.ref a_vals, .int now])), (a_vals, .inl (E.2.1, 8, .inl vals))]) (c_X9_get E l h_rows a_rows dm 9 rows s_rows f_rows x1 x4 ok_rows o_3 ev) B w [3, 4] [0, 1, 2] rfl rfl (by decide) (by decide) (by decide) 3 rfl rfl cv_X9_get kw_368 2 (by decide +kernel) ⟨Nat.le_of_ble_eq_true rfl, Nat.le_of_ble_eq_true rfl⟩ rfl hl.1 rfl (Nat.le_of_ble_eq_true rfl) dX0_goesAhead_33 rfl rfl ⟨Nat.zero_le _, Nat.zero_le _⟩ (fun v w' H locs hpo w => ?_)
      clear ev
      obtain ⟨rfl, rfl⟩ := hpo
      have w : mW E A s [(h, .inr (0, [.ref h_rules, .ref h_rows])), (h_rules, .inr (4, [.ref a_vals, .int now])), (a_vals, .inl (E.2.1, 8, .inl vals)), (h_rows, .inr (8, [.int (nI dm), .int (nI 9), .ref a_rows, .int s_rows])), (a_rows, .inl (E.2.1, (dm * 9), .inl f_rows))] H locs := w
      refine lv_istore (lv' := [(5, .int o_3), (0, .ref h), (1, .int x1), (2, .int x2), (4, .int x4)]) hx hb dX0_goesAhead_36 hl (by decide) rfl (fun ls hl => ?_)
      refine lv_aload_n hx hb dX0_goesAhead_38 rfl (lv_at hl 1 rfl) ?_
      refine mx_get B w 0 fl_X0_20 rfl rfl dX0_goesAhead_39 ?_
      refine lv_iload_n hx hb dX0_goesAhead_42 rfl (lv_at hl 3 rfl) ?_
      refine lv_iload hx hb dX0_goesAhead_43 (lv_at hl 4 rfl) ?_
      obtain ⟨o_4, ev⟩ : ∃ y, y = tget rows x2 x4 := ⟨_, rfl⟩
      have hf := lt_n ev hf
      refine mx_callV (As := [.int x2, .int x4]) (rest := []) (wr := [(h, .inr (0, [.ref h_rules, .ref h_rows])), (h_rules, .inr (4, [.ref a_vals, .int now])), (a_vals, .inl (E.2.1, 8, .inl vals))]) (c_X9_get E l h_rows a_rows dm 9 rows s_rows f_rows x2 x4 ok_rows o_4 ev) B w [3, 4] [0, 1, 2] rfl rfl (by decide) (by decide) (by decide) 3 rfl rfl cv_X9_get kw_368 2 (by decide +kernel) ⟨Nat.le_of_ble_eq_true rfl, Nat.le_of_ble_eq_true rfl⟩ rfl hl.1 rfl (Nat.le_of_ble_eq_true rfl) dX0_goesAhead_45 rfl rfl ⟨Nat.zero_le _, Nat.zero_le _⟩ (fun v w' H locs hpo w => ?_)
      clear ev
      obtain ⟨rfl, rfl⟩ := hpo
      have w : mW E A s [(h, .inr (0, [.ref h_rules, .ref h_rows])), (h_rules, .inr (4, [.ref a_vals, .int now])), (a_vals, .inl (E.2.1, 8, .inl vals)), (h_rows, .inr (8, [.int (nI dm), .int (nI 9), .ref a_rows, .int s_rows])), (a_rows, .inl (E.2.1, (dm * 9), .inl f_rows))] H locs := w
      refine lv_istore (lv' := [(6, .int o_4), (5, .int o_3), (0, .ref h), (1, .int x1), (2, .int x2), (4, .int x4)]) hx hb dX0_goesAhead_48 hl (by decide) rfl (fun ls hl => ?_)
      refine lv_iload hx hb dX0_goesAhead_50 (lv_at hl 1 rfl) ?_
      refine lv_iload hx hb dX0_goesAhead_52 (lv_at hl 0 rfl) ?_
      refine lv_icmp_eq (tgt := 70) hx hb dX0_goesAhead_54 (by decide) (fun hc => ?_) (fun hc => ?_)
      · have hf := it_t hc hf
        obtain ⟨x4_5, ev⟩ : ∃ y : Int32, y = x4 + 1 := ⟨_, rfl⟩
        refine lv_iinc (v := x4_5) (lv' := [(4, .int x4_5), (6, .int o_4), (5, .int o_3), (0, .ref h), (1, .int x1), (2, .int x2)]) hx hb dX0_goesAhead_70 hl (k := 5) rfl (by rw [ev]; rfl) (by decide) rfl (fun ls hl => ?_)
        have hf := lt_n ev hf; clear ev
        refine lv_goto (tgt := 20) hx hb dX0_goesAhead_73 (by decide) ?_
        exact hrec _ _ _ _ hf  w (lv_sub hl [3, 4, 5, 0] rfl)
      · have hf := it_f hc hf
        exact hk57 _ _ _ _ _ hf  w (lv_sub hl [1, 0] rfl)
noncomputable def F_X0_goesAhead (N : Nat) (dm : Nat) (vals : Nat → Int32) (now : Int32) (rows : Rows) (x1 : Int32) (x2 : Int32) : Option (Int32) :=
  bd (F_X0_isStale dm vals now rows x1) (fun o_1 =>
  bd (F_X0_isStale dm vals now rows x2) (fun o_2 =>
  if (o_1 = o_2 : Prop) then
  L_X0_goesAhead_20 N dm (fun _ => some (0)) (fun x5 x6 => if (x6 ≤ x5 : Prop) then
  some (0)
  else
  some (1)) x1 x2 vals now rows N 3
  else
  ck (o_1 = 0 ∨ o_1 = 1) (some (o_1))))
set_option maxHeartbeats 4000000 in
set_option maxRecDepth 100000 in
theorem d_X0_goesAhead (E : mE) (l : Launch) (N : Nat) (h : Nat) (h_rules : Nat) (a_vals : Nat) (h_rows : Nat) (a_rows : Nat) (dm : Nat) (vals : Nat → Int32) (now : Int32) (rows : Rows) (s_rows : Int32) (f_rows : Nat → Int32) (x1 : Int32) (x2 : Int32) (ok_rows : tb_ok dm 9 rows s_rows f_rows) (o : Int32) (hf : F_X0_goesAhead N dm vals now rows x1 x2 = some o) : MX E l yX0_goesAhead cX0_goesAhead 7 (some .boolean) ({ frames := 2, cells := 0, slots := 0, locals := 45 } : Room) [.ref h, .int x1, .int x2] [(h, .inr (0, [.ref h_rules, .ref h_rows])), (h_rules, .inr (4, [.ref a_vals, .int now])), (a_vals, .inl (E.2.1, 8, .inl vals)), (h_rows, .inr (8, [.int (nI dm), .int (nI 9), .ref a_rows, .int s_rows])), (a_rows, .inl (E.2.1, (dm * 9), .inl f_rows))] (po_X0_goesAhead E h h_rules a_vals h_rows a_rows dm vals now rows s_rows f_rows o) := by
  refine mx_intro (by decide +kernel) (Nat.le_of_ble_eq_true rfl) ?_
  intro p e s m args below meth c A Q ls B w hl
  obtain ⟨hx, hb, hml, hown, hts⟩ := id B.1
  unfold F_X0_goesAhead at hf
  have hl : lv_has ls 7 [(0, .ref h), (1, .int x1), (2, .int x2)] := hl
  refine lv_aload_n hx hb dX0_goesAhead_0 rfl (lv_at hl 0 rfl) ?_
  refine lv_iload_n hx hb dX0_goesAhead_1 rfl (lv_at hl 1 rfl) ?_
  obtain ⟨o_1, hq, hf⟩ := bd_e hf
  refine mx_callV (As := [.int x1]) (rest := []) (wr := []) (d_X0_isStale E l  h h_rules a_vals h_rows a_rows dm vals now rows s_rows f_rows x1 ok_rows o_1 hq) B w [0, 1, 2, 3, 4] [] rfl rfl (by decide) (by decide) (by decide) 0 rfl rfl cv_X0_isStale kw_380 1 (by decide +kernel) ⟨Nat.le_of_ble_eq_true rfl, Nat.le_of_ble_eq_true rfl⟩ rfl hl.1 rfl (Nat.le_of_ble_eq_true rfl) dX0_goesAhead_2 rfl rfl ⟨Nat.zero_le _, Nat.zero_le _⟩ (fun v w' H locs hpo w => ?_)
  clear hq
  obtain ⟨rfl, rfl⟩ := hpo
  have w : mW E A s [(h, .inr (0, [.ref h_rules, .ref h_rows])), (h_rules, .inr (4, [.ref a_vals, .int now])), (a_vals, .inl (E.2.1, 8, .inl vals)), (h_rows, .inr (8, [.int (nI dm), .int (nI 9), .ref a_rows, .int s_rows])), (a_rows, .inl (E.2.1, (dm * 9), .inl f_rows))] H locs := w
  refine lv_istore_n (lv' := [(3, .int o_1), (0, .ref h), (1, .int x1), (2, .int x2)]) hx hb dX0_goesAhead_5 rfl hl (by decide) rfl (fun ls hl => ?_)
  refine lv_iload_n hx hb dX0_goesAhead_6 rfl (lv_at hl 0 rfl) ?_
  refine lv_aload_n hx hb dX0_goesAhead_7 rfl (lv_at hl 1 rfl) ?_
  refine lv_iload_n hx hb dX0_goesAhead_8 rfl (lv_at hl 3 rfl) ?_
  obtain ⟨o_2, hq, hf⟩ := bd_e hf
  refine mx_callV (As := [.int x2]) (rest := [.int o_1]) (wr := []) (d_X0_isStale E l  h h_rules a_vals h_rows a_rows dm vals now rows s_rows f_rows x2 ok_rows o_2 hq) B w [0, 1, 2, 3, 4] [] rfl rfl (by decide) (by decide) (by decide) 0 rfl rfl cv_X0_isStale kw_380 1 (by decide +kernel) ⟨Nat.le_of_ble_eq_true rfl, Nat.le_of_ble_eq_true rfl⟩ rfl hl.1 rfl (Nat.le_of_ble_eq_true rfl) dX0_goesAhead_9 rfl rfl ⟨Nat.zero_le _, Nat.zero_le _⟩ (fun v w' H locs hpo w => ?_)
  clear hq
  obtain ⟨rfl, rfl⟩ := hpo
  have w : mW E A s [(h, .inr (0, [.ref h_rules, .ref h_rows])), (h_rules, .inr (4, [.ref a_vals, .int now])), (a_vals, .inl (E.2.1, 8, .inl vals)), (h_rows, .inr (8, [.int (nI dm), .int (nI 9), .ref a_rows, .int s_rows])), (a_rows, .inl (E.2.1, (dm * 9), .inl f_rows))] H locs := w
  refine lv_icmp_eq (tgt := 17) hx hb dX0_goesAhead_12 (by decide) (fun hc => ?_) (fun hc => ?_)
  · have hf := it_t hc hf
    refine lv_iconst (v := 3) hx hb dX0_goesAhead_17 (by decide) ?_
    refine lv_istore (lv' := [(4, .int 3), (3, .int o_1), (0, .ref h), (1, .int x1), (2, .int x2)]) hx hb dX0_goesAhead_18 hl (by decide) rfl (fun ls hl => ?_)
    refine l_X0_goesAhead_20 B _ _ ok_rows ?_ ?_ N _ _ _ _ hf  w (lv_sub hl [2, 3, 4, 0] rfl)
    · intro H locs ls hf w hl
      refine lv_iconst (v := 0) hx hb dX0_goesAhead_76 (by decide) ?_
      cases hf
      exact mx_zret B w rfl ⟨rfl, rfl⟩ dX0_goesAhead_77
    · intro x5 x6 H locs ls hf w hl
      refine lv_iload hx hb dX0_goesAhead_57 (lv_at hl 0 rfl) ?_
      refine lv_iload hx hb dX0_goesAhead_59 (lv_at hl 1 rfl) ?_
      refine lv_icmp_ge (tgt := 68) hx hb dX0_goesAhead_61 (by decide) (fun hc => ?_) (fun hc => ?_)
      · have hf := it_t hc hf
        refine lv_iconst (v := 0) hx hb dX0_goesAhead_68 (by decide) ?_
        cases hf
        exact mx_zret B w rfl ⟨rfl, rfl⟩ dX0_goesAhead_69
      · have hf := it_f hc hf
        refine lv_iconst (v := 1) hx hb dX0_goesAhead_64 (by decide) ?_
        refine lv_goto (tgt := 69) hx hb dX0_goesAhead_65 (by decide) ?_
        cases hf
        exact mx_zret B w rfl ⟨rfl, rfl⟩ dX0_goesAhead_69
  · have hf := it_f hc hf
    refine lv_iload_n hx hb dX0_goesAhead_15 rfl (lv_at hl 0 rfl) ?_
    obtain ⟨hz, hf⟩ := ck_e hf
    cases hf
    exact mx_zret B w (nar_z hz) ⟨rfl, rfl⟩ dX0_goesAhead_16
-- X0_nextToGo
def po_X0_nextToGo (E : mE) (h : Nat) (h_rules : Nat) (a_vals : Nat) (h_rows : Nat) (a_rows : Nat) (dm : Nat) (vals : Nat → Int32) (now : Int32) (rows : Rows) (s_rows : Int32) (f_rows : Nat → Int32) (o : Int32) : Option Value → va_W → Prop := (fun (v : Option Value) (w' : va_W) => v = some (.int o) ∧ w' = [(h, .inr (0, [.ref h_rules, .ref h_rows])), (h_rules, .inr (4, [.ref a_vals, .int now])), (a_vals, .inl (E.2.1, 8, .inl vals)), (h_rows, .inr (8, [.int (nI dm), .int (nI 9), .ref a_rows, .int s_rows])), (a_rows, .inl (E.2.1, (dm * 9), .inl f_rows))])
noncomputable def J_X0_nextToGo_68 (N : Nat) (dm : Nat) (rec : Int32 → Int32 → Option (Int32)) (k74 : Int32 → Option (Int32)) (x1 : Int32) (x2 : Int32) (x3 : Int32) (x4 : Int32) (vals : Nat → Int32) (now : Int32) (rows : Rows) : Option (Int32) :=
  lt (x4 + 1) (fun x4_3 =>
  rec x3 x4_3)
set_option maxHeartbeats 4000000 in
set_option maxRecDepth 100000 in
theorem j_X0_nextToGo_68 {E : mE} {l : Launch} {p : Program} {e : Env} {s : State} {m : MethodId} {args : Array Value} {below : List Frame} {meth : Method} {c : Code} {A : Nat → Prop} {Q : State → Prop} {N : Nat} {h : Nat} {h_rules : Nat} {a_vals : Nat} {h_rows : Nat} {a_rows : Nat} {dm : Nat} {vals : Nat → Int32} {now : Int32} {rows : Rows} {s_rows : Int32} {f_rows : Nat → Int32} {o : Int32} (B : mB E yX0_nextToGo cX0_nextToGo 5 (some .int) 0 0 (po_X0_nextToGo E h h_rules a_vals h_rows a_rows dm vals now rows s_rows f_rows o) p s m args below meth c A Q) {x1 : Int32} {x2 : Int32} {x3 : Int32} {x4 : Int32}   (rec : Int32 → Int32 → Option (Int32)) (k74 : Int32 → Option (Int32)) (hrec : ∀ (x3 : Int32) (x4 : Int32)   (H : Heap) (locs : List Loc) (ls : Array Slot), rec x3 x4 = some o → mW E A s [(h, .inr (0, [.ref h_rules, .ref h_rows])), (h_rules, .inr (4, [.ref a_vals, .int now])), (a_vals, .inl (E.2.1, 8, .inl vals)), (h_rows, .inr (8, [.int (nI dm), .int (nI 9), .ref a_rows, .int s_rows])), (a_rows, .inl (E.2.1, (dm * 9), .inl f_rows))] H locs → lv_has ls 5 [(0, .ref h), (1, .int x1), (2, .int x2), (3, .int x3), (4, .int x4)] → W p l e ({ frames := 3, cells := 0, slots := 0, locals := 71 } : Room) s m args below meth c H locs 0 0 Q (F0 m 5 ls [])) (hk74 : ∀ (x3 : Int32)   (H : Heap) (locs : List Loc) (ls : Array Slot), k74 x3 = some o → mW E A s [(h, .inr (0, [.ref h_rules, .ref h_rows])), (h_rules, .inr (4, [.ref a_vals, .int now])), (a_vals, .inl (E.2.1, 8, .inl vals)), (h_rows, .inr (8, [.int (nI dm), .int (nI 9), .ref a_rows, .int s_rows])), (a_rows, .inl (E.2.1, (dm * 9), .inl f_rows))] H locs → lv_has ls 5 [(3, .int x3)] → W p l e ({ frames := 3, cells := 0, slots := 0, locals := 71 } : Room) s m args below meth c H locs 0 0 Q (F0 m 74 ls [])) {H : Heap} {locs : List Loc} {ls : Array Slot} (hf : J_X0_nextToGo_68 N dm rec k74 x1 x2 x3 x4 vals now rows = some o) (ok_rows : tb_ok dm 9 rows s_rows f_rows) (w : mW E A s [(h, .inr (0, [.ref h_rules, .ref h_rows])), (h_rules, .inr (4, [.ref a_vals, .int now])), (a_vals, .inl (E.2.1, 8, .inl vals)), (h_rows, .inr (8, [.int (nI dm), .int (nI 9), .ref a_rows, .int s_rows])), (a_rows, .inl (E.2.1, (dm * 9), .inl f_rows))] H locs) (hl : lv_has ls 5 [(0, .ref h), (1, .int x1), (2, .int x2), (3, .int x3), (4, .int x4)]) : W p l e ({ frames := 3, cells := 0, slots := 0, locals := 71 } : Room) s m args below meth c H locs 0 0 Q (F0 m 68 ls []) := by
  obtain ⟨hx, hb, hml, hown, hts⟩ := id B.1
  unfold J_X0_nextToGo_68 at hf
  obtain ⟨x4_3, ev⟩ : ∃ y : Int32, y = x4 + 1 := ⟨_, rfl⟩
  refine lv_iinc (v := x4_3) (lv' := [(4, .int x4_3), (0, .ref h), (1, .int x1), (2, .int x2), (3, .int x3)]) hx hb dX0_nextToGo_68 hl (k := 4) rfl (by rw [ev]; rfl) (by decide) rfl (fun ls hl => ?_)
  have hf := lt_n ev hf; clear ev
  refine lv_goto (tgt := 5) hx hb dX0_nextToGo_71 (by decide) ?_
  exact hrec _ _ _ _ _ hf  w (lv_sub hl [1, 2, 3, 4, 0] rfl)
noncomputable def J_X0_nextToGo_65 (N : Nat) (dm : Nat) (rec : Int32 → Int32 → Option (Int32)) (k74 : Int32 → Option (Int32)) (x1 : Int32) (x2 : Int32) (x4 : Int32) (vals : Nat → Int32) (now : Int32) (rows : Rows) : Option (Int32) :=
  J_X0_nextToGo_68 N dm rec k74 x1 x2 x4 x4 vals now rows
set_option maxHeartbeats 4000000 in
set_option maxRecDepth 100000 in
theorem j_X0_nextToGo_65 {E : mE} {l : Launch} {p : Program} {e : Env} {s : State} {m : MethodId} {args : Array Value} {below : List Frame} {meth : Method} {c : Code} {A : Nat → Prop} {Q : State → Prop} {N : Nat} {h : Nat} {h_rules : Nat} {a_vals : Nat} {h_rows : Nat} {a_rows : Nat} {dm : Nat} {vals : Nat → Int32} {now : Int32} {rows : Rows} {s_rows : Int32} {f_rows : Nat → Int32} {o : Int32} (B : mB E yX0_nextToGo cX0_nextToGo 5 (some .int) 0 0 (po_X0_nextToGo E h h_rules a_vals h_rows a_rows dm vals now rows s_rows f_rows o) p s m args below meth c A Q) {x1 : Int32} {x2 : Int32} {x4 : Int32}   (rec : Int32 → Int32 → Option (Int32)) (k74 : Int32 → Option (Int32)) (hrec : ∀ (x3 : Int32) (x4 : Int32)   (H : Heap) (locs : List Loc) (ls : Array Slot), rec x3 x4 = some o → mW E A s [(h, .inr (0, [.ref h_rules, .ref h_rows])), (h_rules, .inr (4, [.ref a_vals, .int now])), (a_vals, .inl (E.2.1, 8, .inl vals)), (h_rows, .inr (8, [.int (nI dm), .int (nI 9), .ref a_rows, .int s_rows])), (a_rows, .inl (E.2.1, (dm * 9), .inl f_rows))] H locs → lv_has ls 5 [(0, .ref h), (1, .int x1), (2, .int x2), (3, .int x3), (4, .int x4)] → W p l e ({ frames := 3, cells := 0, slots := 0, locals := 71 } : Room) s m args below meth c H locs 0 0 Q (F0 m 5 ls [])) (hk74 : ∀ (x3 : Int32)   (H : Heap) (locs : List Loc) (ls : Array Slot), k74 x3 = some o → mW E A s [(h, .inr (0, [.ref h_rules, .ref h_rows])), (h_rules, .inr (4, [.ref a_vals, .int now])), (a_vals, .inl (E.2.1, 8, .inl vals)), (h_rows, .inr (8, [.int (nI dm), .int (nI 9), .ref a_rows, .int s_rows])), (a_rows, .inl (E.2.1, (dm * 9), .inl f_rows))] H locs → lv_has ls 5 [(3, .int x3)] → W p l e ({ frames := 3, cells := 0, slots := 0, locals := 71 } : Room) s m args below meth c H locs 0 0 Q (F0 m 74 ls [])) {H : Heap} {locs : List Loc} {ls : Array Slot} (hf : J_X0_nextToGo_65 N dm rec k74 x1 x2 x4 vals now rows = some o) (ok_rows : tb_ok dm 9 rows s_rows f_rows) (w : mW E A s [(h, .inr (0, [.ref h_rules, .ref h_rows])), (h_rules, .inr (4, [.ref a_vals, .int now])), (a_vals, .inl (E.2.1, 8, .inl vals)), (h_rows, .inr (8, [.int (nI dm), .int (nI 9), .ref a_rows, .int s_rows])), (a_rows, .inl (E.2.1, (dm * 9), .inl f_rows))] H locs) (hl : lv_has ls 5 [(0, .ref h), (1, .int x1), (2, .int x2), (4, .int x4)]) : W p l e ({ frames := 3, cells := 0, slots := 0, locals := 71 } : Room) s m args below meth c H locs 0 0 Q (F0 m 65 ls []) := by
  obtain ⟨hx, hb, hml, hown, hts⟩ := id B.1
  unfold J_X0_nextToGo_65 at hf
  refine lv_iload hx hb dX0_nextToGo_65 (lv_at hl 3 rfl) ?_
  refine lv_istore_n (lv' := [(3, .int x4), (0, .ref h), (1, .int x1), (2, .int x2), (4, .int x4)]) hx hb dX0_nextToGo_67 rfl hl (by decide) rfl (fun ls hl => ?_)
  exact j_X0_nextToGo_68 B _ _ hrec hk74 hf ok_rows w (lv_sub hl [1, 2, 3, 0, 4] rfl)
noncomputable def J_X0_nextToGo_50 (N : Nat) (dm : Nat) (rec : Int32 → Int32 → Option (Int32)) (k74 : Int32 → Option (Int32)) (x1 : Int32) (x2 : Int32) (x3 : Int32) (x4 : Int32) (vals : Nat → Int32) (now : Int32) (rows : Rows) : Option (Int32) :=
  if (x3 = ((-1)) : Prop) then
  J_X0_nextToGo_65 N dm rec k74 x1 x2 x4 vals now rows
  else
  bd (F_X0_goesAhead N dm vals now rows x4 x3) (fun o_4 =>
  if (o_4 = 0 : Prop) then
  J_X0_nextToGo_68 N dm rec k74 x1 x2 x3 x4 vals now rows
  else
  J_X0_nextToGo_65 N dm rec k74 x1 x2 x4 vals now rows)
set_option maxHeartbeats 4000000 in
set_option maxRecDepth 100000 in
theorem j_X0_nextToGo_50 {E : mE} {l : Launch} {p : Program} {e : Env} {s : State} {m : MethodId} {args : Array Value} {below : List Frame} {meth : Method} {c : Code} {A : Nat → Prop} {Q : State → Prop} {N : Nat} {h : Nat} {h_rules : Nat} {a_vals : Nat} {h_rows : Nat} {a_rows : Nat} {dm : Nat} {vals : Nat → Int32} {now : Int32} {rows : Rows} {s_rows : Int32} {f_rows : Nat → Int32} {o : Int32} (B : mB E yX0_nextToGo cX0_nextToGo 5 (some .int) 0 0 (po_X0_nextToGo E h h_rules a_vals h_rows a_rows dm vals now rows s_rows f_rows o) p s m args below meth c A Q) {x1 : Int32} {x2 : Int32} {x3 : Int32} {x4 : Int32}   (rec : Int32 → Int32 → Option (Int32)) (k74 : Int32 → Option (Int32)) (hrec : ∀ (x3 : Int32) (x4 : Int32)   (H : Heap) (locs : List Loc) (ls : Array Slot), rec x3 x4 = some o → mW E A s [(h, .inr (0, [.ref h_rules, .ref h_rows])), (h_rules, .inr (4, [.ref a_vals, .int now])), (a_vals, .inl (E.2.1, 8, .inl vals)), (h_rows, .inr (8, [.int (nI dm), .int (nI 9), .ref a_rows, .int s_rows])), (a_rows, .inl (E.2.1, (dm * 9), .inl f_rows))] H locs → lv_has ls 5 [(0, .ref h), (1, .int x1), (2, .int x2), (3, .int x3), (4, .int x4)] → W p l e ({ frames := 3, cells := 0, slots := 0, locals := 71 } : Room) s m args below meth c H locs 0 0 Q (F0 m 5 ls [])) (hk74 : ∀ (x3 : Int32)   (H : Heap) (locs : List Loc) (ls : Array Slot), k74 x3 = some o → mW E A s [(h, .inr (0, [.ref h_rules, .ref h_rows])), (h_rules, .inr (4, [.ref a_vals, .int now])), (a_vals, .inl (E.2.1, 8, .inl vals)), (h_rows, .inr (8, [.int (nI dm), .int (nI 9), .ref a_rows, .int s_rows])), (a_rows, .inl (E.2.1, (dm * 9), .inl f_rows))] H locs → lv_has ls 5 [(3, .int x3)] → W p l e ({ frames := 3, cells := 0, slots := 0, locals := 71 } : Room) s m args below meth c H locs 0 0 Q (F0 m 74 ls [])) {H : Heap} {locs : List Loc} {ls : Array Slot} (hf : J_X0_nextToGo_50 N dm rec k74 x1 x2 x3 x4 vals now rows = some o) (ok_rows : tb_ok dm 9 rows s_rows f_rows) (w : mW E A s [(h, .inr (0, [.ref h_rules, .ref h_rows])), (h_rules, .inr (4, [.ref a_vals, .int now])), (a_vals, .inl (E.2.1, 8, .inl vals)), (h_rows, .inr (8, [.int (nI dm), .int (nI 9), .ref a_rows, .int s_rows])), (a_rows, .inl (E.2.1, (dm * 9), .inl f_rows))] H locs) (hl : lv_has ls 5 [(0, .ref h), (1, .int x1), (2, .int x2), (3, .int x3), (4, .int x4)]) : W p l e ({ frames := 3, cells := 0, slots := 0, locals := 71 } : Room) s m args below meth c H locs 0 0 Q (F0 m 50 ls []) := by
  obtain ⟨hx, hb, hml, hown, hts⟩ := id B.1
  unfold J_X0_nextToGo_50 at hf
  refine lv_iload_n hx hb dX0_nextToGo_50 rfl (lv_at hl 3 rfl) ?_
  refine lv_iconst (v := (-1)) hx hb dX0_nextToGo_51 (by decide) ?_
  refine lv_icmp_eq (tgt := 65) hx hb dX0_nextToGo_52 (by decide) (fun hc => ?_) (fun hc => ?_)
  · have hf := it_t hc hf
    exact j_X0_nextToGo_65 B _ _ hrec hk74 hf ok_rows w (lv_sub hl [0, 1, 2, 4] rfl)
  · have hf := it_f hc hf
    refine lv_aload_n hx hb dX0_nextToGo_55 rfl (lv_at hl 0 rfl) ?_
    refine lv_iload hx hb dX0_nextToGo_56 (lv_at hl 4 rfl) ?_
    refine lv_iload_n hx hb dX0_nextToGo_58 rfl (lv_at hl 3 rfl) ?_
    obtain ⟨o_4, hq, hf⟩ := bd_e hf
    refine mx_callV (As := [.int x4, .int x3]) (rest := []) (wr := []) (d_X0_goesAhead E l N h h_rules a_vals h_rows a_rows dm vals now rows s_rows f_rows x4 x3 ok_rows o_4 hq) B w [0, 1, 2, 3, 4] [] rfl rfl (by decide) (by decide) (by decide) 0 rfl rfl cv_X0_goesAhead kw_376 2 (by decide +kernel) ⟨Nat.le_of_ble_eq_true rfl, Nat.le_of_ble_eq_true rfl⟩ rfl hl.1 rfl (Nat.le_of_ble_eq_true rfl) dX0_nextToGo_59 rfl rfl ⟨Nat.zero_le _, Nat.zero_le _⟩ (fun v w' H locs hpo w => ?_)
    clear hq
    obtain ⟨rfl, rfl⟩ := hpo
    have w : mW E A s [(h, .inr (0, [.ref h_rules, .ref h_rows])), (h_rules, .inr (4, [.ref a_vals, .int now])), (a_vals, .inl (E.2.1, 8, .inl vals)), (h_rows, .inr (8, [.int (nI dm), .int (nI 9), .ref a_rows, .int s_rows])), (a_rows, .inl (E.2.1, (dm * 9), .inl f_rows))] H locs := w
    refine lv_if_eq (tgt := 68) hx hb dX0_nextToGo_62 (by decide) (fun hc => ?_) (fun hc => ?_)
    · have hf := it_t hc hf
      exact j_X0_nextToGo_68 B _ _ hrec hk74 hf ok_rows w (lv_sub hl [0, 1, 2, 3, 4] rfl)
    · have hf := it_f hc hf
      exact j_X0_nextToGo_65 B _ _ hrec hk74 hf ok_rows w (lv_sub hl [0, 1, 2, 4] rfl)
noncomputable def K_X0_nextToGo_5 (N : Nat) (dm : Nat) (rec : Int32 → Int32 → Option (Int32)) (k74 : Int32 → Option (Int32)) (x1 : Int32) (x2 : Int32) (vals : Nat → Int32) (now : Int32) (rows : Rows) (x3 : Int32) (x4 : Int32)  : Option (Int32) :=
  lt (tsize rows) (fun o_1 =>
  if (o_1 ≤ x4 : Prop) then
  k74 x3
  else
  lt (tget rows x4 7) (fun o_2 =>
  if (o_2 = x2 : Prop) then
  J_X0_nextToGo_68 N dm rec k74 x1 x2 x3 x4 vals now rows
  else
  if (x1 = ((-1)) : Prop) then
  J_X0_nextToGo_50 N dm rec k74 x1 x2 x3 x4 vals now rows
  else
  bd (F_X0_goesAhead N dm vals now rows x1 x4) (fun o_5 =>
  if (o_5 = 0 : Prop) then
  J_X0_nextToGo_68 N dm rec k74 x1 x2 x3 x4 vals now rows
  else
  J_X0_nextToGo_50 N dm rec k74 x1 x2 x3 x4 vals now rows)))
noncomputable def L_X0_nextToGo_5 (N : Nat) (dm : Nat) (k74 : Int32 → Option (Int32)) (x1 : Int32) (x2 : Int32) (vals : Nat → Int32) (now : Int32) (rows : Rows) (n : Nat) : Int32 → Int32 → Option (Int32) :=
  Nat.rec (motive := fun _ => Int32 → Int32 → Option (Int32)) (fun _ _ => none) (fun _ rec => K_X0_nextToGo_5 N dm rec k74 x1 x2 vals now rows) n
set_option maxHeartbeats 4000000 in
set_option maxRecDepth 100000 in
theorem l_X0_nextToGo_5 {E : mE} {l : Launch} {p : Program} {e : Env} {s : State} {m : MethodId} {args : Array Value} {below : List Frame} {meth : Method} {c : Code} {A : Nat → Prop} {Q : State → Prop} {N : Nat} {h : Nat} {h_rules : Nat} {a_vals : Nat} {h_rows : Nat} {a_rows : Nat} {dm : Nat} {vals : Nat → Int32} {now : Int32} {rows : Rows} {s_rows : Int32} {f_rows : Nat → Int32} {o : Int32} (B : mB E yX0_nextToGo cX0_nextToGo 5 (some .int) 0 0 (po_X0_nextToGo E h h_rules a_vals h_rows a_rows dm vals now rows s_rows f_rows o) p s m args below meth c A Q)   {x1 : Int32} {x2 : Int32} (k74 : Int32 → Option (Int32)) (ok_rows : tb_ok dm 9 rows s_rows f_rows) (hk74 : ∀ (x3 : Int32)   (H : Heap) (locs : List Loc) (ls : Array Slot), k74 x3 = some o → mW E A s [(h, .inr (0, [.ref h_rules, .ref h_rows])), (h_rules, .inr (4, [.ref a_vals, .int now])), (a_vals, .inl (E.2.1, 8, .inl vals)), (h_rows, .inr (8, [.int (nI dm), .int (nI 9), .ref a_rows, .int s_rows])), (a_rows, .inl (E.2.1, (dm * 9), .inl f_rows))] H locs → lv_has ls 5 [(3, .int x3)] → W p l e ({ frames := 3, cells := 0, slots := 0, locals := 71 } : Room) s m args below meth c H locs 0 0 Q (F0 m 74 ls [])) : ∀ n : Nat, ∀ (x3 : Int32) (x4 : Int32)   (H : Heap) (locs : List Loc) (ls : Array Slot), L_X0_nextToGo_5 N dm k74 x1 x2 vals now rows n x3 x4 = some o → mW E A s [(h, .inr (0, [.ref h_rules, .ref h_rows])), (h_rules, .inr (4, [.ref a_vals, .int now])), (a_vals, .inl (E.2.1, 8, .inl vals)), (h_rows, .inr (8, [.int (nI dm), .int (nI 9), .ref a_rows, .int s_rows])), (a_rows, .inl (E.2.1, (dm * 9), .inl f_rows))] H locs → lv_has ls 5 [(0, .ref h), (1, .int x1), (2, .int x2), (3, .int x3), (4, .int x4)] → W p l e ({ frames := 3, cells := 0, slots := 0, locals := 71 } : Room) s m args below meth c H locs 0 0 Q (F0 m 5 ls []) := by
  obtain ⟨hx, hb, hml, hown, hts⟩ := id B.1
  intro n
  induction n with
  | zero =>
    intro x3 x4 H locs ls hf w hl
    exact nomatch hf
  | succ n hrec =>
    intro x3 x4 H locs ls hf w hl
    have hf : K_X0_nextToGo_5 N dm (L_X0_nextToGo_5 N dm k74 x1 x2 vals now rows n) k74 x1 x2 vals now rows x3 x4 = some o := hf
    unfold K_X0_nextToGo_5 at hf
    refine lv_iload hx hb dX0_nextToGo_5 (lv_at hl 4 rfl) ?_
    refine lv_aload_n hx hb dX0_nextToGo_7 rfl (lv_at hl 0 rfl) ?_
    refine mx_get B w 0 fl_X0_20 rfl rfl dX0_nextToGo_8 ?_
    obtain ⟨o_1, ev⟩ : ∃ y, y = tsize rows := ⟨_, rfl⟩
    have hf := lt_n ev hf
    refine mx_callV (As := []) (rest := [.int x4]) (wr := [(h, .inr (0, [.ref h_rules, .ref h_rows])), (h_rules, .inr (4, [.ref a_vals, .int now])), (a_vals, .inl (E.2.1, 8, .inl vals))]) (c_X9_size E l h_rows a_rows dm 9 rows s_rows f_rows  ok_rows o_1 ev) B w [3, 4] [0, 1, 2] rfl rfl (by decide) (by decide) (by decide) 3 rfl rfl cv_X9_size kw_360 0 (by decide +kernel) ⟨Nat.le_of_ble_eq_true rfl, Nat.le_of_ble_eq_true rfl⟩ rfl hl.1 rfl (Nat.le_of_ble_eq_true rfl) dX0_nextToGo_11 rfl rfl ⟨Nat.zero_le _, Nat.zero_le _⟩ (fun v w' H locs hpo w => ?_)
    clear ev
    obtain ⟨rfl, rfl⟩ := hpo
    have w : mW E A s [(h, .inr (0, [.ref h_rules, .ref h_rows])), (h_rules, .inr (4, [.ref a_vals, .int now])), (a_vals, .inl (E.2.1, 8, .inl vals)), (h_rows, .inr (8, [.int (nI dm), .int (nI 9), .ref a_rows, .int s_rows])), (a_rows, .inl (E.2.1, (dm * 9), .inl f_rows))] H locs := w
    refine lv_icmp_ge (tgt := 74) hx hb dX0_nextToGo_14 (by decide) (fun hc => ?_) (fun hc => ?_)
    · have hf := it_t hc hf
      exact hk74 _ _ _ _ hf  w (lv_sub hl [3] rfl)
    · have hf := it_f hc hf
      refine lv_aload_n hx hb dX0_nextToGo_17 rfl (lv_at hl 0 rfl) ?_
      refine mx_get B w 0 fl_X0_20 rfl rfl dX0_nextToGo_18 ?_
      refine lv_iload hx hb dX0_nextToGo_21 (lv_at hl 4 rfl) ?_
      refine lv_bipush (v := 7) hx hb dX0_nextToGo_23 (by decide) ?_
      obtain ⟨o_2, ev⟩ : ∃ y, y = tget rows x4 7 := ⟨_, rfl⟩
      have hf := lt_n ev hf
      refine mx_callV (As := [.int x4, .int 7]) (rest := []) (wr := [(h, .inr (0, [.ref h_rules, .ref h_rows])), (h_rules, .inr (4, [.ref a_vals, .int now])), (a_vals, .inl (E.2.1, 8, .inl vals))]) (c_X9_get E l h_rows a_rows dm 9 rows s_rows f_rows x4 7 ok_rows o_2 ev) B w [3, 4] [0, 1, 2] rfl rfl (by decide) (by decide) (by decide) 3 rfl rfl cv_X9_get kw_368 2 (by decide +kernel) ⟨Nat.le_of_ble_eq_true rfl, Nat.le_of_ble_eq_true rfl⟩ rfl hl.1 rfl (Nat.le_of_ble_eq_true rfl) dX0_nextToGo_25 rfl rfl ⟨Nat.zero_le _, Nat.zero_le _⟩ (fun v w' H locs hpo w => ?_)
      clear ev
      obtain ⟨rfl, rfl⟩ := hpo
      have w : mW E A s [(h, .inr (0, [.ref h_rules, .ref h_rows])), (h_rules, .inr (4, [.ref a_vals, .int now])), (a_vals, .inl (E.2.1, 8, .inl vals)), (h_rows, .inr (8, [.int (nI dm), .int (nI 9), .ref a_rows, .int s_rows])), (a_rows, .inl (E.2.1, (dm * 9), .inl f_rows))] H locs := w
      refine lv_iload_n hx hb dX0_nextToGo_28 rfl (lv_at hl 2 rfl) ?_
      refine lv_icmp_eq (tgt := 68) hx hb dX0_nextToGo_29 (by decide) (fun hc => ?_) (fun hc => ?_)
      · have hf := it_t hc hf
        exact j_X0_nextToGo_68 B _ _ hrec hk74 hf ok_rows w (lv_sub hl [0, 1, 2, 3, 4] rfl)
      · have hf := it_f hc hf
        refine lv_iload_n hx hb dX0_nextToGo_32 rfl (lv_at hl 1 rfl) ?_
        refine lv_iconst (v := (-1)) hx hb dX0_nextToGo_33 (by decide) ?_
        refine lv_icmp_eq (tgt := 50) hx hb dX0_nextToGo_34 (by decide) (fun hc => ?_) (fun hc => ?_)
        · have hf := it_t hc hf
          exact j_X0_nextToGo_50 B _ _ hrec hk74 hf ok_rows w (lv_sub hl [0, 1, 2, 3, 4] rfl)
        · have hf := it_f hc hf
          refine lv_aload_n hx hb dX0_nextToGo_37 rfl (lv_at hl 0 rfl) ?_
          refine lv_iload_n hx hb dX0_nextToGo_38 rfl (lv_at hl 1 rfl) ?_
          refine lv_iload hx hb dX0_nextToGo_39 (lv_at hl 4 rfl) ?_
          obtain ⟨o_5, hq, hf⟩ := bd_e hf
          refine mx_callV (As := [.int x1, .int x4]) (rest := []) (wr := []) (d_X0_goesAhead E l N h h_rules a_vals h_rows a_rows dm vals now rows s_rows f_rows x1 x4 ok_rows o_5 hq) B w [0, 1, 2, 3, 4] [] rfl rfl (by decide) (by decide) (by decide) 0 rfl rfl cv_X0_goesAhead kw_376 2 (by decide +kernel) ⟨Nat.le_of_ble_eq_true rfl, Nat.le_of_ble_eq_true rfl⟩ rfl hl.1 rfl (Nat.le_of_ble_eq_true rfl) dX0_nextToGo_41 rfl rfl ⟨Nat.zero_le _, Nat.zero_le _⟩ (fun v w' H locs hpo w => ?_)
          clear hq
          obtain ⟨rfl, rfl⟩ := hpo
          have w : mW E A s [(h, .inr (0, [.ref h_rules, .ref h_rows])), (h_rules, .inr (4, [.ref a_vals, .int now])), (a_vals, .inl (E.2.1, 8, .inl vals)), (h_rows, .inr (8, [.int (nI dm), .int (nI 9), .ref a_rows, .int s_rows])), (a_rows, .inl (E.2.1, (dm * 9), .inl f_rows))] H locs := w
          refine lv_if_ne (tgt := 50) hx hb dX0_nextToGo_44 (by decide) (fun hc => ?_) (fun hc => ?_)
          · have hf := it_f hc hf
            exact j_X0_nextToGo_50 B _ _ hrec hk74 hf ok_rows w (lv_sub hl [0, 1, 2, 3, 4] rfl)
          · have hf := it_t hc hf
            refine lv_goto (tgt := 68) hx hb dX0_nextToGo_47 (by decide) ?_
            exact j_X0_nextToGo_68 B _ _ hrec hk74 hf ok_rows w (lv_sub hl [0, 1, 2, 3, 4] rfl)
noncomputable def F_X0_nextToGo (N : Nat) (dm : Nat) (vals : Nat → Int32) (now : Int32) (rows : Rows) (x1 : Int32) (x2 : Int32) : Option (Int32) :=
  L_X0_nextToGo_5 N dm (fun x3 => some (x3)) x1 x2 vals now rows N ((-1)) 0
set_option maxHeartbeats 4000000 in
set_option maxRecDepth 100000 in
theorem d_X0_nextToGo (E : mE) (l : Launch) (N : Nat) (h : Nat) (h_rules : Nat) (a_vals : Nat) (h_rows : Nat) (a_rows : Nat) (dm : Nat) (vals : Nat → Int32) (now : Int32) (rows : Rows) (s_rows : Int32) (f_rows : Nat → Int32) (x1 : Int32) (x2 : Int32) (ok_rows : tb_ok dm 9 rows s_rows f_rows) (o : Int32) (hf : F_X0_nextToGo N dm vals now rows x1 x2 = some o) : MX E l yX0_nextToGo cX0_nextToGo 5 (some .int) ({ frames := 3, cells := 0, slots := 0, locals := 71 } : Room) [.ref h, .int x1, .int x2] [(h, .inr (0, [.ref h_rules, .ref h_rows])), (h_rules, .inr (4, [.ref a_vals, .int now])), (a_vals, .inl (E.2.1, 8, .inl vals)), (h_rows, .inr (8, [.int (nI dm), .int (nI 9), .ref a_rows, .int s_rows])), (a_rows, .inl (E.2.1, (dm * 9), .inl f_rows))] (po_X0_nextToGo E h h_rules a_vals h_rows a_rows dm vals now rows s_rows f_rows o) := by
  refine mx_intro (by decide +kernel) (Nat.le_of_ble_eq_true rfl) ?_
  intro p e s m args below meth c A Q ls B w hl
  obtain ⟨hx, hb, hml, hown, hts⟩ := id B.1
  unfold F_X0_nextToGo at hf
  have hl : lv_has ls 5 [(0, .ref h), (1, .int x1), (2, .int x2)] := hl
  refine lv_iconst (v := (-1)) hx hb dX0_nextToGo_0 (by decide) ?_
  refine lv_istore_n (lv' := [(3, .int ((-1))), (0, .ref h), (1, .int x1), (2, .int x2)]) hx hb dX0_nextToGo_1 rfl hl (by decide) rfl (fun ls hl => ?_)
  refine lv_iconst (v := 0) hx hb dX0_nextToGo_2 (by decide) ?_
  refine lv_istore (lv' := [(4, .int 0), (3, .int ((-1))), (0, .ref h), (1, .int x1), (2, .int x2)]) hx hb dX0_nextToGo_3 hl (by decide) rfl (fun ls hl => ?_)
  refine l_X0_nextToGo_5 B _ ok_rows ?_ N _ _ _ _ _ hf  w (lv_sub hl [2, 3, 4, 1, 0] rfl)
  · intro x3 H locs ls hf w hl
    refine lv_iload_n hx hb dX0_nextToGo_74 rfl (lv_at hl 0 rfl) ?_
    cases hf
    exact mx_iret B w ⟨rfl, rfl⟩ dX0_nextToGo_75
-- X0_get
def po_X0_get (E : mE) (h : Nat) (h_rules : Nat) (a_vals : Nat) (h_rows : Nat) (a_rows : Nat) (dm : Nat) (vals : Nat → Int32) (now : Int32) (rows : Rows) (s_rows : Int32) (f_rows : Nat → Int32) (o : Int32) : Option Value → va_W → Prop := (fun (v : Option Value) (w' : va_W) => v = some (.int o) ∧ w' = [(h, .inr (0, [.ref h_rules, .ref h_rows])), (h_rules, .inr (4, [.ref a_vals, .int now])), (a_vals, .inl (E.2.1, 8, .inl vals)), (h_rows, .inr (8, [.int (nI dm), .int (nI 9), .ref a_rows, .int s_rows])), (a_rows, .inl (E.2.1, (dm * 9), .inl f_rows))])
noncomputable def F_X0_get (dm : Nat) (rows : Rows) (x1 : Int32) (x2 : Int32) : Option (Int32) :=
  lt (tget rows x1 x2) (fun o_1 =>
  some (o_1))
set_option maxHeartbeats 4000000 in
set_option maxRecDepth 100000 in
theorem d_X0_get (E : mE) (l : Launch) (h : Nat) (h_rules : Nat) (a_vals : Nat) (h_rows : Nat) (a_rows : Nat) (dm : Nat) (vals : Nat → Int32) (now : Int32) (rows : Rows) (s_rows : Int32) (f_rows : Nat → Int32) (x1 : Int32) (x2 : Int32) (ok_rows : tb_ok dm 9 rows s_rows f_rows) (o : Int32) (hf : F_X0_get dm rows x1 x2 = some o) : MX E l yX0_get cX0_get 3 (some .int) ({ frames := 1, cells := 0, slots := 0, locals := 24 } : Room) [.ref h, .int x1, .int x2] [(h, .inr (0, [.ref h_rules, .ref h_rows])), (h_rules, .inr (4, [.ref a_vals, .int now])), (a_vals, .inl (E.2.1, 8, .inl vals)), (h_rows, .inr (8, [.int (nI dm), .int (nI 9), .ref a_rows, .int s_rows])), (a_rows, .inl (E.2.1, (dm * 9), .inl f_rows))] (po_X0_get E h h_rules a_vals h_rows a_rows dm vals now rows s_rows f_rows o) := by
  refine mx_intro (by decide +kernel) (Nat.le_of_ble_eq_true rfl) ?_
  intro p e s m args below meth c A Q ls B w hl
  obtain ⟨hx, hb, hml, hown, hts⟩ := id B.1
  unfold F_X0_get at hf
  have hl : lv_has ls 3 [(0, .ref h), (1, .int x1), (2, .int x2)] := hl
  refine lv_aload_n hx hb dX0_get_0 rfl (lv_at hl 0 rfl) ?_
  refine mx_get B w 0 fl_X0_20 rfl rfl dX0_get_1 ?_
  refine lv_iload_n hx hb dX0_get_4 rfl (lv_at hl 1 rfl) ?_
  refine lv_iload_n hx hb dX0_get_5 rfl (lv_at hl 2 rfl) ?_
  obtain ⟨o_1, ev⟩ : ∃ y, y = tget rows x1 x2 := ⟨_, rfl⟩
  have hf := lt_n ev hf
  refine mx_callV (As := [.int x1, .int x2]) (rest := []) (wr := [(h, .inr (0, [.ref h_rules, .ref h_rows])), (h_rules, .inr (4, [.ref a_vals, .int now])), (a_vals, .inl (E.2.1, 8, .inl vals))]) (c_X9_get E l h_rows a_rows dm 9 rows s_rows f_rows x1 x2 ok_rows o_1 ev) B w [3, 4] [0, 1, 2] rfl rfl (by decide) (by decide) (by decide) 3 rfl rfl cv_X9_get kw_368 2 (by decide +kernel) ⟨Nat.le_of_ble_eq_true rfl, Nat.le_of_ble_eq_true rfl⟩ rfl hl.1 rfl (Nat.le_of_ble_eq_true rfl) dX0_get_6 rfl rfl ⟨Nat.zero_le _, Nat.zero_le _⟩ (fun v w' H locs hpo w => ?_)
  clear ev
  obtain ⟨rfl, rfl⟩ := hpo
  have w : mW E A s [(h, .inr (0, [.ref h_rules, .ref h_rows])), (h_rules, .inr (4, [.ref a_vals, .int now])), (a_vals, .inl (E.2.1, 8, .inl vals)), (h_rows, .inr (8, [.int (nI dm), .int (nI 9), .ref a_rows, .int s_rows])), (a_rows, .inl (E.2.1, (dm * 9), .inl f_rows))] H locs := w
  cases hf
  exact mx_iret B w ⟨rfl, rfl⟩ dX0_get_9
-- X0_add
def po_X0_add (E : mE) (h : Nat) (h_rules : Nat) (a_vals : Nat) (h_rows : Nat) (a_rows : Nat) (dm : Nat) (vals : Nat → Int32) (now : Int32) (rows : Rows) (s_rows : Int32) (f_rows : Nat → Int32) (o : Int32 × Rows) : Option Value → va_W → Prop := (fun (v : Option Value) (w' : va_W) => ∃ (s_rows' : Int32) (f_rows' : Nat → Int32), tb_ok dm 9 o.2 s_rows' f_rows' ∧ v = some (.int o.1) ∧ w' = [(h, .inr (0, [.ref h_rules, .ref h_rows])), (h_rules, .inr (4, [.ref a_vals, .int now])), (a_vals, .inl (E.2.1, 8, .inl vals)), (h_rows, .inr (8, [.int (nI dm), .int (nI 9), .ref a_rows, .int s_rows'])), (a_rows, .inl (E.2.1, (dm * 9), .inl f_rows'))])
noncomputable def F_X0_add (dm : Nat) (rows : Rows) (x1 : Int32) (x2 : Int32) (x3 : Int32) (x4 : Int32) (x5 : Int32) : Option (Int32 × Rows) :=
  lt (tpush dm 9 rows x2 x3 x4) (fun o_1 =>
  lt (tset o_1.2 o_1.1 7 x1) (fun o_4 =>
  lt (tset o_4 o_1.1 6 x5) (fun o_7 =>
  some (o_1.1, o_7))))
set_option maxHeartbeats 4000000 in
set_option maxRecDepth 100000 in
theorem d_X0_add (E : mE) (l : Launch) (h : Nat) (h_rules : Nat) (a_vals : Nat) (h_rows : Nat) (a_rows : Nat) (dm : Nat) (vals : Nat → Int32) (now : Int32) (rows : Rows) (s_rows : Int32) (f_rows : Nat → Int32) (x1 : Int32) (x2 : Int32) (x3 : Int32) (x4 : Int32) (x5 : Int32) (ok_rows : tb_ok dm 9 rows s_rows f_rows) (o : Int32 × Rows) (hf : F_X0_add dm rows x1 x2 x3 x4 x5 = some o) : MX E l yX0_add cX0_add 7 (some .int) ({ frames := 1, cells := 0, slots := 0, locals := 25 } : Room) [.ref h, .int x1, .int x2, .int x3, .int x4, .int x5] [(h, .inr (0, [.ref h_rules, .ref h_rows])), (h_rules, .inr (4, [.ref a_vals, .int now])), (a_vals, .inl (E.2.1, 8, .inl vals)), (h_rows, .inr (8, [.int (nI dm), .int (nI 9), .ref a_rows, .int s_rows])), (a_rows, .inl (E.2.1, (dm * 9), .inl f_rows))] (po_X0_add E h h_rules a_vals h_rows a_rows dm vals now rows s_rows f_rows o) := by
  refine mx_intro (by decide +kernel) (Nat.le_of_ble_eq_true rfl) ?_
  intro p e s m args below meth c A Q ls B w hl
  obtain ⟨hx, hb, hml, hown, hts⟩ := id B.1
  unfold F_X0_add at hf
  have hl : lv_has ls 7 [(0, .ref h), (1, .int x1), (2, .int x2), (3, .int x3), (4, .int x4), (5, .int x5)] := hl
  refine lv_aload_n hx hb dX0_add_0 rfl (lv_at hl 0 rfl) ?_
  refine mx_get B w 0 fl_X0_20 rfl rfl dX0_add_1 ?_
  refine lv_iload_n hx hb dX0_add_4 rfl (lv_at hl 2 rfl) ?_
  refine lv_iload_n hx hb dX0_add_5 rfl (lv_at hl 3 rfl) ?_
  refine lv_iload hx hb dX0_add_6 (lv_at hl 4 rfl) ?_
  obtain ⟨o_1, ev⟩ : ∃ y, y = tpush dm 9 rows x2 x3 x4 := ⟨_, rfl⟩
  have hf := lt_n ev hf
  refine mx_callV (As := [.int x2, .int x3, .int x4]) (rest := []) (wr := [(h, .inr (0, [.ref h_rules, .ref h_rows])), (h_rules, .inr (4, [.ref a_vals, .int now])), (a_vals, .inl (E.2.1, 8, .inl vals))]) (c_X9_push E l h_rows a_rows dm 9 rows s_rows f_rows x2 x3 x4 ok_rows o_1 ev) B w [3, 4] [0, 1, 2] rfl rfl (by decide) (by decide) (by decide) 3 rfl rfl cv_X9_push kw_401 3 (by decide +kernel) ⟨Nat.le_of_ble_eq_true rfl, Nat.le_of_ble_eq_true rfl⟩ rfl hl.1 rfl (Nat.le_of_ble_eq_true rfl) dX0_add_8 rfl rfl ⟨Nat.zero_le _, Nat.zero_le _⟩ (fun v w' H locs hpo w => ?_)
  clear ev
  obtain ⟨s_rows_2, f_rows_3, ok_rows, rfl, rfl⟩ := hpo
  have w : mW E A s [(h, .inr (0, [.ref h_rules, .ref h_rows])), (h_rules, .inr (4, [.ref a_vals, .int now])), (a_vals, .inl (E.2.1, 8, .inl vals)), (h_rows, .inr (8, [.int (nI dm), .int (nI 9), .ref a_rows, .int s_rows_2])), (a_rows, .inl (E.2.1, (dm * 9), .inl f_rows_3))] H locs := w
  refine lv_istore (lv' := [(6, .int o_1.1), (0, .ref h), (1, .int x1), (2, .int x2), (3, .int x3), (4, .int x4), (5, .int x5)]) hx hb dX0_add_11 hl (by decide) rfl (fun ls hl => ?_)
  refine lv_aload_n hx hb dX0_add_13 rfl (lv_at hl 1 rfl) ?_
  refine mx_get B w 0 fl_X0_20 rfl rfl dX0_add_14 ?_
  refine lv_iload hx hb dX0_add_17 (lv_at hl 0 rfl) ?_
  refine lv_bipush (v := 7) hx hb dX0_add_19 (by decide) ?_
  refine lv_iload_n hx hb dX0_add_21 rfl (lv_at hl 2 rfl) ?_
  obtain ⟨o_4, ev⟩ : ∃ y, y = tset o_1.2 o_1.1 7 x1 := ⟨_, rfl⟩
  have hf := lt_n ev hf
  refine mx_callV (As := [.int o_1.1, .int 7, .int x1]) (rest := []) (wr := [(h, .inr (0, [.ref h_rules, .ref h_rows])), (h_rules, .inr (4, [.ref a_vals, .int now])), (a_vals, .inl (E.2.1, 8, .inl vals))]) (c_X9_set E l h_rows a_rows dm 9 o_1.2 s_rows_2 f_rows_3 o_1.1 7 x1 ok_rows o_4 ev) B w [3, 4] [0, 1, 2] rfl rfl (by decide) (by decide) (by decide) 3 rfl rfl cv_X9_set kw_405 3 (by decide +kernel) ⟨Nat.le_of_ble_eq_true rfl, Nat.le_of_ble_eq_true rfl⟩ rfl hl.1 rfl (Nat.le_of_ble_eq_true rfl) dX0_add_22 rfl rfl ⟨Nat.zero_le _, Nat.zero_le _⟩ (fun v w' H locs hpo w => ?_)
  clear ev
  obtain ⟨s_rows_5, f_rows_6, ok_rows, rfl, rfl⟩ := hpo
  have w : mW E A s [(h, .inr (0, [.ref h_rules, .ref h_rows])), (h_rules, .inr (4, [.ref a_vals, .int now])), (a_vals, .inl (E.2.1, 8, .inl vals)), (h_rows, .inr (8, [.int (nI dm), .int (nI 9), .ref a_rows, .int s_rows_5])), (a_rows, .inl (E.2.1, (dm * 9), .inl f_rows_6))] H locs := w
  refine lv_aload_n hx hb dX0_add_25 rfl (lv_at hl 1 rfl) ?_
  refine mx_get B w 0 fl_X0_20 rfl rfl dX0_add_26 ?_
  refine lv_iload hx hb dX0_add_29 (lv_at hl 0 rfl) ?_
  refine lv_bipush (v := 6) hx hb dX0_add_31 (by decide) ?_
  refine lv_iload hx hb dX0_add_33 (lv_at hl 6 rfl) ?_
  obtain ⟨o_7, ev⟩ : ∃ y, y = tset o_4 o_1.1 6 x5 := ⟨_, rfl⟩
  have hf := lt_n ev hf
  refine mx_callV (As := [.int o_1.1, .int 6, .int x5]) (rest := []) (wr := [(h, .inr (0, [.ref h_rules, .ref h_rows])), (h_rules, .inr (4, [.ref a_vals, .int now])), (a_vals, .inl (E.2.1, 8, .inl vals))]) (c_X9_set E l h_rows a_rows dm 9 o_4 s_rows_5 f_rows_6 o_1.1 6 x5 ok_rows o_7 ev) B w [3, 4] [0, 1, 2] rfl rfl (by decide) (by decide) (by decide) 3 rfl rfl cv_X9_set kw_405 3 (by decide +kernel) ⟨Nat.le_of_ble_eq_true rfl, Nat.le_of_ble_eq_true rfl⟩ rfl hl.1 rfl (Nat.le_of_ble_eq_true rfl) dX0_add_35 rfl rfl ⟨Nat.zero_le _, Nat.zero_le _⟩ (fun v w' H locs hpo w => ?_)
  clear ev
  obtain ⟨s_rows_8, f_rows_9, ok_rows, rfl, rfl⟩ := hpo
  have w : mW E A s [(h, .inr (0, [.ref h_rules, .ref h_rows])), (h_rules, .inr (4, [.ref a_vals, .int now])), (a_vals, .inl (E.2.1, 8, .inl vals)), (h_rows, .inr (8, [.int (nI dm), .int (nI 9), .ref a_rows, .int s_rows_8])), (a_rows, .inl (E.2.1, (dm * 9), .inl f_rows_9))] H locs := w
  refine lv_iload hx hb dX0_add_38 (lv_at hl 0 rfl) ?_
  cases hf
  exact mx_iret B w ⟨_, _, ok_rows, rfl, rfl⟩ dX0_add_40
-- X0_remove
def po_X0_remove (E : mE) (h : Nat) (h_rules : Nat) (a_vals : Nat) (h_rows : Nat) (a_rows : Nat) (dm : Nat) (vals : Nat → Int32) (now : Int32) (rows : Rows) (s_rows : Int32) (f_rows : Nat → Int32) (o : Rows) : Option Value → va_W → Prop := (fun (v : Option Value) (w' : va_W) => ∃ (s_rows' : Int32) (f_rows' : Nat → Int32), tb_ok dm 9 o s_rows' f_rows' ∧ v = none ∧ w' = [(h, .inr (0, [.ref h_rules, .ref h_rows])), (h_rules, .inr (4, [.ref a_vals, .int now])), (a_vals, .inl (E.2.1, 8, .inl vals)), (h_rows, .inr (8, [.int (nI dm), .int (nI 9), .ref a_rows, .int s_rows'])), (a_rows, .inl (E.2.1, (dm * 9), .inl f_rows'))])
noncomputable def F_X0_remove (dm : Nat) (rows : Rows) (x1 : Int32) : Option (Rows) :=
  lt (tremove rows x1) (fun o_1 =>
  some (o_1))
set_option maxHeartbeats 4000000 in
set_option maxRecDepth 100000 in
theorem d_X0_remove (E : mE) (l : Launch) (h : Nat) (h_rules : Nat) (a_vals : Nat) (h_rows : Nat) (a_rows : Nat) (dm : Nat) (vals : Nat → Int32) (now : Int32) (rows : Rows) (s_rows : Int32) (f_rows : Nat → Int32) (x1 : Int32) (ok_rows : tb_ok dm 9 rows s_rows f_rows) (o : Rows) (hf : F_X0_remove dm rows x1 = some o) : MX E l yX0_remove cX0_remove 2 none ({ frames := 1, cells := 0, slots := 0, locals := 22 } : Room) [.ref h, .int x1] [(h, .inr (0, [.ref h_rules, .ref h_rows])), (h_rules, .inr (4, [.ref a_vals, .int now])), (a_vals, .inl (E.2.1, 8, .inl vals)), (h_rows, .inr (8, [.int (nI dm), .int (nI 9), .ref a_rows, .int s_rows])), (a_rows, .inl (E.2.1, (dm * 9), .inl f_rows))] (po_X0_remove E h h_rules a_vals h_rows a_rows dm vals now rows s_rows f_rows o) := by
  refine mx_intro (by decide +kernel) (Nat.le_of_ble_eq_true rfl) ?_
  intro p e s m args below meth c A Q ls B w hl
  obtain ⟨hx, hb, hml, hown, hts⟩ := id B.1
  unfold F_X0_remove at hf
  have hl : lv_has ls 2 [(0, .ref h), (1, .int x1)] := hl
  refine lv_aload_n hx hb dX0_remove_0 rfl (lv_at hl 0 rfl) ?_
  refine mx_get B w 0 fl_X0_20 rfl rfl dX0_remove_1 ?_
  refine lv_iload_n hx hb dX0_remove_4 rfl (lv_at hl 1 rfl) ?_
  obtain ⟨o_1, ev⟩ : ∃ y, y = tremove rows x1 := ⟨_, rfl⟩
  have hf := lt_n ev hf
  refine mx_callV (As := [.int x1]) (rest := []) (wr := [(h, .inr (0, [.ref h_rules, .ref h_rows])), (h_rules, .inr (4, [.ref a_vals, .int now])), (a_vals, .inl (E.2.1, 8, .inl vals))]) (c_X9_remove E l h_rows a_rows dm 9 rows s_rows f_rows x1 ok_rows o_1 ev) B w [3, 4] [0, 1, 2] rfl rfl (by decide) (by decide) (by decide) 3 rfl rfl cv_X9_remove kw_418 1 (by decide +kernel) ⟨Nat.le_of_ble_eq_true rfl, Nat.le_of_ble_eq_true rfl⟩ rfl hl.1 rfl (Nat.le_of_ble_eq_true rfl) dX0_remove_5 rfl rfl ⟨Nat.zero_le _, Nat.zero_le _⟩ (fun v w' H locs hpo w => ?_)
  clear ev
  obtain ⟨s_rows_2, f_rows_3, ok_rows, rfl, rfl⟩ := hpo
  have w : mW E A s [(h, .inr (0, [.ref h_rules, .ref h_rows])), (h_rules, .inr (4, [.ref a_vals, .int now])), (a_vals, .inl (E.2.1, 8, .inl vals)), (h_rows, .inr (8, [.int (nI dm), .int (nI 9), .ref a_rows, .int s_rows_2])), (a_rows, .inl (E.2.1, (dm * 9), .inl f_rows_3))] H locs := w
  cases hf
  exact mx_vret B w ⟨_, _, ok_rows, rfl, rfl⟩ dX0_remove_8
-- X6_trimCold
def po_X6_trimCold (E : mE) (h : Nat) (h_rules : Nat) (a_vals : Nat) (h_ledger : Nat) (h_book : Nat) (a_book : Nat) (h_told : Nat) (a_told : Nat) (h_written : Nat) (a_written : Nat) (h_late : Nat) (a_late : Nat) (a_sums : Nat) (a_asum : Nat) (h_entries : Nat) (h_ents : Nat) (a_ents : Nat) (h_cold : Nat) (h_colds : Nat) (a_colds : Nat) (h_sketch : Nat) (a_cnt : Nat)  (vals : Nat → Int32) (now : Int32) (book : Rows) (told : Rows) (written : Rows) (late : Rows) (sums : Nat → Int32) (asum : Nat → Int32) (ents : Rows) (colds : Rows) (cnt : Nat → Int32) (uses : Int32) (usesInWindow : Int32) (entriesSoFar : Int32) (dirtySoFar : Int32) (s_book : Int32) (f_book : Nat → Int32) (s_told : Int32) (f_told : Nat → Int32) (s_written : Int32) (f_written : Nat → Int32) (s_late : Int32) (f_late : Nat → Int32) (s_ents : Int32) (f_ents : Nat → Int32) (s_colds : Int32) (f_colds : Nat → Int32) (o : Rows) : Option Value → va_W → Prop := (fun (v : Option Value) (w' : va_W) => ∃ (s_colds' : Int32) (f_colds' : Nat → Int32), tb_ok 20 9 o s_colds' f_colds' ∧ v = none ∧ w' = [(h, .inr (5, [.ref h_rules, .ref h_ledger, .ref h_entries, .ref h_cold, .ref h_sketch, .int uses, .int usesInWindow, .int entriesSoFar, .int dirtySoFar])), (h_rules, .inr (4, [.ref a_vals, .int now])), (a_vals, .inl (E.2.1, 8, .inl vals)), (h_ledger, .inr (1, [.ref h_rules, .ref h_book, .ref h_told, .ref h_written, .ref h_late, .ref a_sums, .ref a_asum])), (h_book, .inr (8, [.int (nI 40), .int (nI 3), .ref a_book, .int s_book])), (a_book, .inl (E.2.1, (40 * 3), .inl f_book)), (h_told, .inr (8, [.int (nI 60), .int (nI 1), .ref a_told, .int s_told])), (a_told, .inl (E.2.1, (60 * 1), .inl f_told)), (h_written, .inr (8, [.int (nI 40), .int (nI 2), .ref a_written, .int s_written])), (a_written, .inl (E.2.1, (40 * 2), .inl f_written)), (h_late, .inr (8, [.int (nI 60), .int (nI 1), .ref a_late, .int s_late])), (a_late, .inl (E.2.1, (60 * 1), .inl f_late)), (a_sums, .inl (E.2.1, 14, .inl sums)), (a_asum, .inl (E.2.1, 64, .inl asum)), (h_entries, .inr (0, [.ref h_rules, .ref h_ents])), (h_ents, .inr (8, [.int (nI 200), .int (nI 9), .ref a_ents, .int s_ents])), (a_ents, .inl (E.2.1, (200 * 9), .inl f_ents)), (h_cold, .inr (0, [.ref h_rules, .ref h_colds])), (h_colds, .inr (8, [.int (nI 20), .int (nI 9), .ref a_colds, .int s_colds'])), (a_colds, .inl (E.2.1, (20 * 9), .inl f_colds')), (h_sketch, .inr (6, [.ref a_cnt])), (a_cnt, .inl (E.2.1, 64, .inl cnt))])
noncomputable def K_X6_trimCold_18 (N : Nat)  (rec : Int32 → Rows → Option (Rows)) (k36 : Rows → Option (Rows))  (vals : Nat → Int32) (x1 : Int32) (colds : Rows) : Option (Rows) :=
  if (x1 ≤ 0 : Prop) then
  k36 colds
  else
  bd (F_X0_remove 20 colds 0) (fun o_4 =>
  lt (x1 + (-1)) (fun x1_7 =>
  rec x1_7 o_4))
noncomputable def L_X6_trimCold_18 (N : Nat)  (k36 : Rows → Option (Rows))  (vals : Nat → Int32) (n : Nat) : Int32 → Rows → Option (Rows) :=
  Nat.rec (motive := fun _ => Int32 → Rows → Option (Rows)) (fun _ _ => none) (fun _ rec => K_X6_trimCold_18 N rec k36 vals) n
set_option maxHeartbeats 4000000 in
set_option maxRecDepth 100000 in
theorem l_X6_trimCold_18 {E : mE} {l : Launch} {p : Program} {e : Env} {s : State} {m : MethodId} {args : Array Value} {below : List Frame} {meth : Method} {c : Code} {A : Nat → Prop} {Q : State → Prop} {N : Nat} {h : Nat} {h_rules : Nat} {a_vals : Nat} {h_ledger : Nat} {h_book : Nat} {a_book : Nat} {h_told : Nat} {a_told : Nat} {h_written : Nat} {a_written : Nat} {h_late : Nat} {a_late : Nat} {a_sums : Nat} {a_asum : Nat} {h_entries : Nat} {h_ents : Nat} {a_ents : Nat} {h_cold : Nat} {h_colds : Nat} {a_colds : Nat} {h_sketch : Nat} {a_cnt : Nat}  {vals : Nat → Int32} {now : Int32} {book : Rows} {told : Rows} {written : Rows} {late : Rows} {sums : Nat → Int32} {asum : Nat → Int32} {ents : Rows} {colds0 : Rows} {cnt : Nat → Int32} {uses : Int32} {usesInWindow : Int32} {entriesSoFar : Int32} {dirtySoFar : Int32} {s_book : Int32} {f_book : Nat → Int32} {s_told : Int32} {f_told : Nat → Int32} {s_written : Int32} {f_written : Nat → Int32} {s_late : Int32} {f_late : Nat → Int32} {s_ents : Int32} {f_ents : Nat → Int32} {s_colds0 : Int32} {f_colds0 : Nat → Int32} {o : Rows} (B : mB E yX6_trimCold cX6_trimCold 2 none 0 0 (po_X6_trimCold E h h_rules a_vals h_ledger h_book a_book h_told a_told h_written a_written h_late a_late a_sums a_asum h_entries h_ents a_ents h_cold h_colds a_colds h_sketch a_cnt vals now book told written late sums asum ents colds0 cnt uses usesInWindow entriesSoFar dirtySoFar s_book f_book s_told f_told s_written f_written s_late f_late s_ents f_ents s_colds0 f_colds0 o) p s m args below meth c A Q)    (k36 : Rows → Option (Rows)) (ok_book : tb_ok 40 3 book s_book f_book) (ok_told : tb_ok 60 1 told s_told f_told) (ok_written : tb_ok 40 2 written s_written f_written) (ok_late : tb_ok 60 1 late s_late f_late) (ok_ents : tb_ok 200 9 ents s_ents f_ents) (hk36 : ∀  (colds : Rows) (s_colds : Int32) (f_colds : Nat → Int32) (H : Heap) (locs : List Loc) (ls : Array Slot), k36 colds = some o → tb_ok 20 9 colds s_colds f_colds → mW E A s [(h, .inr (5, [.ref h_rules, .ref h_ledger, .ref h_entries, .ref h_cold, .ref h_sketch, .int uses, .int usesInWindow, .int entriesSoFar, .int dirtySoFar])), (h_rules, .inr (4, [.ref a_vals, .int now])), (a_vals, .inl (E.2.1, 8, .inl vals)), (h_ledger, .inr (1, [.ref h_rules, .ref h_book, .ref h_told, .ref h_written, .ref h_late, .ref a_sums, .ref a_asum])), (h_book, .inr (8, [.int (nI 40), .int (nI 3), .ref a_book, .int s_book])), (a_book, .inl (E.2.1, (40 * 3), .inl f_book)), (h_told, .inr (8, [.int (nI 60), .int (nI 1), .ref a_told, .int s_told])), (a_told, .inl (E.2.1, (60 * 1), .inl f_told)), (h_written, .inr (8, [.int (nI 40), .int (nI 2), .ref a_written, .int s_written])), (a_written, .inl (E.2.1, (40 * 2), .inl f_written)), (h_late, .inr (8, [.int (nI 60), .int (nI 1), .ref a_late, .int s_late])), (a_late, .inl (E.2.1, (60 * 1), .inl f_late)), (a_sums, .inl (E.2.1, 14, .inl sums)), (a_asum, .inl (E.2.1, 64, .inl asum)), (h_entries, .inr (0, [.ref h_rules, .ref h_ents])), (h_ents, .inr (8, [.int (nI 200), .int (nI 9), .ref a_ents, .int s_ents])), (a_ents, .inl (E.2.1, (200 * 9), .inl f_ents)), (h_cold, .inr (0, [.ref h_rules, .ref h_colds])), (h_colds, .inr (8, [.int (nI 20), .int (nI 9), .ref a_colds, .int s_colds])), (a_colds, .inl (E.2.1, (20 * 9), .inl f_colds)), (h_sketch, .inr (6, [.ref a_cnt])), (a_cnt, .inl (E.2.1, 64, .inl cnt))] H locs → lv_has ls 2 [] → W p l e ({ frames := 2, cells := 0, slots := 0, locals := 43 } : Room) s m args below meth c H locs 0 0 Q (F0 m 36 ls [])) : ∀ n : Nat, ∀ (x1 : Int32) (colds : Rows) (s_colds : Int32) (f_colds : Nat → Int32) (H : Heap) (locs : List Loc) (ls : Array Slot), L_X6_trimCold_18 N k36 vals n x1 colds = some o → tb_ok 20 9 colds s_colds f_colds → mW E A s [(h, .inr (5, [.ref h_rules, .ref h_ledger, .ref h_entries, .ref h_cold, .ref h_sketch, .int uses, .int usesInWindow, .int entriesSoFar, .int dirtySoFar])), (h_rules, .inr (4, [.ref a_vals, .int now])), (a_vals, .inl (E.2.1, 8, .inl vals)), (h_ledger, .inr (1, [.ref h_rules, .ref h_book, .ref h_told, .ref h_written, .ref h_late, .ref a_sums, .ref a_asum])), (h_book, .inr (8, [.int (nI 40), .int (nI 3), .ref a_book, .int s_book])), (a_book, .inl (E.2.1, (40 * 3), .inl f_book)), (h_told, .inr (8, [.int (nI 60), .int (nI 1), .ref a_told, .int s_told])), (a_told, .inl (E.2.1, (60 * 1), .inl f_told)), (h_written, .inr (8, [.int (nI 40), .int (nI 2), .ref a_written, .int s_written])), (a_written, .inl (E.2.1, (40 * 2), .inl f_written)), (h_late, .inr (8, [.int (nI 60), .int (nI 1), .ref a_late, .int s_late])), (a_late, .inl (E.2.1, (60 * 1), .inl f_late)), (a_sums, .inl (E.2.1, 14, .inl sums)), (a_asum, .inl (E.2.1, 64, .inl asum)), (h_entries, .inr (0, [.ref h_rules, .ref h_ents])), (h_ents, .inr (8, [.int (nI 200), .int (nI 9), .ref a_ents, .int s_ents])), (a_ents, .inl (E.2.1, (200 * 9), .inl f_ents)), (h_cold, .inr (0, [.ref h_rules, .ref h_colds])), (h_colds, .inr (8, [.int (nI 20), .int (nI 9), .ref a_colds, .int s_colds])), (a_colds, .inl (E.2.1, (20 * 9), .inl f_colds)), (h_sketch, .inr (6, [.ref a_cnt])), (a_cnt, .inl (E.2.1, 64, .inl cnt))] H locs → lv_has ls 2 [(0, .ref h), (1, .int x1)] → W p l e ({ frames := 2, cells := 0, slots := 0, locals := 43 } : Room) s m args below meth c H locs 0 0 Q (F0 m 18 ls []) := by
  obtain ⟨hx, hb, hml, hown, hts⟩ := id B.1
  intro n
  induction n with
  | zero =>
    intro x1 colds s_colds f_colds H locs ls hf ok_colds w hl
    exact nomatch hf
  | succ n hrec =>
    intro x1 colds s_colds f_colds H locs ls hf ok_colds w hl
    have hf : K_X6_trimCold_18 N (L_X6_trimCold_18 N k36 vals n) k36 vals x1 colds = some o := hf
    unfold K_X6_trimCold_18 at hf
    refine lv_iload_n hx hb dX6_trimCold_18 rfl (lv_at hl 1 rfl) ?_
    refine lv_if_le (tgt := 36) hx hb dX6_trimCold_19 (by decide) (fun hc => ?_) (fun hc => ?_)
    · have hf := it_t hc hf
      exact hk36 _ _ _ _ _ _ hf ok_colds w (lv_sub hl [] rfl)
    · have hf := it_f hc hf
      refine lv_aload_n hx hb dX6_trimCold_22 rfl (lv_at hl 0 rfl) ?_
      refine mx_get B w 0 fl_X6_28 rfl rfl dX6_trimCold_23 ?_
      refine lv_iconst (v := 0) hx hb dX6_trimCold_26 (by decide) ?_
      obtain ⟨o_4, hq, hf⟩ := bd_e hf
      refine mx_callV (As := [.int 0]) (rest := []) (wr := [(h, .inr (5, [.ref h_rules, .ref h_ledger, .ref h_entries, .ref h_cold, .ref h_sketch, .int uses, .int usesInWindow, .int entriesSoFar, .int dirtySoFar])), (h_ledger, .inr (1, [.ref h_rules, .ref h_book, .ref h_told, .ref h_written, .ref h_late, .ref a_sums, .ref a_asum])), (h_book, .inr (8, [.int (nI 40), .int (nI 3), .ref a_book, .int s_book])), (a_book, .inl (E.2.1, (40 * 3), .inl f_book)), (h_told, .inr (8, [.int (nI 60), .int (nI 1), .ref a_told, .int s_told])), (a_told, .inl (E.2.1, (60 * 1), .inl f_told)), (h_written, .inr (8, [.int (nI 40), .int (nI 2), .ref a_written, .int s_written])), (a_written, .inl (E.2.1, (40 * 2), .inl f_written)), (h_late, .inr (8, [.int (nI 60), .int (nI 1), .ref a_late, .int s_late])), (a_late, .inl (E.2.1, (60 * 1), .inl f_late)), (a_sums, .inl (E.2.1, 14, .inl sums)), (a_asum, .inl (E.2.1, 64, .inl asum)), (h_entries, .inr (0, [.ref h_rules, .ref h_ents])), (h_ents, .inr (8, [.int (nI 200), .int (nI 9), .ref a_ents, .int s_ents])), (a_ents, .inl (E.2.1, (200 * 9), .inl f_ents)), (h_sketch, .inr (6, [.ref a_cnt])), (a_cnt, .inl (E.2.1, 64, .inl cnt))]) (d_X0_remove E l  h_cold h_rules a_vals h_colds a_colds 20 vals now colds s_colds f_colds 0 ok_colds o_4 hq) B w [17, 1, 2, 18, 19] [0, 3, 4, 5, 6, 7, 8, 9, 10, 11, 12, 13, 14, 15, 16, 20, 21] rfl rfl (by decide) (by decide) (by decide) 17 rfl rfl cv_X0_remove kw_414 1 (by decide +kernel) ⟨Nat.le_of_ble_eq_true rfl, Nat.le_of_ble_eq_true rfl⟩ rfl hl.1 rfl (Nat.le_of_ble_eq_true rfl) dX6_trimCold_27 rfl rfl ⟨Nat.zero_le _, Nat.zero_le _⟩ (fun v w' H locs hpo w => ?_)
      clear hq
      obtain ⟨s_colds_5, f_colds_6, ok_colds, rfl, rfl⟩ := hpo
      have w : mW E A s [(h, .inr (5, [.ref h_rules, .ref h_ledger, .ref h_entries, .ref h_cold, .ref h_sketch, .int uses, .int usesInWindow, .int entriesSoFar, .int dirtySoFar])), (h_rules, .inr (4, [.ref a_vals, .int now])), (a_vals, .inl (E.2.1, 8, .inl vals)), (h_ledger, .inr (1, [.ref h_rules, .ref h_book, .ref h_told, .ref h_written, .ref h_late, .ref a_sums, .ref a_asum])), (h_book, .inr (8, [.int (nI 40), .int (nI 3), .ref a_book, .int s_book])), (a_book, .inl (E.2.1, (40 * 3), .inl f_book)), (h_told, .inr (8, [.int (nI 60), .int (nI 1), .ref a_told, .int s_told])), (a_told, .inl (E.2.1, (60 * 1), .inl f_told)), (h_written, .inr (8, [.int (nI 40), .int (nI 2), .ref a_written, .int s_written])), (a_written, .inl (E.2.1, (40 * 2), .inl f_written)), (h_late, .inr (8, [.int (nI 60), .int (nI 1), .ref a_late, .int s_late])), (a_late, .inl (E.2.1, (60 * 1), .inl f_late)), (a_sums, .inl (E.2.1, 14, .inl sums)), (a_asum, .inl (E.2.1, 64, .inl asum)), (h_entries, .inr (0, [.ref h_rules, .ref h_ents])), (h_ents, .inr (8, [.int (nI 200), .int (nI 9), .ref a_ents, .int s_ents])), (a_ents, .inl (E.2.1, (200 * 9), .inl f_ents)), (h_cold, .inr (0, [.ref h_rules, .ref h_colds])), (h_colds, .inr (8, [.int (nI 20), .int (nI 9), .ref a_colds, .int s_colds_5])), (a_colds, .inl (E.2.1, (20 * 9), .inl f_colds_6)), (h_sketch, .inr (6, [.ref a_cnt])), (a_cnt, .inl (E.2.1, 64, .inl cnt))] H locs := w.sub [0, 18, 19, 1, 2, 3, 4, 5, 6, 7, 8, 9, 10, 11, 12, 13, 14, 17, 20, 21, 15, 16] (by decide) rfl
      obtain ⟨x1_7, ev⟩ : ∃ y : Int32, y = x1 + (-1) := ⟨_, rfl⟩
      refine lv_iinc (v := x1_7) (lv' := [(1, .int x1_7), (0, .ref h)]) hx hb dX6_trimCold_30 hl (k := 1) rfl (by rw [ev]; rfl) (by decide) rfl (fun ls hl => ?_)
      have hf := lt_n ev hf; clear ev
      refine lv_goto (tgt := 18) hx hb dX6_trimCold_33 (by decide) ?_
      exact hrec _ _ _ _ _ _ _ hf ok_colds w (lv_sub hl [1, 0] rfl)
noncomputable def F_X6_trimCold (N : Nat)  (vals : Nat → Int32) (colds : Rows)  : Option (Rows) :=
  bd (F_X0_size 20 colds) (fun o_1 =>
  bd (F_X5_value vals 6) (fun o_2 =>
  lt (o_1 - o_2) (fun x1_3 =>
  L_X6_trimCold_18 N (fun colds => some (colds)) vals N x1_3 colds)))
set_option maxHeartbeats 4000000 in
set_option maxRecDepth 100000 in
theorem d_X6_trimCold (E : mE) (l : Launch) (N : Nat) (h : Nat) (h_rules : Nat) (a_vals : Nat) (h_ledger : Nat) (h_book : Nat) (a_book : Nat) (h_told : Nat) (a_told : Nat) (h_written : Nat) (a_written : Nat) (h_late : Nat) (a_late : Nat) (a_sums : Nat) (a_asum : Nat) (h_entries : Nat) (h_ents : Nat) (a_ents : Nat) (h_cold : Nat) (h_colds : Nat) (a_colds : Nat) (h_sketch : Nat) (a_cnt : Nat)  (vals : Nat → Int32) (now : Int32) (book : Rows) (told : Rows) (written : Rows) (late : Rows) (sums : Nat → Int32) (asum : Nat → Int32) (ents : Rows) (colds : Rows) (cnt : Nat → Int32) (uses : Int32) (usesInWindow : Int32) (entriesSoFar : Int32) (dirtySoFar : Int32) (s_book : Int32) (f_book : Nat → Int32) (s_told : Int32) (f_told : Nat → Int32) (s_written : Int32) (f_written : Nat → Int32) (s_late : Int32) (f_late : Nat → Int32) (s_ents : Int32) (f_ents : Nat → Int32) (s_colds : Int32) (f_colds : Nat → Int32)  (ok_book : tb_ok 40 3 book s_book f_book) (ok_told : tb_ok 60 1 told s_told f_told) (ok_written : tb_ok 40 2 written s_written f_written) (ok_late : tb_ok 60 1 late s_late f_late) (ok_ents : tb_ok 200 9 ents s_ents f_ents) (ok_colds : tb_ok 20 9 colds s_colds f_colds) (o : Rows) (hf : F_X6_trimCold N vals colds = some o) : MX E l yX6_trimCold cX6_trimCold 2 none ({ frames := 2, cells := 0, slots := 0, locals := 43 } : Room) [.ref h] [(h, .inr (5, [.ref h_rules, .ref h_ledger, .ref h_entries, .ref h_cold, .ref h_sketch, .int uses, .int usesInWindow, .int entriesSoFar, .int dirtySoFar])), (h_rules, .inr (4, [.ref a_vals, .int now])), (a_vals, .inl (E.2.1, 8, .inl vals)), (h_ledger, .inr (1, [.ref h_rules, .ref h_book, .ref h_told, .ref h_written, .ref h_late, .ref a_sums, .ref a_asum])), (h_book, .inr (8, [.int (nI 40), .int (nI 3), .ref a_book, .int s_book])), (a_book, .inl (E.2.1, (40 * 3), .inl f_book)), (h_told, .inr (8, [.int (nI 60), .int (nI 1), .ref a_told, .int s_told])), (a_told, .inl (E.2.1, (60 * 1), .inl f_told)), (h_written, .inr (8, [.int (nI 40), .int (nI 2), .ref a_written, .int s_written])), (a_written, .inl (E.2.1, (40 * 2), .inl f_written)), (h_late, .inr (8, [.int (nI 60), .int (nI 1), .ref a_late, .int s_late])), (a_late, .inl (E.2.1, (60 * 1), .inl f_late)), (a_sums, .inl (E.2.1, 14, .inl sums)), (a_asum, .inl (E.2.1, 64, .inl asum)), (h_entries, .inr (0, [.ref h_rules, .ref h_ents])), (h_ents, .inr (8, [.int (nI 200), .int (nI 9), .ref a_ents, .int s_ents])), (a_ents, .inl (E.2.1, (200 * 9), .inl f_ents)), (h_cold, .inr (0, [.ref h_rules, .ref h_colds])), (h_colds, .inr (8, [.int (nI 20), .int (nI 9), .ref a_colds, .int s_colds])), (a_colds, .inl (E.2.1, (20 * 9), .inl f_colds)), (h_sketch, .inr (6, [.ref a_cnt])), (a_cnt, .inl (E.2.1, 64, .inl cnt))] (po_X6_trimCold E h h_rules a_vals h_ledger h_book a_book h_told a_told h_written a_written h_late a_late a_sums a_asum h_entries h_ents a_ents h_cold h_colds a_colds h_sketch a_cnt vals now book told written late sums asum ents colds cnt uses usesInWindow entriesSoFar dirtySoFar s_book f_book s_told f_told s_written f_written s_late f_late s_ents f_ents s_colds f_colds o) := by
  refine mx_intro (by decide +kernel) (Nat.le_of_ble_eq_true rfl) ?_
  intro p e s m args below meth c A Q ls B w hl
  obtain ⟨hx, hb, hml, hown, hts⟩ := id B.1
  unfold F_X6_trimCold at hf
  have hl : lv_has ls 2 [(0, .ref h)] := hl
  refine lv_aload_n hx hb dX6_trimCold_0 rfl (lv_at hl 0 rfl) ?_
  refine mx_get B w 0 fl_X6_28 rfl rfl dX6_trimCold_1 ?_
  obtain ⟨o_1, hq, hf⟩ := bd_e hf
  refine mx_callV (As := []) (rest := []) (wr := [(h, .inr (5, [.ref h_rules, .ref h_ledger, .ref h_entries, .ref h_cold, .ref h_sketch, .int uses, .int usesInWindow, .int entriesSoFar, .int dirtySoFar])), (h_ledger, .inr (1, [.ref h_rules, .ref h_book, .ref h_told, .ref h_written, .ref h_late, .ref a_sums, .ref a_asum])), (h_book, .inr (8, [.int (nI 40), .int (nI 3), .ref a_book, .int s_book])), (a_book, .inl (E.2.1, (40 * 3), .inl f_book)), (h_told, .inr (8, [.int (nI 60), .int (nI 1), .ref a_told, .int s_told])), (a_told, .inl (E.2.1, (60 * 1), .inl f_told)), (h_written, .inr (8, [.int (nI 40), .int (nI 2), .ref a_written, .int s_written])), (a_written, .inl (E.2.1, (40 * 2), .inl f_written)), (h_late, .inr (8, [.int (nI 60), .int (nI 1), .ref a_late, .int s_late])), (a_late, .inl (E.2.1, (60 * 1), .inl f_late)), (a_sums, .inl (E.2.1, 14, .inl sums)), (a_asum, .inl (E.2.1, 64, .inl asum)), (h_entries, .inr (0, [.ref h_rules, .ref h_ents])), (h_ents, .inr (8, [.int (nI 200), .int (nI 9), .ref a_ents, .int s_ents])), (a_ents, .inl (E.2.1, (200 * 9), .inl f_ents)), (h_sketch, .inr (6, [.ref a_cnt])), (a_cnt, .inl (E.2.1, 64, .inl cnt))]) (d_X0_size E l  h_cold h_rules a_vals h_colds a_colds 20 vals now colds s_colds f_colds  ok_colds o_1 hq) B w [17, 1, 2, 18, 19] [0, 3, 4, 5, 6, 7, 8, 9, 10, 11, 12, 13, 14, 15, 16, 20, 21] rfl rfl (by decide) (by decide) (by decide) 17 rfl rfl cv_X0_size kw_356 0 (by decide +kernel) ⟨Nat.le_of_ble_eq_true rfl, Nat.le_of_ble_eq_true rfl⟩ rfl hl.1 rfl (Nat.le_of_ble_eq_true rfl) dX6_trimCold_4 rfl rfl ⟨Nat.zero_le _, Nat.zero_le _⟩ (fun v w' H locs hpo w => ?_)
  clear hq
  obtain ⟨rfl, rfl⟩ := hpo
  have w : mW E A s [(h, .inr (5, [.ref h_rules, .ref h_ledger, .ref h_entries, .ref h_cold, .ref h_sketch, .int uses, .int usesInWindow, .int entriesSoFar, .int dirtySoFar])), (h_rules, .inr (4, [.ref a_vals, .int now])), (a_vals, .inl (E.2.1, 8, .inl vals)), (h_ledger, .inr (1, [.ref h_rules, .ref h_book, .ref h_told, .ref h_written, .ref h_late, .ref a_sums, .ref a_asum])), (h_book, .inr (8, [.int (nI 40), .int (nI 3), .ref a_book, .int s_book])), (a_book, .inl (E.2.1, (40 * 3), .inl f_book)), (h_told, .inr (8, [.int (nI 60), .int (nI 1), .ref a_told, .int s_told])), (a_told, .inl (E.2.1, (60 * 1), .inl f_told)), (h_written, .inr (8, [.int (nI 40), .int (nI 2), .ref a_written, .int s_written])), (a_written, .inl (E.2.1, (40 * 2), .inl f_written)), (h_late, .inr (8, [.int (nI 60), .int (nI 1), .ref a_late, .int s_late])), (a_late, .inl (E.2.1, (60 * 1), .inl f_late)), (a_sums, .inl (E.2.1, 14, .inl sums)), (a_asum, .inl (E.2.1, 64, .inl asum)), (h_entries, .inr (0, [.ref h_rules, .ref h_ents])), (h_ents, .inr (8, [.int (nI 200), .int (nI 9), .ref a_ents, .int s_ents])), (a_ents, .inl (E.2.1, (200 * 9), .inl f_ents)), (h_cold, .inr (0, [.ref h_rules, .ref h_colds])), (h_colds, .inr (8, [.int (nI 20), .int (nI 9), .ref a_colds, .int s_colds])), (a_colds, .inl (E.2.1, (20 * 9), .inl f_colds)), (h_sketch, .inr (6, [.ref a_cnt])), (a_cnt, .inl (E.2.1, 64, .inl cnt))] H locs := w.sub [0, 18, 19, 1, 2, 3, 4, 5, 6, 7, 8, 9, 10, 11, 12, 13, 14, 17, 20, 21, 15, 16] (by decide) rfl
  refine lv_aload_n hx hb dX6_trimCold_7 rfl (lv_at hl 0 rfl) ?_
  refine mx_get B w 0 fl_X6_9 rfl rfl dX6_trimCold_8 ?_
  refine lv_bipush (v := 6) hx hb dX6_trimCold_11 (by decide) ?_
  obtain ⟨o_2, hq, hf⟩ := bd_e hf
  refine mx_callV (As := [.int 6]) (rest := [.int o_1]) (wr := [(h, .inr (5, [.ref h_rules, .ref h_ledger, .ref h_entries, .ref h_cold, .ref h_sketch, .int uses, .int usesInWindow, .int entriesSoFar, .int dirtySoFar])), (h_ledger, .inr (1, [.ref h_rules, .ref h_book, .ref h_told, .ref h_written, .ref h_late, .ref a_sums, .ref a_asum])), (h_book, .inr (8, [.int (nI 40), .int (nI 3), .ref a_book, .int s_book])), (a_book, .inl (E.2.1, (40 * 3), .inl f_book)), (h_told, .inr (8, [.int (nI 60), .int (nI 1), .ref a_told, .int s_told])), (a_told, .inl (E.2.1, (60 * 1), .inl f_told)), (h_written, .inr (8, [.int (nI 40), .int (nI 2), .ref a_written, .int s_written])), (a_written, .inl (E.2.1, (40 * 2), .inl f_written)), (h_late, .inr (8, [.int (nI 60), .int (nI 1), .ref a_late, .int s_late])), (a_late, .inl (E.2.1, (60 * 1), .inl f_late)), (a_sums, .inl (E.2.1, 14, .inl sums)), (a_asum, .inl (E.2.1, 64, .inl asum)), (h_entries, .inr (0, [.ref h_rules, .ref h_ents])), (h_ents, .inr (8, [.int (nI 200), .int (nI 9), .ref a_ents, .int s_ents])), (a_ents, .inl (E.2.1, (200 * 9), .inl f_ents)), (h_cold, .inr (0, [.ref h_rules, .ref h_colds])), (h_colds, .inr (8, [.int (nI 20), .int (nI 9), .ref a_colds, .int s_colds])), (a_colds, .inl (E.2.1, (20 * 9), .inl f_colds)), (h_sketch, .inr (6, [.ref a_cnt])), (a_cnt, .inl (E.2.1, 64, .inl cnt))]) (d_X5_value E l  h_rules a_vals vals now 6  o_2 hq) B w [1, 2] [0, 3, 4, 5, 6, 7, 8, 9, 10, 11, 12, 13, 14, 15, 16, 17, 18, 19, 20, 21] rfl rfl (by decide) (by decide) (by decide) 1 rfl rfl cv_X5_value kw_413 1 (by decide +kernel) ⟨Nat.le_of_ble_eq_true rfl, Nat.le_of_ble_eq_true rfl⟩ rfl hl.1 rfl (Nat.le_of_ble_eq_true rfl) dX6_trimCold_13 rfl rfl ⟨Nat.zero_le _, Nat.zero_le _⟩ (fun v w' H locs hpo w => ?_)
  clear hq
  obtain ⟨rfl, rfl⟩ := hpo
  have w : mW E A s [(h, .inr (5, [.ref h_rules, .ref h_ledger, .ref h_entries, .ref h_cold, .ref h_sketch, .int uses, .int usesInWindow, .int entriesSoFar, .int dirtySoFar])), (h_rules, .inr (4, [.ref a_vals, .int now])), (a_vals, .inl (E.2.1, 8, .inl vals)), (h_ledger, .inr (1, [.ref h_rules, .ref h_book, .ref h_told, .ref h_written, .ref h_late, .ref a_sums, .ref a_asum])), (h_book, .inr (8, [.int (nI 40), .int (nI 3), .ref a_book, .int s_book])), (a_book, .inl (E.2.1, (40 * 3), .inl f_book)), (h_told, .inr (8, [.int (nI 60), .int (nI 1), .ref a_told, .int s_told])), (a_told, .inl (E.2.1, (60 * 1), .inl f_told)), (h_written, .inr (8, [.int (nI 40), .int (nI 2), .ref a_written, .int s_written])), (a_written, .inl (E.2.1, (40 * 2), .inl f_written)), (h_late, .inr (8, [.int (nI 60), .int (nI 1), .ref a_late, .int s_late])), (a_late, .inl (E.2.1, (60 * 1), .inl f_late)), (a_sums, .inl (E.2.1, 14, .inl sums)), (a_asum, .inl (E.2.1, 64, .inl asum)), (h_entries, .inr (0, [.ref h_rules, .ref h_ents])), (h_ents, .inr (8, [.int (nI 200), .int (nI 9), .ref a_ents, .int s_ents])), (a_ents, .inl (E.2.1, (200 * 9), .inl f_ents)), (h_cold, .inr (0, [.ref h_rules, .ref h_colds])), (h_colds, .inr (8, [.int (nI 20), .int (nI 9), .ref a_colds, .int s_colds])), (a_colds, .inl (E.2.1, (20 * 9), .inl f_colds)), (h_sketch, .inr (6, [.ref a_cnt])), (a_cnt, .inl (E.2.1, 64, .inl cnt))] H locs := w.sub [0, 20, 21, 1, 2, 3, 4, 5, 6, 7, 8, 9, 10, 11, 12, 13, 14, 15, 16, 17, 18, 19] (by decide) rfl
  refine lv_isub hx hb dX6_trimCold_16 ?_
  refine lv_topi (fun x1_3 ev => ?_)
  have hf := lt_n ev hf; clear ev
  refine lv_istore_n (lv' := [(1, .int x1_3), (0, .ref h)]) hx hb dX6_trimCold_17 rfl hl (by decide) rfl (fun ls hl => ?_)
  refine l_X6_trimCold_18 B _ ok_book ok_told ok_written ok_late ok_ents ?_ N _ _ _ _ _ _ _ hf ok_colds w (lv_sub hl [1, 0] rfl)
  · intro colds s_colds f_colds H locs ls hf ok_colds w hl
    cases hf
    exact mx_vret B w ⟨_, _, ok_colds, rfl, rfl⟩ dX6_trimCold_36
-- X6_putOnCold
def po_X6_putOnCold (E : mE) (h : Nat) (h_rules : Nat) (a_vals : Nat) (h_ledger : Nat) (h_book : Nat) (a_book : Nat) (h_told : Nat) (a_told : Nat) (h_written : Nat) (a_written : Nat) (h_late : Nat) (a_late : Nat) (a_sums : Nat) (a_asum : Nat) (h_entries : Nat) (h_ents : Nat) (a_ents : Nat) (h_cold : Nat) (h_colds : Nat) (a_colds : Nat) (h_sketch : Nat) (a_cnt : Nat)  (vals : Nat → Int32) (now : Int32) (book : Rows) (told : Rows) (written : Rows) (late : Rows) (sums : Nat → Int32) (asum : Nat → Int32) (ents : Rows) (colds : Rows) (cnt : Nat → Int32) (uses : Int32) (usesInWindow : Int32) (entriesSoFar : Int32) (dirtySoFar : Int32) (s_book : Int32) (f_book : Nat → Int32) (s_told : Int32) (f_told : Nat → Int32) (s_written : Int32) (f_written : Nat → Int32) (s_late : Int32) (f_late : Nat → Int32) (s_ents : Int32) (f_ents : Nat → Int32) (s_colds : Int32) (f_colds : Nat → Int32) (o : Rows) : Option Value → va_W → Prop := (fun (v : Option Value) (w' : va_W) => ∃ (s_colds' : Int32) (f_colds' : Nat → Int32), tb_ok 20 9 o s_colds' f_colds' ∧ v = none ∧ w' = [(h, .inr (5, [.ref h_rules, .ref h_ledger, .ref h_entries, .ref h_cold, .ref h_sketch, .int uses, .int usesInWindow, .int entriesSoFar, .int dirtySoFar])), (h_rules, .inr (4, [.ref a_vals, .int now])), (a_vals, .inl (E.2.1, 8, .inl vals)), (h_ledger, .inr (1, [.ref h_rules, .ref h_book, .ref h_told, .ref h_written, .ref h_late, .ref a_sums, .ref a_asum])), (h_book, .inr (8, [.int (nI 40), .int (nI 3), .ref a_book, .int s_book])), (a_book, .inl (E.2.1, (40 * 3), .inl f_book)), (h_told, .inr (8, [.int (nI 60), .int (nI 1), .ref a_told, .int s_told])), (a_told, .inl (E.2.1, (60 * 1), .inl f_told)), (h_written, .inr (8, [.int (nI 40), .int (nI 2), .ref a_written, .int s_written])), (a_written, .inl (E.2.1, (40 * 2), .inl f_written)), (h_late, .inr (8, [.int (nI 60), .int (nI 1), .ref a_late, .int s_late])), (a_late, .inl (E.2.1, (60 * 1), .inl f_late)), (a_sums, .inl (E.2.1, 14, .inl sums)), (a_asum, .inl (E.2.1, 64, .inl asum)), (h_entries, .inr (0, [.ref h_rules, .ref h_ents])), (h_ents, .inr (8, [.int (nI 200), .int (nI 9), .ref a_ents, .int s_ents])), (a_ents, .inl (E.2.1, (200 * 9), .inl f_ents)), (h_cold, .inr (0, [.ref h_rules, .ref h_colds])), (h_colds, .inr (8, [.int (nI 20), .int (nI 9), .ref a_colds, .int s_colds'])), (a_colds, .inl (E.2.1, (20 * 9), .inl f_colds')), (h_sketch, .inr (6, [.ref a_cnt])), (a_cnt, .inl (E.2.1, 64, .inl cnt))])
noncomputable def F_X6_putOnCold (N : Nat)  (vals : Nat → Int32) (ents : Rows) (colds : Rows) (x1 : Int32) : Option (Rows) :=
  bd (F_X0_get 200 ents x1 7) (fun o_1 =>
  bd (F_X0_get 200 ents x1 0) (fun o_2 =>
  bd (F_X0_get 200 ents x1 1) (fun o_3 =>
  bd (F_X0_get 200 ents x1 2) (fun o_4 =>
  bd (F_X0_get 200 ents x1 6) (fun o_5 =>
  bd (F_X0_add 20 colds o_1 o_2 o_3 o_4 o_5) (fun o_6 =>
  bd (F_X6_trimCold N vals o_6.2) (fun o_9 =>
  some (o_9))))))))
set_option maxHeartbeats 4000000 in
set_option maxRecDepth 100000 in
theorem d_X6_putOnCold (E : mE) (l : Launch) (N : Nat) (h : Nat) (h_rules : Nat) (a_vals : Nat) (h_ledger : Nat) (h_book : Nat) (a_book : Nat) (h_told : Nat) (a_told : Nat) (h_written : Nat) (a_written : Nat) (h_late : Nat) (a_late : Nat) (a_sums : Nat) (a_asum : Nat) (h_entries : Nat) (h_ents : Nat) (a_ents : Nat) (h_cold : Nat) (h_colds : Nat) (a_colds : Nat) (h_sketch : Nat) (a_cnt : Nat)  (vals : Nat → Int32) (now : Int32) (book : Rows) (told : Rows) (written : Rows) (late : Rows) (sums : Nat → Int32) (asum : Nat → Int32) (ents : Rows) (colds : Rows) (cnt : Nat → Int32) (uses : Int32) (usesInWindow : Int32) (entriesSoFar : Int32) (dirtySoFar : Int32) (s_book : Int32) (f_book : Nat → Int32) (s_told : Int32) (f_told : Nat → Int32) (s_written : Int32) (f_written : Nat → Int32) (s_late : Int32) (f_late : Nat → Int32) (s_ents : Int32) (f_ents : Nat → Int32) (s_colds : Int32) (f_colds : Nat → Int32) (x1 : Int32) (ok_book : tb_ok 40 3 book s_book f_book) (ok_told : tb_ok 60 1 told s_told f_told) (ok_written : tb_ok 40 2 written s_written f_written) (ok_late : tb_ok 60 1 late s_late f_late) (ok_ents : tb_ok 200 9 ents s_ents f_ents) (ok_colds : tb_ok 20 9 colds s_colds f_colds) (o : Rows) (hf : F_X6_putOnCold N vals ents colds x1 = some o) : MX E l yX6_putOnCold cX6_putOnCold 6 none ({ frames := 3, cells := 0, slots := 0, locals := 64 } : Room) [.ref h, .int x1] [(h, .inr (5, [.ref h_rules, .ref h_ledger, .ref h_entries, .ref h_cold, .ref h_sketch, .int uses, .int usesInWindow, .int entriesSoFar, .int dirtySoFar])), (h_rules, .inr (4, [.ref a_vals, .int now])), (a_vals, .inl (E.2.1, 8, .inl vals)), (h_ledger, .inr (1, [.ref h_rules, .ref h_book, .ref h_told, .ref h_written, .ref h_late, .ref a_sums, .ref a_asum])), (h_book, .inr (8, [.int (nI 40), .int (nI 3), .ref a_book, .int s_book])), (a_book, .inl (E.2.1, (40 * 3), .inl f_book)), (h_told, .inr (8, [.int (nI 60), .int (nI 1), .ref a_told, .int s_told])), (a_told, .inl (E.2.1, (60 * 1), .inl f_told)), (h_written, .inr (8, [.int (nI 40), .int (nI 2), .ref a_written, .int s_written])), (a_written, .inl (E.2.1, (40 * 2), .inl f_written)), (h_late, .inr (8, [.int (nI 60), .int (nI 1), .ref a_late, .int s_late])), (a_late, .inl (E.2.1, (60 * 1), .inl f_late)), (a_sums, .inl (E.2.1, 14, .inl sums)), (a_asum, .inl (E.2.1, 64, .inl asum)), (h_entries, .inr (0, [.ref h_rules, .ref h_ents])), (h_ents, .inr (8, [.int (nI 200), .int (nI 9), .ref a_ents, .int s_ents])), (a_ents, .inl (E.2.1, (200 * 9), .inl f_ents)), (h_cold, .inr (0, [.ref h_rules, .ref h_colds])), (h_colds, .inr (8, [.int (nI 20), .int (nI 9), .ref a_colds, .int s_colds])), (a_colds, .inl (E.2.1, (20 * 9), .inl f_colds)), (h_sketch, .inr (6, [.ref a_cnt])), (a_cnt, .inl (E.2.1, 64, .inl cnt))] (po_X6_putOnCold E h h_rules a_vals h_ledger h_book a_book h_told a_told h_written a_written h_late a_late a_sums a_asum h_entries h_ents a_ents h_cold h_colds a_colds h_sketch a_cnt vals now book told written late sums asum ents colds cnt uses usesInWindow entriesSoFar dirtySoFar s_book f_book s_told f_told s_written f_written s_late f_late s_ents f_ents s_colds f_colds o) := by
  refine mx_intro (by decide +kernel) (Nat.le_of_ble_eq_true rfl) ?_
  intro p e s m args below meth c A Q ls B w hl
  obtain ⟨hx, hb, hml, hown, hts⟩ := id B.1
  unfold F_X6_putOnCold at hf
  have hl : lv_has ls 6 [(0, .ref h), (1, .int x1)] := hl
  refine lv_aload_n hx hb dX6_putOnCold_0 rfl (lv_at hl 0 rfl) ?_
  refine mx_get B w 0 fl_X6_24 rfl rfl dX6_putOnCold_1 ?_
  refine lv_iload_n hx hb dX6_putOnCold_4 rfl (lv_at hl 1 rfl) ?_
  refine lv_bipush (v := 7) hx hb dX6_putOnCold_5 (by decide) ?_
  obtain ⟨o_1, hq, hf⟩ := bd_e hf
  refine mx_callV (As := [.int x1, .int 7]) (rest := []) (wr := [(h, .inr (5, [.ref h_rules, .ref h_ledger, .ref h_entries, .ref h_cold, .ref h_sketch, .int uses, .int usesInWindow, .int entriesSoFar, .int dirtySoFar])), (h_ledger, .inr (1, [.ref h_rules, .ref h_book, .ref h_told, .ref h_written, .ref h_late, .ref a_sums, .ref a_asum])), (h_book, .inr (8, [.int (nI 40), .int (nI 3), .ref a_book, .int s_book])), (a_book, .inl (E.2.1, (40 * 3), .inl f_book)), (h_told, .inr (8, [.int (nI 60), .int (nI 1), .ref a_told, .int s_told])), (a_told, .inl (E.2.1, (60 * 1), .inl f_told)), (h_written, .inr (8, [.int (nI 40), .int (nI 2), .ref a_written, .int s_written])), (a_written, .inl (E.2.1, (40 * 2), .inl f_written)), (h_late, .inr (8, [.int (nI 60), .int (nI 1), .ref a_late, .int s_late])), (a_late, .inl (E.2.1, (60 * 1), .inl f_late)), (a_sums, .inl (E.2.1, 14, .inl sums)), (a_asum, .inl (E.2.1, 64, .inl asum)), (h_cold, .inr (0, [.ref h_rules, .ref h_colds])), (h_colds, .inr (8, [.int (nI 20), .int (nI 9), .ref a_colds, .int s_colds])), (a_colds, .inl (E.2.1, (20 * 9), .inl f_colds)), (h_sketch, .inr (6, [.ref a_cnt])), (a_cnt, .inl (E.2.1, 64, .inl cnt))]) (d_X0_get E l  h_entries h_rules a_vals h_ents a_ents 200 vals now ents s_ents f_ents x1 7 ok_ents o_1 hq) B w [14, 1, 2, 15, 16] [0, 3, 4, 5, 6, 7, 8, 9, 10, 11, 12, 13, 17, 18, 19, 20, 21] rfl rfl (by decide) (by decide) (by decide) 14 rfl rfl cv_X0_get kw_393 2 (by decide +kernel) ⟨Nat.le_of_ble_eq_true rfl, Nat.le_of_ble_eq_true rfl⟩ rfl hl.1 rfl (Nat.le_of_ble_eq_true rfl) dX6_putOnCold_7 rfl rfl ⟨Nat.zero_le _, Nat.zero_le _⟩ (fun v w' H locs hpo w => ?_)
  clear hq
  obtain ⟨rfl, rfl⟩ := hpo
  have w : mW E A s [(h, .inr (5, [.ref h_rules, .ref h_ledger, .ref h_entries, .ref h_cold, .ref h_sketch, .int uses, .int usesInWindow, .int entriesSoFar, .int dirtySoFar])), (h_rules, .inr (4, [.ref a_vals, .int now])), (a_vals, .inl (E.2.1, 8, .inl vals)), (h_ledger, .inr (1, [.ref h_rules, .ref h_book, .ref h_told, .ref h_written, .ref h_late, .ref a_sums, .ref a_asum])), (h_book, .inr (8, [.int (nI 40), .int (nI 3), .ref a_book, .int s_book])), (a_book, .inl (E.2.1, (40 * 3), .inl f_book)), (h_told, .inr (8, [.int (nI 60), .int (nI 1), .ref a_told, .int s_told])), (a_told, .inl (E.2.1, (60 * 1), .inl f_told)), (h_written, .inr (8, [.int (nI 40), .int (nI 2), .ref a_written, .int s_written])), (a_written, .inl (E.2.1, (40 * 2), .inl f_written)), (h_late, .inr (8, [.int (nI 60), .int (nI 1), .ref a_late, .int s_late])), (a_late, .inl (E.2.1, (60 * 1), .inl f_late)), (a_sums, .inl (E.2.1, 14, .inl sums)), (a_asum, .inl (E.2.1, 64, .inl asum)), (h_entries, .inr (0, [.ref h_rules, .ref h_ents])), (h_ents, .inr (8, [.int (nI 200), .int (nI 9), .ref a_ents, .int s_ents])), (a_ents, .inl (E.2.1, (200 * 9), .inl f_ents)), (h_cold, .inr (0, [.ref h_rules, .ref h_colds])), (h_colds, .inr (8, [.int (nI 20), .int (nI 9), .ref a_colds, .int s_colds])), (a_colds, .inl (E.2.1, (20 * 9), .inl f_colds)), (h_sketch, .inr (6, [.ref a_cnt])), (a_cnt, .inl (E.2.1, 64, .inl cnt))] H locs := w.sub [0, 18, 19, 1, 2, 3, 4, 5, 6, 7, 8, 9, 10, 11, 17, 20, 21, 12, 13, 14, 15, 16] (by decide) rfl
  refine lv_istore_n (lv' := [(2, .int o_1), (0, .ref h), (1, .int x1)]) hx hb dX6_putOnCold_10 rfl hl (by decide) rfl (fun ls hl => ?_)
  refine lv_aload_n hx hb dX6_putOnCold_11 rfl (lv_at hl 1 rfl) ?_
  refine mx_get B w 0 fl_X6_24 rfl rfl dX6_putOnCold_12 ?_
  refine lv_iload_n hx hb dX6_putOnCold_15 rfl (lv_at hl 2 rfl) ?_
  refine lv_iconst (v := 0) hx hb dX6_putOnCold_16 (by decide) ?_
  obtain ⟨o_2, hq, hf⟩ := bd_e hf
  refine mx_callV (As := [.int x1, .int 0]) (rest := []) (wr := [(h, .inr (5, [.ref h_rules, .ref h_ledger, .ref h_entries, .ref h_cold, .ref h_sketch, .int uses, .int usesInWindow, .int entriesSoFar, .int dirtySoFar])), (h_ledger, .inr (1, [.ref h_rules, .ref h_book, .ref h_told, .ref h_written, .ref h_late, .ref a_sums, .ref a_asum])), (h_book, .inr (8, [.int (nI 40), .int (nI 3), .ref a_book, .int s_book])), (a_book, .inl (E.2.1, (40 * 3), .inl f_book)), (h_told, .inr (8, [.int (nI 60), .int (nI 1), .ref a_told, .int s_told])), (a_told, .inl (E.2.1, (60 * 1), .inl f_told)), (h_written, .inr (8, [.int (nI 40), .int (nI 2), .ref a_written, .int s_written])), (a_written, .inl (E.2.1, (40 * 2), .inl f_written)), (h_late, .inr (8, [.int (nI 60), .int (nI 1), .ref a_late, .int s_late])), (a_late, .inl (E.2.1, (60 * 1), .inl f_late)), (a_sums, .inl (E.2.1, 14, .inl sums)), (a_asum, .inl (E.2.1, 64, .inl asum)), (h_cold, .inr (0, [.ref h_rules, .ref h_colds])), (h_colds, .inr (8, [.int (nI 20), .int (nI 9), .ref a_colds, .int s_colds])), (a_colds, .inl (E.2.1, (20 * 9), .inl f_colds)), (h_sketch, .inr (6, [.ref a_cnt])), (a_cnt, .inl (E.2.1, 64, .inl cnt))]) (d_X0_get E l  h_entries h_rules a_vals h_ents a_ents 200 vals now ents s_ents f_ents x1 0 ok_ents o_2 hq) B w [14, 1, 2, 15, 16] [0, 3, 4, 5, 6, 7, 8, 9, 10, 11, 12, 13, 17, 18, 19, 20, 21] rfl rfl (by decide) (by decide) (by decide) 14 rfl rfl cv_X0_get kw_393 2 (by decide +kernel) ⟨Nat.le_of_ble_eq_true rfl, Nat.le_of_ble_eq_true rfl⟩ rfl hl.1 rfl (Nat.le_of_ble_eq_true rfl) dX6_putOnCold_17 rfl rfl ⟨Nat.zero_le _, Nat.zero_le _⟩ (fun v w' H locs hpo w => ?_)
  clear hq
  obtain ⟨rfl, rfl⟩ := hpo
  have w : mW E A s [(h, .inr (5, [.ref h_rules, .ref h_ledger, .ref h_entries, .ref h_cold, .ref h_sketch, .int uses, .int usesInWindow, .int entriesSoFar, .int dirtySoFar])), (h_rules, .inr (4, [.ref a_vals, .int now])), (a_vals, .inl (E.2.1, 8, .inl vals)), (h_ledger, .inr (1, [.ref h_rules, .ref h_book, .ref h_told, .ref h_written, .ref h_late, .ref a_sums, .ref a_asum])), (h_book, .inr (8, [.int (nI 40), .int (nI 3), .ref a_book, .int s_book])), (a_book, .inl (E.2.1, (40 * 3), .inl f_book)), (h_told, .inr (8, [.int (nI 60), .int (nI 1), .ref a_told, .int s_told])), (a_told, .inl (E.2.1, (60 * 1), .inl f_told)), (h_written, .inr (8, [.int (nI 40), .int (nI 2), .ref a_written, .int s_written])), (a_written, .inl (E.2.1, (40 * 2), .inl f_written)), (h_late, .inr (8, [.int (nI 60), .int (nI 1), .ref a_late, .int s_late])), (a_late, .inl (E.2.1, (60 * 1), .inl f_late)), (a_sums, .inl (E.2.1, 14, .inl sums)), (a_asum, .inl (E.2.1, 64, .inl asum)), (h_entries, .inr (0, [.ref h_rules, .ref h_ents])), (h_ents, .inr (8, [.int (nI 200), .int (nI 9), .ref a_ents, .int s_ents])), (a_ents, .inl (E.2.1, (200 * 9), .inl f_ents)), (h_cold, .inr (0, [.ref h_rules, .ref h_colds])), (h_colds, .inr (8, [.int (nI 20), .int (nI 9), .ref a_colds, .int s_colds])), (a_colds, .inl (E.2.1, (20 * 9), .inl f_colds)), (h_sketch, .inr (6, [.ref a_cnt])), (a_cnt, .inl (E.2.1, 64, .inl cnt))] H locs := w.sub [0, 18, 19, 1, 2, 3, 4, 5, 6, 7, 8, 9, 10, 11, 17, 20, 21, 12, 13, 14, 15, 16] (by decide) rfl
  refine lv_istore_n (lv' := [(3, .int o_2), (2, .int o_1), (0, .ref h), (1, .int x1)]) hx hb dX6_putOnCold_20 rfl hl (by decide) rfl (fun ls hl => ?_)
  refine lv_aload_n hx hb dX6_putOnCold_21 rfl (lv_at hl 2 rfl) ?_
  refine mx_get B w 0 fl_X6_24 rfl rfl dX6_putOnCold_22 ?_
  refine lv_iload_n hx hb dX6_putOnCold_25 rfl (lv_at hl 3 rfl) ?_
  refine lv_iconst (v := 1) hx hb dX6_putOnCold_26 (by decide) ?_
  obtain ⟨o_3, hq, hf⟩ := bd_e hf
  refine mx_callV (As := [.int x1, .int 1]) (rest := []) (wr := [(h, .inr (5, [.ref h_rules, .ref h_ledger, .ref h_entries, .ref h_cold, .ref h_sketch, .int uses, .int usesInWindow, .int entriesSoFar, .int dirtySoFar])), (h_ledger, .inr (1, [.ref h_rules, .ref h_book, .ref h_told, .ref h_written, .ref h_late, .ref a_sums, .ref a_asum])), (h_book, .inr (8, [.int (nI 40), .int (nI 3), .ref a_book, .int s_book])), (a_book, .inl (E.2.1, (40 * 3), .inl f_book)), (h_told, .inr (8, [.int (nI 60), .int (nI 1), .ref a_told, .int s_told])), (a_told, .inl (E.2.1, (60 * 1), .inl f_told)), (h_written, .inr (8, [.int (nI 40), .int (nI 2), .ref a_written, .int s_written])), (a_written, .inl (E.2.1, (40 * 2), .inl f_written)), (h_late, .inr (8, [.int (nI 60), .int (nI 1), .ref a_late, .int s_late])), (a_late, .inl (E.2.1, (60 * 1), .inl f_late)), (a_sums, .inl (E.2.1, 14, .inl sums)), (a_asum, .inl (E.2.1, 64, .inl asum)), (h_cold, .inr (0, [.ref h_rules, .ref h_colds])), (h_colds, .inr (8, [.int (nI 20), .int (nI 9), .ref a_colds, .int s_colds])), (a_colds, .inl (E.2.1, (20 * 9), .inl f_colds)), (h_sketch, .inr (6, [.ref a_cnt])), (a_cnt, .inl (E.2.1, 64, .inl cnt))]) (d_X0_get E l  h_entries h_rules a_vals h_ents a_ents 200 vals now ents s_ents f_ents x1 1 ok_ents o_3 hq) B w [14, 1, 2, 15, 16] [0, 3, 4, 5, 6, 7, 8, 9, 10, 11, 12, 13, 17, 18, 19, 20, 21] rfl rfl (by decide) (by decide) (by decide) 14 rfl rfl cv_X0_get kw_393 2 (by decide +kernel) ⟨Nat.le_of_ble_eq_true rfl, Nat.le_of_ble_eq_true rfl⟩ rfl hl.1 rfl (Nat.le_of_ble_eq_true rfl) dX6_putOnCold_27 rfl rfl ⟨Nat.zero_le _, Nat.zero_le _⟩ (fun v w' H locs hpo w => ?_)
  clear hq
  obtain ⟨rfl, rfl⟩ := hpo
  have w : mW E A s [(h, .inr (5, [.ref h_rules, .ref h_ledger, .ref h_entries, .ref h_cold, .ref h_sketch, .int uses, .int usesInWindow, .int entriesSoFar, .int dirtySoFar])), (h_rules, .inr (4, [.ref a_vals, .int now])), (a_vals, .inl (E.2.1, 8, .inl vals)), (h_ledger, .inr (1, [.ref h_rules, .ref h_book, .ref h_told, .ref h_written, .ref h_late, .ref a_sums, .ref a_asum])), (h_book, .inr (8, [.int (nI 40), .int (nI 3), .ref a_book, .int s_book])), (a_book, .inl (E.2.1, (40 * 3), .inl f_book)), (h_told, .inr (8, [.int (nI 60), .int (nI 1), .ref a_told, .int s_told])), (a_told, .inl (E.2.1, (60 * 1), .inl f_told)), (h_written, .inr (8, [.int (nI 40), .int (nI 2), .ref a_written, .int s_written])), (a_written, .inl (E.2.1, (40 * 2), .inl f_written)), (h_late, .inr (8, [.int (nI 60), .int (nI 1), .ref a_late, .int s_late])), (a_late, .inl (E.2.1, (60 * 1), .inl f_late)), (a_sums, .inl (E.2.1, 14, .inl sums)), (a_asum, .inl (E.2.1, 64, .inl asum)), (h_entries, .inr (0, [.ref h_rules, .ref h_ents])), (h_ents, .inr (8, [.int (nI 200), .int (nI 9), .ref a_ents, .int s_ents])), (a_ents, .inl (E.2.1, (200 * 9), .inl f_ents)), (h_cold, .inr (0, [.ref h_rules, .ref h_colds])), (h_colds, .inr (8, [.int (nI 20), .int (nI 9), .ref a_colds, .int s_colds])), (a_colds, .inl (E.2.1, (20 * 9), .inl f_colds)), (h_sketch, .inr (6, [.ref a_cnt])), (a_cnt, .inl (E.2.1, 64, .inl cnt))] H locs := w.sub [0, 18, 19, 1, 2, 3, 4, 5, 6, 7, 8, 9, 10, 11, 17, 20, 21, 12, 13, 14, 15, 16] (by decide) rfl
  refine lv_istore (lv' := [(4, .int o_3), (3, .int o_2), (2, .int o_1), (0, .ref h), (1, .int x1)]) hx hb dX6_putOnCold_30 hl (by decide) rfl (fun ls hl => ?_)
  refine lv_aload_n hx hb dX6_putOnCold_32 rfl (lv_at hl 3 rfl) ?_
  refine mx_get B w 0 fl_X6_24 rfl rfl dX6_putOnCold_33 ?_
  refine lv_iload_n hx hb dX6_putOnCold_36 rfl (lv_at hl 4 rfl) ?_
  refine lv_iconst (v := 2) hx hb dX6_putOnCold_37 (by decide) ?_
  obtain ⟨o_4, hq, hf⟩ := bd_e hf
  refine mx_callV (As := [.int x1, .int 2]) (rest := []) (wr := [(h, .inr (5, [.ref h_rules, .ref h_ledger, .ref h_entries, .ref h_cold, .ref h_sketch, .int uses, .int usesInWindow, .int entriesSoFar, .int dirtySoFar])), (h_ledger, .inr (1, [.ref h_rules, .ref h_book, .ref h_told, .ref h_written, .ref h_late, .ref a_sums, .ref a_asum])), (h_book, .inr (8, [.int (nI 40), .int (nI 3), .ref a_book, .int s_book])), (a_book, .inl (E.2.1, (40 * 3), .inl f_book)), (h_told, .inr (8, [.int (nI 60), .int (nI 1), .ref a_told, .int s_told])), (a_told, .inl (E.2.1, (60 * 1), .inl f_told)), (h_written, .inr (8, [.int (nI 40), .int (nI 2), .ref a_written, .int s_written])), (a_written, .inl (E.2.1, (40 * 2), .inl f_written)), (h_late, .inr (8, [.int (nI 60), .int (nI 1), .ref a_late, .int s_late])), (a_late, .inl (E.2.1, (60 * 1), .inl f_late)), (a_sums, .inl (E.2.1, 14, .inl sums)), (a_asum, .inl (E.2.1, 64, .inl asum)), (h_cold, .inr (0, [.ref h_rules, .ref h_colds])), (h_colds, .inr (8, [.int (nI 20), .int (nI 9), .ref a_colds, .int s_colds])), (a_colds, .inl (E.2.1, (20 * 9), .inl f_colds)), (h_sketch, .inr (6, [.ref a_cnt])), (a_cnt, .inl (E.2.1, 64, .inl cnt))]) (d_X0_get E l  h_entries h_rules a_vals h_ents a_ents 200 vals now ents s_ents f_ents x1 2 ok_ents o_4 hq) B w [14, 1, 2, 15, 16] [0, 3, 4, 5, 6, 7, 8, 9, 10, 11, 12, 13, 17, 18, 19, 20, 21] rfl rfl (by decide) (by decide) (by decide) 14 rfl rfl cv_X0_get kw_393 2 (by decide +kernel) ⟨Nat.le_of_ble_eq_true rfl, Nat.le_of_ble_eq_true rfl⟩ rfl hl.1 rfl (Nat.le_of_ble_eq_true rfl) dX6_putOnCold_38 rfl rfl ⟨Nat.zero_le _, Nat.zero_le _⟩ (fun v w' H locs hpo w => ?_)
  clear hq
  obtain ⟨rfl, rfl⟩ := hpo
  have w : mW E A s [(h, .inr (5, [.ref h_rules, .ref h_ledger, .ref h_entries, .ref h_cold, .ref h_sketch, .int uses, .int usesInWindow, .int entriesSoFar, .int dirtySoFar])), (h_rules, .inr (4, [.ref a_vals, .int now])), (a_vals, .inl (E.2.1, 8, .inl vals)), (h_ledger, .inr (1, [.ref h_rules, .ref h_book, .ref h_told, .ref h_written, .ref h_late, .ref a_sums, .ref a_asum])), (h_book, .inr (8, [.int (nI 40), .int (nI 3), .ref a_book, .int s_book])), (a_book, .inl (E.2.1, (40 * 3), .inl f_book)), (h_told, .inr (8, [.int (nI 60), .int (nI 1), .ref a_told, .int s_told])), (a_told, .inl (E.2.1, (60 * 1), .inl f_told)), (h_written, .inr (8, [.int (nI 40), .int (nI 2), .ref a_written, .int s_written])), (a_written, .inl (E.2.1, (40 * 2), .inl f_written)), (h_late, .inr (8, [.int (nI 60), .int (nI 1), .ref a_late, .int s_late])), (a_late, .inl (E.2.1, (60 * 1), .inl f_late)), (a_sums, .inl (E.2.1, 14, .inl sums)), (a_asum, .inl (E.2.1, 64, .inl asum)), (h_entries, .inr (0, [.ref h_rules, .ref h_ents])), (h_ents, .inr (8, [.int (nI 200), .int (nI 9), .ref a_ents, .int s_ents])), (a_ents, .inl (E.2.1, (200 * 9), .inl f_ents)), (h_cold, .inr (0, [.ref h_rules, .ref h_colds])), (h_colds, .inr (8, [.int (nI 20), .int (nI 9), .ref a_colds, .int s_colds])), (a_colds, .inl (E.2.1, (20 * 9), .inl f_colds)), (h_sketch, .inr (6, [.ref a_cnt])), (a_cnt, .inl (E.2.1, 64, .inl cnt))] H locs := w.sub [0, 18, 19, 1, 2, 3, 4, 5, 6, 7, 8, 9, 10, 11, 17, 20, 21, 12, 13, 14, 15, 16] (by decide) rfl
  refine lv_istore (lv' := [(5, .int o_4), (4, .int o_3), (3, .int o_2), (2, .int o_1), (0, .ref h), (1, .int x1)]) hx hb dX6_putOnCold_41 hl (by decide) rfl (fun ls hl => ?_)
  refine lv_aload_n hx hb dX6_putOnCold_43 rfl (lv_at hl 4 rfl) ?_
  refine mx_get B w 0 fl_X6_28 rfl rfl dX6_putOnCold_44 ?_
  refine lv_iload_n hx hb dX6_putOnCold_47 rfl (lv_at hl 3 rfl) ?_
  refine lv_iload_n hx hb dX6_putOnCold_48 rfl (lv_at hl 2 rfl) ?_
  refine lv_iload hx hb dX6_putOnCold_49 (lv_at hl 1 rfl) ?_
  refine lv_iload hx hb dX6_putOnCold_51 (lv_at hl 0 rfl) ?_
  refine lv_aload_n hx hb dX6_putOnCold_53 rfl (lv_at hl 4 rfl) ?_
  refine mx_get B w 0 fl_X6_24 rfl rfl dX6_putOnCold_54 ?_
  refine lv_iload_n hx hb dX6_putOnCold_57 rfl (lv_at hl 5 rfl) ?_
  refine lv_bipush (v := 6) hx hb dX6_putOnCold_58 (by decide) ?_
  obtain ⟨o_5, hq, hf⟩ := bd_e hf
  refine mx_callV (As := [.int x1, .int 6]) (rest := [.int o_4, .int o_3, .int o_2, .int o_1, .ref h_cold]) (wr := [(h, .inr (5, [.ref h_rules, .ref h_ledger, .ref h_entries, .ref h_cold, .ref h_sketch, .int uses, .int usesInWindow, .int entriesSoFar, .int dirtySoFar])), (h_ledger, .inr (1, [.ref h_rules, .ref h_book, .ref h_told, .ref h_written, .ref h_late, .ref a_sums, .ref a_asum])), (h_book, .inr (8, [.int (nI 40), .int (nI 3), .ref a_book, .int s_book])), (a_book, .inl (E.2.1, (40 * 3), .inl f_book)), (h_told, .inr (8, [.int (nI 60), .int (nI 1), .ref a_told, .int s_told])), (a_told, .inl (E.2.1, (60 * 1), .inl f_told)), (h_written, .inr (8, [.int (nI 40), .int (nI 2), .ref a_written, .int s_written])), (a_written, .inl (E.2.1, (40 * 2), .inl f_written)), (h_late, .inr (8, [.int (nI 60), .int (nI 1), .ref a_late, .int s_late])), (a_late, .inl (E.2.1, (60 * 1), .inl f_late)), (a_sums, .inl (E.2.1, 14, .inl sums)), (a_asum, .inl (E.2.1, 64, .inl asum)), (h_cold, .inr (0, [.ref h_rules, .ref h_colds])), (h_colds, .inr (8, [.int (nI 20), .int (nI 9), .ref a_colds, .int s_colds])), (a_colds, .inl (E.2.1, (20 * 9), .inl f_colds)), (h_sketch, .inr (6, [.ref a_cnt])), (a_cnt, .inl (E.2.1, 64, .inl cnt))]) (d_X0_get E l  h_entries h_rules a_vals h_ents a_ents 200 vals now ents s_ents f_ents x1 6 ok_ents o_5 hq) B w [14, 1, 2, 15, 16] [0, 3, 4, 5, 6, 7, 8, 9, 10, 11, 12, 13, 17, 18, 19, 20, 21] rfl rfl (by decide) (by decide) (by decide) 14 rfl rfl cv_X0_get kw_393 2 (by decide +kernel) ⟨Nat.le_of_ble_eq_true rfl, Nat.le_of_ble_eq_true rfl⟩ rfl hl.1 rfl (Nat.le_of_ble_eq_true rfl) dX6_putOnCold_60 rfl rfl ⟨Nat.zero_le _, Nat.zero_le _⟩ (fun v w' H locs hpo w => ?_)
  clear hq
  obtain ⟨rfl, rfl⟩ := hpo
  have w : mW E A s [(h, .inr (5, [.ref h_rules, .ref h_ledger, .ref h_entries, .ref h_cold, .ref h_sketch, .int uses, .int usesInWindow, .int entriesSoFar, .int dirtySoFar])), (h_rules, .inr (4, [.ref a_vals, .int now])), (a_vals, .inl (E.2.1, 8, .inl vals)), (h_ledger, .inr (1, [.ref h_rules, .ref h_book, .ref h_told, .ref h_written, .ref h_late, .ref a_sums, .ref a_asum])), (h_book, .inr (8, [.int (nI 40), .int (nI 3), .ref a_book, .int s_book])), (a_book, .inl (E.2.1, (40 * 3), .inl f_book)), (h_told, .inr (8, [.int (nI 60), .int (nI 1), .ref a_told, .int s_told])), (a_told, .inl (E.2.1, (60 * 1), .inl f_told)), (h_written, .inr (8, [.int (nI 40), .int (nI 2), .ref a_written, .int s_written])), (a_written, .inl (E.2.1, (40 * 2), .inl f_written)), (h_late, .inr (8, [.int (nI 60), .int (nI 1), .ref a_late, .int s_late])), (a_late, .inl (E.2.1, (60 * 1), .inl f_late)), (a_sums, .inl (E.2.1, 14, .inl sums)), (a_asum, .inl (E.2.1, 64, .inl asum)), (h_entries, .inr (0, [.ref h_rules, .ref h_ents])), (h_ents, .inr (8, [.int (nI 200), .int (nI 9), .ref a_ents, .int s_ents])), (a_ents, .inl (E.2.1, (200 * 9), .inl f_ents)), (h_cold, .inr (0, [.ref h_rules, .ref h_colds])), (h_colds, .inr (8, [.int (nI 20), .int (nI 9), .ref a_colds, .int s_colds])), (a_colds, .inl (E.2.1, (20 * 9), .inl f_colds)), (h_sketch, .inr (6, [.ref a_cnt])), (a_cnt, .inl (E.2.1, 64, .inl cnt))] H locs := w.sub [0, 18, 19, 1, 2, 3, 4, 5, 6, 7, 8, 9, 10, 11, 17, 20, 21, 12, 13, 14, 15, 16] (by decide) rfl
  obtain ⟨o_6, hq, hf⟩ := bd_e hf
  refine mx_callV (As := [.int o_1, .int o_2, .int o_3, .int o_4, .int o_5]) (rest := []) (wr := [(h, .inr (5, [.ref h_rules, .ref h_ledger, .ref h_entries, .ref h_cold, .ref h_sketch, .int uses, .int usesInWindow, .int entriesSoFar, .int dirtySoFar])), (h_ledger, .inr (1, [.ref h_rules, .ref h_book, .ref h_told, .ref h_written, .ref h_late, .ref a_sums, .ref a_asum])), (h_book, .inr (8, [.int (nI 40), .int (nI 3), .ref a_book, .int s_book])), (a_book, .inl (E.2.1, (40 * 3), .inl f_book)), (h_told, .inr (8, [.int (nI 60), .int (nI 1), .ref a_told, .int s_told])), (a_told, .inl (E.2.1, (60 * 1), .inl f_told)), (h_written, .inr (8, [.int (nI 40), .int (nI 2), .ref a_written, .int s_written])), (a_written, .inl (E.2.1, (40 * 2), .inl f_written)), (h_late, .inr (8, [.int (nI 60), .int (nI 1), .ref a_late, .int s_late])), (a_late, .inl (E.2.1, (60 * 1), .inl f_late)), (a_sums, .inl (E.2.1, 14, .inl sums)), (a_asum, .inl (E.2.1, 64, .inl asum)), (h_entries, .inr (0, [.ref h_rules, .ref h_ents])), (h_ents, .inr (8, [.int (nI 200), .int (nI 9), .ref a_ents, .int s_ents])), (a_ents, .inl (E.2.1, (200 * 9), .inl f_ents)), (h_sketch, .inr (6, [.ref a_cnt])), (a_cnt, .inl (E.2.1, 64, .inl cnt))]) (d_X0_add E l  h_cold h_rules a_vals h_colds a_colds 20 vals now colds s_colds f_colds o_1 o_2 o_3 o_4 o_5 ok_colds o_6 hq) B w [17, 1, 2, 18, 19] [0, 3, 4, 5, 6, 7, 8, 9, 10, 11, 12, 13, 14, 15, 16, 20, 21] rfl rfl (by decide) (by decide) (by decide) 17 rfl rfl cv_X0_add kw_397 5 (by decide +kernel) ⟨Nat.le_of_ble_eq_true rfl, Nat.le_of_ble_eq_true rfl⟩ rfl hl.1 rfl (Nat.le_of_ble_eq_true rfl) dX6_putOnCold_63 rfl rfl ⟨Nat.zero_le _, Nat.zero_le _⟩ (fun v w' H locs hpo w => ?_)
  clear hq
  obtain ⟨s_colds_7, f_colds_8, ok_colds, rfl, rfl⟩ := hpo
  have w : mW E A s [(h, .inr (5, [.ref h_rules, .ref h_ledger, .ref h_entries, .ref h_cold, .ref h_sketch, .int uses, .int usesInWindow, .int entriesSoFar, .int dirtySoFar])), (h_rules, .inr (4, [.ref a_vals, .int now])), (a_vals, .inl (E.2.1, 8, .inl vals)), (h_ledger, .inr (1, [.ref h_rules, .ref h_book, .ref h_told, .ref h_written, .ref h_late, .ref a_sums, .ref a_asum])), (h_book, .inr (8, [.int (nI 40), .int (nI 3), .ref a_book, .int s_book])), (a_book, .inl (E.2.1, (40 * 3), .inl f_book)), (h_told, .inr (8, [.int (nI 60), .int (nI 1), .ref a_told, .int s_told])), (a_told, .inl (E.2.1, (60 * 1), .inl f_told)), (h_written, .inr (8, [.int (nI 40), .int (nI 2), .ref a_written, .int s_written])), (a_written, .inl (E.2.1, (40 * 2), .inl f_written)), (h_late, .inr (8, [.int (nI 60), .int (nI 1), .ref a_late, .int s_late])), (a_late, .inl (E.2.1, (60 * 1), .inl f_late)), (a_sums, .inl (E.2.1, 14, .inl sums)), (a_asum, .inl (E.2.1, 64, .inl asum)), (h_entries, .inr (0, [.ref h_rules, .ref h_ents])), (h_ents, .inr (8, [.int (nI 200), .int (nI 9), .ref a_ents, .int s_ents])), (a_ents, .inl (E.2.1, (200 * 9), .inl f_ents)), (h_cold, .inr (0, [.ref h_rules, .ref h_colds])), (h_colds, .inr (8, [.int (nI 20), .int (nI 9), .ref a_colds, .int s_colds_7])), (a_colds, .inl (E.2.1, (20 * 9), .inl f_colds_8)), (h_sketch, .inr (6, [.ref a_cnt])), (a_cnt, .inl (E.2.1, 64, .inl cnt))] H locs := w.sub [0, 18, 19, 1, 2, 3, 4, 5, 6, 7, 8, 9, 10, 11, 12, 13, 14, 17, 20, 21, 15, 16] (by decide) rfl
  refine lv_pop hx hb dX6_putOnCold_66 rfl ?_
  refine lv_aload_n hx hb dX6_putOnCold_67 rfl (lv_at hl 4 rfl) ?_
  obtain ⟨o_9, hq, hf⟩ := bd_e hf
  refine mx_callV (As := []) (rest := []) (wr := []) (d_X6_trimCold E l N h h_rules a_vals h_ledger h_book a_book h_told a_told h_written a_written h_late a_late a_sums a_asum h_entries h_ents a_ents h_cold h_colds a_colds h_sketch a_cnt vals now book told written late sums asum ents o_6.2 cnt uses usesInWindow entriesSoFar dirtySoFar s_book f_book s_told f_told s_written f_written s_late f_late s_ents f_ents s_colds_7 f_colds_8  ok_book ok_told ok_written ok_late ok_ents ok_colds o_9 hq) B w [0, 1, 2, 3, 4, 5, 6, 7, 8, 9, 10, 11, 12, 13, 14, 15, 16, 17, 18, 19, 20, 21] [] rfl rfl (by decide) (by decide) (by decide) 0 rfl rfl cv_X6_trimCold kw_409 0 (by decide +kernel) ⟨Nat.le_of_ble_eq_true rfl, Nat.le_of_ble_eq_true rfl⟩ rfl hl.1 rfl (Nat.le_of_ble_eq_true rfl) dX6_putOnCold_68 rfl rfl ⟨Nat.zero_le _, Nat.zero_le _⟩ (fun v w' H locs hpo w => ?_)
  clear hq
  obtain ⟨s_colds_10, f_colds_11, ok_colds, rfl, rfl⟩ := hpo
  have w : mW E A s [(h, .inr (5, [.ref h_rules, .ref h_ledger, .ref h_entries, .ref h_cold, .ref h_sketch, .int uses, .int usesInWindow, .int entriesSoFar, .int dirtySoFar])), (h_rules, .inr (4, [.ref a_vals, .int now])), (a_vals, .inl (E.2.1, 8, .inl vals)), (h_ledger, .inr (1, [.ref h_rules, .ref h_book, .ref h_told, .ref h_written, .ref h_late, .ref a_sums, .ref a_asum])), (h_book, .inr (8, [.int (nI 40), .int (nI 3), .ref a_book, .int s_book])), (a_book, .inl (E.2.1, (40 * 3), .inl f_book)), (h_told, .inr (8, [.int (nI 60), .int (nI 1), .ref a_told, .int s_told])), (a_told, .inl (E.2.1, (60 * 1), .inl f_told)), (h_written, .inr (8, [.int (nI 40), .int (nI 2), .ref a_written, .int s_written])), (a_written, .inl (E.2.1, (40 * 2), .inl f_written)), (h_late, .inr (8, [.int (nI 60), .int (nI 1), .ref a_late, .int s_late])), (a_late, .inl (E.2.1, (60 * 1), .inl f_late)), (a_sums, .inl (E.2.1, 14, .inl sums)), (a_asum, .inl (E.2.1, 64, .inl asum)), (h_entries, .inr (0, [.ref h_rules, .ref h_ents])), (h_ents, .inr (8, [.int (nI 200), .int (nI 9), .ref a_ents, .int s_ents])), (a_ents, .inl (E.2.1, (200 * 9), .inl f_ents)), (h_cold, .inr (0, [.ref h_rules, .ref h_colds])), (h_colds, .inr (8, [.int (nI 20), .int (nI 9), .ref a_colds, .int s_colds_10])), (a_colds, .inl (E.2.1, (20 * 9), .inl f_colds_11)), (h_sketch, .inr (6, [.ref a_cnt])), (a_cnt, .inl (E.2.1, 64, .inl cnt))] H locs := w
  cases hf
  exact mx_vret B w ⟨_, _, ok_colds, rfl, rfl⟩ dX6_putOnCold_71
-- X0_isDirty
def po_X0_isDirty (E : mE) (h : Nat) (h_rules : Nat) (a_vals : Nat) (h_rows : Nat) (a_rows : Nat) (dm : Nat) (vals : Nat → Int32) (now : Int32) (rows : Rows) (s_rows : Int32) (f_rows : Nat → Int32) (o : Int32) : Option Value → va_W → Prop := (fun (v : Option Value) (w' : va_W) => v = some (.int o) ∧ w' = [(h, .inr (0, [.ref h_rules, .ref h_rows])), (h_rules, .inr (4, [.ref a_vals, .int now])), (a_vals, .inl (E.2.1, 8, .inl vals)), (h_rows, .inr (8, [.int (nI dm), .int (nI 9), .ref a_rows, .int s_rows])), (a_rows, .inl (E.2.1, (dm * 9), .inl f_rows))])
noncomputable def F_X0_isDirty (dm : Nat) (rows : Rows) (x1 : Int32) : Option (Int32) :=
  lt (tget rows x1 8) (fun o_1 =>
  if (o_1 = 0 : Prop) then
  some (0)
  else
  some (1))
set_option maxHeartbeats 4000000 in
set_option maxRecDepth 100000 in
theorem d_X0_isDirty (E : mE) (l : Launch) (h : Nat) (h_rules : Nat) (a_vals : Nat) (h_rows : Nat) (a_rows : Nat) (dm : Nat) (vals : Nat → Int32) (now : Int32) (rows : Rows) (s_rows : Int32) (f_rows : Nat → Int32) (x1 : Int32) (ok_rows : tb_ok dm 9 rows s_rows f_rows) (o : Int32) (hf : F_X0_isDirty dm rows x1 = some o) : MX E l yX0_isDirty cX0_isDirty 2 (some .boolean) ({ frames := 1, cells := 0, slots := 0, locals := 24 } : Room) [.ref h, .int x1] [(h, .inr (0, [.ref h_rules, .ref h_rows])), (h_rules, .inr (4, [.ref a_vals, .int now])), (a_vals, .inl (E.2.1, 8, .inl vals)), (h_rows, .inr (8, [.int (nI dm), .int (nI 9), .ref a_rows, .int s_rows])), (a_rows, .inl (E.2.1, (dm * 9), .inl f_rows))] (po_X0_isDirty E h h_rules a_vals h_rows a_rows dm vals now rows s_rows f_rows o) := by
  refine mx_intro (by decide +kernel) (Nat.le_of_ble_eq_true rfl) ?_
  intro p e s m args below meth c A Q ls B w hl
  obtain ⟨hx, hb, hml, hown, hts⟩ := id B.1
  unfold F_X0_isDirty at hf
  have hl : lv_has ls 2 [(0, .ref h), (1, .int x1)] := hl
  refine lv_aload_n hx hb dX0_isDirty_0 rfl (lv_at hl 0 rfl) ?_
  refine mx_get B w 0 fl_X0_20 rfl rfl dX0_isDirty_1 ?_
  refine lv_iload_n hx hb dX0_isDirty_4 rfl (lv_at hl 1 rfl) ?_
  refine lv_bipush (v := 8) hx hb dX0_isDirty_5 (by decide) ?_
  obtain ⟨o_1, ev⟩ : ∃ y, y = tget rows x1 8 := ⟨_, rfl⟩
  have hf := lt_n ev hf
  refine mx_callV (As := [.int x1, .int 8]) (rest := []) (wr := [(h, .inr (0, [.ref h_rules, .ref h_rows])), (h_rules, .inr (4, [.ref a_vals, .int now])), (a_vals, .inl (E.2.1, 8, .inl vals))]) (c_X9_get E l h_rows a_rows dm 9 rows s_rows f_rows x1 8 ok_rows o_1 ev) B w [3, 4] [0, 1, 2] rfl rfl (by decide) (by decide) (by decide) 3 rfl rfl cv_X9_get kw_368 2 (by decide +kernel) ⟨Nat.le_of_ble_eq_true rfl, Nat.le_of_ble_eq_true rfl⟩ rfl hl.1 rfl (Nat.le_of_ble_eq_true rfl) dX0_isDirty_7 rfl rfl ⟨Nat.zero_le _, Nat.zero_le _⟩ (fun v w' H locs hpo w => ?_)
  clear ev
  obtain ⟨rfl, rfl⟩ := hpo
  have w : mW E A s [(h, .inr (0, [.ref h_rules, .ref h_rows])), (h_rules, .inr (4, [.ref a_vals, .int now])), (a_vals, .inl (E.2.1, 8, .inl vals)), (h_rows, .inr (8, [.int (nI dm), .int (nI 9), .ref a_rows, .int s_rows])), (a_rows, .inl (E.2.1, (dm * 9), .inl f_rows))] H locs := w
  refine lv_if_eq (tgt := 17) hx hb dX0_isDirty_10 (by decide) (fun hc => ?_) (fun hc => ?_)
  · have hf := it_t hc hf
    refine lv_iconst (v := 0) hx hb dX0_isDirty_17 (by decide) ?_
    cases hf
    exact mx_zret B w rfl ⟨rfl, rfl⟩ dX0_isDirty_18
  · have hf := it_f hc hf
    refine lv_iconst (v := 1) hx hb dX0_isDirty_13 (by decide) ?_
    refine lv_goto (tgt := 18) hx hb dX0_isDirty_14 (by decide) ?_
    cases hf
    exact mx_zret B w rfl ⟨rfl, rfl⟩ dX0_isDirty_18
-- X5_now
def po_X5_now (E : mE) (h : Nat) (a_vals : Nat)  (vals : Nat → Int32) (now : Int32)  (o : Int32) : Option Value → va_W → Prop := (fun (v : Option Value) (w' : va_W) => v = some (.int o) ∧ w' = [(h, .inr (4, [.ref a_vals, .int now])), (a_vals, .inl (E.2.1, 8, .inl vals))])
noncomputable def F_X5_now  (now : Int32)  : Option (Int32) :=
  some (now)
set_option maxHeartbeats 4000000 in
set_option maxRecDepth 100000 in
theorem d_X5_now (E : mE) (l : Launch) (h : Nat) (a_vals : Nat)  (vals : Nat → Int32) (now : Int32)    (o : Int32) (hf : F_X5_now now = some o) : MX E l yX5_now cX5_now 1 (some .int) ({ frames := 0, cells := 0, slots := 0, locals := 0 } : Room) [.ref h] [(h, .inr (4, [.ref a_vals, .int now])), (a_vals, .inl (E.2.1, 8, .inl vals))] (po_X5_now E h a_vals vals now o) := by
  refine mx_intro (by decide +kernel) (Nat.le_of_ble_eq_true rfl) ?_
  intro p e s m args below meth c A Q ls B w hl
  obtain ⟨hx, hb, hml, hown, hts⟩ := id B.1
  unfold F_X5_now at hf
  have hl : lv_has ls 1 [(0, .ref h)] := hl
  refine lv_aload_n hx hb dX5_now_0 rfl (lv_at hl 0 rfl) ?_
  refine mx_get B w 0 fl_X5_13 rfl rfl dX5_now_1 ?_
  cases hf
  exact mx_iret B w ⟨rfl, rfl⟩ dX5_now_4
-- X1_number
def po_X1_number (E : mE)     (o : Int32) : Option Value → va_W → Prop := (fun (v : Option Value) (w' : va_W) => v = some (.int o) ∧ w' = [])
noncomputable def J_X1_number_37 (N : Nat)  (rec : Int32 → Int32 → Option (Int32)) (k43 : Int32 → Option (Int32)) (x0 : Int32) (x1 : Int32) (x2 : Int32)  : Option (Int32) :=
  lt (x2 + (-5)) (fun x2_2 =>
  rec x1 x2_2)
set_option maxHeartbeats 4000000 in
set_option maxRecDepth 100000 in
theorem j_X1_number_37 {E : mE} {l : Launch} {p : Program} {e : Env} {s : State} {m : MethodId} {args : Array Value} {below : List Frame} {meth : Method} {c : Code} {A : Nat → Prop} {Q : State → Prop} {N : Nat}     {o : Int32} (B : mB E yX1_number cX1_number 4 (some .int) 0 0 (po_X1_number E o) p s m args below meth c A Q) {x0 : Int32} {x1 : Int32} {x2 : Int32}   (rec : Int32 → Int32 → Option (Int32)) (k43 : Int32 → Option (Int32)) (hrec : ∀ (x1 : Int32) (x2 : Int32)   (H : Heap) (locs : List Loc) (ls : Array Slot), rec x1 x2 = some o → mW E A s [] H locs → lv_has ls 4 [(0, .int x0), (1, .int x1), (2, .int x2)] → W p l e ({ frames := 0, cells := 0, slots := 0, locals := 0 } : Room) s m args below meth c H locs 0 0 Q (F0 m 12 ls [])) (hk43 : ∀ (x1 : Int32)   (H : Heap) (locs : List Loc) (ls : Array Slot), k43 x1 = some o → mW E A s [] H locs → lv_has ls 4 [(1, .int x1)] → W p l e ({ frames := 0, cells := 0, slots := 0, locals := 0 } : Room) s m args below meth c H locs 0 0 Q (F0 m 43 ls [])) {H : Heap} {locs : List Loc} {ls : Array Slot} (hf : J_X1_number_37 N rec k43 x0 x1 x2 = some o)  (w : mW E A s [] H locs) (hl : lv_has ls 4 [(0, .int x0), (1, .int x1), (2, .int x2)]) : W p l e ({ frames := 0, cells := 0, slots := 0, locals := 0 } : Room) s m args below meth c H locs 0 0 Q (F0 m 37 ls []) := by
  obtain ⟨hx, hb, hml, hown, hts⟩ := id B.1
  unfold J_X1_number_37 at hf
  obtain ⟨x2_2, ev⟩ : ∃ y : Int32, y = x2 + (-5) := ⟨_, rfl⟩
  refine lv_iinc (v := x2_2) (lv' := [(2, .int x2_2), (0, .int x0), (1, .int x1)]) hx hb dX1_number_37 hl (k := 2) rfl (by rw [ev]; rfl) (by decide) rfl (fun ls hl => ?_)
  have hf := lt_n ev hf; clear ev
  refine lv_goto (tgt := 12) hx hb dX1_number_40 (by decide) ?_
  exact hrec _ _ _ _ _ hf  w (lv_sub hl [1, 2, 0] rfl)
noncomputable def K_X1_number_12 (N : Nat)  (rec : Int32 → Int32 → Option (Int32)) (k43 : Int32 → Option (Int32)) (x0 : Int32)  (x1 : Int32) (x2 : Int32)  : Option (Int32) :=
  if (x2 < 0 : Prop) then
  k43 x1
  else
  lt ((x0 >>> (x2 &&& 31)) &&& 31) (fun x3_1 =>
  if (x3_1 = 0 : Prop) then
  J_X1_number_37 N rec k43 x0 x1 x2
  else
  lt (((x1 * 31) + x3_1) + 96) (fun x1_3 =>
  J_X1_number_37 N rec k43 x0 x1_3 x2))
noncomputable def L_X1_number_12 (N : Nat)  (k43 : Int32 → Option (Int32)) (x0 : Int32)  (n : Nat) : Int32 → Int32 → Option (Int32) :=
  Nat.rec (motive := fun _ => Int32 → Int32 → Option (Int32)) (fun _ _ => none) (fun _ rec => K_X1_number_12 N rec k43 x0) n
set_option maxHeartbeats 4000000 in
set_option maxRecDepth 100000 in
theorem l_X1_number_12 {E : mE} {l : Launch} {p : Program} {e : Env} {s : State} {m : MethodId} {args : Array Value} {below : List Frame} {meth : Method} {c : Code} {A : Nat → Prop} {Q : State → Prop} {N : Nat}     {o : Int32} (B : mB E yX1_number cX1_number 4 (some .int) 0 0 (po_X1_number E o) p s m args below meth c A Q)   {x0 : Int32} (k43 : Int32 → Option (Int32))  (hk43 : ∀ (x1 : Int32)   (H : Heap) (locs : List Loc) (ls : Array Slot), k43 x1 = some o → mW E A s [] H locs → lv_has ls 4 [(1, .int x1)] → W p l e ({ frames := 0, cells := 0, slots := 0, locals := 0 } : Room) s m args below meth c H locs 0 0 Q (F0 m 43 ls [])) : ∀ n : Nat, ∀ (x1 : Int32) (x2 : Int32)   (H : Heap) (locs : List Loc) (ls : Array Slot), L_X1_number_12 N k43 x0 n x1 x2 = some o → mW E A s [] H locs → lv_has ls 4 [(0, .int x0), (1, .int x1), (2, .int x2)] → W p l e ({ frames := 0, cells := 0, slots := 0, locals := 0 } : Room) s m args below meth c H locs 0 0 Q (F0 m 12 ls []) := by
  obtain ⟨hx, hb, hml, hown, hts⟩ := id B.1
  intro n
  induction n with
  | zero =>
    intro x1 x2 H locs ls hf w hl
    exact nomatch hf
  | succ n hrec =>
    intro x1 x2 H locs ls hf w hl
    have hf : K_X1_number_12 N (L_X1_number_12 N k43 x0 n) k43 x0 x1 x2 = some o := hf
    unfold K_X1_number_12 at hf
    refine lv_iload_n hx hb dX1_number_12 rfl (lv_at hl 2 rfl) ?_
    refine lv_if_lt (tgt := 43) hx hb dX1_number_13 (by decide) (fun hc => ?_) (fun hc => ?_)
    · have hf := it_t hc hf
      exact hk43 _ _ _ _ hf  w (lv_sub hl [1] rfl)
    · have hf := it_f hc hf
      refine lv_iload_n hx hb dX1_number_16 rfl (lv_at hl 0 rfl) ?_
      refine lv_iload_n hx hb dX1_number_17 rfl (lv_at hl 2 rfl) ?_
      refine lv_ishr hx hb dX1_number_18 ?_
      refine lv_bipush (v := 31) hx hb dX1_number_19 (by decide) ?_
      refine lv_iand hx hb dX1_number_21 ?_
      refine lv_topi (fun x3_1 ev => ?_)
      have hf := lt_n ev hf; clear ev
      refine lv_istore_n (lv' := [(3, .int x3_1), (0, .int x0), (1, .int x1), (2, .int x2)]) hx hb dX1_number_22 rfl hl (by decide) rfl (fun ls hl => ?_)
      refine lv_iload_n hx hb dX1_number_23 rfl (lv_at hl 0 rfl) ?_
      refine lv_if_eq (tgt := 37) hx hb dX1_number_24 (by decide) (fun hc => ?_) (fun hc => ?_)
      · have hf := it_t hc hf
        exact j_X1_number_37 B _ _ hrec hk43 hf  w (lv_sub hl [1, 2, 3] rfl)
      · have hf := it_f hc hf
        refine lv_iload_n hx hb dX1_number_27 rfl (lv_at hl 2 rfl) ?_
        refine lv_bipush (v := 31) hx hb dX1_number_28 (by decide) ?_
        refine lv_imul hx hb dX1_number_30 ?_
        refine lv_iload_n hx hb dX1_number_31 rfl (lv_at hl 0 rfl) ?_
        refine lv_iadd hx hb dX1_number_32 ?_
        refine lv_bipush (v := 96) hx hb dX1_number_33 (by decide) ?_
        refine lv_iadd hx hb dX1_number_35 ?_
        refine lv_topi (fun x1_3 ev => ?_)
        have hf := lt_n ev hf; clear ev
        refine lv_istore_n (lv' := [(1, .int x1_3), (3, .int x3_1), (0, .int x0), (2, .int x2)]) hx hb dX1_number_36 rfl hl (by decide) rfl (fun ls hl => ?_)
        exact j_X1_number_37 B _ _ hrec hk43 hf  w (lv_sub hl [2, 0, 3] rfl)
noncomputable def F_X1_number (N : Nat)   (x0 : Int32) : Option (Int32) :=
  if (x0 = 0 : Prop) then
  some (0)
  else
  L_X1_number_12 N (fun x1 => some (x1)) x0 N 7 25
set_option maxHeartbeats 4000000 in
set_option maxRecDepth 100000 in
theorem d_X1_number (E : mE) (l : Launch) (N : Nat)     (x0 : Int32)  (o : Int32) (hf : F_X1_number N x0 = some o) : MX E l yX1_number cX1_number 4 (some .int) ({ frames := 0, cells := 0, slots := 0, locals := 0 } : Room) [.int x0] [] (po_X1_number E o) := by
  refine mx_intro (by decide +kernel) (Nat.le_of_ble_eq_true rfl) ?_
  intro p e s m args below meth c A Q ls B w hl
  obtain ⟨hx, hb, hml, hown, hts⟩ := id B.1
  unfold F_X1_number at hf
  have hl : lv_has ls 4 [(0, .int x0)] := hl
  refine lv_iload_n hx hb dX1_number_0 rfl (lv_at hl 0 rfl) ?_
  refine lv_if_ne (tgt := 6) hx hb dX1_number_1 (by decide) (fun hc => ?_) (fun hc => ?_)
  · have hf := it_f hc hf
    refine lv_bipush (v := 7) hx hb dX1_number_6 (by decide) ?_
    refine lv_istore_n (lv' := [(1, .int 7), (0, .int x0)]) hx hb dX1_number_8 rfl hl (by decide) rfl (fun ls hl => ?_)
    refine lv_bipush (v := 25) hx hb dX1_number_9 (by decide) ?_
    refine lv_istore_n (lv' := [(2, .int 25), (1, .int 7), (0, .int x0)]) hx hb dX1_number_11 rfl hl (by decide) rfl (fun ls hl => ?_)
    refine l_X1_number_12 B _  ?_ N _ _ _ _ _ hf  w (lv_sub hl [2, 1, 0] rfl)
    · intro x1 H locs ls hf w hl
      refine lv_iload_n hx hb dX1_number_43 rfl (lv_at hl 0 rfl) ?_
      cases hf
      exact mx_iret B w ⟨rfl, rfl⟩ dX1_number_44
  · have hf := it_t hc hf
    refine lv_iconst (v := 0) hx hb dX1_number_4 (by decide) ?_
    cases hf
    exact mx_iret B w ⟨rfl, rfl⟩ dX1_number_5
-- X2_tally
def po_X2_tally (E : mE) (h : Nat) (h_rules : Nat) (a_vals : Nat) (h_book : Nat) (a_book : Nat) (h_told : Nat) (a_told : Nat) (h_written : Nat) (a_written : Nat) (h_late : Nat) (a_late : Nat) (a_sums : Nat) (a_asum : Nat)  (vals : Nat → Int32) (now : Int32) (book : Rows) (told : Rows) (written : Rows) (late : Rows) (sums : Nat → Int32) (asum : Nat → Int32) (s_book : Int32) (f_book : Nat → Int32) (s_told : Int32) (f_told : Nat → Int32) (s_written : Int32) (f_written : Nat → Int32) (s_late : Int32) (f_late : Nat → Int32) (o : (Nat → Int32)) : Option Value → va_W → Prop := (fun (v : Option Value) (w' : va_W) => v = none ∧ w' = [(h, .inr (1, [.ref h_rules, .ref h_book, .ref h_told, .ref h_written, .ref h_late, .ref a_sums, .ref a_asum])), (h_rules, .inr (4, [.ref a_vals, .int now])), (a_vals, .inl (E.2.1, 8, .inl vals)), (h_book, .inr (8, [.int (nI 40), .int (nI 3), .ref a_book, .int s_book])), (a_book, .inl (E.2.1, (40 * 3), .inl f_book)), (h_told, .inr (8, [.int (nI 60), .int (nI 1), .ref a_told, .int s_told])), (a_told, .inl (E.2.1, (60 * 1), .inl f_told)), (h_written, .inr (8, [.int (nI 40), .int (nI 2), .ref a_written, .int s_written])), (a_written, .inl (E.2.1, (40 * 2), .inl f_written)), (h_late, .inr (8, [.int (nI 60), .int (nI 1), .ref a_late, .int s_late])), (a_late, .inl (E.2.1, (60 * 1), .inl f_late)), (a_sums, .inl (E.2.1, 14, .inl o)), (a_asum, .inl (E.2.1, 64, .inl asum))])
noncomputable def F_X2_tally  (sums : Nat → Int32) (x1 : Int32) : Option ((Nat → Int32)) :=
  if (x1 < 0 : Prop) then
  some (sums)
  else
  if ((nI 14) ≤ x1 : Prop) then
  some (sums)
  else
  ld sums 14 x1 (fun v_1 =>
  sto sums 14 x1 (v_1 + 1) (fun sums_2 =>
  some (sums_2)))
set_option maxHeartbeats 4000000 in
set_option maxRecDepth 100000 in
theorem d_X2_tally (E : mE) (l : Launch) (h : Nat) (h_rules : Nat) (a_vals : Nat) (h_book : Nat) (a_book : Nat) (h_told : Nat) (a_told : Nat) (h_written : Nat) (a_written : Nat) (h_late : Nat) (a_late : Nat) (a_sums : Nat) (a_asum : Nat)  (vals : Nat → Int32) (now : Int32) (book : Rows) (told : Rows) (written : Rows) (late : Rows) (sums : Nat → Int32) (asum : Nat → Int32) (s_book : Int32) (f_book : Nat → Int32) (s_told : Int32) (f_told : Nat → Int32) (s_written : Int32) (f_written : Nat → Int32) (s_late : Int32) (f_late : Nat → Int32) (x1 : Int32) (ok_book : tb_ok 40 3 book s_book f_book) (ok_told : tb_ok 60 1 told s_told f_told) (ok_written : tb_ok 40 2 written s_written f_written) (ok_late : tb_ok 60 1 late s_late f_late) (o : (Nat → Int32)) (hf : F_X2_tally sums x1 = some o) : MX E l yX2_tally cX2_tally 2 none ({ frames := 0, cells := 0, slots := 0, locals := 0 } : Room) [.ref h, .int x1] [(h, .inr (1, [.ref h_rules, .ref h_book, .ref h_told, .ref h_written, .ref h_late, .ref a_sums, .ref a_asum])), (h_rules, .inr (4, [.ref a_vals, .int now])), (a_vals, .inl (E.2.1, 8, .inl vals)), (h_book, .inr (8, [.int (nI 40), .int (nI 3), .ref a_book, .int s_book])), (a_book, .inl (E.2.1, (40 * 3), .inl f_book)), (h_told, .inr (8, [.int (nI 60), .int (nI 1), .ref a_told, .int s_told])), (a_told, .inl (E.2.1, (60 * 1), .inl f_told)), (h_written, .inr (8, [.int (nI 40), .int (nI 2), .ref a_written, .int s_written])), (a_written, .inl (E.2.1, (40 * 2), .inl f_written)), (h_late, .inr (8, [.int (nI 60), .int (nI 1), .ref a_late, .int s_late])), (a_late, .inl (E.2.1, (60 * 1), .inl f_late)), (a_sums, .inl (E.2.1, 14, .inl sums)), (a_asum, .inl (E.2.1, 64, .inl asum))] (po_X2_tally E h h_rules a_vals h_book a_book h_told a_told h_written a_written h_late a_late a_sums a_asum vals now book told written late sums asum s_book f_book s_told f_told s_written f_written s_late f_late o) := by
  refine mx_intro (by decide +kernel) (Nat.le_of_ble_eq_true rfl) ?_
  intro p e s m args below meth c A Q ls B w hl
  obtain ⟨hx, hb, hml, hown, hts⟩ := id B.1
  unfold F_X2_tally at hf
  have hl : lv_has ls 2 [(0, .ref h), (1, .int x1)] := hl
  refine lv_iload_n hx hb dX2_tally_0 rfl (lv_at hl 1 rfl) ?_
  refine lv_if_lt (tgt := 23) hx hb dX2_tally_1 (by decide) (fun hc => ?_) (fun hc => ?_)
  · have hf := it_t hc hf
    cases hf
    exact mx_vret B w ⟨rfl, rfl⟩ dX2_tally_23
  · have hf := it_f hc hf
    refine lv_iload_n hx hb dX2_tally_4 rfl (lv_at hl 1 rfl) ?_
    refine lv_aload_n hx hb dX2_tally_5 rfl (lv_at hl 0 rfl) ?_
    refine mx_get B w 0 fl_X2_33 rfl rfl dX2_tally_6 ?_
    refine mx_alen B w 11 rfl dX2_tally_9 ?_
    refine lv_icmp_ge (tgt := 23) hx hb dX2_tally_10 (by decide) (fun hc => ?_) (fun hc => ?_)
    · have hf := it_t hc hf
      cases hf
      exact mx_vret B w ⟨rfl, rfl⟩ dX2_tally_23
    · have hf := it_f hc hf
      refine lv_aload_n hx hb dX2_tally_13 rfl (lv_at hl 0 rfl) ?_
      refine mx_get B w 0 fl_X2_33 rfl rfl dX2_tally_14 ?_
      refine lv_iload_n hx hb dX2_tally_17 rfl (lv_at hl 1 rfl) ?_
      refine lv_dup2_11 hx hb dX2_tally_18 rfl rfl ?_
      obtain ⟨hin, hf⟩ := ld_e hf
      refine mx_iald B w 11 rfl hin dX2_tally_19 (fun v_1 ev => ?_)
      have hf := hf _ ev; clear ev
      refine lv_iconst (v := 1) hx hb dX2_tally_20 (by decide) ?_
      refine lv_iadd hx hb dX2_tally_21 ?_
      obtain ⟨hin, hf⟩ := sto_e hf
      refine mx_iast B w 11 rfl hin dX2_tally_22 (fun sums_2 H locs ev w => ?_)
      have hf := hf _ ev; clear ev
      have w : mW E A s [(h, .inr (1, [.ref h_rules, .ref h_book, .ref h_told, .ref h_written, .ref h_late, .ref a_sums, .ref a_asum])), (h_rules, .inr (4, [.ref a_vals, .int now])), (a_vals, .inl (E.2.1, 8, .inl vals)), (h_book, .inr (8, [.int (nI 40), .int (nI 3), .ref a_book, .int s_book])), (a_book, .inl (E.2.1, (40 * 3), .inl f_book)), (h_told, .inr (8, [.int (nI 60), .int (nI 1), .ref a_told, .int s_told])), (a_told, .inl (E.2.1, (60 * 1), .inl f_told)), (h_written, .inr (8, [.int (nI 40), .int (nI 2), .ref a_written, .int s_written])), (a_written, .inl (E.2.1, (40 * 2), .inl f_written)), (h_late, .inr (8, [.int (nI 60), .int (nI 1), .ref a_late, .int s_late])), (a_late, .inl (E.2.1, (60 * 1), .inl f_late)), (a_sums, .inl (E.2.1, 14, .inl sums_2)), (a_asum, .inl (E.2.1, 64, .inl asum))] H locs := w
      cases hf
      exact mx_vret B w ⟨rfl, rfl⟩ dX2_tally_23
-- X2_note
def po_X2_note (E : mE) (h : Nat) (h_rules : Nat) (a_vals : Nat) (h_book : Nat) (a_book : Nat) (h_told : Nat) (a_told : Nat) (h_written : Nat) (a_written : Nat) (h_late : Nat) (a_late : Nat) (a_sums : Nat) (a_asum : Nat)  (vals : Nat → Int32) (now : Int32) (book : Rows) (told : Rows) (written : Rows) (late : Rows) (sums : Nat → Int32) (asum : Nat → Int32) (s_book : Int32) (f_book : Nat → Int32) (s_told : Int32) (f_told : Nat → Int32) (s_written : Int32) (f_written : Nat → Int32) (s_late : Int32) (f_late : Nat → Int32) (o : Rows × (Nat → Int32)) : Option Value → va_W → Prop := (fun (v : Option Value) (w' : va_W) => ∃ (s_book' : Int32) (f_book' : Nat → Int32), tb_ok 40 3 o.1 s_book' f_book' ∧ v = none ∧ w' = [(h, .inr (1, [.ref h_rules, .ref h_book, .ref h_told, .ref h_written, .ref h_late, .ref a_sums, .ref a_asum])), (h_rules, .inr (4, [.ref a_vals, .int now])), (a_vals, .inl (E.2.1, 8, .inl vals)), (h_book, .inr (8, [.int (nI 40), .int (nI 3), .ref a_book, .int s_book'])), (a_book, .inl (E.2.1, (40 * 3), .inl f_book')), (h_told, .inr (8, [.int (nI 60), .int (nI 1), .ref a_told, .int s_told])), (a_told, .inl (E.2.1, (60 * 1), .inl f_told)), (h_written, .inr (8, [.int (nI 40), .int (nI 2), .ref a_written, .int s_written])), (a_written, .inl (E.2.1, (40 * 2), .inl f_written)), (h_late, .inr (8, [.int (nI 60), .int (nI 1), .ref a_late, .int s_late])), (a_late, .inl (E.2.1, (60 * 1), .inl f_late)), (a_sums, .inl (E.2.1, 14, .inl o.2)), (a_asum, .inl (E.2.1, 64, .inl asum))])
noncomputable def F_X2_note (N : Nat)  (now : Int32) (book : Rows) (sums : Nat → Int32) (x1 : Int32) (x2 : Int32) : Option (Rows × (Nat → Int32)) :=
  bd (F_X5_now now) (fun o_1 =>
  bd (F_X1_number N x2) (fun o_2 =>
  lt (tpush 40 3 book x1 o_1 o_2) (fun o_3 =>
  if (x1 < 0 : Prop) then
  some (o_3.2, sums)
  else
  if (14 ≤ x1 : Prop) then
  some (o_3.2, sums)
  else
  ld zSUM_OF 14 x1 (fun v_6 =>
  bd (F_X2_tally sums v_6) (fun o_7 =>
  some (o_3.2, o_7))))))
set_option maxHeartbeats 4000000 in
set_option maxRecDepth 100000 in
theorem d_X2_note (E : mE) (l : Launch) (N : Nat) (h : Nat) (h_rules : Nat) (a_vals : Nat) (h_book : Nat) (a_book : Nat) (h_told : Nat) (a_told : Nat) (h_written : Nat) (a_written : Nat) (h_late : Nat) (a_late : Nat) (a_sums : Nat) (a_asum : Nat)  (vals : Nat → Int32) (now : Int32) (book : Rows) (told : Rows) (written : Rows) (late : Rows) (sums : Nat → Int32) (asum : Nat → Int32) (s_book : Int32) (f_book : Nat → Int32) (s_told : Int32) (f_told : Nat → Int32) (s_written : Int32) (f_written : Nat → Int32) (s_late : Int32) (f_late : Nat → Int32) (x1 : Int32) (x2 : Int32) (ok_book : tb_ok 40 3 book s_book f_book) (ok_told : tb_ok 60 1 told s_told f_told) (ok_written : tb_ok 40 2 written s_written f_written) (ok_late : tb_ok 60 1 late s_late f_late) (o : Rows × (Nat → Int32)) (hf : F_X2_note N now book sums x1 x2 = some o) : MX E l yX2_note cX2_note 3 none ({ frames := 1, cells := 0, slots := 0, locals := 25 } : Room) [.ref h, .int x1, .int x2] [(h, .inr (1, [.ref h_rules, .ref h_book, .ref h_told, .ref h_written, .ref h_late, .ref a_sums, .ref a_asum])), (h_rules, .inr (4, [.ref a_vals, .int now])), (a_vals, .inl (E.2.1, 8, .inl vals)), (h_book, .inr (8, [.int (nI 40), .int (nI 3), .ref a_book, .int s_book])), (a_book, .inl (E.2.1, (40 * 3), .inl f_book)), (h_told, .inr (8, [.int (nI 60), .int (nI 1), .ref a_told, .int s_told])), (a_told, .inl (E.2.1, (60 * 1), .inl f_told)), (h_written, .inr (8, [.int (nI 40), .int (nI 2), .ref a_written, .int s_written])), (a_written, .inl (E.2.1, (40 * 2), .inl f_written)), (h_late, .inr (8, [.int (nI 60), .int (nI 1), .ref a_late, .int s_late])), (a_late, .inl (E.2.1, (60 * 1), .inl f_late)), (a_sums, .inl (E.2.1, 14, .inl sums)), (a_asum, .inl (E.2.1, 64, .inl asum))] (po_X2_note E h h_rules a_vals h_book a_book h_told a_told h_written a_written h_late a_late a_sums a_asum vals now book told written late sums asum s_book f_book s_told f_told s_written f_written s_late f_late o) := by
  refine mx_intro (by decide +kernel) (Nat.le_of_ble_eq_true rfl) ?_
  intro p e s m args below meth c A Q ls B w hl
  obtain ⟨hx, hb, hml, hown, hts⟩ := id B.1
  unfold F_X2_note at hf
  have hl : lv_has ls 3 [(0, .ref h), (1, .int x1), (2, .int x2)] := hl
  refine lv_aload_n hx hb dX2_note_0 rfl (lv_at hl 0 rfl) ?_
  refine mx_get B w 0 fl_X2_20 rfl rfl dX2_note_1 ?_
  refine lv_iload_n hx hb dX2_note_4 rfl (lv_at hl 1 rfl) ?_
  refine lv_aload_n hx hb dX2_note_5 rfl (lv_at hl 0 rfl) ?_
  refine mx_get B w 0 fl_X2_9 rfl rfl dX2_note_6 ?_
  obtain ⟨o_1, hq, hf⟩ := bd_e hf
  refine mx_callV (As := []) (rest := [.int x1, .ref h_book]) (wr := [(h, .inr (1, [.ref h_rules, .ref h_book, .ref h_told, .ref h_written, .ref h_late, .ref a_sums, .ref a_asum])), (h_book, .inr (8, [.int (nI 40), .int (nI 3), .ref a_book, .int s_book])), (a_book, .inl (E.2.1, (40 * 3), .inl f_book)), (h_told, .inr (8, [.int (nI 60), .int (nI 1), .ref a_told, .int s_told])), (a_told, .inl (E.2.1, (60 * 1), .inl f_told)), (h_written, .inr (8, [.int (nI 40), .int (nI 2), .ref a_written, .int s_written])), (a_written, .inl (E.2.1, (40 * 2), .inl f_written)), (h_late, .inr (8, [.int (nI 60), .int (nI 1), .ref a_late, .int s_late])), (a_late, .inl (E.2.1, (60 * 1), .inl f_late)), (a_sums, .inl (E.2.1, 14, .inl sums)), (a_asum, .inl (E.2.1, 64, .inl asum))]) (d_X5_now E l  h_rules a_vals vals now   o_1 hq) B w [1, 2] [0, 3, 4, 5, 6, 7, 8, 9, 10, 11, 12] rfl rfl (by decide) (by decide) (by decide) 1 rfl rfl cv_X5_now kw_439 0 (by decide +kernel) ⟨Nat.le_of_ble_eq_true rfl, Nat.le_of_ble_eq_true rfl⟩ rfl hl.1 rfl (Nat.le_of_ble_eq_true rfl) dX2_note_9 rfl rfl ⟨Nat.zero_le _, Nat.zero_le _⟩ (fun v w' H locs hpo w => ?_)
  clear hq
  obtain ⟨rfl, rfl⟩ := hpo
  have w : mW E A s [(h, .inr (1, [.ref h_rules, .ref h_book, .ref h_told, .ref h_written, .ref h_late, .ref a_sums, .ref a_asum])), (h_rules, .inr (4, [.ref a_vals, .int now])), (a_vals, .inl (E.2.1, 8, .inl vals)), (h_book, .inr (8, [.int (nI 40), .int (nI 3), .ref a_book, .int s_book])), (a_book, .inl (E.2.1, (40 * 3), .inl f_book)), (h_told, .inr (8, [.int (nI 60), .int (nI 1), .ref a_told, .int s_told])), (a_told, .inl (E.2.1, (60 * 1), .inl f_told)), (h_written, .inr (8, [.int (nI 40), .int (nI 2), .ref a_written, .int s_written])), (a_written, .inl (E.2.1, (40 * 2), .inl f_written)), (h_late, .inr (8, [.int (nI 60), .int (nI 1), .ref a_late, .int s_late])), (a_late, .inl (E.2.1, (60 * 1), .inl f_late)), (a_sums, .inl (E.2.1, 14, .inl sums)), (a_asum, .inl (E.2.1, 64, .inl asum))] H locs := w.sub [0, 11, 12, 1, 2, 3, 4, 5, 6, 7, 8, 9, 10] (by decide) rfl
  refine lv_iload_n hx hb dX2_note_12 rfl (lv_at hl 2 rfl) ?_
  obtain ⟨o_2, hq, hf⟩ := bd_e hf
  refine mx_callS (As := [.int x2]) (rest := [.int o_1, .int x1, .ref h_book]) (wr := [(h, .inr (1, [.ref h_rules, .ref h_book, .ref h_told, .ref h_written, .ref h_late, .ref a_sums, .ref a_asum])), (h_rules, .inr (4, [.ref a_vals, .int now])), (a_vals, .inl (E.2.1, 8, .inl vals)), (h_book, .inr (8, [.int (nI 40), .int (nI 3), .ref a_book, .int s_book])), (a_book, .inl (E.2.1, (40 * 3), .inl f_book)), (h_told, .inr (8, [.int (nI 60), .int (nI 1), .ref a_told, .int s_told])), (a_told, .inl (E.2.1, (60 * 1), .inl f_told)), (h_written, .inr (8, [.int (nI 40), .int (nI 2), .ref a_written, .int s_written])), (a_written, .inl (E.2.1, (40 * 2), .inl f_written)), (h_late, .inr (8, [.int (nI 60), .int (nI 1), .ref a_late, .int s_late])), (a_late, .inl (E.2.1, (60 * 1), .inl f_late)), (a_sums, .inl (E.2.1, 14, .inl sums)), (a_asum, .inl (E.2.1, 64, .inl asum))]) (d_X1_number E l N  x2  o_2 hq) B w [] [0, 1, 2, 3, 4, 5, 6, 7, 8, 9, 10, 11, 12] rfl rfl (by decide) (by decide) (by decide) cs_X1_number kw_443 1 (by decide +kernel) ⟨Nat.le_of_ble_eq_true rfl, Nat.le_of_ble_eq_true rfl⟩ rfl hl.1 rfl (Nat.le_of_ble_eq_true rfl) dX2_note_13 rfl rfl ⟨Nat.zero_le _, Nat.zero_le _⟩ (fun v w' H locs hpo w => ?_)
  clear hq
  obtain ⟨rfl, rfl⟩ := hpo
  have w : mW E A s [(h, .inr (1, [.ref h_rules, .ref h_book, .ref h_told, .ref h_written, .ref h_late, .ref a_sums, .ref a_asum])), (h_rules, .inr (4, [.ref a_vals, .int now])), (a_vals, .inl (E.2.1, 8, .inl vals)), (h_book, .inr (8, [.int (nI 40), .int (nI 3), .ref a_book, .int s_book])), (a_book, .inl (E.2.1, (40 * 3), .inl f_book)), (h_told, .inr (8, [.int (nI 60), .int (nI 1), .ref a_told, .int s_told])), (a_told, .inl (E.2.1, (60 * 1), .inl f_told)), (h_written, .inr (8, [.int (nI 40), .int (nI 2), .ref a_written, .int s_written])), (a_written, .inl (E.2.1, (40 * 2), .inl f_written)), (h_late, .inr (8, [.int (nI 60), .int (nI 1), .ref a_late, .int s_late])), (a_late, .inl (E.2.1, (60 * 1), .inl f_late)), (a_sums, .inl (E.2.1, 14, .inl sums)), (a_asum, .inl (E.2.1, 64, .inl asum))] H locs := w
  obtain ⟨o_3, ev⟩ : ∃ y, y = tpush 40 3 book x1 o_1 o_2 := ⟨_, rfl⟩
  have hf := lt_n ev hf
  refine mx_callV (As := [.int x1, .int o_1, .int o_2]) (rest := []) (wr := [(h, .inr (1, [.ref h_rules, .ref h_book, .ref h_told, .ref h_written, .ref h_late, .ref a_sums, .ref a_asum])), (h_rules, .inr (4, [.ref a_vals, .int now])), (a_vals, .inl (E.2.1, 8, .inl vals)), (h_told, .inr (8, [.int (nI 60), .int (nI 1), .ref a_told, .int s_told])), (a_told, .inl (E.2.1, (60 * 1), .inl f_told)), (h_written, .inr (8, [.int (nI 40), .int (nI 2), .ref a_written, .int s_written])), (a_written, .inl (E.2.1, (40 * 2), .inl f_written)), (h_late, .inr (8, [.int (nI 60), .int (nI 1), .ref a_late, .int s_late])), (a_late, .inl (E.2.1, (60 * 1), .inl f_late)), (a_sums, .inl (E.2.1, 14, .inl sums)), (a_asum, .inl (E.2.1, 64, .inl asum))]) (c_X9_push E l h_book a_book 40 3 book s_book f_book x1 o_1 o_2 ok_book o_3 ev) B w [3, 4] [0, 1, 2, 5, 6, 7, 8, 9, 10, 11, 12] rfl rfl (by decide) (by decide) (by decide) 3 rfl rfl cv_X9_push kw_434 3 (by decide +kernel) ⟨Nat.le_of_ble_eq_true rfl, Nat.le_of_ble_eq_true rfl⟩ rfl hl.1 rfl (Nat.le_of_ble_eq_true rfl) dX2_note_16 rfl rfl ⟨Nat.zero_le _, Nat.zero_le _⟩ (fun v w' H locs hpo w => ?_)
  clear ev
  obtain ⟨s_book_4, f_book_5, ok_book, rfl, rfl⟩ := hpo
  have w : mW E A s [(h, .inr (1, [.ref h_rules, .ref h_book, .ref h_told, .ref h_written, .ref h_late, .ref a_sums, .ref a_asum])), (h_rules, .inr (4, [.ref a_vals, .int now])), (a_vals, .inl (E.2.1, 8, .inl vals)), (h_book, .inr (8, [.int (nI 40), .int (nI 3), .ref a_book, .int s_book_4])), (a_book, .inl (E.2.1, (40 * 3), .inl f_book_5)), (h_told, .inr (8, [.int (nI 60), .int (nI 1), .ref a_told, .int s_told])), (a_told, .inl (E.2.1, (60 * 1), .inl f_told)), (h_written, .inr (8, [.int (nI 40), .int (nI 2), .ref a_written, .int s_written])), (a_written, .inl (E.2.1, (40 * 2), .inl f_written)), (h_late, .inr (8, [.int (nI 60), .int (nI 1), .ref a_late, .int s_late])), (a_late, .inl (E.2.1, (60 * 1), .inl f_late)), (a_sums, .inl (E.2.1, 14, .inl sums)), (a_asum, .inl (E.2.1, 64, .inl asum))] H locs := w.sub [0, 1, 2, 11, 12, 3, 4, 5, 6, 7, 8, 9, 10] (by decide) rfl
  refine lv_pop hx hb dX2_note_19 rfl ?_
  refine lv_iload_n hx hb dX2_note_20 rfl (lv_at hl 1 rfl) ?_
  refine lv_if_lt (tgt := 41) hx hb dX2_note_21 (by decide) (fun hc => ?_) (fun hc => ?_)
  · have hf := it_t hc hf
    cases hf
    exact mx_vret B w ⟨_, _, ok_book, rfl, rfl⟩ dX2_note_41
  · have hf := it_f hc hf
    refine lv_iload_n hx hb dX2_note_24 rfl (lv_at hl 1 rfl) ?_
    refine va_gets hx hb (B.2.2.2.2.2.1.2.2.1.1) w.2.2 hown (hts _ kw_446) (fun _ h => h) dX2_note_25 ?_
    refine va_tlen (v := 14) hx hb (B.2.2.2.2.2.1.2.2.1.2) w.2.2 rfl dX2_note_28 ?_
    refine lv_icmp_ge (tgt := 41) hx hb dX2_note_29 (by decide) (fun hc => ?_) (fun hc => ?_)
    · have hf := it_t hc hf
      cases hf
      exact mx_vret B w ⟨_, _, ok_book, rfl, rfl⟩ dX2_note_41
    · have hf := it_f hc hf
      refine lv_aload_n hx hb dX2_note_32 rfl (lv_at hl 0 rfl) ?_
      refine va_gets hx hb (B.2.2.2.2.2.1.2.2.1.1) w.2.2 hown (hts _ kw_446) (fun _ h => h) dX2_note_33 ?_
      refine lv_iload_n hx hb dX2_note_36 rfl (lv_at hl 1 rfl) ?_
      obtain ⟨hin, hf⟩ := ld_e hf
      refine va_ti hx hb (B.2.2.2.2.2.1.2.2.1.2) w.2.2 hin rfl dX2_note_37 ?_
      refine lv_topi (fun v_6 ev => ?_)
      have hf := hf _ ev; clear ev
      obtain ⟨o_7, hq, hf⟩ := bd_e hf
      refine mx_callV (As := [.int v_6]) (rest := []) (wr := []) (d_X2_tally E l  h h_rules a_vals h_book a_book h_told a_told h_written a_written h_late a_late a_sums a_asum vals now o_3.2 told written late sums asum s_book_4 f_book_5 s_told f_told s_written f_written s_late f_late v_6 ok_book ok_told ok_written ok_late o_7 hq) B w [0, 1, 2, 3, 4, 5, 6, 7, 8, 9, 10, 11, 12] [] rfl rfl (by decide) (by decide) (by decide) 0 rfl rfl cv_X2_tally kw_448 1 (by decide +kernel) ⟨Nat.le_of_ble_eq_true rfl, Nat.le_of_ble_eq_true rfl⟩ rfl hl.1 rfl (Nat.le_of_ble_eq_true rfl) dX2_note_38 rfl rfl ⟨Nat.zero_le _, Nat.zero_le _⟩ (fun v w' H locs hpo w => ?_)
      clear hq
      obtain ⟨rfl, rfl⟩ := hpo
      have w : mW E A s [(h, .inr (1, [.ref h_rules, .ref h_book, .ref h_told, .ref h_written, .ref h_late, .ref a_sums, .ref a_asum])), (h_rules, .inr (4, [.ref a_vals, .int now])), (a_vals, .inl (E.2.1, 8, .inl vals)), (h_book, .inr (8, [.int (nI 40), .int (nI 3), .ref a_book, .int s_book_4])), (a_book, .inl (E.2.1, (40 * 3), .inl f_book_5)), (h_told, .inr (8, [.int (nI 60), .int (nI 1), .ref a_told, .int s_told])), (a_told, .inl (E.2.1, (60 * 1), .inl f_told)), (h_written, .inr (8, [.int (nI 40), .int (nI 2), .ref a_written, .int s_written])), (a_written, .inl (E.2.1, (40 * 2), .inl f_written)), (h_late, .inr (8, [.int (nI 60), .int (nI 1), .ref a_late, .int s_late])), (a_late, .inl (E.2.1, (60 * 1), .inl f_late)), (a_sums, .inl (E.2.1, 14, .inl o_7)), (a_asum, .inl (E.2.1, 64, .inl asum))] H locs := w
      cases hf
      exact mx_vret B w ⟨_, _, ok_book, rfl, rfl⟩ dX2_note_41
-- X2_noteWritten
def po_X2_noteWritten (E : mE) (h : Nat) (h_rules : Nat) (a_vals : Nat) (h_book : Nat) (a_book : Nat) (h_told : Nat) (a_told : Nat) (h_written : Nat) (a_written : Nat) (h_late : Nat) (a_late : Nat) (a_sums : Nat) (a_asum : Nat)  (vals : Nat → Int32) (now : Int32) (book : Rows) (told : Rows) (written : Rows) (late : Rows) (sums : Nat → Int32) (asum : Nat → Int32) (s_book : Int32) (f_book : Nat → Int32) (s_told : Int32) (f_told : Nat → Int32) (s_written : Int32) (f_written : Nat → Int32) (s_late : Int32) (f_late : Nat → Int32) (o : Rows × Rows × (Nat → Int32)) : Option Value → va_W → Prop := (fun (v : Option Value) (w' : va_W) => ∃ (s_book' : Int32) (f_book' : Nat → Int32) (s_written' : Int32) (f_written' : Nat → Int32), tb_ok 40 3 o.1 s_book' f_book' ∧ tb_ok 40 2 o.2.1 s_written' f_written' ∧ v = none ∧ w' = [(h, .inr (1, [.ref h_rules, .ref h_book, .ref h_told, .ref h_written, .ref h_late, .ref a_sums, .ref a_asum])), (h_rules, .inr (4, [.ref a_vals, .int now])), (a_vals, .inl (E.2.1, 8, .inl vals)), (h_book, .inr (8, [.int (nI 40), .int (nI 3), .ref a_book, .int s_book'])), (a_book, .inl (E.2.1, (40 * 3), .inl f_book')), (h_told, .inr (8, [.int (nI 60), .int (nI 1), .ref a_told, .int s_told])), (a_told, .inl (E.2.1, (60 * 1), .inl f_told)), (h_written, .inr (8, [.int (nI 40), .int (nI 2), .ref a_written, .int s_written'])), (a_written, .inl (E.2.1, (40 * 2), .inl f_written')), (h_late, .inr (8, [.int (nI 60), .int (nI 1), .ref a_late, .int s_late])), (a_late, .inl (E.2.1, (60 * 1), .inl f_late)), (a_sums, .inl (E.2.1, 14, .inl o.2.2)), (a_asum, .inl (E.2.1, 64, .inl asum))])
noncomputable def F_X2_noteWritten (N : Nat)  (now : Int32) (book : Rows) (written : Rows) (sums : Nat → Int32) (x1 : Int32) (x2 : Int32) : Option (Rows × Rows × (Nat → Int32)) :=
  lt (tpush 40 2 written x1 x2 0) (fun o_1 =>
  bd (F_X2_note N now book sums 11 x1) (fun o_4 =>
  some (o_4.1, o_1.2, o_4.2)))
set_option maxHeartbeats 4000000 in
set_option maxRecDepth 100000 in
theorem d_X2_noteWritten (E : mE) (l : Launch) (N : Nat) (h : Nat) (h_rules : Nat) (a_vals : Nat) (h_book : Nat) (a_book : Nat) (h_told : Nat) (a_told : Nat) (h_written : Nat) (a_written : Nat) (h_late : Nat) (a_late : Nat) (a_sums : Nat) (a_asum : Nat)  (vals : Nat → Int32) (now : Int32) (book : Rows) (told : Rows) (written : Rows) (late : Rows) (sums : Nat → Int32) (asum : Nat → Int32) (s_book : Int32) (f_book : Nat → Int32) (s_told : Int32) (f_told : Nat → Int32) (s_written : Int32) (f_written : Nat → Int32) (s_late : Int32) (f_late : Nat → Int32) (x1 : Int32) (x2 : Int32) (ok_book : tb_ok 40 3 book s_book f_book) (ok_told : tb_ok 60 1 told s_told f_told) (ok_written : tb_ok 40 2 written s_written f_written) (ok_late : tb_ok 60 1 late s_late f_late) (o : Rows × Rows × (Nat → Int32)) (hf : F_X2_noteWritten N now book written sums x1 x2 = some o) : MX E l yX2_noteWritten cX2_noteWritten 3 none ({ frames := 2, cells := 0, slots := 0, locals := 47 } : Room) [.ref h, .int x1, .int x2] [(h, .inr (1, [.ref h_rules, .ref h_book, .ref h_told, .ref h_written, .ref h_late, .ref a_sums, .ref a_asum])), (h_rules, .inr (4, [.ref a_vals, .int now])), (a_vals, .inl (E.2.1, 8, .inl vals)), (h_book, .inr (8, [.int (nI 40), .int (nI 3), .ref a_book, .int s_book])), (a_book, .inl (E.2.1, (40 * 3), .inl f_book)), (h_told, .inr (8, [.int (nI 60), .int (nI 1), .ref a_told, .int s_told])), (a_told, .inl (E.2.1, (60 * 1), .inl f_told)), (h_written, .inr (8, [.int (nI 40), .int (nI 2), .ref a_written, .int s_written])), (a_written, .inl (E.2.1, (40 * 2), .inl f_written)), (h_late, .inr (8, [.int (nI 60), .int (nI 1), .ref a_late, .int s_late])), (a_late, .inl (E.2.1, (60 * 1), .inl f_late)), (a_sums, .inl (E.2.1, 14, .inl sums)), (a_asum, .inl (E.2.1, 64, .inl asum))] (po_X2_noteWritten E h h_rules a_vals h_book a_book h_told a_told h_written a_written h_late a_late a_sums a_asum vals now book told written late sums asum s_book f_book s_told f_told s_written f_written s_late f_late o) := by
  refine mx_intro (by decide +kernel) (Nat.le_of_ble_eq_true rfl) ?_
  intro p e s m args below meth c A Q ls B w hl
  obtain ⟨hx, hb, hml, hown, hts⟩ := id B.1
  unfold F_X2_noteWritten at hf
  have hl : lv_has ls 3 [(0, .ref h), (1, .int x1), (2, .int x2)] := hl
  refine lv_aload_n hx hb dX2_noteWritten_0 rfl (lv_at hl 0 rfl) ?_
  refine mx_get B w 0 fl_X2_27 rfl rfl dX2_noteWritten_1 ?_
  refine lv_iload_n hx hb dX2_noteWritten_4 rfl (lv_at hl 1 rfl) ?_
  refine lv_iload_n hx hb dX2_noteWritten_5 rfl (lv_at hl 2 rfl) ?_
  refine lv_iconst (v := 0) hx hb dX2_noteWritten_6 (by decide) ?_
  obtain ⟨o_1, ev⟩ : ∃ y, y = tpush 40 2 written x1 x2 0 := ⟨_, rfl⟩
  have hf := lt_n ev hf
  refine mx_callV (As := [.int x1, .int x2, .int 0]) (rest := []) (wr := [(h, .inr (1, [.ref h_rules, .ref h_book, .ref h_told, .ref h_written, .ref h_late, .ref a_sums, .ref a_asum])), (h_rules, .inr (4, [.ref a_vals, .int now])), (a_vals, .inl (E.2.1, 8, .inl vals)), (h_book, .inr (8, [.int (nI 40), .int (nI 3), .ref a_book, .int s_book])), (a_book, .inl (E.2.1, (40 * 3), .inl f_book)), (h_told, .inr (8, [.int (nI 60), .int (nI 1), .ref a_told, .int s_told])), (a_told, .inl (E.2.1, (60 * 1), .inl f_told)), (h_late, .inr (8, [.int (nI 60), .int (nI 1), .ref a_late, .int s_late])), (a_late, .inl (E.2.1, (60 * 1), .inl f_late)), (a_sums, .inl (E.2.1, 14, .inl sums)), (a_asum, .inl (E.2.1, 64, .inl asum))]) (c_X9_push E l h_written a_written 40 2 written s_written f_written x1 x2 0 ok_written o_1 ev) B w [7, 8] [0, 1, 2, 3, 4, 5, 6, 9, 10, 11, 12] rfl rfl (by decide) (by decide) (by decide) 7 rfl rfl cv_X9_push kw_434 3 (by decide +kernel) ⟨Nat.le_of_ble_eq_true rfl, Nat.le_of_ble_eq_true rfl⟩ rfl hl.1 rfl (Nat.le_of_ble_eq_true rfl) dX2_noteWritten_7 rfl rfl ⟨Nat.zero_le _, Nat.zero_le _⟩ (fun v w' H locs hpo w => ?_)
  clear ev
  obtain ⟨s_written_2, f_written_3, ok_written, rfl, rfl⟩ := hpo
  have w : mW E A s [(h, .inr (1, [.ref h_rules, .ref h_book, .ref h_told, .ref h_written, .ref h_late, .ref a_sums, .ref a_asum])), (h_rules, .inr (4, [.ref a_vals, .int now])), (a_vals, .inl (E.2.1, 8, .inl vals)), (h_book, .inr (8, [.int (nI 40), .int (nI 3), .ref a_book, .int s_book])), (a_book, .inl (E.2.1, (40 * 3), .inl f_book)), (h_told, .inr (8, [.int (nI 60), .int (nI 1), .ref a_told, .int s_told])), (a_told, .inl (E.2.1, (60 * 1), .inl f_told)), (h_written, .inr (8, [.int (nI 40), .int (nI 2), .ref a_written, .int s_written_2])), (a_written, .inl (E.2.1, (40 * 2), .inl f_written_3)), (h_late, .inr (8, [.int (nI 60), .int (nI 1), .ref a_late, .int s_late])), (a_late, .inl (E.2.1, (60 * 1), .inl f_late)), (a_sums, .inl (E.2.1, 14, .inl sums)), (a_asum, .inl (E.2.1, 64, .inl asum))] H locs := w.sub [0, 1, 2, 3, 4, 5, 6, 11, 12, 7, 8, 9, 10] (by decide) rfl
  refine lv_pop hx hb dX2_noteWritten_10 rfl ?_
  refine lv_aload_n hx hb dX2_noteWritten_11 rfl (lv_at hl 0 rfl) ?_
  refine lv_bipush (v := 11) hx hb dX2_noteWritten_12 (by decide) ?_
  refine lv_iload_n hx hb dX2_noteWritten_14 rfl (lv_at hl 1 rfl) ?_
  obtain ⟨o_4, hq, hf⟩ := bd_e hf
  refine mx_callV (As := [.int 11, .int x1]) (rest := []) (wr := []) (d_X2_note E l N h h_rules a_vals h_book a_book h_told a_told h_written a_written h_late a_late a_sums a_asum vals now book told o_1.2 late sums asum s_book f_book s_told f_told s_written_2 f_written_3 s_late f_late 11 x1 ok_book ok_told ok_written ok_late o_4 hq) B w [0, 1, 2, 3, 4, 5, 6, 7, 8, 9, 10, 11, 12] [] rfl rfl (by decide) (by decide) (by decide) 0 rfl rfl cv_X2_note kw_435 2 (by decide +kernel) ⟨Nat.le_of_ble_eq_true rfl, Nat.le_of_ble_eq_true rfl⟩ rfl hl.1 rfl (Nat.le_of_ble_eq_true rfl) dX2_noteWritten_15 rfl rfl ⟨Nat.zero_le _, Nat.zero_le _⟩ (fun v w' H locs hpo w => ?_)
  clear hq
  obtain ⟨s_book_5, f_book_6, ok_book, rfl, rfl⟩ := hpo
  have w : mW E A s [(h, .inr (1, [.ref h_rules, .ref h_book, .ref h_told, .ref h_written, .ref h_late, .ref a_sums, .ref a_asum])), (h_rules, .inr (4, [.ref a_vals, .int now])), (a_vals, .inl (E.2.1, 8, .inl vals)), (h_book, .inr (8, [.int (nI 40), .int (nI 3), .ref a_book, .int s_book_5])), (a_book, .inl (E.2.1, (40 * 3), .inl f_book_6)), (h_told, .inr (8, [.int (nI 60), .int (nI 1), .ref a_told, .int s_told])), (a_told, .inl (E.2.1, (60 * 1), .inl f_told)), (h_written, .inr (8, [.int (nI 40), .int (nI 2), .ref a_written, .int s_written_2])), (a_written, .inl (E.2.1, (40 * 2), .inl f_written_3)), (h_late, .inr (8, [.int (nI 60), .int (nI 1), .ref a_late, .int s_late])), (a_late, .inl (E.2.1, (60 * 1), .inl f_late)), (a_sums, .inl (E.2.1, 14, .inl o_4.2)), (a_asum, .inl (E.2.1, 64, .inl asum))] H locs := w
  cases hf
  exact mx_vret B w ⟨_, _, _, _, ok_book, ok_written, rfl, rfl⟩ dX2_noteWritten_18
-- X6_letGo
def po_X6_letGo (E : mE) (h : Nat) (h_rules : Nat) (a_vals : Nat) (h_ledger : Nat) (h_book : Nat) (a_book : Nat) (h_told : Nat) (a_told : Nat) (h_written : Nat) (a_written : Nat) (h_late : Nat) (a_late : Nat) (a_sums : Nat) (a_asum : Nat) (h_entries : Nat) (h_ents : Nat) (a_ents : Nat) (h_cold : Nat) (h_colds : Nat) (a_colds : Nat) (h_sketch : Nat) (a_cnt : Nat)  (vals : Nat → Int32) (now : Int32) (book : Rows) (told : Rows) (written : Rows) (late : Rows) (sums : Nat → Int32) (asum : Nat → Int32) (ents : Rows) (colds : Rows) (cnt : Nat → Int32) (uses : Int32) (usesInWindow : Int32) (entriesSoFar : Int32) (dirtySoFar : Int32) (s_book : Int32) (f_book : Nat → Int32) (s_told : Int32) (f_told : Nat → Int32) (s_written : Int32) (f_written : Nat → Int32) (s_late : Int32) (f_late : Nat → Int32) (s_ents : Int32) (f_ents : Nat → Int32) (s_colds : Int32) (f_colds : Nat → Int32) (o : Rows × Rows × (Nat → Int32) × Rows) : Option Value → va_W → Prop := (fun (v : Option Value) (w' : va_W) => ∃ (s_book' : Int32) (f_book' : Nat → Int32) (s_written' : Int32) (f_written' : Nat → Int32) (s_ents' : Int32) (f_ents' : Nat → Int32), tb_ok 40 3 o.1 s_book' f_book' ∧ tb_ok 40 2 o.2.1 s_written' f_written' ∧ tb_ok 200 9 o.2.2.2 s_ents' f_ents' ∧ v = none ∧ w' = [(h, .inr (5, [.ref h_rules, .ref h_ledger, .ref h_entries, .ref h_cold, .ref h_sketch, .int uses, .int usesInWindow, .int entriesSoFar, .int dirtySoFar])), (h_rules, .inr (4, [.ref a_vals, .int now])), (a_vals, .inl (E.2.1, 8, .inl vals)), (h_ledger, .inr (1, [.ref h_rules, .ref h_book, .ref h_told, .ref h_written, .ref h_late, .ref a_sums, .ref a_asum])), (h_book, .inr (8, [.int (nI 40), .int (nI 3), .ref a_book, .int s_book'])), (a_book, .inl (E.2.1, (40 * 3), .inl f_book')), (h_told, .inr (8, [.int (nI 60), .int (nI 1), .ref a_told, .int s_told])), (a_told, .inl (E.2.1, (60 * 1), .inl f_told)), (h_written, .inr (8, [.int (nI 40), .int (nI 2), .ref a_written, .int s_written'])), (a_written, .inl (E.2.1, (40 * 2), .inl f_written')), (h_late, .inr (8, [.int (nI 60), .int (nI 1), .ref a_late, .int s_late])), (a_late, .inl (E.2.1, (60 * 1), .inl f_late)), (a_sums, .inl (E.2.1, 14, .inl o.2.2.1)), (a_asum, .inl (E.2.1, 64, .inl asum)), (h_entries, .inr (0, [.ref h_rules, .ref h_ents])), (h_ents, .inr (8, [.int (nI 200), .int (nI 9), .ref a_ents, .int s_ents'])), (a_ents, .inl (E.2.1, (200 * 9), .inl f_ents')), (h_cold, .inr (0, [.ref h_rules, .ref h_colds])), (h_colds, .inr (8, [.int (nI 20), .int (nI 9), .ref a_colds, .int s_colds])), (a_colds, .inl (E.2.1, (20 * 9), .inl f_colds)), (h_sketch, .inr (6, [.ref a_cnt])), (a_cnt, .inl (E.2.1, 64, .inl cnt))])
noncomputable def J_X6_letGo_39 (N : Nat)   (x1 : Int32) (x2 : Int32) (x3 : Int32) (now : Int32) (book : Rows) (written : Rows) (sums : Nat → Int32) (ents : Rows) : Option (Rows × Rows × (Nat → Int32) × Rows) :=
  bd (F_X2_note N now book sums x2 x3) (fun o_3 =>
  bd (F_X0_remove 200 ents x1) (fun o_6 =>
  some (o_3.1, written, o_3.2, o_6)))
set_option maxHeartbeats 4000000 in
set_option maxRecDepth 100000 in
theorem j_X6_letGo_39 {E : mE} {l : Launch} {p : Program} {e : Env} {s : State} {m : MethodId} {args : Array Value} {below : List Frame} {meth : Method} {c : Code} {A : Nat → Prop} {Q : State → Prop} {N : Nat} {h : Nat} {h_rules : Nat} {a_vals : Nat} {h_ledger : Nat} {h_book : Nat} {a_book : Nat} {h_told : Nat} {a_told : Nat} {h_written : Nat} {a_written : Nat} {h_late : Nat} {a_late : Nat} {a_sums : Nat} {a_asum : Nat} {h_entries : Nat} {h_ents : Nat} {a_ents : Nat} {h_cold : Nat} {h_colds : Nat} {a_colds : Nat} {h_sketch : Nat} {a_cnt : Nat}  {vals : Nat → Int32} {now : Int32} {book0 : Rows} {told : Rows} {written0 : Rows} {late : Rows} {sums0 : Nat → Int32} {asum : Nat → Int32} {ents0 : Rows} {colds : Rows} {cnt : Nat → Int32} {uses : Int32} {usesInWindow : Int32} {entriesSoFar : Int32} {dirtySoFar : Int32} {s_book0 : Int32} {f_book0 : Nat → Int32} {s_told : Int32} {f_told : Nat → Int32} {s_written0 : Int32} {f_written0 : Nat → Int32} {s_late : Int32} {f_late : Nat → Int32} {s_ents0 : Int32} {f_ents0 : Nat → Int32} {s_colds : Int32} {f_colds : Nat → Int32} {o : Rows × Rows × (Nat → Int32) × Rows} (B : mB E yX6_letGo cX6_letGo 4 none 0 0 (po_X6_letGo E h h_rules a_vals h_ledger h_book a_book h_told a_told h_written a_written h_late a_late a_sums a_asum h_entries h_ents a_ents h_cold h_colds a_colds h_sketch a_cnt vals now book0 told written0 late sums0 asum ents0 colds cnt uses usesInWindow entriesSoFar dirtySoFar s_book0 f_book0 s_told f_told s_written0 f_written0 s_late f_late s_ents0 f_ents0 s_colds f_colds o) p s m args below meth c A Q) {x1 : Int32} {x2 : Int32} {x3 : Int32} {book : Rows} {written : Rows} {sums : Nat → Int32} {ents : Rows} {s_book : Int32} {f_book : Nat → Int32} {s_written : Int32} {f_written : Nat → Int32} {s_ents : Int32} {f_ents : Nat → Int32}   {H : Heap} {locs : List Loc} {ls : Array Slot} (hf : J_X6_letGo_39 N x1 x2 x3 now book written sums ents = some o) (ok_book : tb_ok 40 3 book s_book f_book) (ok_told : tb_ok 60 1 told s_told f_told) (ok_written : tb_ok 40 2 written s_written f_written) (ok_late : tb_ok 60 1 late s_late f_late) (ok_ents : tb_ok 200 9 ents s_ents f_ents) (ok_colds : tb_ok 20 9 colds s_colds f_colds) (w : mW E A s [(h, .inr (5, [.ref h_rules, .ref h_ledger, .ref h_entries, .ref h_cold, .ref h_sketch, .int uses, .int usesInWindow, .int entriesSoFar, .int dirtySoFar])), (h_rules, .inr (4, [.ref a_vals, .int now])), (a_vals, .inl (E.2.1, 8, .inl vals)), (h_ledger, .inr (1, [.ref h_rules, .ref h_book, .ref h_told, .ref h_written, .ref h_late, .ref a_sums, .ref a_asum])), (h_book, .inr (8, [.int (nI 40), .int (nI 3), .ref a_book, .int s_book])), (a_book, .inl (E.2.1, (40 * 3), .inl f_book)), (h_told, .inr (8, [.int (nI 60), .int (nI 1), .ref a_told, .int s_told])), (a_told, .inl (E.2.1, (60 * 1), .inl f_told)), (h_written, .inr (8, [.int (nI 40), .int (nI 2), .ref a_written, .int s_written])), (a_written, .inl (E.2.1, (40 * 2), .inl f_written)), (h_late, .inr (8, [.int (nI 60), .int (nI 1), .ref a_late, .int s_late])), (a_late, .inl (E.2.1, (60 * 1), .inl f_late)), (a_sums, .inl (E.2.1, 14, .inl sums)), (a_asum, .inl (E.2.1, 64, .inl asum)), (h_entries, .inr (0, [.ref h_rules, .ref h_ents])), (h_ents, .inr (8, [.int (nI 200), .int (nI 9), .ref a_ents, .int s_ents])), (a_ents, .inl (E.2.1, (200 * 9), .inl f_ents)), (h_cold, .inr (0, [.ref h_rules, .ref h_colds])), (h_colds, .inr (8, [.int (nI 20), .int (nI 9), .ref a_colds, .int s_colds])), (a_colds, .inl (E.2.1, (20 * 9), .inl f_colds)), (h_sketch, .inr (6, [.ref a_cnt])), (a_cnt, .inl (E.2.1, 64, .inl cnt))] H locs) (hl : lv_has ls 4 [(0, .ref h), (1, .int x1), (2, .int x2), (3, .int x3)]) : W p l e ({ frames := 3, cells := 0, slots := 0, locals := 69 } : Room) s m args below meth c H locs 0 0 Q (F0 m 39 ls []) := by
  obtain ⟨hx, hb, hml, hown, hts⟩ := id B.1
  unfold J_X6_letGo_39 at hf
  refine lv_aload_n hx hb dX6_letGo_39 rfl (lv_at hl 0 rfl) ?_
  refine mx_get B w 0 fl_X6_15 rfl rfl dX6_letGo_40 ?_
  refine lv_iload_n hx hb dX6_letGo_43 rfl (lv_at hl 2 rfl) ?_
  refine lv_iload_n hx hb dX6_letGo_44 rfl (lv_at hl 3 rfl) ?_
  obtain ⟨o_3, hq, hf⟩ := bd_e hf
  refine mx_callV (As := [.int x2, .int x3]) (rest := []) (wr := [(h, .inr (5, [.ref h_rules, .ref h_ledger, .ref h_entries, .ref h_cold, .ref h_sketch, .int uses, .int usesInWindow, .int entriesSoFar, .int dirtySoFar])), (h_entries, .inr (0, [.ref h_rules, .ref h_ents])), (h_ents, .inr (8, [.int (nI 200), .int (nI 9), .ref a_ents, .int s_ents])), (a_ents, .inl (E.2.1, (200 * 9), .inl f_ents)), (h_cold, .inr (0, [.ref h_rules, .ref h_colds])), (h_colds, .inr (8, [.int (nI 20), .int (nI 9), .ref a_colds, .int s_colds])), (a_colds, .inl (E.2.1, (20 * 9), .inl f_colds)), (h_sketch, .inr (6, [.ref a_cnt])), (a_cnt, .inl (E.2.1, 64, .inl cnt))]) (d_X2_note E l N h_ledger h_rules a_vals h_book a_book h_told a_told h_written a_written h_late a_late a_sums a_asum vals now book told written late sums asum s_book f_book s_told f_told s_written f_written s_late f_late x2 x3 ok_book ok_told ok_written ok_late o_3 hq) B w [3, 1, 2, 4, 5, 6, 7, 8, 9, 10, 11, 12, 13] [0, 14, 15, 16, 17, 18, 19, 20, 21] rfl rfl (by decide) (by decide) (by decide) 3 rfl rfl cv_X2_note kw_452 2 (by decide +kernel) ⟨Nat.le_of_ble_eq_true rfl, Nat.le_of_ble_eq_true rfl⟩ rfl hl.1 rfl (Nat.le_of_ble_eq_true rfl) dX6_letGo_45 rfl rfl ⟨Nat.zero_le _, Nat.zero_le _⟩ (fun v w' H locs hpo w => ?_)
  clear hq
  obtain ⟨s_book_4, f_book_5, ok_book, rfl, rfl⟩ := hpo
  have w : mW E A s [(h, .inr (5, [.ref h_rules, .ref h_ledger, .ref h_entries, .ref h_cold, .ref h_sketch, .int uses, .int usesInWindow, .int entriesSoFar, .int dirtySoFar])), (h_rules, .inr (4, [.ref a_vals, .int now])), (a_vals, .inl (E.2.1, 8, .inl vals)), (h_ledger, .inr (1, [.ref h_rules, .ref h_book, .ref h_told, .ref h_written, .ref h_late, .ref a_sums, .ref a_asum])), (h_book, .inr (8, [.int (nI 40), .int (nI 3), .ref a_book, .int s_book_4])), (a_book, .inl (E.2.1, (40 * 3), .inl f_book_5)), (h_told, .inr (8, [.int (nI 60), .int (nI 1), .ref a_told, .int s_told])), (a_told, .inl (E.2.1, (60 * 1), .inl f_told)), (h_written, .inr (8, [.int (nI 40), .int (nI 2), .ref a_written, .int s_written])), (a_written, .inl (E.2.1, (40 * 2), .inl f_written)), (h_late, .inr (8, [.int (nI 60), .int (nI 1), .ref a_late, .int s_late])), (a_late, .inl (E.2.1, (60 * 1), .inl f_late)), (a_sums, .inl (E.2.1, 14, .inl o_3.2)), (a_asum, .inl (E.2.1, 64, .inl asum)), (h_entries, .inr (0, [.ref h_rules, .ref h_ents])), (h_ents, .inr (8, [.int (nI 200), .int (nI 9), .ref a_ents, .int s_ents])), (a_ents, .inl (E.2.1, (200 * 9), .inl f_ents)), (h_cold, .inr (0, [.ref h_rules, .ref h_colds])), (h_colds, .inr (8, [.int (nI 20), .int (nI 9), .ref a_colds, .int s_colds])), (a_colds, .inl (E.2.1, (20 * 9), .inl f_colds)), (h_sketch, .inr (6, [.ref a_cnt])), (a_cnt, .inl (E.2.1, 64, .inl cnt))] H locs := w.sub [0, 10, 11, 9, 12, 13, 14, 15, 16, 17, 18, 19, 20, 21, 1, 2, 3, 4, 5, 6, 7, 8] (by decide) rfl
  refine lv_aload_n hx hb dX6_letGo_48 rfl (lv_at hl 0 rfl) ?_
  refine mx_get B w 0 fl_X6_24 rfl rfl dX6_letGo_49 ?_
  refine lv_iload_n hx hb dX6_letGo_52 rfl (lv_at hl 1 rfl) ?_
  obtain ⟨o_6, hq, hf⟩ := bd_e hf
  refine mx_callV (As := [.int x1]) (rest := []) (wr := [(h, .inr (5, [.ref h_rules, .ref h_ledger, .ref h_entries, .ref h_cold, .ref h_sketch, .int uses, .int usesInWindow, .int entriesSoFar, .int dirtySoFar])), (h_ledger, .inr (1, [.ref h_rules, .ref h_book, .ref h_told, .ref h_written, .ref h_late, .ref a_sums, .ref a_asum])), (h_book, .inr (8, [.int (nI 40), .int (nI 3), .ref a_book, .int s_book_4])), (a_book, .inl (E.2.1, (40 * 3), .inl f_book_5)), (h_told, .inr (8, [.int (nI 60), .int (nI 1), .ref a_told, .int s_told])), (a_told, .inl (E.2.1, (60 * 1), .inl f_told)), (h_written, .inr (8, [.int (nI 40), .int (nI 2), .ref a_written, .int s_written])), (a_written, .inl (E.2.1, (40 * 2), .inl f_written)), (h_late, .inr (8, [.int (nI 60), .int (nI 1), .ref a_late, .int s_late])), (a_late, .inl (E.2.1, (60 * 1), .inl f_late)), (a_sums, .inl (E.2.1, 14, .inl o_3.2)), (a_asum, .inl (E.2.1, 64, .inl asum)), (h_cold, .inr (0, [.ref h_rules, .ref h_colds])), (h_colds, .inr (8, [.int (nI 20), .int (nI 9), .ref a_colds, .int s_colds])), (a_colds, .inl (E.2.1, (20 * 9), .inl f_colds)), (h_sketch, .inr (6, [.ref a_cnt])), (a_cnt, .inl (E.2.1, 64, .inl cnt))]) (d_X0_remove E l  h_entries h_rules a_vals h_ents a_ents 200 vals now ents s_ents f_ents x1 ok_ents o_6 hq) B w [14, 1, 2, 15, 16] [0, 3, 4, 5, 6, 7, 8, 9, 10, 11, 12, 13, 17, 18, 19, 20, 21] rfl rfl (by decide) (by decide) (by decide) 14 rfl rfl cv_X0_remove kw_414 1 (by decide +kernel) ⟨Nat.le_of_ble_eq_true rfl, Nat.le_of_ble_eq_true rfl⟩ rfl hl.1 rfl (Nat.le_of_ble_eq_true rfl) dX6_letGo_53 rfl rfl ⟨Nat.zero_le _, Nat.zero_le _⟩ (fun v w' H locs hpo w => ?_)
  clear hq
  obtain ⟨s_ents_7, f_ents_8, ok_ents, rfl, rfl⟩ := hpo
  have w : mW E A s [(h, .inr (5, [.ref h_rules, .ref h_ledger, .ref h_entries, .ref h_cold, .ref h_sketch, .int uses, .int usesInWindow, .int entriesSoFar, .int dirtySoFar])), (h_rules, .inr (4, [.ref a_vals, .int now])), (a_vals, .inl (E.2.1, 8, .inl vals)), (h_ledger, .inr (1, [.ref h_rules, .ref h_book, .ref h_told, .ref h_written, .ref h_late, .ref a_sums, .ref a_asum])), (h_book, .inr (8, [.int (nI 40), .int (nI 3), .ref a_book, .int s_book_4])), (a_book, .inl (E.2.1, (40 * 3), .inl f_book_5)), (h_told, .inr (8, [.int (nI 60), .int (nI 1), .ref a_told, .int s_told])), (a_told, .inl (E.2.1, (60 * 1), .inl f_told)), (h_written, .inr (8, [.int (nI 40), .int (nI 2), .ref a_written, .int s_written])), (a_written, .inl (E.2.1, (40 * 2), .inl f_written)), (h_late, .inr (8, [.int (nI 60), .int (nI 1), .ref a_late, .int s_late])), (a_late, .inl (E.2.1, (60 * 1), .inl f_late)), (a_sums, .inl (E.2.1, 14, .inl o_3.2)), (a_asum, .inl (E.2.1, 64, .inl asum)), (h_entries, .inr (0, [.ref h_rules, .ref h_ents])), (h_ents, .inr (8, [.int (nI 200), .int (nI 9), .ref a_ents, .int s_ents_7])), (a_ents, .inl (E.2.1, (200 * 9), .inl f_ents_8)), (h_cold, .inr (0, [.ref h_rules, .ref h_colds])), (h_colds, .inr (8, [.int (nI 20), .int (nI 9), .ref a_colds, .int s_colds])), (a_colds, .inl (E.2.1, (20 * 9), .inl f_colds)), (h_sketch, .inr (6, [.ref a_cnt])), (a_cnt, .inl (E.2.1, 64, .inl cnt))] H locs := w.sub [0, 18, 19, 1, 2, 3, 4, 5, 6, 7, 8, 9, 10, 11, 17, 20, 21, 12, 13, 14, 15, 16] (by decide) rfl
  cases hf
  exact mx_vret B w ⟨_, _, _, _, _, _, ok_book, ok_written, ok_ents, rfl, rfl⟩ dX6_letGo_56
noncomputable def F_X6_letGo (N : Nat)  (now : Int32) (book : Rows) (written : Rows) (sums : Nat → Int32) (ents : Rows) (x1 : Int32) (x2 : Int32) : Option (Rows × Rows × (Nat → Int32) × Rows) :=
  bd (F_X0_get 200 ents x1 7) (fun o_1 =>
  bd (F_X0_isDirty 200 ents x1) (fun o_2 =>
  if (o_2 = 0 : Prop) then
  J_X6_letGo_39 N x1 x2 o_1 now book written sums ents
  else
  bd (F_X0_get 200 ents x1 0) (fun o_9 =>
  bd (F_X2_noteWritten N now book written sums o_1 o_9) (fun o_10 =>
  J_X6_letGo_39 N x1 x2 o_1 now o_10.1 o_10.2.1 o_10.2.2 ents))))
set_option maxHeartbeats 4000000 in
set_option maxRecDepth 100000 in
theorem d_X6_letGo (E : mE) (l : Launch) (N : Nat) (h : Nat) (h_rules : Nat) (a_vals : Nat) (h_ledger : Nat) (h_book : Nat) (a_book : Nat) (h_told : Nat) (a_told : Nat) (h_written : Nat) (a_written : Nat) (h_late : Nat) (a_late : Nat) (a_sums : Nat) (a_asum : Nat) (h_entries : Nat) (h_ents : Nat) (a_ents : Nat) (h_cold : Nat) (h_colds : Nat) (a_colds : Nat) (h_sketch : Nat) (a_cnt : Nat)  (vals : Nat → Int32) (now : Int32) (book : Rows) (told : Rows) (written : Rows) (late : Rows) (sums : Nat → Int32) (asum : Nat → Int32) (ents : Rows) (colds : Rows) (cnt : Nat → Int32) (uses : Int32) (usesInWindow : Int32) (entriesSoFar : Int32) (dirtySoFar : Int32) (s_book : Int32) (f_book : Nat → Int32) (s_told : Int32) (f_told : Nat → Int32) (s_written : Int32) (f_written : Nat → Int32) (s_late : Int32) (f_late : Nat → Int32) (s_ents : Int32) (f_ents : Nat → Int32) (s_colds : Int32) (f_colds : Nat → Int32) (x1 : Int32) (x2 : Int32) (ok_book : tb_ok 40 3 book s_book f_book) (ok_told : tb_ok 60 1 told s_told f_told) (ok_written : tb_ok 40 2 written s_written f_written) (ok_late : tb_ok 60 1 late s_late f_late) (ok_ents : tb_ok 200 9 ents s_ents f_ents) (ok_colds : tb_ok 20 9 colds s_colds f_colds) (o : Rows × Rows × (Nat → Int32) × Rows) (hf : F_X6_letGo N now book written sums ents x1 x2 = some o) : MX E l yX6_letGo cX6_letGo 4 none ({ frames := 3, cells := 0, slots := 0, locals := 69 } : Room) [.ref h, .int x1, .int x2] [(h, .inr (5, [.ref h_rules, .ref h_ledger, .ref h_entries, .ref h_cold, .ref h_sketch, .int uses, .int usesInWindow, .int entriesSoFar, .int dirtySoFar])), (h_rules, .inr (4, [.ref a_vals, .int now])), (a_vals, .inl (E.2.1, 8, .inl vals)), (h_ledger, .inr (1, [.ref h_rules, .ref h_book, .ref h_told, .ref h_written, .ref h_late, .ref a_sums, .ref a_asum])), (h_book, .inr (8, [.int (nI 40), .int (nI 3), .ref a_book, .int s_book])), (a_book, .inl (E.2.1, (40 * 3), .inl f_book)), (h_told, .inr (8, [.int (nI 60), .int (nI 1), .ref a_told, .int s_told])), (a_told, .inl (E.2.1, (60 * 1), .inl f_told)), (h_written, .inr (8, [.int (nI 40), .int (nI 2), .ref a_written, .int s_written])), (a_written, .inl (E.2.1, (40 * 2), .inl f_written)), (h_late, .inr (8, [.int (nI 60), .int (nI 1), .ref a_late, .int s_late])), (a_late, .inl (E.2.1, (60 * 1), .inl f_late)), (a_sums, .inl (E.2.1, 14, .inl sums)), (a_asum, .inl (E.2.1, 64, .inl asum)), (h_entries, .inr (0, [.ref h_rules, .ref h_ents])), (h_ents, .inr (8, [.int (nI 200), .int (nI 9), .ref a_ents, .int s_ents])), (a_ents, .inl (E.2.1, (200 * 9), .inl f_ents)), (h_cold, .inr (0, [.ref h_rules, .ref h_colds])), (h_colds, .inr (8, [.int (nI 20), .int (nI 9), .ref a_colds, .int s_colds])), (a_colds, .inl (E.2.1, (20 * 9), .inl f_colds)), (h_sketch, .inr (6, [.ref a_cnt])), (a_cnt, .inl (E.2.1, 64, .inl cnt))] (po_X6_letGo E h h_rules a_vals h_ledger h_book a_book h_told a_told h_written a_written h_late a_late a_sums a_asum h_entries h_ents a_ents h_cold h_colds a_colds h_sketch a_cnt vals now book told written late sums asum ents colds cnt uses usesInWindow entriesSoFar dirtySoFar s_book f_book s_told f_told s_written f_written s_late f_late s_ents f_ents s_colds f_colds o) := by
  refine mx_intro (by decide +kernel) (Nat.le_of_ble_eq_true rfl) ?_
  intro p e s m args below meth c A Q ls B w hl
  obtain ⟨hx, hb, hml, hown, hts⟩ := id B.1
  unfold F_X6_letGo at hf
  have hl : lv_has ls 4 [(0, .ref h), (1, .int x1), (2, .int x2)] := hl
  refine lv_aload_n hx hb dX6_letGo_0 rfl (lv_at hl 0 rfl) ?_
  refine mx_get B w 0 fl_X6_24 rfl rfl dX6_letGo_1 ?_
  refine lv_iload_n hx hb dX6_letGo_4 rfl (lv_at hl 1 rfl) ?_
  refine lv_bipush (v := 7) hx hb dX6_letGo_5 (by decide) ?_
  obtain ⟨o_1, hq, hf⟩ := bd_e hf
  refine mx_callV (As := [.int x1, .int 7]) (rest := []) (wr := [(h, .inr (5, [.ref h_rules, .ref h_ledger, .ref h_entries, .ref h_cold, .ref h_sketch, .int uses, .int usesInWindow, .int entriesSoFar, .int dirtySoFar])), (h_ledger, .inr (1, [.ref h_rules, .ref h_book, .ref h_told, .ref h_written, .ref h_late, .ref a_sums, .ref a_asum])), (h_book, .inr (8, [.int (nI 40), .int (nI 3), .ref a_book, .int s_book])), (a_book, .inl (E.2.1, (40 * 3), .inl f_book)), (h_told, .inr (8, [.int (nI 60), .int (nI 1), .ref a_told, .int s_told])), (a_told, .inl (E.2.1, (60 * 1), .inl f_told)), (h_written, .inr (8, [.int (nI 40), .int (nI 2), .ref a_written, .int s_written])), (a_written, .inl (E.2.1, (40 * 2), .inl f_written)), (h_late, .inr (8, [.int (nI 60), .int (nI 1), .ref a_late, .int s_late])), (a_late, .inl (E.2.1, (60 * 1), .inl f_late)), (a_sums, .inl (E.2.1, 14, .inl sums)), (a_asum, .inl (E.2.1, 64, .inl asum)), (h_cold, .inr (0, [.ref h_rules, .ref h_colds])), (h_colds, .inr (8, [.int (nI 20), .int (nI 9), .ref a_colds, .int s_colds])), (a_colds, .inl (E.2.1, (20 * 9), .inl f_colds)), (h_sketch, .inr (6, [.ref a_cnt])), (a_cnt, .inl (E.2.1, 64, .inl cnt))]) (d_X0_get E l  h_entries h_rules a_vals h_ents a_ents 200 vals now ents s_ents f_ents x1 7 ok_ents o_1 hq) B w [14, 1, 2, 15, 16] [0, 3, 4, 5, 6, 7, 8, 9, 10, 11, 12, 13, 17, 18, 19, 20, 21] rfl rfl (by decide) (by decide) (by decide) 14 rfl rfl cv_X0_get kw_393 2 (by decide +kernel) ⟨Nat.le_of_ble_eq_true rfl, Nat.le_of_ble_eq_true rfl⟩ rfl hl.1 rfl (Nat.le_of_ble_eq_true rfl) dX6_letGo_7 rfl rfl ⟨Nat.zero_le _, Nat.zero_le _⟩ (fun v w' H locs hpo w => ?_)
  clear hq
  obtain ⟨rfl, rfl⟩ := hpo
  have w : mW E A s [(h, .inr (5, [.ref h_rules, .ref h_ledger, .ref h_entries, .ref h_cold, .ref h_sketch, .int uses, .int usesInWindow, .int entriesSoFar, .int dirtySoFar])), (h_rules, .inr (4, [.ref a_vals, .int now])), (a_vals, .inl (E.2.1, 8, .inl vals)), (h_ledger, .inr (1, [.ref h_rules, .ref h_book, .ref h_told, .ref h_written, .ref h_late, .ref a_sums, .ref a_asum])), (h_book, .inr (8, [.int (nI 40), .int (nI 3), .ref a_book, .int s_book])), (a_book, .inl (E.2.1, (40 * 3), .inl f_book)), (h_told, .inr (8, [.int (nI 60), .int (nI 1), .ref a_told, .int s_told])), (a_told, .inl (E.2.1, (60 * 1), .inl f_told)), (h_written, .inr (8, [.int (nI 40), .int (nI 2), .ref a_written, .int s_written])), (a_written, .inl (E.2.1, (40 * 2), .inl f_written)), (h_late, .inr (8, [.int (nI 60), .int (nI 1), .ref a_late, .int s_late])), (a_late, .inl (E.2.1, (60 * 1), .inl f_late)), (a_sums, .inl (E.2.1, 14, .inl sums)), (a_asum, .inl (E.2.1, 64, .inl asum)), (h_entries, .inr (0, [.ref h_rules, .ref h_ents])), (h_ents, .inr (8, [.int (nI 200), .int (nI 9), .ref a_ents, .int s_ents])), (a_ents, .inl (E.2.1, (200 * 9), .inl f_ents)), (h_cold, .inr (0, [.ref h_rules, .ref h_colds])), (h_colds, .inr (8, [.int (nI 20), .int (nI 9), .ref a_colds, .int s_colds])), (a_colds, .inl (E.2.1, (20 * 9), .inl f_colds)), (h_sketch, .inr (6, [.ref a_cnt])), (a_cnt, .inl (E.2.1, 64, .inl cnt))] H locs := w.sub [0, 18, 19, 1, 2, 3, 4, 5, 6, 7, 8, 9, 10, 11, 17, 20, 21, 12, 13, 14, 15, 16] (by decide) rfl
  refine lv_istore_n (lv' := [(3, .int o_1), (0, .ref h), (1, .int x1), (2, .int x2)]) hx hb dX6_letGo_10 rfl hl (by decide) rfl (fun ls hl => ?_)
  refine lv_aload_n hx hb dX6_letGo_11 rfl (lv_at hl 1 rfl) ?_
  refine mx_get B w 0 fl_X6_24 rfl rfl dX6_letGo_12 ?_
  refine lv_iload_n hx hb dX6_letGo_15 rfl (lv_at hl 2 rfl) ?_
  obtain ⟨o_2, hq, hf⟩ := bd_e hf
  refine mx_callV (As := [.int x1]) (rest := []) (wr := [(h, .inr (5, [.ref h_rules, .ref h_ledger, .ref h_entries, .ref h_cold, .ref h_sketch, .int uses, .int usesInWindow, .int entriesSoFar, .int dirtySoFar])), (h_ledger, .inr (1, [.ref h_rules, .ref h_book, .ref h_told, .ref h_written, .ref h_late, .ref a_sums, .ref a_asum])), (h_book, .inr (8, [.int (nI 40), .int (nI 3), .ref a_book, .int s_book])), (a_book, .inl (E.2.1, (40 * 3), .inl f_book)), (h_told, .inr (8, [.int (nI 60), .int (nI 1), .ref a_told, .int s_told])), (a_told, .inl (E.2.1, (60 * 1), .inl f_told)), (h_written, .inr (8, [.int (nI 40), .int (nI 2), .ref a_written, .int s_written])), (a_written, .inl (E.2.1, (40 * 2), .inl f_written)), (h_late, .inr (8, [.int (nI 60), .int (nI 1), .ref a_late, .int s_late])), (a_late, .inl (E.2.1, (60 * 1), .inl f_late)), (a_sums, .inl (E.2.1, 14, .inl sums)), (a_asum, .inl (E.2.1, 64, .inl asum)), (h_cold, .inr (0, [.ref h_rules, .ref h_colds])), (h_colds, .inr (8, [.int (nI 20), .int (nI 9), .ref a_colds, .int s_colds])), (a_colds, .inl (E.2.1, (20 * 9), .inl f_colds)), (h_sketch, .inr (6, [.ref a_cnt])), (a_cnt, .inl (E.2.1, 64, .inl cnt))]) (d_X0_isDirty E l  h_entries h_rules a_vals h_ents a_ents 200 vals now ents s_ents f_ents x1 ok_ents o_2 hq) B w [14, 1, 2, 15, 16] [0, 3, 4, 5, 6, 7, 8, 9, 10, 11, 12, 13, 17, 18, 19, 20, 21] rfl rfl (by decide) (by decide) (by decide) 14 rfl rfl cv_X0_isDirty kw_426 1 (by decide +kernel) ⟨Nat.le_of_ble_eq_true rfl, Nat.le_of_ble_eq_true rfl⟩ rfl hl.1 rfl (Nat.le_of_ble_eq_true rfl) dX6_letGo_16 rfl rfl ⟨Nat.zero_le _, Nat.zero_le _⟩ (fun v w' H locs hpo w => ?_)
  clear hq
  obtain ⟨rfl, rfl⟩ := hpo
  have w : mW E A s [(h, .inr (5, [.ref h_rules, .ref h_ledger, .ref h_entries, .ref h_cold, .ref h_sketch, .int uses, .int usesInWindow, .int entriesSoFar, .int dirtySoFar])), (h_rules, .inr (4, [.ref a_vals, .int now])), (a_vals, .inl (E.2.1, 8, .inl vals)), (h_ledger, .inr (1, [.ref h_rules, .ref h_book, .ref h_told, .ref h_written, .ref h_late, .ref a_sums, .ref a_asum])), (h_book, .inr (8, [.int (nI 40), .int (nI 3), .ref a_book, .int s_book])), (a_book, .inl (E.2.1, (40 * 3), .inl f_book)), (h_told, .inr (8, [.int (nI 60), .int (nI 1), .ref a_told, .int s_told])), (a_told, .inl (E.2.1, (60 * 1), .inl f_told)), (h_written, .inr (8, [.int (nI 40), .int (nI 2), .ref a_written, .int s_written])), (a_written, .inl (E.2.1, (40 * 2), .inl f_written)), (h_late, .inr (8, [.int (nI 60), .int (nI 1), .ref a_late, .int s_late])), (a_late, .inl (E.2.1, (60 * 1), .inl f_late)), (a_sums, .inl (E.2.1, 14, .inl sums)), (a_asum, .inl (E.2.1, 64, .inl asum)), (h_entries, .inr (0, [.ref h_rules, .ref h_ents])), (h_ents, .inr (8, [.int (nI 200), .int (nI 9), .ref a_ents, .int s_ents])), (a_ents, .inl (E.2.1, (200 * 9), .inl f_ents)), (h_cold, .inr (0, [.ref h_rules, .ref h_colds])), (h_colds, .inr (8, [.int (nI 20), .int (nI 9), .ref a_colds, .int s_colds])), (a_colds, .inl (E.2.1, (20 * 9), .inl f_colds)), (h_sketch, .inr (6, [.ref a_cnt])), (a_cnt, .inl (E.2.1, 64, .inl cnt))] H locs := w.sub [0, 18, 19, 1, 2, 3, 4, 5, 6, 7, 8, 9, 10, 11, 17, 20, 21, 12, 13, 14, 15, 16] (by decide) rfl
  refine lv_if_eq (tgt := 39) hx hb dX6_letGo_19 (by decide) (fun hc => ?_) (fun hc => ?_)
  · have hf := it_t hc hf
    exact j_X6_letGo_39 B   hf ok_book ok_told ok_written ok_late ok_ents ok_colds w (lv_sub hl [1, 2, 3, 0] rfl)
  · have hf := it_f hc hf
    refine lv_aload_n hx hb dX6_letGo_22 rfl (lv_at hl 1 rfl) ?_
    refine mx_get B w 0 fl_X6_15 rfl rfl dX6_letGo_23 ?_
    refine lv_iload_n hx hb dX6_letGo_26 rfl (lv_at hl 0 rfl) ?_
    refine lv_aload_n hx hb dX6_letGo_27 rfl (lv_at hl 1 rfl) ?_
    refine mx_get B w 0 fl_X6_24 rfl rfl dX6_letGo_28 ?_
    refine lv_iload_n hx hb dX6_letGo_31 rfl (lv_at hl 2 rfl) ?_
    refine lv_iconst (v := 0) hx hb dX6_letGo_32 (by decide) ?_
    obtain ⟨o_9, hq, hf⟩ := bd_e hf
    refine mx_callV (As := [.int x1, .int 0]) (rest := [.int o_1, .ref h_ledger]) (wr := [(h, .inr (5, [.ref h_rules, .ref h_ledger, .ref h_entries, .ref h_cold, .ref h_sketch, .int uses, .int usesInWindow, .int entriesSoFar, .int dirtySoFar])), (h_ledger, .inr (1, [.ref h_rules, .ref h_book, .ref h_told, .ref h_written, .ref h_late, .ref a_sums, .ref a_asum])), (h_book, .inr (8, [.int (nI 40), .int (nI 3), .ref a_book, .int s_book])), (a_book, .inl (E.2.1, (40 * 3), .inl f_book)), (h_told, .inr (8, [.int (nI 60), .int (nI 1), .ref a_told, .int s_told])), (a_told, .inl (E.2.1, (60 * 1), .inl f_told)), (h_written, .inr (8, [.int (nI 40), .int (nI 2), .ref a_written, .int s_written])), (a_written, .inl (E.2.1, (40 * 2), .inl f_written)), (h_late, .inr (8, [.int (nI 60), .int (nI 1), .ref a_late, .int s_late])), (a_late, .inl (E.2.1, (60 * 1), .inl f_late)), (a_sums, .inl (E.2.1, 14, .inl sums)), (a_asum, .inl (E.2.1, 64, .inl asum)), (h_cold, .inr (0, [.ref h_rules, .ref h_colds])), (h_colds, .inr (8, [.int (nI 20), .int (nI 9), .ref a_colds, .int s_colds])), (a_colds, .inl (E.2.1, (20 * 9), .inl f_colds)), (h_sketch, .inr (6, [.ref a_cnt])), (a_cnt, .inl (E.2.1, 64, .inl cnt))]) (d_X0_get E l  h_entries h_rules a_vals h_ents a_ents 200 vals now ents s_ents f_ents x1 0 ok_ents o_9 hq) B w [14, 1, 2, 15, 16] [0, 3, 4, 5, 6, 7, 8, 9, 10, 11, 12, 13, 17, 18, 19, 20, 21] rfl rfl (by decide) (by decide) (by decide) 14 rfl rfl cv_X0_get kw_393 2 (by decide +kernel) ⟨Nat.le_of_ble_eq_true rfl, Nat.le_of_ble_eq_true rfl⟩ rfl hl.1 rfl (Nat.le_of_ble_eq_true rfl) dX6_letGo_33 rfl rfl ⟨Nat.zero_le _, Nat.zero_le _⟩ (fun v w' H locs hpo w => ?_)
    clear hq
    obtain ⟨rfl, rfl⟩ := hpo
    have w : mW E A s [(h, .inr (5, [.ref h_rules, .ref h_ledger, .ref h_entries, .ref h_cold, .ref h_sketch, .int uses, .int usesInWindow, .int entriesSoFar, .int dirtySoFar])), (h_rules, .inr (4, [.ref a_vals, .int now])), (a_vals, .inl (E.2.1, 8, .inl vals)), (h_ledger, .inr (1, [.ref h_rules, .ref h_book, .ref h_told, .ref h_written, .ref h_late, .ref a_sums, .ref a_asum])), (h_book, .inr (8, [.int (nI 40), .int (nI 3), .ref a_book, .int s_book])), (a_book, .inl (E.2.1, (40 * 3), .inl f_book)), (h_told, .inr (8, [.int (nI 60), .int (nI 1), .ref a_told, .int s_told])), (a_told, .inl (E.2.1, (60 * 1), .inl f_told)), (h_written, .inr (8, [.int (nI 40), .int (nI 2), .ref a_written, .int s_written])), (a_written, .inl (E.2.1, (40 * 2), .inl f_written)), (h_late, .inr (8, [.int (nI 60), .int (nI 1), .ref a_late, .int s_late])), (a_late, .inl (E.2.1, (60 * 1), .inl f_late)), (a_sums, .inl (E.2.1, 14, .inl sums)), (a_asum, .inl (E.2.1, 64, .inl asum)), (h_entries, .inr (0, [.ref h_rules, .ref h_ents])), (h_ents, .inr (8, [.int (nI 200), .int (nI 9), .ref a_ents, .int s_ents])), (a_ents, .inl (E.2.1, (200 * 9), .inl f_ents)), (h_cold, .inr (0, [.ref h_rules, .ref h_colds])), (h_colds, .inr (8, [.int (nI 20), .int (nI 9), .ref a_colds, .int s_colds])), (a_colds, .inl (E.2.1, (20 * 9), .inl f_colds)), (h_sketch, .inr (6, [.ref a_cnt])), (a_cnt, .inl (E.2.1, 64, .inl cnt))] H locs := w.sub [0, 18, 19, 1, 2, 3, 4, 5, 6, 7, 8, 9, 10, 11, 17, 20, 21, 12, 13, 14, 15, 16] (by decide) rfl
    obtain ⟨o_10, hq, hf⟩ := bd_e hf
    refine mx_callV (As := [.int o_1, .int o_9]) (rest := []) (wr := [(h, .inr (5, [.ref h_rules, .ref h_ledger, .ref h_entries, .ref h_cold, .ref h_sketch, .int uses, .int usesInWindow, .int entriesSoFar, .int dirtySoFar])), (h_entries, .inr (0, [.ref h_rules, .ref h_ents])), (h_ents, .inr (8, [.int (nI 200), .int (nI 9), .ref a_ents, .int s_ents])), (a_ents, .inl (E.2.1, (200 * 9), .inl f_ents)), (h_cold, .inr (0, [.ref h_rules, .ref h_colds])), (h_colds, .inr (8, [.int (nI 20), .int (nI 9), .ref a_colds, .int s_colds])), (a_colds, .inl (E.2.1, (20 * 9), .inl f_colds)), (h_sketch, .inr (6, [.ref a_cnt])), (a_cnt, .inl (E.2.1, 64, .inl cnt))]) (d_X2_noteWritten E l N h_ledger h_rules a_vals h_book a_book h_told a_told h_written a_written h_late a_late a_sums a_asum vals now book told written late sums asum s_book f_book s_told f_told s_written f_written s_late f_late o_1 o_9 ok_book ok_told ok_written ok_late o_10 hq) B w [3, 1, 2, 4, 5, 6, 7, 8, 9, 10, 11, 12, 13] [0, 14, 15, 16, 17, 18, 19, 20, 21] rfl rfl (by decide) (by decide) (by decide) 3 rfl rfl cv_X2_noteWritten kw_430 2 (by decide +kernel) ⟨Nat.le_of_ble_eq_true rfl, Nat.le_of_ble_eq_true rfl⟩ rfl hl.1 rfl (Nat.le_of_ble_eq_true rfl) dX6_letGo_36 rfl rfl ⟨Nat.zero_le _, Nat.zero_le _⟩ (fun v w' H locs hpo w => ?_)
    clear hq
    obtain ⟨s_book_11, f_book_12, s_written_13, f_written_14, ok_book, ok_written, rfl, rfl⟩ := hpo
    have w : mW E A s [(h, .inr (5, [.ref h_rules, .ref h_ledger, .ref h_entries, .ref h_cold, .ref h_sketch, .int uses, .int usesInWindow, .int entriesSoFar, .int dirtySoFar])), (h_rules, .inr (4, [.ref a_vals, .int now])), (a_vals, .inl (E.2.1, 8, .inl vals)), (h_ledger, .inr (1, [.ref h_rules, .ref h_book, .ref h_told, .ref h_written, .ref h_late, .ref a_sums, .ref a_asum])), (h_book, .inr (8, [.int (nI 40), .int (nI 3), .ref a_book, .int s_book_11])), (a_book, .inl (E.2.1, (40 * 3), .inl f_book_12)), (h_told, .inr (8, [.int (nI 60), .int (nI 1), .ref a_told, .int s_told])), (a_told, .inl (E.2.1, (60 * 1), .inl f_told)), (h_written, .inr (8, [.int (nI 40), .int (nI 2), .ref a_written, .int s_written_13])), (a_written, .inl (E.2.1, (40 * 2), .inl f_written_14)), (h_late, .inr (8, [.int (nI 60), .int (nI 1), .ref a_late, .int s_late])), (a_late, .inl (E.2.1, (60 * 1), .inl f_late)), (a_sums, .inl (E.2.1, 14, .inl o_10.2.2)), (a_asum, .inl (E.2.1, 64, .inl asum)), (h_entries, .inr (0, [.ref h_rules, .ref h_ents])), (h_ents, .inr (8, [.int (nI 200), .int (nI 9), .ref a_ents, .int s_ents])), (a_ents, .inl (E.2.1, (200 * 9), .inl f_ents)), (h_cold, .inr (0, [.ref h_rules, .ref h_colds])), (h_colds, .inr (8, [.int (nI 20), .int (nI 9), .ref a_colds, .int s_colds])), (a_colds, .inl (E.2.1, (20 * 9), .inl f_colds)), (h_sketch, .inr (6, [.ref a_cnt])), (a_cnt, .inl (E.2.1, 64, .inl cnt))] H locs := w.sub [0, 10, 11, 9, 12, 13, 14, 15, 16, 17, 18, 19, 20, 21, 1, 2, 3, 4, 5, 6, 7, 8] (by decide) rfl
    exact j_X6_letGo_39 B   hf ok_book ok_told ok_written ok_late ok_ents ok_colds w (lv_sub hl [1, 2, 3, 0] rfl)
-- X6_makePlace
def po_X6_makePlace (E : mE) (h : Nat) (h_rules : Nat) (a_vals : Nat) (h_ledger : Nat) (h_book : Nat) (a_book : Nat) (h_told : Nat) (a_told : Nat) (h_written : Nat) (a_written : Nat) (h_late : Nat) (a_late : Nat) (a_sums : Nat) (a_asum : Nat) (h_entries : Nat) (h_ents : Nat) (a_ents : Nat) (h_cold : Nat) (h_colds : Nat) (a_colds : Nat) (h_sketch : Nat) (a_cnt : Nat)  (vals : Nat → Int32) (now : Int32) (book : Rows) (told : Rows) (written : Rows) (late : Rows) (sums : Nat → Int32) (asum : Nat → Int32) (ents : Rows) (colds : Rows) (cnt : Nat → Int32) (uses : Int32) (usesInWindow : Int32) (entriesSoFar : Int32) (dirtySoFar : Int32) (s_book : Int32) (f_book : Nat → Int32) (s_told : Int32) (f_told : Nat → Int32) (s_written : Int32) (f_written : Nat → Int32) (s_late : Int32) (f_late : Nat → Int32) (s_ents : Int32) (f_ents : Nat → Int32) (s_colds : Int32) (f_colds : Nat → Int32) (o : Rows × Rows × (Nat → Int32) × Rows × Rows) : Option Value → va_W → Prop := (fun (v : Option Value) (w' : va_W) => ∃ (s_book' : Int32) (f_book' : Nat → Int32) (s_written' : Int32) (f_written' : Nat → Int32) (s_ents' : Int32) (f_ents' : Nat → Int32) (s_colds' : Int32) (f_colds' : Nat → Int32), tb_ok 40 3 o.1 s_book' f_book' ∧ tb_ok 40 2 o.2.1 s_written' f_written' ∧ tb_ok 200 9 o.2.2.2.1 s_ents' f_ents' ∧ tb_ok 20 9 o.2.2.2.2 s_colds' f_colds' ∧ v = none ∧ w' = [(h, .inr (5, [.ref h_rules, .ref h_ledger, .ref h_entries, .ref h_cold, .ref h_sketch, .int uses, .int usesInWindow, .int entriesSoFar, .int dirtySoFar])), (h_rules, .inr (4, [.ref a_vals, .int now])), (a_vals, .inl (E.2.1, 8, .inl vals)), (h_ledger, .inr (1, [.ref h_rules, .ref h_book, .ref h_told, .ref h_written, .ref h_late, .ref a_sums, .ref a_asum])), (h_book, .inr (8, [.int (nI 40), .int (nI 3), .ref a_book, .int s_book'])), (a_book, .inl (E.2.1, (40 * 3), .inl f_book')), (h_told, .inr (8, [.int (nI 60), .int (nI 1), .ref a_told, .int s_told])), (a_told, .inl (E.2.1, (60 * 1), .inl f_told)), (h_written, .inr (8, [.int (nI 40), .int (nI 2), .ref a_written, .int s_written'])), (a_written, .inl (E.2.1, (40 * 2), .inl f_written')), (h_late, .inr (8, [.int (nI 60), .int (nI 1), .ref a_late, .int s_late])), (a_late, .inl (E.2.1, (60 * 1), .inl f_late)), (a_sums, .inl (E.2.1, 14, .inl o.2.2.1)), (a_asum, .inl (E.2.1, 64, .inl asum)), (h_entries, .inr (0, [.ref h_rules, .ref h_ents])), (h_ents, .inr (8, [.int (nI 200), .int (nI 9), .ref a_ents, .int s_ents'])), (a_ents, .inl (E.2.1, (200 * 9), .inl f_ents')), (h_cold, .inr (0, [.ref h_rules, .ref h_colds])), (h_colds, .inr (8, [.int (nI 20), .int (nI 9), .ref a_colds, .int s_colds'])), (a_colds, .inl (E.2.1, (20 * 9), .inl f_colds')), (h_sketch, .inr (6, [.ref a_cnt])), (a_cnt, .inl (E.2.1, 64, .inl cnt))])
noncomputable def J_X6_makePlace_59 (N : Nat)  (rec : Int32 → Rows → Rows → (Nat → Int32) → Rows → Rows → (Option (Rows × Rows × (Nat → Int32) × Rows × Rows))) (k73 : Rows → Rows → (Nat → Int32) → Rows → Rows → (Option (Rows × Rows × (Nat → Int32) × Rows × Rows))) (k40 : Rows → Rows → (Nat → Int32) → Rows → Rows → (Option (Rows × Rows × (Nat → Int32) × Rows × Rows))) (x1 : Int32) (x2 : Int32) (x3 : Int32) (x4 : Int32) (vals : Nat → Int32) (now : Int32) (book : Rows) (written : Rows) (sums : Nat → Int32) (ents : Rows) (colds : Rows) : Option (Rows × Rows × (Nat → Int32) × Rows × Rows) :=
  bd (F_X6_letGo N now book written sums ents x4 7) (fun o_5 =>
  lt (x3 + (-1)) (fun x3_12 =>
  rec x3_12 o_5.1 o_5.2.1 o_5.2.2.1 o_5.2.2.2 colds))
set_option maxHeartbeats 4000000 in
set_option maxRecDepth 100000 in
theorem j_X6_makePlace_59 {E : mE} {l : Launch} {p : Program} {e : Env} {s : State} {m : MethodId} {args : Array Value} {below : List Frame} {meth : Method} {c : Code} {A : Nat → Prop} {Q : State → Prop} {N : Nat} {h : Nat} {h_rules : Nat} {a_vals : Nat} {h_ledger : Nat} {h_book : Nat} {a_book : Nat} {h_told : Nat} {a_told : Nat} {h_written : Nat} {a_written : Nat} {h_late : Nat} {a_late : Nat} {a_sums : Nat} {a_asum : Nat} {h_entries : Nat} {h_ents : Nat} {a_ents : Nat} {h_cold : Nat} {h_colds : Nat} {a_colds : Nat} {h_sketch : Nat} {a_cnt : Nat}  {vals : Nat → Int32} {now : Int32} {book0 : Rows} {told : Rows} {written0 : Rows} {late : Rows} {sums0 : Nat → Int32} {asum : Nat → Int32} {ents0 : Rows} {colds0 : Rows} {cnt : Nat → Int32} {uses : Int32} {usesInWindow : Int32} {entriesSoFar : Int32} {dirtySoFar : Int32} {s_book0 : Int32} {f_book0 : Nat → Int32} {s_told : Int32} {f_told : Nat → Int32} {s_written0 : Int32} {f_written0 : Nat → Int32} {s_late : Int32} {f_late : Nat → Int32} {s_ents0 : Int32} {f_ents0 : Nat → Int32} {s_colds0 : Int32} {f_colds0 : Nat → Int32} {o : Rows × Rows × (Nat → Int32) × Rows × Rows} (B : mB E yX6_makePlace cX6_makePlace 5 none 0 0 (po_X6_makePlace E h h_rules a_vals h_ledger h_book a_book h_told a_told h_written a_written h_late a_late a_sums a_asum h_entries h_ents a_ents h_cold h_colds a_colds h_sketch a_cnt vals now book0 told written0 late sums0 asum ents0 colds0 cnt uses usesInWindow entriesSoFar dirtySoFar s_book0 f_book0 s_told f_told s_written0 f_written0 s_late f_late s_ents0 f_ents0 s_colds0 f_colds0 o) p s m args below meth c A Q) {x1 : Int32} {x2 : Int32} {x3 : Int32} {x4 : Int32} {book : Rows} {written : Rows} {sums : Nat → Int32} {ents : Rows} {colds : Rows} {s_book : Int32} {f_book : Nat → Int32} {s_written : Int32} {f_written : Nat → Int32} {s_ents : Int32} {f_ents : Nat → Int32} {s_colds : Int32} {f_colds : Nat → Int32} (rec : Int32 → Rows → Rows → (Nat → Int32) → Rows → Rows → (Option (Rows × Rows × (Nat → Int32) × Rows × Rows))) (k73 : Rows → Rows → (Nat → Int32) → Rows → Rows → (Option (Rows × Rows × (Nat → Int32) × Rows × Rows))) (k40 : Rows → Rows → (Nat → Int32) → Rows → Rows → (Option (Rows × Rows × (Nat → Int32) × Rows × Rows))) (hrec : ∀ (x3 : Int32) (book : Rows) (written : Rows) (sums : Nat → Int32) (ents : Rows) (colds : Rows) (s_book : Int32) (f_book : Nat → Int32) (s_written : Int32) (f_written : Nat → Int32) (s_ents : Int32) (f_ents : Nat → Int32) (s_colds : Int32) (f_colds : Nat → Int32) (H : Heap) (locs : List Loc) (ls : Array Slot), rec x3 book written sums ents colds = some o → tb_ok 40 3 book s_book f_book → tb_ok 40 2 written s_written f_written → tb_ok 200 9 ents s_ents f_ents → tb_ok 20 9 colds s_colds f_colds → mW E A s [(h, .inr (5, [.ref h_rules, .ref h_ledger, .ref h_entries, .ref h_cold, .ref h_sketch, .int uses, .int usesInWindow, .int entriesSoFar, .int dirtySoFar])), (h_rules, .inr (4, [.ref a_vals, .int now])), (a_vals, .inl (E.2.1, 8, .inl vals)), (h_ledger, .inr (1, [.ref h_rules, .ref h_book, .ref h_told, .ref h_written, .ref h_late, .ref a_sums, .ref a_asum])), (h_book, .inr (8, [.int (nI 40), .int (nI 3), .ref a_book, .int s_book])), (a_book, .inl (E.2.1, (40 * 3), .inl f_book)), (h_told, .inr (8, [.int (nI 60), .int (nI 1), .ref a_told, .int s_told])), (a_told, .inl (E.2.1, (60 * 1), .inl f_told)), (h_written, .inr (8, [.int (nI 40), .int (nI 2), .ref a_written, .int s_written])), (a_written, .inl (E.2.1, (40 * 2), .inl f_written)), (h_late, .inr (8, [.int (nI 60), .int (nI 1), .ref a_late, .int s_late])), (a_late, .inl (E.2.1, (60 * 1), .inl f_late)), (a_sums, .inl (E.2.1, 14, .inl sums)), (a_asum, .inl (E.2.1, 64, .inl asum)), (h_entries, .inr (0, [.ref h_rules, .ref h_ents])), (h_ents, .inr (8, [.int (nI 200), .int (nI 9), .ref a_ents, .int s_ents])), (a_ents, .inl (E.2.1, (200 * 9), .inl f_ents)), (h_cold, .inr (0, [.ref h_rules, .ref h_colds])), (h_colds, .inr (8, [.int (nI 20), .int (nI 9), .ref a_colds, .int s_colds])), (a_colds, .inl (E.2.1, (20 * 9), .inl f_colds)), (h_sketch, .inr (6, [.ref a_cnt])), (a_cnt, .inl (E.2.1, 64, .inl cnt))] H locs → lv_has ls 5 [(0, .ref h), (1, .int x1), (2, .int x2), (3, .int x3)] → W p l e ({ frames := 4, cells := 0, slots := 0, locals := 95 } : Room) s m args below meth c H locs 0 0 Q (F0 m 8 ls [])) (hk73 : ∀  (book : Rows) (written : Rows) (sums : Nat → Int32) (ents : Rows) (colds : Rows) (s_book : Int32) (f_book : Nat → Int32) (s_written : Int32) (f_written : Nat → Int32) (s_ents : Int32) (f_ents : Nat → Int32) (s_colds : Int32) (f_colds : Nat → Int32) (H : Heap) (locs : List Loc) (ls : Array Slot), k73 book written sums ents colds = some o → tb_ok 40 3 book s_book f_book → tb_ok 40 2 written s_written f_written → tb_ok 200 9 ents s_ents f_ents → tb_ok 20 9 colds s_colds f_colds → mW E A s [(h, .inr (5, [.ref h_rules, .ref h_ledger, .ref h_entries, .ref h_cold, .ref h_sketch, .int uses, .int usesInWindow, .int entriesSoFar, .int dirtySoFar])), (h_rules, .inr (4, [.ref a_vals, .int now])), (a_vals, .inl (E.2.1, 8, .inl vals)), (h_ledger, .inr (1, [.ref h_rules, .ref h_book, .ref h_told, .ref h_written, .ref h_late, .ref a_sums, .ref a_asum])), (h_book, .inr (8, [.int (nI 40), .int (nI 3), .ref a_book, .int s_book])), (a_book, .inl (E.2.1, (40 * 3), .inl f_book)), (h_told, .inr (8, [.int (nI 60), .int (nI 1), .ref a_told, .int s_told])), (a_told, .inl (E.2.1, (60 * 1), .inl f_told)), (h_written, .inr (8, [.int (nI 40), .int (nI 2), .ref a_written, .int s_written])), (a_written, .inl (E.2.1, (40 * 2), .inl f_written)), (h_late, .inr (8, [.int (nI 60), .int (nI 1), .ref a_late, .int s_late])), (a_late, .inl (E.2.1, (60 * 1), .inl f_late)), (a_sums, .inl (E.2.1, 14, .inl sums)), (a_asum, .inl (E.2.1, 64, .inl asum)), (h_entries, .inr (0, [.ref h_rules, .ref h_ents])), (h_ents, .inr (8, [.int (nI 200), .int (nI 9), .ref a_ents, .int s_ents])), (a_ents, .inl (E.2.1, (200 * 9), .inl f_ents)), (h_cold, .inr (0, [.ref h_rules, .ref h_colds])), (h_colds, .inr (8, [.int (nI 20), .int (nI 9), .ref a_colds, .int s_colds])), (a_colds, .inl (E.2.1, (20 * 9), .inl f_colds)), (h_sketch, .inr (6, [.ref a_cnt])), (a_cnt, .inl (E.2.1, 64, .inl cnt))] H locs → lv_has ls 5 [] → W p l e ({ frames := 4, cells := 0, slots := 0, locals := 95 } : Room) s m args below meth c H locs 0 0 Q (F0 m 73 ls [])) (hk40 : ∀  (book : Rows) (written : Rows) (sums : Nat → Int32) (ents : Rows) (colds : Rows) (s_book : Int32) (f_book : Nat → Int32) (s_written : Int32) (f_written : Nat → Int32) (s_ents : Int32) (f_ents : Nat → Int32) (s_colds : Int32) (f_colds : Nat → Int32) (H : Heap) (locs : List Loc) (ls : Array Slot), k40 book written sums ents colds = some o → tb_ok 40 3 book s_book f_book → tb_ok 40 2 written s_written f_written → tb_ok 200 9 ents s_ents f_ents → tb_ok 20 9 colds s_colds f_colds → mW E A s [(h, .inr (5, [.ref h_rules, .ref h_ledger, .ref h_entries, .ref h_cold, .ref h_sketch, .int uses, .int usesInWindow, .int entriesSoFar, .int dirtySoFar])), (h_rules, .inr (4, [.ref a_vals, .int now])), (a_vals, .inl (E.2.1, 8, .inl vals)), (h_ledger, .inr (1, [.ref h_rules, .ref h_book, .ref h_told, .ref h_written, .ref h_late, .ref a_sums, .ref a_asum])), (h_book, .inr (8, [.int (nI 40), .int (nI 3), .ref a_book, .int s_book])), (a_book, .inl (E.2.1, (40 * 3), .inl f_book)), (h_told, .inr (8, [.int (nI 60), .int (nI 1), .ref a_told, .int s_told])), (a_told, .inl (E.2.1, (60 * 1), .inl f_told)), (h_written, .inr (8, [.int (nI 40), .int (nI 2), .ref a_written, .int s_written])), (a_written, .inl (E.2.1, (40 * 2), .inl f_written)), (h_late, .inr (8, [.int (nI 60), .int (nI 1), .ref a_late, .int s_late])), (a_late, .inl (E.2.1, (60 * 1), .inl f_late)), (a_sums, .inl (E.2.1, 14, .inl sums)), (a_asum, .inl (E.2.1, 64, .inl asum)), (h_entries, .inr (0, [.ref h_rules, .ref h_ents])), (h_ents, .inr (8, [.int (nI 200), .int (nI 9), .ref a_ents, .int s_ents])), (a_ents, .inl (E.2.1, (200 * 9), .inl f_ents)), (h_cold, .inr (0, [.ref h_rules, .ref h_colds])), (h_colds, .inr (8, [.int (nI 20), .int (nI 9), .ref a_colds, .int s_colds])), (a_colds, .inl (E.2.1, (20 * 9), .inl f_colds)), (h_sketch, .inr (6, [.ref a_cnt])), (a_cnt, .inl (E.2.1, 64, .inl cnt))] H locs → lv_has ls 5 [] → W p l e ({ frames := 4, cells := 0, slots := 0, locals := 95 } : Room) s m args below meth c H locs 0 0 Q (F0 m 40 ls [])) {H : Heap} {locs : List Loc} {ls : Array Slot} (hf : J_X6_makePlace_59 N rec k73 k40 x1 x2 x3 x4 vals now book written sums ents colds = some o) (ok_book : tb_ok 40 3 book s_book f_book) (ok_told : tb_ok 60 1 told s_told f_told) (ok_written : tb_ok 40 2 written s_written f_written) (ok_late : tb_ok 60 1 late s_late f_late) (ok_ents : tb_ok 200 9 ents s_ents f_ents) (ok_colds : tb_ok 20 9 colds s_colds f_colds) (w : mW E A s [(h, .inr (5, [.ref h_rules, .ref h_ledger, .ref h_entries, .ref h_cold, .ref h_sketch, .int uses, .int usesInWindow, .int entriesSoFar, .int dirtySoFar])), (h_rules, .inr (4, [.ref a_vals, .int now])), (a_vals, .inl (E.2.1, 8, .inl vals)), (h_ledger, .inr (1, [.ref h_rules, .ref h_book, .ref h_told, .ref h_written, .ref h_late, .ref a_sums, .ref a_asum])), (h_book, .inr (8, [.int (nI 40), .int (nI 3), .ref a_book, .int s_book])), (a_book, .inl (E.2.1, (40 * 3), .inl f_book)), (h_told, .inr (8, [.int (nI 60), .int (nI 1), .ref a_told, .int s_told])), (a_told, .inl (E.2.1, (60 * 1), .inl f_told)), (h_written, .inr (8, [.int (nI 40), .int (nI 2), .ref a_written, .int s_written])), (a_written, .inl (E.2.1, (40 * 2), .inl f_written)), (h_late, .inr (8, [.int (nI 60), .int (nI 1), .ref a_late, .int s_late])), (a_late, .inl (E.2.1, (60 * 1), .inl f_late)), (a_sums, .inl (E.2.1, 14, .inl sums)), (a_asum, .inl (E.2.1, 64, .inl asum)), (h_entries, .inr (0, [.ref h_rules, .ref h_ents])), (h_ents, .inr (8, [.int (nI 200), .int (nI 9), .ref a_ents, .int s_ents])), (a_ents, .inl (E.2.1, (200 * 9), .inl f_ents)), (h_cold, .inr (0, [.ref h_rules, .ref h_colds])), (h_colds, .inr (8, [.int (nI 20), .int (nI 9), .ref a_colds, .int s_colds])), (a_colds, .inl (E.2.1, (20 * 9), .inl f_colds)), (h_sketch, .inr (6, [.ref a_cnt])), (a_cnt, .inl (E.2.1, 64, .inl cnt))] H locs) (hl : lv_has ls 5 [(0, .ref h), (1, .int x1), (2, .int x2), (3, .int x3), (4, .int x4)]) : W p l e ({ frames := 4, cells := 0, slots := 0, locals := 95 } : Room) s m args below meth c H locs 0 0 Q (F0 m 59 ls []) := by
  obtain ⟨hx, hb, hml, hown, hts⟩ := id B.1
  unfold J_X6_makePlace_59 at hf
  refine lv_aload_n hx hb dX6_makePlace_59 rfl (lv_at hl 0 rfl) ?_
  refine lv_iload hx hb dX6_makePlace_60 (lv_at hl 4 rfl) ?_
  refine lv_bipush (v := 7) hx hb dX6_makePlace_62 (by decide) ?_
  obtain ⟨o_5, hq, hf⟩ := bd_e hf
  refine mx_callV (As := [.int x4, .int 7]) (rest := []) (wr := []) (d_X6_letGo E l N h h_rules a_vals h_ledger h_book a_book h_told a_told h_written a_written h_late a_late a_sums a_asum h_entries h_ents a_ents h_cold h_colds a_colds h_sketch a_cnt vals now book told written late sums asum ents colds cnt uses usesInWindow entriesSoFar dirtySoFar s_book f_book s_told f_told s_written f_written s_late f_late s_ents f_ents s_colds f_colds x4 7 ok_book ok_told ok_written ok_late ok_ents ok_colds o_5 hq) B w [0, 1, 2, 3, 4, 5, 6, 7, 8, 9, 10, 11, 12, 13, 14, 15, 16, 17, 18, 19, 20, 21] [] rfl rfl (by decide) (by decide) (by decide) 0 rfl rfl cv_X6_letGo kw_422 2 (by decide +kernel) ⟨Nat.le_of_ble_eq_true rfl, Nat.le_of_ble_eq_true rfl⟩ rfl hl.1 rfl (Nat.le_of_ble_eq_true rfl) dX6_makePlace_64 rfl rfl ⟨Nat.zero_le _, Nat.zero_le _⟩ (fun v w' H locs hpo w => ?_)
  clear hq
  obtain ⟨s_book_6, f_book_7, s_written_8, f_written_9, s_ents_10, f_ents_11, ok_book, ok_written, ok_ents, rfl, rfl⟩ := hpo
  have w : mW E A s [(h, .inr (5, [.ref h_rules, .ref h_ledger, .ref h_entries, .ref h_cold, .ref h_sketch, .int uses, .int usesInWindow, .int entriesSoFar, .int dirtySoFar])), (h_rules, .inr (4, [.ref a_vals, .int now])), (a_vals, .inl (E.2.1, 8, .inl vals)), (h_ledger, .inr (1, [.ref h_rules, .ref h_book, .ref h_told, .ref h_written, .ref h_late, .ref a_sums, .ref a_asum])), (h_book, .inr (8, [.int (nI 40), .int (nI 3), .ref a_book, .int s_book_6])), (a_book, .inl (E.2.1, (40 * 3), .inl f_book_7)), (h_told, .inr (8, [.int (nI 60), .int (nI 1), .ref a_told, .int s_told])), (a_told, .inl (E.2.1, (60 * 1), .inl f_told)), (h_written, .inr (8, [.int (nI 40), .int (nI 2), .ref a_written, .int s_written_8])), (a_written, .inl (E.2.1, (40 * 2), .inl f_written_9)), (h_late, .inr (8, [.int (nI 60), .int (nI 1), .ref a_late, .int s_late])), (a_late, .inl (E.2.1, (60 * 1), .inl f_late)), (a_sums, .inl (E.2.1, 14, .inl o_5.2.2.1)), (a_asum, .inl (E.2.1, 64, .inl asum)), (h_entries, .inr (0, [.ref h_rules, .ref h_ents])), (h_ents, .inr (8, [.int (nI 200), .int (nI 9), .ref a_ents, .int s_ents_10])), (a_ents, .inl (E.2.1, (200 * 9), .inl f_ents_11)), (h_cold, .inr (0, [.ref h_rules, .ref h_colds])), (h_colds, .inr (8, [.int (nI 20), .int (nI 9), .ref a_colds, .int s_colds])), (a_colds, .inl (E.2.1, (20 * 9), .inl f_colds)), (h_sketch, .inr (6, [.ref a_cnt])), (a_cnt, .inl (E.2.1, 64, .inl cnt))] H locs := w
  obtain ⟨x3_12, ev⟩ : ∃ y : Int32, y = x3 + (-1) := ⟨_, rfl⟩
  refine lv_iinc (v := x3_12) (lv' := [(3, .int x3_12), (0, .ref h), (1, .int x1), (2, .int x2), (4, .int x4)]) hx hb dX6_makePlace_67 hl (k := 3) rfl (by rw [ev]; rfl) (by decide) rfl (fun ls hl => ?_)
  have hf := lt_n ev hf; clear ev
  refine lv_goto (tgt := 8) hx hb dX6_makePlace_70 (by decide) ?_
  exact hrec _ _ _ _ _ _ _ _ _ _ _ _ _ _ _ _ _ hf ok_book ok_written ok_ents ok_colds w (lv_sub hl [1, 2, 3, 0] rfl)
noncomputable def K_X6_makePlace_8 (N : Nat)  (rec : Int32 → Rows → Rows → (Nat → Int32) → Rows → Rows → (Option (Rows × Rows × (Nat → Int32) × Rows × Rows))) (k73 : Rows → Rows → (Nat → Int32) → Rows → Rows → (Option (Rows × Rows × (Nat → Int32) × Rows × Rows))) (k40 : Rows → Rows → (Nat → Int32) → Rows → Rows → (Option (Rows × Rows × (Nat → Int32) × Rows × Rows))) (x1 : Int32) (x2 : Int32) (vals : Nat → Int32) (now : Int32) (x3 : Int32) (book : Rows) (written : Rows) (sums : Nat → Int32) (ents : Rows) (colds : Rows) : Option (Rows × Rows × (Nat → Int32) × Rows × Rows) :=
  if (x3 ≤ 0 : Prop) then
  k73 book written sums ents colds
  else
  bd (F_X0_weight N 200 ents) (fun o_2 =>
  if (o_2 ≤ x1 : Prop) then
  k73 book written sums ents colds
  else
  bd (F_X0_nextToGo N 200 vals now ents ((-1)) x2) (fun o_3 =>
  if (o_3 = ((-1)) : Prop) then
  k40 book written sums ents colds
  else
  bd (F_X0_isStale 200 vals now ents o_3) (fun o_4 =>
  if (o_4 = 0 : Prop) then
  bd (F_X6_putOnCold N vals ents colds o_3) (fun o_13 =>
  J_X6_makePlace_59 N rec k73 k40 x1 x2 x3 o_3 vals now book written sums ents o_13)
  else
  J_X6_makePlace_59 N rec k73 k40 x1 x2 x3 o_3 vals now book written sums ents colds)))
noncomputable def L_X6_makePlace_8 (N : Nat)  (k73 : Rows → Rows → (Nat → Int32) → Rows → Rows → (Option (Rows × Rows × (Nat → Int32) × Rows × Rows))) (k40 : Rows → Rows → (Nat → Int32) → Rows → Rows → (Option (Rows × Rows × (Nat → Int32) × Rows × Rows))) (x1 : Int32) (x2 : Int32) (vals : Nat → Int32) (now : Int32) (n : Nat) : Int32 → Rows → Rows → (Nat → Int32) → Rows → Rows → (Option (Rows × Rows × (Nat → Int32) × Rows × Rows)) :=
  Nat.rec (motive := fun _ => Int32 → Rows → Rows → (Nat → Int32) → Rows → Rows → (Option (Rows × Rows × (Nat → Int32) × Rows × Rows))) (fun _ _ _ _ _ _ => none) (fun _ rec => K_X6_makePlace_8 N rec k73 k40 x1 x2 vals now) n
set_option maxHeartbeats 4000000 in
set_option maxRecDepth 100000 in
theorem l_X6_makePlace_8 {E : mE} {l : Launch} {p : Program} {e : Env} {s : State} {m : MethodId} {args : Array Value} {below : List Frame} {meth : Method} {c : Code} {A : Nat → Prop} {Q : State → Prop} {N : Nat} {h : Nat} {h_rules : Nat} {a_vals : Nat} {h_ledger : Nat} {h_book : Nat} {a_book : Nat} {h_told : Nat} {a_told : Nat} {h_written : Nat} {a_written : Nat} {h_late : Nat} {a_late : Nat} {a_sums : Nat} {a_asum : Nat} {h_entries : Nat} {h_ents : Nat} {a_ents : Nat} {h_cold : Nat} {h_colds : Nat} {a_colds : Nat} {h_sketch : Nat} {a_cnt : Nat}  {vals : Nat → Int32} {now : Int32} {book0 : Rows} {told : Rows} {written0 : Rows} {late : Rows} {sums0 : Nat → Int32} {asum : Nat → Int32} {ents0 : Rows} {colds0 : Rows} {cnt : Nat → Int32} {uses : Int32} {usesInWindow : Int32} {entriesSoFar : Int32} {dirtySoFar : Int32} {s_book0 : Int32} {f_book0 : Nat → Int32} {s_told : Int32} {f_told : Nat → Int32} {s_written0 : Int32} {f_written0 : Nat → Int32} {s_late : Int32} {f_late : Nat → Int32} {s_ents0 : Int32} {f_ents0 : Nat → Int32} {s_colds0 : Int32} {f_colds0 : Nat → Int32} {o : Rows × Rows × (Nat → Int32) × Rows × Rows} (B : mB E yX6_makePlace cX6_makePlace 5 none 0 0 (po_X6_makePlace E h h_rules a_vals h_ledger h_book a_book h_told a_told h_written a_written h_late a_late a_sums a_asum h_entries h_ents a_ents h_cold h_colds a_colds h_sketch a_cnt vals now book0 told written0 late sums0 asum ents0 colds0 cnt uses usesInWindow entriesSoFar dirtySoFar s_book0 f_book0 s_told f_told s_written0 f_written0 s_late f_late s_ents0 f_ents0 s_colds0 f_colds0 o) p s m args below meth c A Q)   {x1 : Int32} {x2 : Int32} (k73 : Rows → Rows → (Nat → Int32) → Rows → Rows → (Option (Rows × Rows × (Nat → Int32) × Rows × Rows))) (k40 : Rows → Rows → (Nat → Int32) → Rows → Rows → (Option (Rows × Rows × (Nat → Int32) × Rows × Rows))) (ok_told : tb_ok 60 1 told s_told f_told) (ok_late : tb_ok 60 1 late s_late f_late) (hk73 : ∀  (book : Rows) (written : Rows) (sums : Nat → Int32) (ents : Rows) (colds : Rows) (s_book : Int32) (f_book : Nat → Int32) (s_written : Int32) (f_written : Nat → Int32) (s_ents : Int32) (f_ents : Nat → Int32) (s_colds : Int32) (f_colds : Nat → Int32) (H : Heap) (locs : List Loc) (ls : Array Slot), k73 book written sums ents colds = some o → tb_ok 40 3 book s_book f_book → tb_ok 40 2 written s_written f_written → tb_ok 200 9 ents s_ents f_ents → tb_ok 20 9 colds s_colds f_colds → mW E A s [(h, .inr (5, [.ref h_rules, .ref h_ledger, .ref h_entries, .ref h_cold, .ref h_sketch, .int uses, .int usesInWindow, .int entriesSoFar, .int dirtySoFar])), (h_rules, .inr (4, [.ref a_vals, .int now])), (a_vals, .inl (E.2.1, 8, .inl vals)), (h_ledger, .inr (1, [.ref h_rules, .ref h_book, .ref h_told, .ref h_written, .ref h_late, .ref a_sums, .ref a_asum])), (h_book, .inr (8, [.int (nI 40), .int (nI 3), .ref a_book, .int s_book])), (a_book, .inl (E.2.1, (40 * 3), .inl f_book)), (h_told, .inr (8, [.int (nI 60), .int (nI 1), .ref a_told, .int s_told])), (a_told, .inl (E.2.1, (60 * 1), .inl f_told)), (h_written, .inr (8, [.int (nI 40), .int (nI 2), .ref a_written, .int s_written])), (a_written, .inl (E.2.1, (40 * 2), .inl f_written)), (h_late, .inr (8, [.int (nI 60), .int (nI 1), .ref a_late, .int s_late])), (a_late, .inl (E.2.1, (60 * 1), .inl f_late)), (a_sums, .inl (E.2.1, 14, .inl sums)), (a_asum, .inl (E.2.1, 64, .inl asum)), (h_entries, .inr (0, [.ref h_rules, .ref h_ents])), (h_ents, .inr (8, [.int (nI 200), .int (nI 9), .ref a_ents, .int s_ents])), (a_ents, .inl (E.2.1, (200 * 9), .inl f_ents)), (h_cold, .inr (0, [.ref h_rules, .ref h_colds])), (h_colds, .inr (8, [.int (nI 20), .int (nI 9), .ref a_colds, .int s_colds])), (a_colds, .inl (E.2.1, (20 * 9), .inl f_colds)), (h_sketch, .inr (6, [.ref a_cnt])), (a_cnt, .inl (E.2.1, 64, .inl cnt))] H locs → lv_has ls 5 [] → W p l e ({ frames := 4, cells := 0, slots := 0, locals := 95 } : Room) s m args below meth c H locs 0 0 Q (F0 m 73 ls [])) (hk40 : ∀  (book : Rows) (written : Rows) (sums : Nat → Int32) (ents : Rows) (colds : Rows) (s_book : Int32) (f_book : Nat → Int32) (s_written : Int32) (f_written : Nat → Int32) (s_ents : Int32) (f_ents : Nat → Int32) (s_colds : Int32) (f_colds : Nat → Int32) (H : Heap) (locs : List Loc) (ls : Array Slot), k40 book written sums ents colds = some o → tb_ok 40 3 book s_book f_book → tb_ok 40 2 written s_written f_written → tb_ok 200 9 ents s_ents f_ents → tb_ok 20 9 colds s_colds f_colds → mW E A s [(h, .inr (5, [.ref h_rules, .ref h_ledger, .ref h_entries, .ref h_cold, .ref h_sketch, .int uses, .int usesInWindow, .int entriesSoFar, .int dirtySoFar])), (h_rules, .inr (4, [.ref a_vals, .int now])), (a_vals, .inl (E.2.1, 8, .inl vals)), (h_ledger, .inr (1, [.ref h_rules, .ref h_book, .ref h_told, .ref h_written, .ref h_late, .ref a_sums, .ref a_asum])), (h_book, .inr (8, [.int (nI 40), .int (nI 3), .ref a_book, .int s_book])), (a_book, .inl (E.2.1, (40 * 3), .inl f_book)), (h_told, .inr (8, [.int (nI 60), .int (nI 1), .ref a_told, .int s_told])), (a_told, .inl (E.2.1, (60 * 1), .inl f_told)), (h_written, .inr (8, [.int (nI 40), .int (nI 2), .ref a_written, .int s_written])), (a_written, .inl (E.2.1, (40 * 2), .inl f_written)), (h_late, .inr (8, [.int (nI 60), .int (nI 1), .ref a_late, .int s_late])), (a_late, .inl (E.2.1, (60 * 1), .inl f_late)), (a_sums, .inl (E.2.1, 14, .inl sums)), (a_asum, .inl (E.2.1, 64, .inl asum)), (h_entries, .inr (0, [.ref h_rules, .ref h_ents])), (h_ents, .inr (8, [.int (nI 200), .int (nI 9), .ref a_ents, .int s_ents])), (a_ents, .inl (E.2.1, (200 * 9), .inl f_ents)), (h_cold, .inr (0, [.ref h_rules, .ref h_colds])), (h_colds, .inr (8, [.int (nI 20), .int (nI 9), .ref a_colds, .int s_colds])), (a_colds, .inl (E.2.1, (20 * 9), .inl f_colds)), (h_sketch, .inr (6, [.ref a_cnt])), (a_cnt, .inl (E.2.1, 64, .inl cnt))] H locs → lv_has ls 5 [] → W p l e ({ frames := 4, cells := 0, slots := 0, locals := 95 } : Room) s m args below meth c H locs 0 0 Q (F0 m 40 ls [])) : ∀ n : Nat, ∀ (x3 : Int32) (book : Rows) (written : Rows) (sums : Nat → Int32) (ents : Rows) (colds : Rows) (s_book : Int32) (f_book : Nat → Int32) (s_written : Int32) (f_written : Nat → Int32) (s_ents : Int32) (f_ents : Nat → Int32) (s_colds : Int32) (f_colds : Nat → Int32) (H : Heap) (locs : List Loc) (ls : Array Slot), L_X6_makePlace_8 N k73 k40 x1 x2 vals now n x3 book written sums ents colds = some o → tb_ok 40 3 book s_book f_book → tb_ok 40 2 written s_written f_written → tb_ok 200 9 ents s_ents f_ents → tb_ok 20 9 colds s_colds f_colds → mW E A s [(h, .inr (5, [.ref h_rules, .ref h_ledger, .ref h_entries, .ref h_cold, .ref h_sketch, .int uses, .int usesInWindow, .int entriesSoFar, .int dirtySoFar])), (h_rules, .inr (4, [.ref a_vals, .int now])), (a_vals, .inl (E.2.1, 8, .inl vals)), (h_ledger, .inr (1, [.ref h_rules, .ref h_book, .ref h_told, .ref h_written, .ref h_late, .ref a_sums, .ref a_asum])), (h_book, .inr (8, [.int (nI 40), .int (nI 3), .ref a_book, .int s_book])), (a_book, .inl (E.2.1, (40 * 3), .inl f_book)), (h_told, .inr (8, [.int (nI 60), .int (nI 1), .ref a_told, .int s_told])), (a_told, .inl (E.2.1, (60 * 1), .inl f_told)), (h_written, .inr (8, [.int (nI 40), .int (nI 2), .ref a_written, .int s_written])), (a_written, .inl (E.2.1, (40 * 2), .inl f_written)), (h_late, .inr (8, [.int (nI 60), .int (nI 1), .ref a_late, .int s_late])), (a_late, .inl (E.2.1, (60 * 1), .inl f_late)), (a_sums, .inl (E.2.1, 14, .inl sums)), (a_asum, .inl (E.2.1, 64, .inl asum)), (h_entries, .inr (0, [.ref h_rules, .ref h_ents])), (h_ents, .inr (8, [.int (nI 200), .int (nI 9), .ref a_ents, .int s_ents])), (a_ents, .inl (E.2.1, (200 * 9), .inl f_ents)), (h_cold, .inr (0, [.ref h_rules, .ref h_colds])), (h_colds, .inr (8, [.int (nI 20), .int (nI 9), .ref a_colds, .int s_colds])), (a_colds, .inl (E.2.1, (20 * 9), .inl f_colds)), (h_sketch, .inr (6, [.ref a_cnt])), (a_cnt, .inl (E.2.1, 64, .inl cnt))] H locs → lv_has ls 5 [(0, .ref h), (1, .int x1), (2, .int x2), (3, .int x3)] → W p l e ({ frames := 4, cells := 0, slots := 0, locals := 95 } : Room) s m args below meth c H locs 0 0 Q (F0 m 8 ls []) := by
  obtain ⟨hx, hb, hml, hown, hts⟩ := id B.1
  intro n
  induction n with
  | zero =>
    intro x3 book written sums ents colds s_book f_book s_written f_written s_ents f_ents s_colds f_colds H locs ls hf ok_book ok_written ok_ents ok_colds w hl
    exact nomatch hf
  | succ n hrec =>
    intro x3 book written sums ents colds s_book f_book s_written f_written s_ents f_ents s_colds f_colds H locs ls hf ok_book ok_written ok_ents ok_colds w hl
    have hf : K_X6_makePlace_8 N (L_X6_makePlace_8 N k73 k40 x1 x2 vals now n) k73 k40 x1 x2 vals now x3 book written sums ents colds = some o := hf
    unfold K_X6_makePlace_8 at hf
    refine lv_iload_n hx hb dX6_makePlace_8 rfl (lv_at hl 3 rfl) ?_
    refine lv_if_le (tgt := 73) hx hb dX6_makePlace_9 (by decide) (fun hc => ?_) (fun hc => ?_)
    · have hf := it_t hc hf
      exact hk73 _ _ _ _ _ _ _ _ _ _ _ _ _ _ _ _ hf ok_book ok_written ok_ents ok_colds w (lv_sub hl [] rfl)
    · have hf := it_f hc hf
      refine lv_aload_n hx hb dX6_makePlace_12 rfl (lv_at hl 0 rfl) ?_
      refine mx_get B w 0 fl_X6_24 rfl rfl dX6_makePlace_13 ?_
      obtain ⟨o_2, hq, hf⟩ := bd_e hf
      refine mx_callV (As := []) (rest := []) (wr := [(h, .inr (5, [.ref h_rules, .ref h_ledger, .ref h_entries, .ref h_cold, .ref h_sketch, .int uses, .int usesInWindow, .int entriesSoFar, .int dirtySoFar])), (h_ledger, .inr (1, [.ref h_rules, .ref h_book, .ref h_told, .ref h_written, .ref h_late, .ref a_sums, .ref a_asum])), (h_book, .inr (8, [.int (nI 40), .int (nI 3), .ref a_book, .int s_book])), (a_book, .inl (E.2.1, (40 * 3), .inl f_book)), (h_told, .inr (8, [.int (nI 60), .int (nI 1), .ref a_told, .int s_told])), (a_told, .inl (E.2.1, (60 * 1), .inl f_told)), (h_written, .inr (8, [.int (nI 40), .int (nI 2), .ref a_written, .int s_written])), (a_written, .inl (E.2.1, (40 * 2), .inl f_written)), (h_late, .inr (8, [.int (nI 60), .int (nI 1), .ref a_late, .int s_late])), (a_late, .inl (E.2.1, (60 * 1), .inl f_late)), (a_sums, .inl (E.2.1, 14, .inl sums)), (a_asum, .inl (E.2.1, 64, .inl asum)), (h_cold, .inr (0, [.ref h_rules, .ref h_colds])), (h_colds, .inr (8, [.int (nI 20), .int (nI 9), .ref a_colds, .int s_colds])), (a_colds, .inl (E.2.1, (20 * 9), .inl f_colds)), (h_sketch, .inr (6, [.ref a_cnt])), (a_cnt, .inl (E.2.1, 64, .inl cnt))]) (d_X0_weight E l N h_entries h_rules a_vals h_ents a_ents 200 vals now ents s_ents f_ents  ok_ents o_2 hq) B w [14, 1, 2, 15, 16] [0, 3, 4, 5, 6, 7, 8, 9, 10, 11, 12, 13, 17, 18, 19, 20, 21] rfl rfl (by decide) (by decide) (by decide) 14 rfl rfl cv_X0_weight kw_364 0 (by decide +kernel) ⟨Nat.le_of_ble_eq_true rfl, Nat.le_of_ble_eq_true rfl⟩ rfl hl.1 rfl (Nat.le_of_ble_eq_true rfl) dX6_makePlace_16 rfl rfl ⟨Nat.zero_le _, Nat.zero_le _⟩ (fun v w' H locs hpo w => ?_)
      clear hq
      obtain ⟨rfl, rfl⟩ := hpo
      have w : mW E A s [(h, .inr (5, [.ref h_rules, .ref h_ledger, .ref h_entries, .ref h_cold, .ref h_sketch, .int uses, .int usesInWindow, .int entriesSoFar, .int dirtySoFar])), (h_rules, .inr (4, [.ref a_vals, .int now])), (a_vals, .inl (E.2.1, 8, .inl vals)), (h_ledger, .inr (1, [.ref h_rules, .ref h_book, .ref h_told, .ref h_written, .ref h_late, .ref a_sums, .ref a_asum])), (h_book, .inr (8, [.int (nI 40), .int (nI 3), .ref a_book, .int s_book])), (a_book, .inl (E.2.1, (40 * 3), .inl f_book)), (h_told, .inr (8, [.int (nI 60), .int (nI 1), .ref a_told, .int s_told])), (a_told, .inl (E.2.1, (60 * 1), .inl f_told)), (h_written, .inr (8, [.int (nI 40), .int (nI 2), .ref a_written, .int s_written])), (a_written, .inl (E.2.1, (40 * 2), .inl f_written)), (h_late, .inr (8, [.int (nI 60), .int (nI 1), .ref a_late, .int s_late])), (a_late, .inl (E.2.1, (60 * 1), .inl f_late)), (a_sums, .inl (E.2.1, 14, .inl sums)), (a_asum, .inl (E.2.1, 64, .inl asum)), (h_entries, .inr (0, [.ref h_rules, .ref h_ents])), (h_ents, .inr (8, [.int (nI 200), .int (nI 9), .ref a_ents, .int s_ents])), (a_ents, .inl (E.2.1, (200 * 9), .inl f_ents)), (h_cold, .inr (0, [.ref h_rules, .ref h_colds])), (h_colds, .inr (8, [.int (nI 20), .int (nI 9), .ref a_colds, .int s_colds])), (a_colds, .inl (E.2.1, (20 * 9), .inl f_colds)), (h_sketch, .inr (6, [.ref a_cnt])), (a_cnt, .inl (E.2.1, 64, .inl cnt))] H locs := w.sub [0, 18, 19, 1, 2, 3, 4, 5, 6, 7, 8, 9, 10, 11, 17, 20, 21, 12, 13, 14, 15, 16] (by decide) rfl
      refine lv_iload_n hx hb dX6_makePlace_19 rfl (lv_at hl 1 rfl) ?_
      refine lv_icmp_le (tgt := 73) hx hb dX6_makePlace_20 (by decide) (fun hc => ?_) (fun hc => ?_)
      · have hf := it_t hc hf
        exact hk73 _ _ _ _ _ _ _ _ _ _ _ _ _ _ _ _ hf ok_book ok_written ok_ents ok_colds w (lv_sub hl [] rfl)
      · have hf := it_f hc hf
        refine lv_aload_n hx hb dX6_makePlace_23 rfl (lv_at hl 0 rfl) ?_
        refine mx_get B w 0 fl_X6_24 rfl rfl dX6_makePlace_24 ?_
        refine lv_iconst (v := (-1)) hx hb dX6_makePlace_27 (by decide) ?_
        refine lv_iload_n hx hb dX6_makePlace_28 rfl (lv_at hl 2 rfl) ?_
        obtain ⟨o_3, hq, hf⟩ := bd_e hf
        refine mx_callV (As := [.int ((-1)), .int x2]) (rest := []) (wr := [(h, .inr (5, [.ref h_rules, .ref h_ledger, .ref h_entries, .ref h_cold, .ref h_sketch, .int uses, .int usesInWindow, .int entriesSoFar, .int dirtySoFar])), (h_ledger, .inr (1, [.ref h_rules, .ref h_book, .ref h_told, .ref h_written, .ref h_late, .ref a_sums, .ref a_asum])), (h_book, .inr (8, [.int (nI 40), .int (nI 3), .ref a_book, .int s_book])), (a_book, .inl (E.2.1, (40 * 3), .inl f_book)), (h_told, .inr (8, [.int (nI 60), .int (nI 1), .ref a_told, .int s_told])), (a_told, .inl (E.2.1, (60 * 1), .inl f_told)), (h_written, .inr (8, [.int (nI 40), .int (nI 2), .ref a_written, .int s_written])), (a_written, .inl (E.2.1, (40 * 2), .inl f_written)), (h_late, .inr (8, [.int (nI 60), .int (nI 1), .ref a_late, .int s_late])), (a_late, .inl (E.2.1, (60 * 1), .inl f_late)), (a_sums, .inl (E.2.1, 14, .inl sums)), (a_asum, .inl (E.2.1, 64, .inl asum)), (h_cold, .inr (0, [.ref h_rules, .ref h_colds])), (h_colds, .inr (8, [.int (nI 20), .int (nI 9), .ref a_colds, .int s_colds])), (a_colds, .inl (E.2.1, (20 * 9), .inl f_colds)), (h_sketch, .inr (6, [.ref a_cnt])), (a_cnt, .inl (E.2.1, 64, .inl cnt))]) (d_X0_nextToGo E l N h_entries h_rules a_vals h_ents a_ents 200 vals now ents s_ents f_ents ((-1)) x2 ok_ents o_3 hq) B w [14, 1, 2, 15, 16] [0, 3, 4, 5, 6, 7, 8, 9, 10, 11, 12, 13, 17, 18, 19, 20, 21] rfl rfl (by decide) (by decide) (by decide) 14 rfl rfl cv_X0_nextToGo kw_372 2 (by decide +kernel) ⟨Nat.le_of_ble_eq_true rfl, Nat.le_of_ble_eq_true rfl⟩ rfl hl.1 rfl (Nat.le_of_ble_eq_true rfl) dX6_makePlace_29 rfl rfl ⟨Nat.zero_le _, Nat.zero_le _⟩ (fun v w' H locs hpo w => ?_)
        clear hq
        obtain ⟨rfl, rfl⟩ := hpo
        have w : mW E A s [(h, .inr (5, [.ref h_rules, .ref h_ledger, .ref h_entries, .ref h_cold, .ref h_sketch, .int uses, .int usesInWindow, .int entriesSoFar, .int dirtySoFar])), (h_rules, .inr (4, [.ref a_vals, .int now])), (a_vals, .inl (E.2.1, 8, .inl vals)), (h_ledger, .inr (1, [.ref h_rules, .ref h_book, .ref h_told, .ref h_written, .ref h_late, .ref a_sums, .ref a_asum])), (h_book, .inr (8, [.int (nI 40), .int (nI 3), .ref a_book, .int s_book])), (a_book, .inl (E.2.1, (40 * 3), .inl f_book)), (h_told, .inr (8, [.int (nI 60), .int (nI 1), .ref a_told, .int s_told])), (a_told, .inl (E.2.1, (60 * 1), .inl f_told)), (h_written, .inr (8, [.int (nI 40), .int (nI 2), .ref a_written, .int s_written])), (a_written, .inl (E.2.1, (40 * 2), .inl f_written)), (h_late, .inr (8, [.int (nI 60), .int (nI 1), .ref a_late, .int s_late])), (a_late, .inl (E.2.1, (60 * 1), .inl f_late)), (a_sums, .inl (E.2.1, 14, .inl sums)), (a_asum, .inl (E.2.1, 64, .inl asum)), (h_entries, .inr (0, [.ref h_rules, .ref h_ents])), (h_ents, .inr (8, [.int (nI 200), .int (nI 9), .ref a_ents, .int s_ents])), (a_ents, .inl (E.2.1, (200 * 9), .inl f_ents)), (h_cold, .inr (0, [.ref h_rules, .ref h_colds])), (h_colds, .inr (8, [.int (nI 20), .int (nI 9), .ref a_colds, .int s_colds])), (a_colds, .inl (E.2.1, (20 * 9), .inl f_colds)), (h_sketch, .inr (6, [.ref a_cnt])), (a_cnt, .inl (E.2.1, 64, .inl cnt))] H locs := w.sub [0, 18, 19, 1, 2, 3, 4, 5, 6, 7, 8, 9, 10, 11, 17, 20, 21, 12, 13, 14, 15, 16] (by decide) rfl
        refine lv_istore (lv' := [(4, .int o_3), (0, .ref h), (1, .int x1), (2, .int x2), (3, .int x3)]) hx hb dX6_makePlace_32 hl (by decide) rfl (fun ls hl => ?_)
        refine lv_iload hx hb dX6_makePlace_34 (lv_at hl 0 rfl) ?_
        refine lv_iconst (v := (-1)) hx hb dX6_makePlace_36 (by decide) ?_
        refine lv_icmp_ne (tgt := 41) hx hb dX6_makePlace_37 (by decide) (fun hc => ?_) (fun hc => ?_)
        · have hf := it_f hc hf
          refine lv_aload_n hx hb dX6_makePlace_41 rfl (lv_at hl 1 rfl) ?_
          refine mx_get B w 0 fl_X6_24 rfl rfl dX6_makePlace_42 ?_
          refine lv_iload hx hb dX6_makePlace_45 (lv_at hl 0 rfl) ?_
          obtain ⟨o_4, hq, hf⟩ := bd_e hf
          refine mx_callV (As := [.int o_3]) (rest := []) (wr := [(h, .inr (5, [.ref h_rules, .ref h_ledger, .ref h_entries, .ref h_cold, .ref h_sketch, .int uses, .int usesInWindow, .int entriesSoFar, .int dirtySoFar])), (h_ledger, .inr (1, [.ref h_rules, .ref h_book, .ref h_told, .ref h_written, .ref h_late, .ref a_sums, .ref a_asum])), (h_book, .inr (8, [.int (nI 40), .int (nI 3), .ref a_book, .int s_book])), (a_book, .inl (E.2.1, (40 * 3), .inl f_book)), (h_told, .inr (8, [.int (nI 60), .int (nI 1), .ref a_told, .int s_told])), (a_told, .inl (E.2.1, (60 * 1), .inl f_told)), (h_written, .inr (8, [.int (nI 40), .int (nI 2), .ref a_written, .int s_written])), (a_written, .inl (E.2.1, (40 * 2), .inl f_written)), (h_late, .inr (8, [.int (nI 60), .int (nI 1), .ref a_late, .int s_late])), (a_late, .inl (E.2.1, (60 * 1), .inl f_late)), (a_sums, .inl (E.2.1, 14, .inl sums)), (a_asum, .inl (E.2.1, 64, .inl asum)), (h_cold, .inr (0, [.ref h_rules, .ref h_colds])), (h_colds, .inr (8, [.int (nI 20), .int (nI 9), .ref a_colds, .int s_colds])), (a_colds, .inl (E.2.1, (20 * 9), .inl f_colds)), (h_sketch, .inr (6, [.ref a_cnt])), (a_cnt, .inl (E.2.1, 64, .inl cnt))]) (d_X0_isStale E l  h_entries h_rules a_vals h_ents a_ents 200 vals now ents s_ents f_ents o_3 ok_ents o_4 hq) B w [14, 1, 2, 15, 16] [0, 3, 4, 5, 6, 7, 8, 9, 10, 11, 12, 13, 17, 18, 19, 20, 21] rfl rfl (by decide) (by decide) (by decide) 14 rfl rfl cv_X0_isStale kw_388 1 (by decide +kernel) ⟨Nat.le_of_ble_eq_true rfl, Nat.le_of_ble_eq_true rfl⟩ rfl hl.1 rfl (Nat.le_of_ble_eq_true rfl) dX6_makePlace_47 rfl rfl ⟨Nat.zero_le _, Nat.zero_le _⟩ (fun v w' H locs hpo w => ?_)
          clear hq
          obtain ⟨rfl, rfl⟩ := hpo
          have w : mW E A s [(h, .inr (5, [.ref h_rules, .ref h_ledger, .ref h_entries, .ref h_cold, .ref h_sketch, .int uses, .int usesInWindow, .int entriesSoFar, .int dirtySoFar])), (h_rules, .inr (4, [.ref a_vals, .int now])), (a_vals, .inl (E.2.1, 8, .inl vals)), (h_ledger, .inr (1, [.ref h_rules, .ref h_book, .ref h_told, .ref h_written, .ref h_late, .ref a_sums, .ref a_asum])), (h_book, .inr (8, [.int (nI 40), .int (nI 3), .ref a_book, .int s_book])), (a_book, .inl (E.2.1, (40 * 3), .inl f_book)), (h_told, .inr (8, [.int (nI 60), .int (nI 1), .ref a_told, .int s_told])), (a_told, .inl (E.2.1, (60 * 1), .inl f_told)), (h_written, .inr (8, [.int (nI 40), .int (nI 2), .ref a_written, .int s_written])), (a_written, .inl (E.2.1, (40 * 2), .inl f_written)), (h_late, .inr (8, [.int (nI 60), .int (nI 1), .ref a_late, .int s_late])), (a_late, .inl (E.2.1, (60 * 1), .inl f_late)), (a_sums, .inl (E.2.1, 14, .inl sums)), (a_asum, .inl (E.2.1, 64, .inl asum)), (h_entries, .inr (0, [.ref h_rules, .ref h_ents])), (h_ents, .inr (8, [.int (nI 200), .int (nI 9), .ref a_ents, .int s_ents])), (a_ents, .inl (E.2.1, (200 * 9), .inl f_ents)), (h_cold, .inr (0, [.ref h_rules, .ref h_colds])), (h_colds, .inr (8, [.int (nI 20), .int (nI 9), .ref a_colds, .int s_colds])), (a_colds, .inl (E.2.1, (20 * 9), .inl f_colds)), (h_sketch, .inr (6, [.ref a_cnt])), (a_cnt, .inl (E.2.1, 64, .inl cnt))] H locs := w.sub [0, 18, 19, 1, 2, 3, 4, 5, 6, 7, 8, 9, 10, 11, 17, 20, 21, 12, 13, 14, 15, 16] (by decide) rfl
          refine lv_if_ne (tgt := 59) hx hb dX6_makePlace_50 (by decide) (fun hc => ?_) (fun hc => ?_)
          · have hf := it_f hc hf
            exact j_X6_makePlace_59 B _ _ _ hrec hk73 hk40 hf ok_book ok_told ok_written ok_late ok_ents ok_colds w (lv_sub hl [1, 2, 3, 4, 0] rfl)
          · have hf := it_t hc hf
            refine lv_aload_n hx hb dX6_makePlace_53 rfl (lv_at hl 1 rfl) ?_
            refine lv_iload hx hb dX6_makePlace_54 (lv_at hl 0 rfl) ?_
            obtain ⟨o_13, hq, hf⟩ := bd_e hf
            refine mx_callV (As := [.int o_3]) (rest := []) (wr := []) (d_X6_putOnCold E l N h h_rules a_vals h_ledger h_book a_book h_told a_told h_written a_written h_late a_late a_sums a_asum h_entries h_ents a_ents h_cold h_colds a_colds h_sketch a_cnt vals now book told written late sums asum ents colds cnt uses usesInWindow entriesSoFar dirtySoFar s_book f_book s_told f_told s_written f_written s_late f_late s_ents f_ents s_colds f_colds o_3 ok_book ok_told ok_written ok_late ok_ents ok_colds o_13 hq) B w [0, 1, 2, 3, 4, 5, 6, 7, 8, 9, 10, 11, 12, 13, 14, 15, 16, 17, 18, 19, 20, 21] [] rfl rfl (by decide) (by decide) (by decide) 0 rfl rfl cv_X6_putOnCold kw_389 1 (by decide +kernel) ⟨Nat.le_of_ble_eq_true rfl, Nat.le_of_ble_eq_true rfl⟩ rfl hl.1 rfl (Nat.le_of_ble_eq_true rfl) dX6_makePlace_56 rfl rfl ⟨Nat.zero_le _, Nat.zero_le _⟩ (fun v w' H locs hpo w => ?_)
            clear hq
            obtain ⟨s_colds_14, f_colds_15, ok_colds, rfl, rfl⟩ := hpo
            have w : mW E A s [(h, .inr (5, [.ref h_rules, .ref h_ledger, .ref h_entries, .ref h_cold, .ref h_sketch, .int uses, .int usesInWindow, .int entriesSoFar, .int dirtySoFar])), (h_rules, .inr (4, [.ref a_vals, .int now])), (a_vals, .inl (E.2.1, 8, .inl vals)), (h_ledger, .inr (1, [.ref h_rules, .ref h_book, .ref h_told, .ref h_written, .ref h_late, .ref a_sums, .ref a_asum])), (h_book, .inr (8, [.int (nI 40), .int (nI 3), .ref a_book, .int s_book])), (a_book, .inl (E.2.1, (40 * 3), .inl f_book)), (h_told, .inr (8, [.int (nI 60), .int (nI 1), .ref a_told, .int s_told])), (a_told, .inl (E.2.1, (60 * 1), .inl f_told)), (h_written, .inr (8, [.int (nI 40), .int (nI 2), .ref a_written, .int s_written])), (a_written, .inl (E.2.1, (40 * 2), .inl f_written)), (h_late, .inr (8, [.int (nI 60), .int (nI 1), .ref a_late, .int s_late])), (a_late, .inl (E.2.1, (60 * 1), .inl f_late)), (a_sums, .inl (E.2.1, 14, .inl sums)), (a_asum, .inl (E.2.1, 64, .inl asum)), (h_entries, .inr (0, [.ref h_rules, .ref h_ents])), (h_ents, .inr (8, [.int (nI 200), .int (nI 9), .ref a_ents, .int s_ents])), (a_ents, .inl (E.2.1, (200 * 9), .inl f_ents)), (h_cold, .inr (0, [.ref h_rules, .ref h_colds])), (h_colds, .inr (8, [.int (nI 20), .int (nI 9), .ref a_colds, .int s_colds_14])), (a_colds, .inl (E.2.1, (20 * 9), .inl f_colds_15)), (h_sketch, .inr (6, [.ref a_cnt])), (a_cnt, .inl (E.2.1, 64, .inl cnt))] H locs := w
            exact j_X6_makePlace_59 B _ _ _ hrec hk73 hk40 hf ok_book ok_told ok_written ok_late ok_ents ok_colds w (lv_sub hl [1, 2, 3, 4, 0] rfl)
        · have hf := it_t hc hf
          exact hk40 _ _ _ _ _ _ _ _ _ _ _ _ _ _ _ _ hf ok_book ok_written ok_ents ok_colds w (lv_sub hl [] rfl)
noncomputable def F_X6_makePlace (N : Nat)  (vals : Nat → Int32) (now : Int32) (book : Rows) (written : Rows) (sums : Nat → Int32) (ents : Rows) (colds : Rows) (x1 : Int32) (x2 : Int32) : Option (Rows × Rows × (Nat → Int32) × Rows × Rows) :=
  bd (F_X0_size 200 ents) (fun o_1 =>
  L_X6_makePlace_8 N (fun book written sums ents colds => some (book, written, sums, ents, colds)) (fun book written sums ents colds => some (book, written, sums, ents, colds)) x1 x2 vals now N o_1 book written sums ents colds)
set_option maxHeartbeats 4000000 in
set_option maxRecDepth 100000 in
theorem d_X6_makePlace (E : mE) (l : Launch) (N : Nat) (h : Nat) (h_rules : Nat) (a_vals : Nat) (h_ledger : Nat) (h_book : Nat) (a_book : Nat) (h_told : Nat) (a_told : Nat) (h_written : Nat) (a_written : Nat) (h_late : Nat) (a_late : Nat) (a_sums : Nat) (a_asum : Nat) (h_entries : Nat) (h_ents : Nat) (a_ents : Nat) (h_cold : Nat) (h_colds : Nat) (a_colds : Nat) (h_sketch : Nat) (a_cnt : Nat)  (vals : Nat → Int32) (now : Int32) (book : Rows) (told : Rows) (written : Rows) (late : Rows) (sums : Nat → Int32) (asum : Nat → Int32) (ents : Rows) (colds : Rows) (cnt : Nat → Int32) (uses : Int32) (usesInWindow : Int32) (entriesSoFar : Int32) (dirtySoFar : Int32) (s_book : Int32) (f_book : Nat → Int32) (s_told : Int32) (f_told : Nat → Int32) (s_written : Int32) (f_written : Nat → Int32) (s_late : Int32) (f_late : Nat → Int32) (s_ents : Int32) (f_ents : Nat → Int32) (s_colds : Int32) (f_colds : Nat → Int32) (x1 : Int32) (x2 : Int32) (ok_book : tb_ok 40 3 book s_book f_book) (ok_told : tb_ok 60 1 told s_told f_told) (ok_written : tb_ok 40 2 written s_written f_written) (ok_late : tb_ok 60 1 late s_late f_late) (ok_ents : tb_ok 200 9 ents s_ents f_ents) (ok_colds : tb_ok 20 9 colds s_colds f_colds) (o : Rows × Rows × (Nat → Int32) × Rows × Rows) (hf : F_X6_makePlace N vals now book written sums ents colds x1 x2 = some o) : MX E l yX6_makePlace cX6_makePlace 5 none ({ frames := 4, cells := 0, slots := 0, locals := 95 } : Room) [.ref h, .int x1, .int x2] [(h, .inr (5, [.ref h_rules, .ref h_ledger, .ref h_entries, .ref h_cold, .ref h_sketch, .int uses, .int usesInWindow, .int entriesSoFar, .int dirtySoFar])), (h_rules, .inr (4, [.ref a_vals, .int now])), (a_vals, .inl (E.2.1, 8, .inl vals)), (h_ledger, .inr (1, [.ref h_rules, .ref h_book, .ref h_told, .ref h_written, .ref h_late, .ref a_sums, .ref a_asum])), (h_book, .inr (8, [.int (nI 40), .int (nI 3), .ref a_book, .int s_book])), (a_book, .inl (E.2.1, (40 * 3), .inl f_book)), (h_told, .inr (8, [.int (nI 60), .int (nI 1), .ref a_told, .int s_told])), (a_told, .inl (E.2.1, (60 * 1), .inl f_told)), (h_written, .inr (8, [.int (nI 40), .int (nI 2), .ref a_written, .int s_written])), (a_written, .inl (E.2.1, (40 * 2), .inl f_written)), (h_late, .inr (8, [.int (nI 60), .int (nI 1), .ref a_late, .int s_late])), (a_late, .inl (E.2.1, (60 * 1), .inl f_late)), (a_sums, .inl (E.2.1, 14, .inl sums)), (a_asum, .inl (E.2.1, 64, .inl asum)), (h_entries, .inr (0, [.ref h_rules, .ref h_ents])), (h_ents, .inr (8, [.int (nI 200), .int (nI 9), .ref a_ents, .int s_ents])), (a_ents, .inl (E.2.1, (200 * 9), .inl f_ents)), (h_cold, .inr (0, [.ref h_rules, .ref h_colds])), (h_colds, .inr (8, [.int (nI 20), .int (nI 9), .ref a_colds, .int s_colds])), (a_colds, .inl (E.2.1, (20 * 9), .inl f_colds)), (h_sketch, .inr (6, [.ref a_cnt])), (a_cnt, .inl (E.2.1, 64, .inl cnt))] (po_X6_makePlace E h h_rules a_vals h_ledger h_book a_book h_told a_told h_written a_written h_late a_late a_sums a_asum h_entries h_ents a_ents h_cold h_colds a_colds h_sketch a_cnt vals now book told written late sums asum ents colds cnt uses usesInWindow entriesSoFar dirtySoFar s_book f_book s_told f_told s_written f_written s_late f_late s_ents f_ents s_colds f_colds o) := by
  refine mx_intro (by decide +kernel) (Nat.le_of_ble_eq_true rfl) ?_
  intro p e s m args below meth c A Q ls B w hl
  obtain ⟨hx, hb, hml, hown, hts⟩ := id B.1
  unfold F_X6_makePlace at hf
  have hl : lv_has ls 5 [(0, .ref h), (1, .int x1), (2, .int x2)] := hl
  refine lv_aload_n hx hb dX6_makePlace_0 rfl (lv_at hl 0 rfl) ?_
  refine mx_get B w 0 fl_X6_24 rfl rfl dX6_makePlace_1 ?_
  obtain ⟨o_1, hq, hf⟩ := bd_e hf
  refine mx_callV (As := []) (rest := []) (wr := [(h, .inr (5, [.ref h_rules, .ref h_ledger, .ref h_entries, .ref h_cold, .ref h_sketch, .int uses, .int usesInWindow, .int entriesSoFar, .int dirtySoFar])), (h_ledger, .inr (1, [.ref h_rules, .ref h_book, .ref h_told, .ref h_written, .ref h_late, .ref a_sums, .ref a_asum])), (h_book, .inr (8, [.int (nI 40), .int (nI 3), .ref a_book, .int s_book])), (a_book, .inl (E.2.1, (40 * 3), .inl f_book)), (h_told, .inr (8, [.int (nI 60), .int (nI 1), .ref a_told, .int s_told])), (a_told, .inl (E.2.1, (60 * 1), .inl f_told)), (h_written, .inr (8, [.int (nI 40), .int (nI 2), .ref a_written, .int s_written])), (a_written, .inl (E.2.1, (40 * 2), .inl f_written)), (h_late, .inr (8, [.int (nI 60), .int (nI 1), .ref a_late, .int s_late])), (a_late, .inl (E.2.1, (60 * 1), .inl f_late)), (a_sums, .inl (E.2.1, 14, .inl sums)), (a_asum, .inl (E.2.1, 64, .inl asum)), (h_cold, .inr (0, [.ref h_rules, .ref h_colds])), (h_colds, .inr (8, [.int (nI 20), .int (nI 9), .ref a_colds, .int s_colds])), (a_colds, .inl (E.2.1, (20 * 9), .inl f_colds)), (h_sketch, .inr (6, [.ref a_cnt])), (a_cnt, .inl (E.2.1, 64, .inl cnt))]) (d_X0_size E l  h_entries h_rules a_vals h_ents a_ents 200 vals now ents s_ents f_ents  ok_ents o_1 hq) B w [14, 1, 2, 15, 16] [0, 3, 4, 5, 6, 7, 8, 9, 10, 11, 12, 13, 17, 18, 19, 20, 21] rfl rfl (by decide) (by decide) (by decide) 14 rfl rfl cv_X0_size kw_356 0 (by decide +kernel) ⟨Nat.le_of_ble_eq_true rfl, Nat.le_of_ble_eq_true rfl⟩ rfl hl.1 rfl (Nat.le_of_ble_eq_true rfl) dX6_makePlace_4 rfl rfl ⟨Nat.zero_le _, Nat.zero_le _⟩ (fun v w' H locs hpo w => ?_)
  clear hq
  obtain ⟨rfl, rfl⟩ := hpo
  have w : mW E A s [(h, .inr (5, [.ref h_rules, .ref h_ledger, .ref h_entries, .ref h_cold, .ref h_sketch, .int uses, .int usesInWindow, .int entriesSoFar, .int dirtySoFar])), (h_rules, .inr (4, [.ref a_vals, .int now])), (a_vals, .inl (E.2.1, 8, .inl vals)), (h_ledger, .inr (1, [.ref h_rules, .ref h_book, .ref h_told, .ref h_written, .ref h_late, .ref a_sums, .ref a_asum])), (h_book, .inr (8, [.int (nI 40), .int (nI 3), .ref a_book, .int s_book])), (a_book, .inl (E.2.1, (40 * 3), .inl f_book)), (h_told, .inr (8, [.int (nI 60), .int (nI 1), .ref a_told, .int s_told])), (a_told, .inl (E.2.1, (60 * 1), .inl f_told)), (h_written, .inr (8, [.int (nI 40), .int (nI 2), .ref a_written, .int s_written])), (a_written, .inl (E.2.1, (40 * 2), .inl f_written)), (h_late, .inr (8, [.int (nI 60), .int (nI 1), .ref a_late, .int s_late])), (a_late, .inl (E.2.1, (60 * 1), .inl f_late)), (a_sums, .inl (E.2.1, 14, .inl sums)), (a_asum, .inl (E.2.1, 64, .inl asum)), (h_entries, .inr (0, [.ref h_rules, .ref h_ents])), (h_ents, .inr (8, [.int (nI 200), .int (nI 9), .ref a_ents, .int s_ents])), (a_ents, .inl (E.2.1, (200 * 9), .inl f_ents)), (h_cold, .inr (0, [.ref h_rules, .ref h_colds])), (h_colds, .inr (8, [.int (nI 20), .int (nI 9), .ref a_colds, .int s_colds])), (a_colds, .inl (E.2.1, (20 * 9), .inl f_colds)), (h_sketch, .inr (6, [.ref a_cnt])), (a_cnt, .inl (E.2.1, 64, .inl cnt))] H locs := w.sub [0, 18, 19, 1, 2, 3, 4, 5, 6, 7, 8, 9, 10, 11, 17, 20, 21, 12, 13, 14, 15, 16] (by decide) rfl
  refine lv_istore_n (lv' := [(3, .int o_1), (0, .ref h), (1, .int x1), (2, .int x2)]) hx hb dX6_makePlace_7 rfl hl (by decide) rfl (fun ls hl => ?_)
  refine l_X6_makePlace_8 B _ _ ok_told ok_late ?_ ?_ N _ _ _ _ _ _ _ _ _ _ _ _ _ _ _ _ _ hf ok_book ok_written ok_ents ok_colds w (lv_sub hl [1, 2, 3, 0] rfl)
  · intro book written sums ents colds s_book f_book s_written f_written s_ents f_ents s_colds f_colds H locs ls hf ok_book ok_written ok_ents ok_colds w hl
    cases hf
    exact mx_vret B w ⟨_, _, _, _, _, _, _, _, ok_book, ok_written, ok_ents, ok_colds, rfl, rfl⟩ dX6_makePlace_73
  · intro book written sums ents colds s_book f_book s_written f_written s_ents f_ents s_colds f_colds H locs ls hf ok_book ok_written ok_ents ok_colds w hl
    cases hf
    exact mx_vret B w ⟨_, _, _, _, _, _, _, _, ok_book, ok_written, ok_ents, ok_colds, rfl, rfl⟩ dX6_makePlace_40
-- X6_fitInto
def po_X6_fitInto (E : mE) (h : Nat) (h_rules : Nat) (a_vals : Nat) (h_ledger : Nat) (h_book : Nat) (a_book : Nat) (h_told : Nat) (a_told : Nat) (h_written : Nat) (a_written : Nat) (h_late : Nat) (a_late : Nat) (a_sums : Nat) (a_asum : Nat) (h_entries : Nat) (h_ents : Nat) (a_ents : Nat) (h_cold : Nat) (h_colds : Nat) (a_colds : Nat) (h_sketch : Nat) (a_cnt : Nat)  (vals : Nat → Int32) (now : Int32) (book : Rows) (told : Rows) (written : Rows) (late : Rows) (sums : Nat → Int32) (asum : Nat → Int32) (ents : Rows) (colds : Rows) (cnt : Nat → Int32) (uses : Int32) (usesInWindow : Int32) (entriesSoFar : Int32) (dirtySoFar : Int32) (s_book : Int32) (f_book : Nat → Int32) (s_told : Int32) (f_told : Nat → Int32) (s_written : Int32) (f_written : Nat → Int32) (s_late : Int32) (f_late : Nat → Int32) (s_ents : Int32) (f_ents : Nat → Int32) (s_colds : Int32) (f_colds : Nat → Int32) (o : Rows × Rows × (Nat → Int32) × Rows × Rows) : Option Value → va_W → Prop := (fun (v : Option Value) (w' : va_W) => ∃ (s_book' : Int32) (f_book' : Nat → Int32) (s_written' : Int32) (f_written' : Nat → Int32) (s_ents' : Int32) (f_ents' : Nat → Int32) (s_colds' : Int32) (f_colds' : Nat → Int32), tb_ok 40 3 o.1 s_book' f_book' ∧ tb_ok 40 2 o.2.1 s_written' f_written' ∧ tb_ok 200 9 o.2.2.2.1 s_ents' f_ents' ∧ tb_ok 20 9 o.2.2.2.2 s_colds' f_colds' ∧ v = none ∧ w' = [(h, .inr (5, [.ref h_rules, .ref h_ledger, .ref h_entries, .ref h_cold, .ref h_sketch, .int uses, .int usesInWindow, .int entriesSoFar, .int dirtySoFar])), (h_rules, .inr (4, [.ref a_vals, .int now])), (a_vals, .inl (E.2.1, 8, .inl vals)), (h_ledger, .inr (1, [.ref h_rules, .ref h_book, .ref h_told, .ref h_written, .ref h_late, .ref a_sums, .ref a_asum])), (h_book, .inr (8, [.int (nI 40), .int (nI 3), .ref a_book, .int s_book'])), (a_book, .inl (E.2.1, (40 * 3), .inl f_book')), (h_told, .inr (8, [.int (nI 60), .int (nI 1), .ref a_told, .int s_told])), (a_told, .inl (E.2.1, (60 * 1), .inl f_told)), (h_written, .inr (8, [.int (nI 40), .int (nI 2), .ref a_written, .int s_written'])), (a_written, .inl (E.2.1, (40 * 2), .inl f_written')), (h_late, .inr (8, [.int (nI 60), .int (nI 1), .ref a_late, .int s_late])), (a_late, .inl (E.2.1, (60 * 1), .inl f_late)), (a_sums, .inl (E.2.1, 14, .inl o.2.2.1)), (a_asum, .inl (E.2.1, 64, .inl asum)), (h_entries, .inr (0, [.ref h_rules, .ref h_ents])), (h_ents, .inr (8, [.int (nI 200), .int (nI 9), .ref a_ents, .int s_ents'])), (a_ents, .inl (E.2.1, (200 * 9), .inl f_ents')), (h_cold, .inr (0, [.ref h_rules, .ref h_colds])), (h_colds, .inr (8, [.int (nI 20), .int (nI 9), .ref a_colds, .int s_colds'])), (a_colds, .inl (E.2.1, (20 * 9), .inl f_colds')), (h_sketch, .inr (6, [.ref a_cnt])), (a_cnt, .inl (E.2.1, 64, .inl cnt))])
noncomputable def F_X6_fitInto (N : Nat)  (vals : Nat → Int32) (now : Int32) (book : Rows) (written : Rows) (sums : Nat → Int32) (ents : Rows) (colds : Rows) (x1 : Int32) : Option (Rows × Rows × (Nat → Int32) × Rows × Rows) :=
  bd (F_X6_makePlace N vals now book written sums ents colds x1 0) (fun o_1 =>
  some (o_1.1, o_1.2.1, o_1.2.2.1, o_1.2.2.2.1, o_1.2.2.2.2))
set_option maxHeartbeats 4000000 in
set_option maxRecDepth 100000 in
theorem d_X6_fitInto (E : mE) (l : Launch) (N : Nat) (h : Nat) (h_rules : Nat) (a_vals : Nat) (h_ledger : Nat) (h_book : Nat) (a_book : Nat) (h_told : Nat) (a_told : Nat) (h_written : Nat) (a_written : Nat) (h_late : Nat) (a_late : Nat) (a_sums : Nat) (a_asum : Nat) (h_entries : Nat) (h_ents : Nat) (a_ents : Nat) (h_cold : Nat) (h_colds : Nat) (a_colds : Nat) (h_sketch : Nat) (a_cnt : Nat)  (vals : Nat → Int32) (now : Int32) (book : Rows) (told : Rows) (written : Rows) (late : Rows) (sums : Nat → Int32) (asum : Nat → Int32) (ents : Rows) (colds : Rows) (cnt : Nat → Int32) (uses : Int32) (usesInWindow : Int32) (entriesSoFar : Int32) (dirtySoFar : Int32) (s_book : Int32) (f_book : Nat → Int32) (s_told : Int32) (f_told : Nat → Int32) (s_written : Int32) (f_written : Nat → Int32) (s_late : Int32) (f_late : Nat → Int32) (s_ents : Int32) (f_ents : Nat → Int32) (s_colds : Int32) (f_colds : Nat → Int32) (x1 : Int32) (ok_book : tb_ok 40 3 book s_book f_book) (ok_told : tb_ok 60 1 told s_told f_told) (ok_written : tb_ok 40 2 written s_written f_written) (ok_late : tb_ok 60 1 late s_late f_late) (ok_ents : tb_ok 200 9 ents s_ents f_ents) (ok_colds : tb_ok 20 9 colds s_colds f_colds) (o : Rows × Rows × (Nat → Int32) × Rows × Rows) (hf : F_X6_fitInto N vals now book written sums ents colds x1 = some o) : MX E l yX6_fitInto cX6_fitInto 2 none ({ frames := 5, cells := 0, slots := 0, locals := 119 } : Room) [.ref h, .int x1] [(h, .inr (5, [.ref h_rules, .ref h_ledger, .ref h_entries, .ref h_cold, .ref h_sketch, .int uses, .int usesInWindow, .int entriesSoFar, .int dirtySoFar])), (h_rules, .inr (4, [.ref a_vals, .int now])), (a_vals, .inl (E.2.1, 8, .inl vals)), (h_ledger, .inr (1, [.ref h_rules, .ref h_book, .ref h_told, .ref h_written, .ref h_late, .ref a_sums, .ref a_asum])), (h_book, .inr (8, [.int (nI 40), .int (nI 3), .ref a_book, .int s_book])), (a_book, .inl (E.2.1, (40 * 3), .inl f_book)), (h_told, .inr (8, [.int (nI 60), .int (nI 1), .ref a_told, .int s_told])), (a_told, .inl (E.2.1, (60 * 1), .inl f_told)), (h_written, .inr (8, [.int (nI 40), .int (nI 2), .ref a_written, .int s_written])), (a_written, .inl (E.2.1, (40 * 2), .inl f_written)), (h_late, .inr (8, [.int (nI 60), .int (nI 1), .ref a_late, .int s_late])), (a_late, .inl (E.2.1, (60 * 1), .inl f_late)), (a_sums, .inl (E.2.1, 14, .inl sums)), (a_asum, .inl (E.2.1, 64, .inl asum)), (h_entries, .inr (0, [.ref h_rules, .ref h_ents])), (h_ents, .inr (8, [.int (nI 200), .int (nI 9), .ref a_ents, .int s_ents])), (a_ents, .inl (E.2.1, (200 * 9), .inl f_ents)), (h_cold, .inr (0, [.ref h_rules, .ref h_colds])), (h_colds, .inr (8, [.int (nI 20), .int (nI 9), .ref a_colds, .int s_colds])), (a_colds, .inl (E.2.1, (20 * 9), .inl f_colds)), (h_sketch, .inr (6, [.ref a_cnt])), (a_cnt, .inl (E.2.1, 64, .inl cnt))] (po_X6_fitInto E h h_rules a_vals h_ledger h_book a_book h_told a_told h_written a_written h_late a_late a_sums a_asum h_entries h_ents a_ents h_cold h_colds a_colds h_sketch a_cnt vals now book told written late sums asum ents colds cnt uses usesInWindow entriesSoFar dirtySoFar s_book f_book s_told f_told s_written f_written s_late f_late s_ents f_ents s_colds f_colds o) := by
  refine mx_intro (by decide +kernel) (Nat.le_of_ble_eq_true rfl) ?_
  intro p e s m args below meth c A Q ls B w hl
  obtain ⟨hx, hb, hml, hown, hts⟩ := id B.1
  unfold F_X6_fitInto at hf
  have hl : lv_has ls 2 [(0, .ref h), (1, .int x1)] := hl
  refine lv_aload_n hx hb dX6_fitInto_0 rfl (lv_at hl 0 rfl) ?_
  refine lv_iload_n hx hb dX6_fitInto_1 rfl (lv_at hl 1 rfl) ?_
  refine lv_iconst (v := 0) hx hb dX6_fitInto_2 (by decide) ?_
  obtain ⟨o_1, hq, hf⟩ := bd_e hf
  refine mx_callV (As := [.int x1, .int 0]) (rest := []) (wr := []) (d_X6_makePlace E l N h h_rules a_vals h_ledger h_book a_book h_told a_told h_written a_written h_late a_late a_sums a_asum h_entries h_ents a_ents h_cold h_colds a_colds h_sketch a_cnt vals now book told written late sums asum ents colds cnt uses usesInWindow entriesSoFar dirtySoFar s_book f_book s_told f_told s_written f_written s_late f_late s_ents f_ents s_colds f_colds x1 0 ok_book ok_told ok_written ok_late ok_ents ok_colds o_1 hq) B w [0, 1, 2, 3, 4, 5, 6, 7, 8, 9, 10, 11, 12, 13, 14, 15, 16, 17, 18, 19, 20, 21] [] rfl rfl (by decide) (by decide) (by decide) 0 rfl rfl cv_X6_makePlace kw_352 2 (by decide +kernel) ⟨Nat.le_of_ble_eq_true rfl, Nat.le_of_ble_eq_true rfl⟩ rfl hl.1 rfl (Nat.le_of_ble_eq_true rfl) dX6_fitInto_3 rfl rfl ⟨Nat.zero_le _, Nat.zero_le _⟩ (fun v w' H locs hpo w => ?_)
  clear hq
  obtain ⟨s_book_2, f_book_3, s_written_4, f_written_5, s_ents_6, f_ents_7, s_colds_8, f_colds_9, ok_book, ok_written, ok_ents, ok_colds, rfl, rfl⟩ := hpo
  have w : mW E A s [(h, .inr (5, [.ref h_rules, .ref h_ledger, .ref h_entries, .ref h_cold, .ref h_sketch, .int uses, .int usesInWindow, .int entriesSoFar, .int dirtySoFar])), (h_rules, .inr (4, [.ref a_vals, .int now])), (a_vals, .inl (E.2.1, 8, .inl vals)), (h_ledger, .inr (1, [.ref h_rules, .ref h_book, .ref h_told, .ref h_written, .ref h_late, .ref a_sums, .ref a_asum])), (h_book, .inr (8, [.int (nI 40), .int (nI 3), .ref a_book, .int s_book_2])), (a_book, .inl (E.2.1, (40 * 3), .inl f_book_3)), (h_told, .inr (8, [.int (nI 60), .int (nI 1), .ref a_told, .int s_told])), (a_told, .inl (E.2.1, (60 * 1), .inl f_told)), (h_written, .inr (8, [.int (nI 40), .int (nI 2), .ref a_written, .int s_written_4])), (a_written, .inl (E.2.1, (40 * 2), .inl f_written_5)), (h_late, .inr (8, [.int (nI 60), .int (nI 1), .ref a_late, .int s_late])), (a_late, .inl (E.2.1, (60 * 1), .inl f_late)), (a_sums, .inl (E.2.1, 14, .inl o_1.2.2.1)), (a_asum, .inl (E.2.1, 64, .inl asum)), (h_entries, .inr (0, [.ref h_rules, .ref h_ents])), (h_ents, .inr (8, [.int (nI 200), .int (nI 9), .ref a_ents, .int s_ents_6])), (a_ents, .inl (E.2.1, (200 * 9), .inl f_ents_7)), (h_cold, .inr (0, [.ref h_rules, .ref h_colds])), (h_colds, .inr (8, [.int (nI 20), .int (nI 9), .ref a_colds, .int s_colds_8])), (a_colds, .inl (E.2.1, (20 * 9), .inl f_colds_9)), (h_sketch, .inr (6, [.ref a_cnt])), (a_cnt, .inl (E.2.1, 64, .inl cnt))] H locs := w
  cases hf
  exact mx_vret B w ⟨_, _, _, _, _, _, _, _, ok_book, ok_written, ok_ents, ok_colds, rfl, rfl⟩ dX6_fitInto_6
-- X6_beginWindow
def po_X6_beginWindow (E : mE) (h : Nat) (h_rules : Nat) (a_vals : Nat) (h_ledger : Nat) (h_book : Nat) (a_book : Nat) (h_told : Nat) (a_told : Nat) (h_written : Nat) (a_written : Nat) (h_late : Nat) (a_late : Nat) (a_sums : Nat) (a_asum : Nat) (h_entries : Nat) (h_ents : Nat) (a_ents : Nat) (h_cold : Nat) (h_colds : Nat) (a_colds : Nat) (h_sketch : Nat) (a_cnt : Nat)  (vals : Nat → Int32) (now : Int32) (book : Rows) (told : Rows) (written : Rows) (late : Rows) (sums : Nat → Int32) (asum : Nat → Int32) (ents : Rows) (colds : Rows) (cnt : Nat → Int32) (uses : Int32) (usesInWindow : Int32) (entriesSoFar : Int32) (dirtySoFar : Int32) (s_book : Int32) (f_book : Nat → Int32) (s_told : Int32) (f_told : Nat → Int32) (s_written : Int32) (f_written : Nat → Int32) (s_late : Int32) (f_late : Nat → Int32) (s_ents : Int32) (f_ents : Nat → Int32) (s_colds : Int32) (f_colds : Nat → Int32) (o : Int32) : Option Value → va_W → Prop := (fun (v : Option Value) (w' : va_W) => v = none ∧ w' = [(h, .inr (5, [.ref h_rules, .ref h_ledger, .ref h_entries, .ref h_cold, .ref h_sketch, .int uses, .int o, .int entriesSoFar, .int dirtySoFar])), (h_rules, .inr (4, [.ref a_vals, .int now])), (a_vals, .inl (E.2.1, 8, .inl vals)), (h_ledger, .inr (1, [.ref h_rules, .ref h_book, .ref h_told, .ref h_written, .ref h_late, .ref a_sums, .ref a_asum])), (h_book, .inr (8, [.int (nI 40), .int (nI 3), .ref a_book, .int s_book])), (a_book, .inl (E.2.1, (40 * 3), .inl f_book)), (h_told, .inr (8, [.int (nI 60), .int (nI 1), .ref a_told, .int s_told])), (a_told, .inl (E.2.1, (60 * 1), .inl f_told)), (h_written, .inr (8, [.int (nI 40), .int (nI 2), .ref a_written, .int s_written])), (a_written, .inl (E.2.1, (40 * 2), .inl f_written)), (h_late, .inr (8, [.int (nI 60), .int (nI 1), .ref a_late, .int s_late])), (a_late, .inl (E.2.1, (60 * 1), .inl f_late)), (a_sums, .inl (E.2.1, 14, .inl sums)), (a_asum, .inl (E.2.1, 64, .inl asum)), (h_entries, .inr (0, [.ref h_rules, .ref h_ents])), (h_ents, .inr (8, [.int (nI 200), .int (nI 9), .ref a_ents, .int s_ents])), (a_ents, .inl (E.2.1, (200 * 9), .inl f_ents)), (h_cold, .inr (0, [.ref h_rules, .ref h_colds])), (h_colds, .inr (8, [.int (nI 20), .int (nI 9), .ref a_colds, .int s_colds])), (a_colds, .inl (E.2.1, (20 * 9), .inl f_colds)), (h_sketch, .inr (6, [.ref a_cnt])), (a_cnt, .inl (E.2.1, 64, .inl cnt))])
noncomputable def F_X6_beginWindow  (usesInWindow : Int32)  : Option (Int32) :=
  lt (0) (fun usesInWindow_1 =>
  some (usesInWindow_1))
set_option maxHeartbeats 4000000 in
set_option maxRecDepth 100000 in
theorem d_X6_beginWindow (E : mE) (l : Launch) (h : Nat) (h_rules : Nat) (a_vals : Nat) (h_ledger : Nat) (h_book : Nat) (a_book : Nat) (h_told : Nat) (a_told : Nat) (h_written : Nat) (a_written : Nat) (h_late : Nat) (a_late : Nat) (a_sums : Nat) (a_asum : Nat) (h_entries : Nat) (h_ents : Nat) (a_ents : Nat) (h_cold : Nat) (h_colds : Nat) (a_colds : Nat) (h_sketch : Nat) (a_cnt : Nat)  (vals : Nat → Int32) (now : Int32) (book : Rows) (told : Rows) (written : Rows) (late : Rows) (sums : Nat → Int32) (asum : Nat → Int32) (ents : Rows) (colds : Rows) (cnt : Nat → Int32) (uses : Int32) (usesInWindow : Int32) (entriesSoFar : Int32) (dirtySoFar : Int32) (s_book : Int32) (f_book : Nat → Int32) (s_told : Int32) (f_told : Nat → Int32) (s_written : Int32) (f_written : Nat → Int32) (s_late : Int32) (f_late : Nat → Int32) (s_ents : Int32) (f_ents : Nat → Int32) (s_colds : Int32) (f_colds : Nat → Int32)  (ok_book : tb_ok 40 3 book s_book f_book) (ok_told : tb_ok 60 1 told s_told f_told) (ok_written : tb_ok 40 2 written s_written f_written) (ok_late : tb_ok 60 1 late s_late f_late) (ok_ents : tb_ok 200 9 ents s_ents f_ents) (ok_colds : tb_ok 20 9 colds s_colds f_colds) (o : Int32) (hf : F_X6_beginWindow usesInWindow = some o) : MX E l yX6_beginWindow cX6_beginWindow 1 none ({ frames := 0, cells := 0, slots := 0, locals := 0 } : Room) [.ref h] [(h, .inr (5, [.ref h_rules, .ref h_ledger, .ref h_entries, .ref h_cold, .ref h_sketch, .int uses, .int usesInWindow, .int entriesSoFar, .int dirtySoFar])), (h_rules, .inr (4, [.ref a_vals, .int now])), (a_vals, .inl (E.2.1, 8, .inl vals)), (h_ledger, .inr (1, [.ref h_rules, .ref h_book, .ref h_told, .ref h_written, .ref h_late, .ref a_sums, .ref a_asum])), (h_book, .inr (8, [.int (nI 40), .int (nI 3), .ref a_book, .int s_book])), (a_book, .inl (E.2.1, (40 * 3), .inl f_book)), (h_told, .inr (8, [.int (nI 60), .int (nI 1), .ref a_told, .int s_told])), (a_told, .inl (E.2.1, (60 * 1), .inl f_told)), (h_written, .inr (8, [.int (nI 40), .int (nI 2), .ref a_written, .int s_written])), (a_written, .inl (E.2.1, (40 * 2), .inl f_written)), (h_late, .inr (8, [.int (nI 60), .int (nI 1), .ref a_late, .int s_late])), (a_late, .inl (E.2.1, (60 * 1), .inl f_late)), (a_sums, .inl (E.2.1, 14, .inl sums)), (a_asum, .inl (E.2.1, 64, .inl asum)), (h_entries, .inr (0, [.ref h_rules, .ref h_ents])), (h_ents, .inr (8, [.int (nI 200), .int (nI 9), .ref a_ents, .int s_ents])), (a_ents, .inl (E.2.1, (200 * 9), .inl f_ents)), (h_cold, .inr (0, [.ref h_rules, .ref h_colds])), (h_colds, .inr (8, [.int (nI 20), .int (nI 9), .ref a_colds, .int s_colds])), (a_colds, .inl (E.2.1, (20 * 9), .inl f_colds)), (h_sketch, .inr (6, [.ref a_cnt])), (a_cnt, .inl (E.2.1, 64, .inl cnt))] (po_X6_beginWindow E h h_rules a_vals h_ledger h_book a_book h_told a_told h_written a_written h_late a_late a_sums a_asum h_entries h_ents a_ents h_cold h_colds a_colds h_sketch a_cnt vals now book told written late sums asum ents colds cnt uses usesInWindow entriesSoFar dirtySoFar s_book f_book s_told f_told s_written f_written s_late f_late s_ents f_ents s_colds f_colds o) := by
  refine mx_intro (by decide +kernel) (Nat.le_of_ble_eq_true rfl) ?_
  intro p e s m args below meth c A Q ls B w hl
  obtain ⟨hx, hb, hml, hown, hts⟩ := id B.1
  unfold F_X6_beginWindow at hf
  have hl : lv_has ls 1 [(0, .ref h)] := hl
  refine lv_aload_n hx hb dX6_beginWindow_0 rfl (lv_at hl 0 rfl) ?_
  refine lv_iconst (v := 0) hx hb dX6_beginWindow_1 (by decide) ?_
  refine mx_puti B w 0 fl_X6_42 fi_X6_6 rfl (Nat.le_of_ble_eq_true rfl) dX6_beginWindow_2 (fun usesInWindow_1 H locs ev w => ?_)
  have hf := lt_n ev hf; clear ev
  have w : mW E A s [(h, .inr (5, [.ref h_rules, .ref h_ledger, .ref h_entries, .ref h_cold, .ref h_sketch, .int uses, .int usesInWindow_1, .int entriesSoFar, .int dirtySoFar])), (h_rules, .inr (4, [.ref a_vals, .int now])), (a_vals, .inl (E.2.1, 8, .inl vals)), (h_ledger, .inr (1, [.ref h_rules, .ref h_book, .ref h_told, .ref h_written, .ref h_late, .ref a_sums, .ref a_asum])), (h_book, .inr (8, [.int (nI 40), .int (nI 3), .ref a_book, .int s_book])), (a_book, .inl (E.2.1, (40 * 3), .inl f_book)), (h_told, .inr (8, [.int (nI 60), .int (nI 1), .ref a_told, .int s_told])), (a_told, .inl (E.2.1, (60 * 1), .inl f_told)), (h_written, .inr (8, [.int (nI 40), .int (nI 2), .ref a_written, .int s_written])), (a_written, .inl (E.2.1, (40 * 2), .inl f_written)), (h_late, .inr (8, [.int (nI 60), .int (nI 1), .ref a_late, .int s_late])), (a_late, .inl (E.2.1, (60 * 1), .inl f_late)), (a_sums, .inl (E.2.1, 14, .inl sums)), (a_asum, .inl (E.2.1, 64, .inl asum)), (h_entries, .inr (0, [.ref h_rules, .ref h_ents])), (h_ents, .inr (8, [.int (nI 200), .int (nI 9), .ref a_ents, .int s_ents])), (a_ents, .inl (E.2.1, (200 * 9), .inl f_ents)), (h_cold, .inr (0, [.ref h_rules, .ref h_colds])), (h_colds, .inr (8, [.int (nI 20), .int (nI 9), .ref a_colds, .int s_colds])), (a_colds, .inl (E.2.1, (20 * 9), .inl f_colds)), (h_sketch, .inr (6, [.ref a_cnt])), (a_cnt, .inl (E.2.1, 64, .inl cnt))] H locs := w
  cases hf
  exact mx_vret B w ⟨rfl, rfl⟩ dX6_beginWindow_5
-- X3_running
def po_X3_running (E : mE) (h : Nat) (h_rules : Nat) (a_vals : Nat) (h_ledger : Nat) (h_book : Nat) (a_book : Nat) (h_told : Nat) (a_told : Nat) (h_written : Nat) (a_written : Nat) (h_late : Nat) (a_late : Nat) (a_sums : Nat) (a_asum : Nat) (h_line : Nat) (a_line : Nat) (h_waits : Nat) (a_waits : Nat) (h_boxes : Nat) (a_boxes : Nat)  (vals : Nat → Int32) (now : Int32) (book : Rows) (told : Rows) (written : Rows) (late : Rows) (sums : Nat → Int32) (asum : Nat → Int32) (line : Rows) (waits : Rows) (boxes : Rows) (s_book : Int32) (f_book : Nat → Int32) (s_told : Int32) (f_told : Nat → Int32) (s_written : Int32) (f_written : Nat → Int32) (s_late : Int32) (f_late : Nat → Int32) (s_line : Int32) (f_line : Nat → Int32) (s_waits : Int32) (f_waits : Nat → Int32) (s_boxes : Int32) (f_boxes : Nat → Int32) (o : Int32) : Option Value → va_W → Prop := (fun (v : Option Value) (w' : va_W) => v = some (.int o) ∧ w' = [(h, .inr (2, [.ref h_rules, .ref h_ledger, .ref h_line, .ref h_waits, .ref h_boxes])), (h_rules, .inr (4, [.ref a_vals, .int now])), (a_vals, .inl (E.2.1, 8, .inl vals)), (h_ledger, .inr (1, [.ref h_rules, .ref h_book, .ref h_told, .ref h_written, .ref h_late, .ref a_sums, .ref a_asum])), (h_book, .inr (8, [.int (nI 40), .int (nI 3), .ref a_book, .int s_book])), (a_book, .inl (E.2.1, (40 * 3), .inl f_book)), (h_told, .inr (8, [.int (nI 60), .int (nI 1), .ref a_told, .int s_told])), (a_told, .inl (E.2.1, (60 * 1), .inl f_told)), (h_written, .inr (8, [.int (nI 40), .int (nI 2), .ref a_written, .int s_written])), (a_written, .inl (E.2.1, (40 * 2), .inl f_written)), (h_late, .inr (8, [.int (nI 60), .int (nI 1), .ref a_late, .int s_late])), (a_late, .inl (E.2.1, (60 * 1), .inl f_late)), (a_sums, .inl (E.2.1, 14, .inl sums)), (a_asum, .inl (E.2.1, 64, .inl asum)), (h_line, .inr (8, [.int (nI 256), .int (nI 3), .ref a_line, .int s_line])), (a_line, .inl (E.2.1, (256 * 3), .inl f_line)), (h_waits, .inr (8, [.int (nI 256), .int (nI 2), .ref a_waits, .int s_waits])), (a_waits, .inl (E.2.1, (256 * 2), .inl f_waits)), (h_boxes, .inr (8, [.int (nI 192), .int (nI 3), .ref a_boxes, .int s_boxes])), (a_boxes, .inl (E.2.1, (192 * 3), .inl f_boxes))])
noncomputable def F_X3_running  (line : Rows)  : Option (Int32) :=
  lt (thowMany line 1 1) (fun o_1 =>
  some (o_1))
set_option maxHeartbeats 4000000 in
set_option maxRecDepth 100000 in
theorem d_X3_running (E : mE) (l : Launch) (h : Nat) (h_rules : Nat) (a_vals : Nat) (h_ledger : Nat) (h_book : Nat) (a_book : Nat) (h_told : Nat) (a_told : Nat) (h_written : Nat) (a_written : Nat) (h_late : Nat) (a_late : Nat) (a_sums : Nat) (a_asum : Nat) (h_line : Nat) (a_line : Nat) (h_waits : Nat) (a_waits : Nat) (h_boxes : Nat) (a_boxes : Nat)  (vals : Nat → Int32) (now : Int32) (book : Rows) (told : Rows) (written : Rows) (late : Rows) (sums : Nat → Int32) (asum : Nat → Int32) (line : Rows) (waits : Rows) (boxes : Rows) (s_book : Int32) (f_book : Nat → Int32) (s_told : Int32) (f_told : Nat → Int32) (s_written : Int32) (f_written : Nat → Int32) (s_late : Int32) (f_late : Nat → Int32) (s_line : Int32) (f_line : Nat → Int32) (s_waits : Int32) (f_waits : Nat → Int32) (s_boxes : Int32) (f_boxes : Nat → Int32)  (ok_book : tb_ok 40 3 book s_book f_book) (ok_told : tb_ok 60 1 told s_told f_told) (ok_written : tb_ok 40 2 written s_written f_written) (ok_late : tb_ok 60 1 late s_late f_late) (ok_line : tb_ok 256 3 line s_line f_line) (ok_waits : tb_ok 256 2 waits s_waits f_waits) (ok_boxes : tb_ok 192 3 boxes s_boxes f_boxes) (o : Int32) (hf : F_X3_running line = some o) : MX E l yX3_running cX3_running 1 (some .int) ({ frames := 2, cells := 0, slots := 0, locals := 48 } : Room) [.ref h] [(h, .inr (2, [.ref h_rules, .ref h_ledger, .ref h_line, .ref h_waits, .ref h_boxes])), (h_rules, .inr (4, [.ref a_vals, .int now])), (a_vals, .inl (E.2.1, 8, .inl vals)), (h_ledger, .inr (1, [.ref h_rules, .ref h_book, .ref h_told, .ref h_written, .ref h_late, .ref a_sums, .ref a_asum])), (h_book, .inr (8, [.int (nI 40), .int (nI 3), .ref a_book, .int s_book])), (a_book, .inl (E.2.1, (40 * 3), .inl f_book)), (h_told, .inr (8, [.int (nI 60), .int (nI 1), .ref a_told, .int s_told])), (a_told, .inl (E.2.1, (60 * 1), .inl f_told)), (h_written, .inr (8, [.int (nI 40), .int (nI 2), .ref a_written, .int s_written])), (a_written, .inl (E.2.1, (40 * 2), .inl f_written)), (h_late, .inr (8, [.int (nI 60), .int (nI 1), .ref a_late, .int s_late])), (a_late, .inl (E.2.1, (60 * 1), .inl f_late)), (a_sums, .inl (E.2.1, 14, .inl sums)), (a_asum, .inl (E.2.1, 64, .inl asum)), (h_line, .inr (8, [.int (nI 256), .int (nI 3), .ref a_line, .int s_line])), (a_line, .inl (E.2.1, (256 * 3), .inl f_line)), (h_waits, .inr (8, [.int (nI 256), .int (nI 2), .ref a_waits, .int s_waits])), (a_waits, .inl (E.2.1, (256 * 2), .inl f_waits)), (h_boxes, .inr (8, [.int (nI 192), .int (nI 3), .ref a_boxes, .int s_boxes])), (a_boxes, .inl (E.2.1, (192 * 3), .inl f_boxes))] (po_X3_running E h h_rules a_vals h_ledger h_book a_book h_told a_told h_written a_written h_late a_late a_sums a_asum h_line a_line h_waits a_waits h_boxes a_boxes vals now book told written late sums asum line waits boxes s_book f_book s_told f_told s_written f_written s_late f_late s_line f_line s_waits f_waits s_boxes f_boxes o) := by
  refine mx_intro (by decide +kernel) (Nat.le_of_ble_eq_true rfl) ?_
  intro p e s m args below meth c A Q ls B w hl
  obtain ⟨hx, hb, hml, hown, hts⟩ := id B.1
  unfold F_X3_running at hf
  have hl : lv_has ls 1 [(0, .ref h)] := hl
  refine lv_aload_n hx hb dX3_running_0 rfl (lv_at hl 0 rfl) ?_
  refine mx_get B w 0 fl_X3_24 rfl rfl dX3_running_1 ?_
  refine lv_iconst (v := 1) hx hb dX3_running_4 (by decide) ?_
  refine lv_iconst (v := 1) hx hb dX3_running_5 (by decide) ?_
  obtain ⟨o_1, ev⟩ : ∃ y, y = thowMany line 1 1 := ⟨_, rfl⟩
  have hf := lt_n ev hf
  refine mx_callV (As := [.int 1, .int 1]) (rest := []) (wr := [(h, .inr (2, [.ref h_rules, .ref h_ledger, .ref h_line, .ref h_waits, .ref h_boxes])), (h_rules, .inr (4, [.ref a_vals, .int now])), (a_vals, .inl (E.2.1, 8, .inl vals)), (h_ledger, .inr (1, [.ref h_rules, .ref h_book, .ref h_told, .ref h_written, .ref h_late, .ref a_sums, .ref a_asum])), (h_book, .inr (8, [.int (nI 40), .int (nI 3), .ref a_book, .int s_book])), (a_book, .inl (E.2.1, (40 * 3), .inl f_book)), (h_told, .inr (8, [.int (nI 60), .int (nI 1), .ref a_told, .int s_told])), (a_told, .inl (E.2.1, (60 * 1), .inl f_told)), (h_written, .inr (8, [.int (nI 40), .int (nI 2), .ref a_written, .int s_written])), (a_written, .inl (E.2.1, (40 * 2), .inl f_written)), (h_late, .inr (8, [.int (nI 60), .int (nI 1), .ref a_late, .int s_late])), (a_late, .inl (E.2.1, (60 * 1), .inl f_late)), (a_sums, .inl (E.2.1, 14, .inl sums)), (a_asum, .inl (E.2.1, 64, .inl asum)), (h_waits, .inr (8, [.int (nI 256), .int (nI 2), .ref a_waits, .int s_waits])), (a_waits, .inl (E.2.1, (256 * 2), .inl f_waits)), (h_boxes, .inr (8, [.int (nI 192), .int (nI 3), .ref a_boxes, .int s_boxes])), (a_boxes, .inl (E.2.1, (192 * 3), .inl f_boxes))]) (c_X9_howMany E l h_line a_line 256 3 line s_line f_line 1 1 ok_line o_1 ev) B w [14, 15] [0, 1, 2, 3, 4, 5, 6, 7, 8, 9, 10, 11, 12, 13, 16, 17, 18, 19] rfl rfl (by decide) (by decide) (by decide) 14 rfl rfl cv_X9_howMany kw_465 2 (by decide +kernel) ⟨Nat.le_of_ble_eq_true rfl, Nat.le_of_ble_eq_true rfl⟩ rfl hl.1 rfl (Nat.le_of_ble_eq_true rfl) dX3_running_6 rfl rfl ⟨Nat.zero_le _, Nat.zero_le _⟩ (fun v w' H locs hpo w => ?_)
  clear ev
  obtain ⟨rfl, rfl⟩ := hpo
  have w : mW E A s [(h, .inr (2, [.ref h_rules, .ref h_ledger, .ref h_line, .ref h_waits, .ref h_boxes])), (h_rules, .inr (4, [.ref a_vals, .int now])), (a_vals, .inl (E.2.1, 8, .inl vals)), (h_ledger, .inr (1, [.ref h_rules, .ref h_book, .ref h_told, .ref h_written, .ref h_late, .ref a_sums, .ref a_asum])), (h_book, .inr (8, [.int (nI 40), .int (nI 3), .ref a_book, .int s_book])), (a_book, .inl (E.2.1, (40 * 3), .inl f_book)), (h_told, .inr (8, [.int (nI 60), .int (nI 1), .ref a_told, .int s_told])), (a_told, .inl (E.2.1, (60 * 1), .inl f_told)), (h_written, .inr (8, [.int (nI 40), .int (nI 2), .ref a_written, .int s_written])), (a_written, .inl (E.2.1, (40 * 2), .inl f_written)), (h_late, .inr (8, [.int (nI 60), .int (nI 1), .ref a_late, .int s_late])), (a_late, .inl (E.2.1, (60 * 1), .inl f_late)), (a_sums, .inl (E.2.1, 14, .inl sums)), (a_asum, .inl (E.2.1, 64, .inl asum)), (h_line, .inr (8, [.int (nI 256), .int (nI 3), .ref a_line, .int s_line])), (a_line, .inl (E.2.1, (256 * 3), .inl f_line)), (h_waits, .inr (8, [.int (nI 256), .int (nI 2), .ref a_waits, .int s_waits])), (a_waits, .inl (E.2.1, (256 * 2), .inl f_waits)), (h_boxes, .inr (8, [.int (nI 192), .int (nI 3), .ref a_boxes, .int s_boxes])), (a_boxes, .inl (E.2.1, (192 * 3), .inl f_boxes))] H locs := w.sub [0, 1, 2, 3, 4, 5, 6, 7, 8, 9, 10, 11, 12, 13, 18, 19, 14, 15, 16, 17] (by decide) rfl
  cases hf
  exact mx_iret B w ⟨rfl, rfl⟩ dX3_running_9
-- X2_noteTold
def po_X2_noteTold (E : mE) (h : Nat) (h_rules : Nat) (a_vals : Nat) (h_book : Nat) (a_book : Nat) (h_told : Nat) (a_told : Nat) (h_written : Nat) (a_written : Nat) (h_late : Nat) (a_late : Nat) (a_sums : Nat) (a_asum : Nat)  (vals : Nat → Int32) (now : Int32) (book : Rows) (told : Rows) (written : Rows) (late : Rows) (sums : Nat → Int32) (asum : Nat → Int32) (s_book : Int32) (f_book : Nat → Int32) (s_told : Int32) (f_told : Nat → Int32) (s_written : Int32) (f_written : Nat → Int32) (s_late : Int32) (f_late : Nat → Int32) (o : Rows × Rows × (Nat → Int32)) : Option Value → va_W → Prop := (fun (v : Option Value) (w' : va_W) => ∃ (s_book' : Int32) (f_book' : Nat → Int32) (s_told' : Int32) (f_told' : Nat → Int32), tb_ok 40 3 o.1 s_book' f_book' ∧ tb_ok 60 1 o.2.1 s_told' f_told' ∧ v = none ∧ w' = [(h, .inr (1, [.ref h_rules, .ref h_book, .ref h_told, .ref h_written, .ref h_late, .ref a_sums, .ref a_asum])), (h_rules, .inr (4, [.ref a_vals, .int now])), (a_vals, .inl (E.2.1, 8, .inl vals)), (h_book, .inr (8, [.int (nI 40), .int (nI 3), .ref a_book, .int s_book'])), (a_book, .inl (E.2.1, (40 * 3), .inl f_book')), (h_told, .inr (8, [.int (nI 60), .int (nI 1), .ref a_told, .int s_told'])), (a_told, .inl (E.2.1, (60 * 1), .inl f_told')), (h_written, .inr (8, [.int (nI 40), .int (nI 2), .ref a_written, .int s_written])), (a_written, .inl (E.2.1, (40 * 2), .inl f_written)), (h_late, .inr (8, [.int (nI 60), .int (nI 1), .ref a_late, .int s_late])), (a_late, .inl (E.2.1, (60 * 1), .inl f_late)), (a_sums, .inl (E.2.1, 14, .inl o.2.2)), (a_asum, .inl (E.2.1, 64, .inl asum))])
noncomputable def F_X2_noteTold (N : Nat)  (now : Int32) (book : Rows) (told : Rows) (sums : Nat → Int32) (x1 : Int32) : Option (Rows × Rows × (Nat → Int32)) :=
  lt (tpush 60 1 told x1 0 0) (fun o_1 =>
  bd (F_X2_note N now book sums 3 x1) (fun o_4 =>
  some (o_4.1, o_1.2, o_4.2)))
set_option maxHeartbeats 4000000 in
set_option maxRecDepth 100000 in
theorem d_X2_noteTold (E : mE) (l : Launch) (N : Nat) (h : Nat) (h_rules : Nat) (a_vals : Nat) (h_book : Nat) (a_book : Nat) (h_told : Nat) (a_told : Nat) (h_written : Nat) (a_written : Nat) (h_late : Nat) (a_late : Nat) (a_sums : Nat) (a_asum : Nat)  (vals : Nat → Int32) (now : Int32) (book : Rows) (told : Rows) (written : Rows) (late : Rows) (sums : Nat → Int32) (asum : Nat → Int32) (s_book : Int32) (f_book : Nat → Int32) (s_told : Int32) (f_told : Nat → Int32) (s_written : Int32) (f_written : Nat → Int32) (s_late : Int32) (f_late : Nat → Int32) (x1 : Int32) (ok_book : tb_ok 40 3 book s_book f_book) (ok_told : tb_ok 60 1 told s_told f_told) (ok_written : tb_ok 40 2 written s_written f_written) (ok_late : tb_ok 60 1 late s_late f_late) (o : Rows × Rows × (Nat → Int32)) (hf : F_X2_noteTold N now book told sums x1 = some o) : MX E l yX2_noteTold cX2_noteTold 2 none ({ frames := 2, cells := 0, slots := 0, locals := 47 } : Room) [.ref h, .int x1] [(h, .inr (1, [.ref h_rules, .ref h_book, .ref h_told, .ref h_written, .ref h_late, .ref a_sums, .ref a_asum])), (h_rules, .inr (4, [.ref a_vals, .int now])), (a_vals, .inl (E.2.1, 8, .inl vals)), (h_book, .inr (8, [.int (nI 40), .int (nI 3), .ref a_book, .int s_book])), (a_book, .inl (E.2.1, (40 * 3), .inl f_book)), (h_told, .inr (8, [.int (nI 60), .int (nI 1), .ref a_told, .int s_told])), (a_told, .inl (E.2.1, (60 * 1), .inl f_told)), (h_written, .inr (8, [.int (nI 40), .int (nI 2), .ref a_written, .int s_written])), (a_written, .inl (E.2.1, (40 * 2), .inl f_written)), (h_late, .inr (8, [.int (nI 60), .int (nI 1), .ref a_late, .int s_late])), (a_late, .inl (E.2.1, (60 * 1), .inl f_late)), (a_sums, .inl (E.2.1, 14, .inl sums)), (a_asum, .inl (E.2.1, 64, .inl asum))] (po_X2_noteTold E h h_rules a_vals h_book a_book h_told a_told h_written a_written h_late a_late a_sums a_asum vals now book told written late sums asum s_book f_book s_told f_told s_written f_written s_late f_late o) := by
  refine mx_intro (by decide +kernel) (Nat.le_of_ble_eq_true rfl) ?_
  intro p e s m args below meth c A Q ls B w hl
  obtain ⟨hx, hb, hml, hown, hts⟩ := id B.1
  unfold F_X2_noteTold at hf
  have hl : lv_has ls 2 [(0, .ref h), (1, .int x1)] := hl
  refine lv_aload_n hx hb dX2_noteTold_0 rfl (lv_at hl 0 rfl) ?_
  refine mx_get B w 0 fl_X2_24 rfl rfl dX2_noteTold_1 ?_
  refine lv_iload_n hx hb dX2_noteTold_4 rfl (lv_at hl 1 rfl) ?_
  refine lv_iconst (v := 0) hx hb dX2_noteTold_5 (by decide) ?_
  refine lv_iconst (v := 0) hx hb dX2_noteTold_6 (by decide) ?_
  obtain ⟨o_1, ev⟩ : ∃ y, y = tpush 60 1 told x1 0 0 := ⟨_, rfl⟩
  have hf := lt_n ev hf
  refine mx_callV (As := [.int x1, .int 0, .int 0]) (rest := []) (wr := [(h, .inr (1, [.ref h_rules, .ref h_book, .ref h_told, .ref h_written, .ref h_late, .ref a_sums, .ref a_asum])), (h_rules, .inr (4, [.ref a_vals, .int now])), (a_vals, .inl (E.2.1, 8, .inl vals)), (h_book, .inr (8, [.int (nI 40), .int (nI 3), .ref a_book, .int s_book])), (a_book, .inl (E.2.1, (40 * 3), .inl f_book)), (h_written, .inr (8, [.int (nI 40), .int (nI 2), .ref a_written, .int s_written])), (a_written, .inl (E.2.1, (40 * 2), .inl f_written)), (h_late, .inr (8, [.int (nI 60), .int (nI 1), .ref a_late, .int s_late])), (a_late, .inl (E.2.1, (60 * 1), .inl f_late)), (a_sums, .inl (E.2.1, 14, .inl sums)), (a_asum, .inl (E.2.1, 64, .inl asum))]) (c_X9_push E l h_told a_told 60 1 told s_told f_told x1 0 0 ok_told o_1 ev) B w [5, 6] [0, 1, 2, 3, 4, 7, 8, 9, 10, 11, 12] rfl rfl (by decide) (by decide) (by decide) 5 rfl rfl cv_X9_push kw_434 3 (by decide +kernel) ⟨Nat.le_of_ble_eq_true rfl, Nat.le_of_ble_eq_true rfl⟩ rfl hl.1 rfl (Nat.le_of_ble_eq_true rfl) dX2_noteTold_7 rfl rfl ⟨Nat.zero_le _, Nat.zero_le _⟩ (fun v w' H locs hpo w => ?_)
  clear ev
  obtain ⟨s_told_2, f_told_3, ok_told, rfl, rfl⟩ := hpo
  have w : mW E A s [(h, .inr (1, [.ref h_rules, .ref h_book, .ref h_told, .ref h_written, .ref h_late, .ref a_sums, .ref a_asum])), (h_rules, .inr (4, [.ref a_vals, .int now])), (a_vals, .inl (E.2.1, 8, .inl vals)), (h_book, .inr (8, [.int (nI 40), .int (nI 3), .ref a_book, .int s_book])), (a_book, .inl (E.2.1, (40 * 3), .inl f_book)), (h_told, .inr (8, [.int (nI 60), .int (nI 1), .ref a_told, .int s_told_2])), (a_told, .inl (E.2.1, (60 * 1), .inl f_told_3)), (h_written, .inr (8, [.int (nI 40), .int (nI 2), .ref a_written, .int s_written])), (a_written, .inl (E.2.1, (40 * 2), .inl f_written)), (h_late, .inr (8, [.int (nI 60), .int (nI 1), .ref a_late, .int s_late])), (a_late, .inl (E.2.1, (60 * 1), .inl f_late)), (a_sums, .inl (E.2.1, 14, .inl sums)), (a_asum, .inl (E.2.1, 64, .inl asum))] H locs := w.sub [0, 1, 2, 3, 4, 11, 12, 5, 6, 7, 8, 9, 10] (by decide) rfl
  refine lv_pop hx hb dX2_noteTold_10 rfl ?_
  refine lv_aload_n hx hb dX2_noteTold_11 rfl (lv_at hl 0 rfl) ?_
  refine lv_iconst (v := 3) hx hb dX2_noteTold_12 (by decide) ?_
  refine lv_iload_n hx hb dX2_noteTold_13 rfl (lv_at hl 1 rfl) ?_
  obtain ⟨o_4, hq, hf⟩ := bd_e hf
  refine mx_callV (As := [.int 3, .int x1]) (rest := []) (wr := []) (d_X2_note E l N h h_rules a_vals h_book a_book h_told a_told h_written a_written h_late a_late a_sums a_asum vals now book o_1.2 written late sums asum s_book f_book s_told_2 f_told_3 s_written f_written s_late f_late 3 x1 ok_book ok_told ok_written ok_late o_4 hq) B w [0, 1, 2, 3, 4, 5, 6, 7, 8, 9, 10, 11, 12] [] rfl rfl (by decide) (by decide) (by decide) 0 rfl rfl cv_X2_note kw_435 2 (by decide +kernel) ⟨Nat.le_of_ble_eq_true rfl, Nat.le_of_ble_eq_true rfl⟩ rfl hl.1 rfl (Nat.le_of_ble_eq_true rfl) dX2_noteTold_14 rfl rfl ⟨Nat.zero_le _, Nat.zero_le _⟩ (fun v w' H locs hpo w => ?_)
  clear hq
  obtain ⟨s_book_5, f_book_6, ok_book, rfl, rfl⟩ := hpo
  have w : mW E A s [(h, .inr (1, [.ref h_rules, .ref h_book, .ref h_told, .ref h_written, .ref h_late, .ref a_sums, .ref a_asum])), (h_rules, .inr (4, [.ref a_vals, .int now])), (a_vals, .inl (E.2.1, 8, .inl vals)), (h_book, .inr (8, [.int (nI 40), .int (nI 3), .ref a_book, .int s_book_5])), (a_book, .inl (E.2.1, (40 * 3), .inl f_book_6)), (h_told, .inr (8, [.int (nI 60), .int (nI 1), .ref a_told, .int s_told_2])), (a_told, .inl (E.2.1, (60 * 1), .inl f_told_3)), (h_written, .inr (8, [.int (nI 40), .int (nI 2), .ref a_written, .int s_written])), (a_written, .inl (E.2.1, (40 * 2), .inl f_written)), (h_late, .inr (8, [.int (nI 60), .int (nI 1), .ref a_late, .int s_late])), (a_late, .inl (E.2.1, (60 * 1), .inl f_late)), (a_sums, .inl (E.2.1, 14, .inl o_4.2)), (a_asum, .inl (E.2.1, 64, .inl asum))] H locs := w
  cases hf
  exact mx_vret B w ⟨_, _, _, _, ok_book, ok_told, rfl, rfl⟩ dX2_noteTold_17
-- X3_runWhatMay
def po_X3_runWhatMay (E : mE) (h : Nat) (h_rules : Nat) (a_vals : Nat) (h_ledger : Nat) (h_book : Nat) (a_book : Nat) (h_told : Nat) (a_told : Nat) (h_written : Nat) (a_written : Nat) (h_late : Nat) (a_late : Nat) (a_sums : Nat) (a_asum : Nat) (h_line : Nat) (a_line : Nat) (h_waits : Nat) (a_waits : Nat) (h_boxes : Nat) (a_boxes : Nat)  (vals : Nat → Int32) (now : Int32) (book : Rows) (told : Rows) (written : Rows) (late : Rows) (sums : Nat → Int32) (asum : Nat → Int32) (line : Rows) (waits : Rows) (boxes : Rows) (s_book : Int32) (f_book : Nat → Int32) (s_told : Int32) (f_told : Nat → Int32) (s_written : Int32) (f_written : Nat → Int32) (s_late : Int32) (f_late : Nat → Int32) (s_line : Int32) (f_line : Nat → Int32) (s_waits : Int32) (f_waits : Nat → Int32) (s_boxes : Int32) (f_boxes : Nat → Int32) (o : Rows × Rows × (Nat → Int32) × Rows) : Option Value → va_W → Prop := (fun (v : Option Value) (w' : va_W) => ∃ (s_book' : Int32) (f_book' : Nat → Int32) (s_told' : Int32) (f_told' : Nat → Int32) (s_line' : Int32) (f_line' : Nat → Int32), tb_ok 40 3 o.1 s_book' f_book' ∧ tb_ok 60 1 o.2.1 s_told' f_told' ∧ tb_ok 256 3 o.2.2.2 s_line' f_line' ∧ v = none ∧ w' = [(h, .inr (2, [.ref h_rules, .ref h_ledger, .ref h_line, .ref h_waits, .ref h_boxes])), (h_rules, .inr (4, [.ref a_vals, .int now])), (a_vals, .inl (E.2.1, 8, .inl vals)), (h_ledger, .inr (1, [.ref h_rules, .ref h_book, .ref h_told, .ref h_written, .ref h_late, .ref a_sums, .ref a_asum])), (h_book, .inr (8, [.int (nI 40), .int (nI 3), .ref a_book, .int s_book'])), (a_book, .inl (E.2.1, (40 * 3), .inl f_book')), (h_told, .inr (8, [.int (nI 60), .int (nI 1), .ref a_told, .int s_told'])), (a_told, .inl (E.2.1, (60 * 1), .inl f_told')), (h_written, .inr (8, [.int (nI 40), .int (nI 2), .ref a_written, .int s_written])), (a_written, .inl (E.2.1, (40 * 2), .inl f_written)), (h_late, .inr (8, [.int (nI 60), .int (nI 1), .ref a_late, .int s_late])), (a_late, .inl (E.2.1, (60 * 1), .inl f_late)), (a_sums, .inl (E.2.1, 14, .inl o.2.2.1)), (a_asum, .inl (E.2.1, 64, .inl asum)), (h_line, .inr (8, [.int (nI 256), .int (nI 3), .ref a_line, .int s_line'])), (a_line, .inl (E.2.1, (256 * 3), .inl f_line')), (h_waits, .inr (8, [.int (nI 256), .int (nI 2), .ref a_waits, .int s_waits])), (a_waits, .inl (E.2.1, (256 * 2), .inl f_waits)), (h_boxes, .inr (8, [.int (nI 192), .int (nI 3), .ref a_boxes, .int s_boxes])), (a_boxes, .inl (E.2.1, (192 * 3), .inl f_boxes))])
noncomputable def K_X3_runWhatMay_16 (N : Nat)  (rec : Int32 → Int32 → Rows → Rows → (Nat → Int32) → Rows → (Option (Rows × Rows × (Nat → Int32) × Rows))) (k82 : Rows → Rows → (Nat → Int32) → Rows → (Option (Rows × Rows × (Nat → Int32) × Rows)))  (vals : Nat → Int32) (now : Int32) (x1 : Int32) (x2 : Int32) (book : Rows) (told : Rows) (sums : Nat → Int32) (line : Rows) : Option (Rows × Rows × (Nat → Int32) × Rows) :=
  if (x2 ≤ 0 : Prop) then
  k82 book told sums line
  else
  lt (tsize line) (fun o_4 =>
  if (o_4 ≤ x1 : Prop) then
  k82 book told sums line
  else
  lt (tset line x1 1 1) (fun o_5 =>
  bd (F_X5_now now) (fun o_8 =>
  lt (tset o_5 x1 2 o_8) (fun o_9 =>
  lt (tget o_9 x1 0) (fun o_12 =>
  bd (F_X2_noteTold N now book told sums o_12) (fun o_13 =>
  lt (x1 + 1) (fun x1_18 =>
  lt (x2 + (-1)) (fun x2_19 =>
  rec x1_18 x2_19 o_13.1 o_13.2.1 o_13.2.2 o_9))))))))
noncomputable def L_X3_runWhatMay_16 (N : Nat)  (k82 : Rows → Rows → (Nat → Int32) → Rows → (Option (Rows × Rows × (Nat → Int32) × Rows)))  (vals : Nat → Int32) (now : Int32) (n : Nat) : Int32 → Int32 → Rows → Rows → (Nat → Int32) → Rows → (Option (Rows × Rows × (Nat → Int32) × Rows)) :=
  Nat.rec (motive := fun _ => Int32 → Int32 → Rows → Rows → (Nat → Int32) → Rows → (Option (Rows × Rows × (Nat → Int32) × Rows))) (fun _ _ _ _ _ _ => none) (fun _ rec => K_X3_runWhatMay_16 N rec k82 vals now) n
set_option maxHeartbeats 4000000 in
set_option maxRecDepth 100000 in
theorem l_X3_runWhatMay_16 {E : mE} {l : Launch} {p : Program} {e : Env} {s : State} {m : MethodId} {args : Array Value} {below : List Frame} {meth : Method} {c : Code} {A : Nat → Prop} {Q : State → Prop} {N : Nat} {h : Nat} {h_rules : Nat} {a_vals : Nat} {h_ledger : Nat} {h_book : Nat} {a_book : Nat} {h_told : Nat} {a_told : Nat} {h_written : Nat} {a_written : Nat} {h_late : Nat} {a_late : Nat} {a_sums : Nat} {a_asum : Nat} {h_line : Nat} {a_line : Nat} {h_waits : Nat} {a_waits : Nat} {h_boxes : Nat} {a_boxes : Nat}  {vals : Nat → Int32} {now : Int32} {book0 : Rows} {told0 : Rows} {written : Rows} {late : Rows} {sums0 : Nat → Int32} {asum : Nat → Int32} {line0 : Rows} {waits : Rows} {boxes : Rows} {s_book0 : Int32} {f_book0 : Nat → Int32} {s_told0 : Int32} {f_told0 : Nat → Int32} {s_written : Int32} {f_written : Nat → Int32} {s_late : Int32} {f_late : Nat → Int32} {s_line0 : Int32} {f_line0 : Nat → Int32} {s_waits : Int32} {f_waits : Nat → Int32} {s_boxes : Int32} {f_boxes : Nat → Int32} {o : Rows × Rows × (Nat → Int32) × Rows} (B : mB E yX3_runWhatMay cX3_runWhatMay 3 none 0 0 (po_X3_runWhatMay E h h_rules a_vals h_ledger h_book a_book h_told a_told h_written a_written h_late a_late a_sums a_asum h_line a_line h_waits a_waits h_boxes a_boxes vals now book0 told0 written late sums0 asum line0 waits boxes s_book0 f_book0 s_told0 f_told0 s_written f_written s_late f_late s_line0 f_line0 s_waits f_waits s_boxes f_boxes o) p s m args below meth c A Q)    (k82 : Rows → Rows → (Nat → Int32) → Rows → (Option (Rows × Rows × (Nat → Int32) × Rows))) (ok_written : tb_ok 40 2 written s_written f_written) (ok_late : tb_ok 60 1 late s_late f_late) (ok_waits : tb_ok 256 2 waits s_waits f_waits) (ok_boxes : tb_ok 192 3 boxes s_boxes f_boxes) (hk82 : ∀  (book : Rows) (told : Rows) (sums : Nat → Int32) (line : Rows) (s_book : Int32) (f_book : Nat → Int32) (s_told : Int32) (f_told : Nat → Int32) (s_line : Int32) (f_line : Nat → Int32) (H : Heap) (locs : List Loc) (ls : Array Slot), k82 book told sums line = some o → tb_ok 40 3 book s_book f_book → tb_ok 60 1 told s_told f_told → tb_ok 256 3 line s_line f_line → mW E A s [(h, .inr (2, [.ref h_rules, .ref h_ledger, .ref h_line, .ref h_waits, .ref h_boxes])), (h_rules, .inr (4, [.ref a_vals, .int now])), (a_vals, .inl (E.2.1, 8, .inl vals)), (h_ledger, .inr (1, [.ref h_rules, .ref h_book, .ref h_told, .ref h_written, .ref h_late, .ref a_sums, .ref a_asum])), (h_book, .inr (8, [.int (nI 40), .int (nI 3), .ref a_book, .int s_book])), (a_book, .inl (E.2.1, (40 * 3), .inl f_book)), (h_told, .inr (8, [.int (nI 60), .int (nI 1), .ref a_told, .int s_told])), (a_told, .inl (E.2.1, (60 * 1), .inl f_told)), (h_written, .inr (8, [.int (nI 40), .int (nI 2), .ref a_written, .int s_written])), (a_written, .inl (E.2.1, (40 * 2), .inl f_written)), (h_late, .inr (8, [.int (nI 60), .int (nI 1), .ref a_late, .int s_late])), (a_late, .inl (E.2.1, (60 * 1), .inl f_late)), (a_sums, .inl (E.2.1, 14, .inl sums)), (a_asum, .inl (E.2.1, 64, .inl asum)), (h_line, .inr (8, [.int (nI 256), .int (nI 3), .ref a_line, .int s_line])), (a_line, .inl (E.2.1, (256 * 3), .inl f_line)), (h_waits, .inr (8, [.int (nI 256), .int (nI 2), .ref a_waits, .int s_waits])), (a_waits, .inl (E.2.1, (256 * 2), .inl f_waits)), (h_boxes, .inr (8, [.int (nI 192), .int (nI 3), .ref a_boxes, .int s_boxes])), (a_boxes, .inl (E.2.1, (192 * 3), .inl f_boxes))] H locs → lv_has ls 3 [] → W p l e ({ frames := 3, cells := 0, slots := 0, locals := 68 } : Room) s m args below meth c H locs 0 0 Q (F0 m 82 ls [])) : ∀ n : Nat, ∀ (x1 : Int32) (x2 : Int32) (book : Rows) (told : Rows) (sums : Nat → Int32) (line : Rows) (s_book : Int32) (f_book : Nat → Int32) (s_told : Int32) (f_told : Nat → Int32) (s_line : Int32) (f_line : Nat → Int32) (H : Heap) (locs : List Loc) (ls : Array Slot), L_X3_runWhatMay_16 N k82 vals now n x1 x2 book told sums line = some o → tb_ok 40 3 book s_book f_book → tb_ok 60 1 told s_told f_told → tb_ok 256 3 line s_line f_line → mW E A s [(h, .inr (2, [.ref h_rules, .ref h_ledger, .ref h_line, .ref h_waits, .ref h_boxes])), (h_rules, .inr (4, [.ref a_vals, .int now])), (a_vals, .inl (E.2.1, 8, .inl vals)), (h_ledger, .inr (1, [.ref h_rules, .ref h_book, .ref h_told, .ref h_written, .ref h_late, .ref a_sums, .ref a_asum])), (h_book, .inr (8, [.int (nI 40), .int (nI 3), .ref a_book, .int s_book])), (a_book, .inl (E.2.1, (40 * 3), .inl f_book)), (h_told, .inr (8, [.int (nI 60), .int (nI 1), .ref a_told, .int s_told])), (a_told, .inl (E.2.1, (60 * 1), .inl f_told)), (h_written, .inr (8, [.int (nI 40), .int (nI 2), .ref a_written, .int s_written])), (a_written, .inl (E.2.1, (40 * 2), .inl f_written)), (h_late, .inr (8, [.int (nI 60), .int (nI 1), .ref a_late, .int s_late])), (a_late, .inl (E.2.1, (60 * 1), .inl f_late)), (a_sums, .inl (E.2.1, 14, .inl sums)), (a_asum, .inl (E.2.1, 64, .inl asum)), (h_line, .inr (8, [.int (nI 256), .int (nI 3), .ref a_line, .int s_line])), (a_line, .inl (E.2.1, (256 * 3), .inl f_line)), (h_waits, .inr (8, [.int (nI 256), .int (nI 2), .ref a_waits, .int s_waits])), (a_waits, .inl (E.2.1, (256 * 2), .inl f_waits)), (h_boxes, .inr (8, [.int (nI 192), .int (nI 3), .ref a_boxes, .int s_boxes])), (a_boxes, .inl (E.2.1, (192 * 3), .inl f_boxes))] H locs → lv_has ls 3 [(0, .ref h), (1, .int x1), (2, .int x2)] → W p l e ({ frames := 3, cells := 0, slots := 0, locals := 68 } : Room) s m args below meth c H locs 0 0 Q (F0 m 16 ls []) := by
  obtain ⟨hx, hb, hml, hown, hts⟩ := id B.1
  intro n
  induction n with
  | zero =>
    intro x1 x2 book told sums line s_book f_book s_told f_told s_line f_line H locs ls hf ok_book ok_told ok_line w hl
    exact nomatch hf
  | succ n hrec =>
    intro x1 x2 book told sums line s_book f_book s_told f_told s_line f_line H locs ls hf ok_book ok_told ok_line w hl
    have hf : K_X3_runWhatMay_16 N (L_X3_runWhatMay_16 N k82 vals now n) k82 vals now x1 x2 book told sums line = some o := hf
    unfold K_X3_runWhatMay_16 at hf
    refine lv_iload_n hx hb dX3_runWhatMay_16 rfl (lv_at hl 2 rfl) ?_
    refine lv_if_le (tgt := 82) hx hb dX3_runWhatMay_17 (by decide) (fun hc => ?_) (fun hc => ?_)
    · have hf := it_t hc hf
      exact hk82 _ _ _ _ _ _ _ _ _ _ _ _ _ hf ok_book ok_told ok_line w (lv_sub hl [] rfl)
    · have hf := it_f hc hf
      refine lv_iload_n hx hb dX3_runWhatMay_20 rfl (lv_at hl 1 rfl) ?_
      refine lv_aload_n hx hb dX3_runWhatMay_21 rfl (lv_at hl 0 rfl) ?_
      refine mx_get B w 0 fl_X3_24 rfl rfl dX3_runWhatMay_22 ?_
      obtain ⟨o_4, ev⟩ : ∃ y, y = tsize line := ⟨_, rfl⟩
      have hf := lt_n ev hf
      refine mx_callV (As := []) (rest := [.int x1]) (wr := [(h, .inr (2, [.ref h_rules, .ref h_ledger, .ref h_line, .ref h_waits, .ref h_boxes])), (h_rules, .inr (4, [.ref a_vals, .int now])), (a_vals, .inl (E.2.1, 8, .inl vals)), (h_ledger, .inr (1, [.ref h_rules, .ref h_book, .ref h_told, .ref h_written, .ref h_late, .ref a_sums, .ref a_asum])), (h_book, .inr (8, [.int (nI 40), .int (nI 3), .ref a_book, .int s_book])), (a_book, .inl (E.2.1, (40 * 3), .inl f_book)), (h_told, .inr (8, [.int (nI 60), .int (nI 1), .ref a_told, .int s_told])), (a_told, .inl (E.2.1, (60 * 1), .inl f_told)), (h_written, .inr (8, [.int (nI 40), .int (nI 2), .ref a_written, .int s_written])), (a_written, .inl (E.2.1, (40 * 2), .inl f_written)), (h_late, .inr (8, [.int (nI 60), .int (nI 1), .ref a_late, .int s_late])), (a_late, .inl (E.2.1, (60 * 1), .inl f_late)), (a_sums, .inl (E.2.1, 14, .inl sums)), (a_asum, .inl (E.2.1, 64, .inl asum)), (h_waits, .inr (8, [.int (nI 256), .int (nI 2), .ref a_waits, .int s_waits])), (a_waits, .inl (E.2.1, (256 * 2), .inl f_waits)), (h_boxes, .inr (8, [.int (nI 192), .int (nI 3), .ref a_boxes, .int s_boxes])), (a_boxes, .inl (E.2.1, (192 * 3), .inl f_boxes))]) (c_X9_size E l h_line a_line 256 3 line s_line f_line  ok_line o_4 ev) B w [14, 15] [0, 1, 2, 3, 4, 5, 6, 7, 8, 9, 10, 11, 12, 13, 16, 17, 18, 19] rfl rfl (by decide) (by decide) (by decide) 14 rfl rfl cv_X9_size kw_471 0 (by decide +kernel) ⟨Nat.le_of_ble_eq_true rfl, Nat.le_of_ble_eq_true rfl⟩ rfl hl.1 rfl (Nat.le_of_ble_eq_true rfl) dX3_runWhatMay_25 rfl rfl ⟨Nat.zero_le _, Nat.zero_le _⟩ (fun v w' H locs hpo w => ?_)
      clear ev
      obtain ⟨rfl, rfl⟩ := hpo
      have w : mW E A s [(h, .inr (2, [.ref h_rules, .ref h_ledger, .ref h_line, .ref h_waits, .ref h_boxes])), (h_rules, .inr (4, [.ref a_vals, .int now])), (a_vals, .inl (E.2.1, 8, .inl vals)), (h_ledger, .inr (1, [.ref h_rules, .ref h_book, .ref h_told, .ref h_written, .ref h_late, .ref a_sums, .ref a_asum])), (h_book, .inr (8, [.int (nI 40), .int (nI 3), .ref a_book, .int s_book])), (a_book, .inl (E.2.1, (40 * 3), .inl f_book)), (h_told, .inr (8, [.int (nI 60), .int (nI 1), .ref a_told, .int s_told])), (a_told, .inl (E.2.1, (60 * 1), .inl f_told)), (h_written, .inr (8, [.int (nI 40), .int (nI 2), .ref a_written, .int s_written])), (a_written, .inl (E.2.1, (40 * 2), .inl f_written)), (h_late, .inr (8, [.int (nI 60), .int (nI 1), .ref a_late, .int s_late])), (a_late, .inl (E.2.1, (60 * 1), .inl f_late)), (a_sums, .inl (E.2.1, 14, .inl sums)), (a_asum, .inl (E.2.1, 64, .inl asum)), (h_line, .inr (8, [.int (nI 256), .int (nI 3), .ref a_line, .int s_line])), (a_line, .inl (E.2.1, (256 * 3), .inl f_line)), (h_waits, .inr (8, [.int (nI 256), .int (nI 2), .ref a_waits, .int s_waits])), (a_waits, .inl (E.2.1, (256 * 2), .inl f_waits)), (h_boxes, .inr (8, [.int (nI 192), .int (nI 3), .ref a_boxes, .int s_boxes])), (a_boxes, .inl (E.2.1, (192 * 3), .inl f_boxes))] H locs := w.sub [0, 1, 2, 3, 4, 5, 6, 7, 8, 9, 10, 11, 12, 13, 18, 19, 14, 15, 16, 17] (by decide) rfl
      refine lv_icmp_ge (tgt := 82) hx hb dX3_runWhatMay_28 (by decide) (fun hc => ?_) (fun hc => ?_)
      · have hf := it_t hc hf
        exact hk82 _ _ _ _ _ _ _ _ _ _ _ _ _ hf ok_book ok_told ok_line w (lv_sub hl [] rfl)
      · have hf := it_f hc hf
        refine lv_aload_n hx hb dX3_runWhatMay_31 rfl (lv_at hl 0 rfl) ?_
        refine mx_get B w 0 fl_X3_24 rfl rfl dX3_runWhatMay_32 ?_
        refine lv_iload_n hx hb dX3_runWhatMay_35 rfl (lv_at hl 1 rfl) ?_
        refine lv_iconst (v := 1) hx hb dX3_runWhatMay_36 (by decide) ?_
        refine lv_iconst (v := 1) hx hb dX3_runWhatMay_37 (by decide) ?_
        obtain ⟨o_5, ev⟩ : ∃ y, y = tset line x1 1 1 := ⟨_, rfl⟩
        have hf := lt_n ev hf
        refine mx_callV (As := [.int x1, .int 1, .int 1]) (rest := []) (wr := [(h, .inr (2, [.ref h_rules, .ref h_ledger, .ref h_line, .ref h_waits, .ref h_boxes])), (h_rules, .inr (4, [.ref a_vals, .int now])), (a_vals, .inl (E.2.1, 8, .inl vals)), (h_ledger, .inr (1, [.ref h_rules, .ref h_book, .ref h_told, .ref h_written, .ref h_late, .ref a_sums, .ref a_asum])), (h_book, .inr (8, [.int (nI 40), .int (nI 3), .ref a_book, .int s_book])), (a_book, .inl (E.2.1, (40 * 3), .inl f_book)), (h_told, .inr (8, [.int (nI 60), .int (nI 1), .ref a_told, .int s_told])), (a_told, .inl (E.2.1, (60 * 1), .inl f_told)), (h_written, .inr (8, [.int (nI 40), .int (nI 2), .ref a_written, .int s_written])), (a_written, .inl (E.2.1, (40 * 2), .inl f_written)), (h_late, .inr (8, [.int (nI 60), .int (nI 1), .ref a_late, .int s_late])), (a_late, .inl (E.2.1, (60 * 1), .inl f_late)), (a_sums, .inl (E.2.1, 14, .inl sums)), (a_asum, .inl (E.2.1, 64, .inl asum)), (h_waits, .inr (8, [.int (nI 256), .int (nI 2), .ref a_waits, .int s_waits])), (a_waits, .inl (E.2.1, (256 * 2), .inl f_waits)), (h_boxes, .inr (8, [.int (nI 192), .int (nI 3), .ref a_boxes, .int s_boxes])), (a_boxes, .inl (E.2.1, (192 * 3), .inl f_boxes))]) (c_X9_set E l h_line a_line 256 3 line s_line f_line x1 1 1 ok_line o_5 ev) B w [14, 15] [0, 1, 2, 3, 4, 5, 6, 7, 8, 9, 10, 11, 12, 13, 16, 17, 18, 19] rfl rfl (by decide) (by decide) (by decide) 14 rfl rfl cv_X9_set kw_472 3 (by decide +kernel) ⟨Nat.le_of_ble_eq_true rfl, Nat.le_of_ble_eq_true rfl⟩ rfl hl.1 rfl (Nat.le_of_ble_eq_true rfl) dX3_runWhatMay_38 rfl rfl ⟨Nat.zero_le _, Nat.zero_le _⟩ (fun v w' H locs hpo w => ?_)
        clear ev
        obtain ⟨s_line_6, f_line_7, ok_line, rfl, rfl⟩ := hpo
        have w : mW E A s [(h, .inr (2, [.ref h_rules, .ref h_ledger, .ref h_line, .ref h_waits, .ref h_boxes])), (h_rules, .inr (4, [.ref a_vals, .int now])), (a_vals, .inl (E.2.1, 8, .inl vals)), (h_ledger, .inr (1, [.ref h_rules, .ref h_book, .ref h_told, .ref h_written, .ref h_late, .ref a_sums, .ref a_asum])), (h_book, .inr (8, [.int (nI 40), .int (nI 3), .ref a_book, .int s_book])), (a_book, .inl (E.2.1, (40 * 3), .inl f_book)), (h_told, .inr (8, [.int (nI 60), .int (nI 1), .ref a_told, .int s_told])), (a_told, .inl (E.2.1, (60 * 1), .inl f_told)), (h_written, .inr (8, [.int (nI 40), .int (nI 2), .ref a_written, .int s_written])), (a_written, .inl (E.2.1, (40 * 2), .inl f_written)), (h_late, .inr (8, [.int (nI 60), .int (nI 1), .ref a_late, .int s_late])), (a_late, .inl (E.2.1, (60 * 1), .inl f_late)), (a_sums, .inl (E.2.1, 14, .inl sums)), (a_asum, .inl (E.2.1, 64, .inl asum)), (h_line, .inr (8, [.int (nI 256), .int (nI 3), .ref a_line, .int s_line_6])), (a_line, .inl (E.2.1, (256 * 3), .inl f_line_7)), (h_waits, .inr (8, [.int (nI 256), .int (nI 2), .ref a_waits, .int s_waits])), (a_waits, .inl (E.2.1, (256 * 2), .inl f_waits)), (h_boxes, .inr (8, [.int (nI 192), .int (nI 3), .ref a_boxes, .int s_boxes])), (a_boxes, .inl (E.2.1, (192 * 3), .inl f_boxes))] H locs := w.sub [0, 1, 2, 3, 4, 5, 6, 7, 8, 9, 10, 11, 12, 13, 18, 19, 14, 15, 16, 17] (by decide) rfl
        refine lv_aload_n hx hb dX3_runWhatMay_41 rfl (lv_at hl 0 rfl) ?_
        refine mx_get B w 0 fl_X3_24 rfl rfl dX3_runWhatMay_42 ?_
        refine lv_iload_n hx hb dX3_runWhatMay_45 rfl (lv_at hl 1 rfl) ?_
        refine lv_iconst (v := 2) hx hb dX3_runWhatMay_46 (by decide) ?_
        refine lv_aload_n hx hb dX3_runWhatMay_47 rfl (lv_at hl 0 rfl) ?_
        refine mx_get B w 0 fl_X3_9 rfl rfl dX3_runWhatMay_48 ?_
        obtain ⟨o_8, hq, hf⟩ := bd_e hf
        refine mx_callV (As := []) (rest := [.int 2, .int x1, .ref h_line]) (wr := [(h, .inr (2, [.ref h_rules, .ref h_ledger, .ref h_line, .ref h_waits, .ref h_boxes])), (h_ledger, .inr (1, [.ref h_rules, .ref h_book, .ref h_told, .ref h_written, .ref h_late, .ref a_sums, .ref a_asum])), (h_book, .inr (8, [.int (nI 40), .int (nI 3), .ref a_book, .int s_book])), (a_book, .inl (E.2.1, (40 * 3), .inl f_book)), (h_told, .inr (8, [.int (nI 60), .int (nI 1), .ref a_told, .int s_told])), (a_told, .inl (E.2.1, (60 * 1), .inl f_told)), (h_written, .inr (8, [.int (nI 40), .int (nI 2), .ref a_written, .int s_written])), (a_written, .inl (E.2.1, (40 * 2), .inl f_written)), (h_late, .inr (8, [.int (nI 60), .int (nI 1), .ref a_late, .int s_late])), (a_late, .inl (E.2.1, (60 * 1), .inl f_late)), (a_sums, .inl (E.2.1, 14, .inl sums)), (a_asum, .inl (E.2.1, 64, .inl asum)), (h_line, .inr (8, [.int (nI 256), .int (nI 3), .ref a_line, .int s_line_6])), (a_line, .inl (E.2.1, (256 * 3), .inl f_line_7)), (h_waits, .inr (8, [.int (nI 256), .int (nI 2), .ref a_waits, .int s_waits])), (a_waits, .inl (E.2.1, (256 * 2), .inl f_waits)), (h_boxes, .inr (8, [.int (nI 192), .int (nI 3), .ref a_boxes, .int s_boxes])), (a_boxes, .inl (E.2.1, (192 * 3), .inl f_boxes))]) (d_X5_now E l  h_rules a_vals vals now   o_8 hq) B w [1, 2] [0, 3, 4, 5, 6, 7, 8, 9, 10, 11, 12, 13, 14, 15, 16, 17, 18, 19] rfl rfl (by decide) (by decide) (by decide) 1 rfl rfl cv_X5_now kw_473 0 (by decide +kernel) ⟨Nat.le_of_ble_eq_true rfl, Nat.le_of_ble_eq_true rfl⟩ rfl hl.1 rfl (Nat.le_of_ble_eq_true rfl) dX3_runWhatMay_51 rfl rfl ⟨Nat.zero_le _, Nat.zero_le _⟩ (fun v w' H locs hpo w => ?_)
        clear hq
        obtain ⟨rfl, rfl⟩ := hpo
        have w : mW E A s [(h, .inr (2, [.ref h_rules, .ref h_ledger, .ref h_line, .ref h_waits, .ref h_boxes])), (h_rules, .inr (4, [.ref a_vals, .int now])), (a_vals, .inl (E.2.1, 8, .inl vals)), (h_ledger, .inr (1, [.ref h_rules, .ref h_book, .ref h_told, .ref h_written, .ref h_late, .ref a_sums, .ref a_asum])), (h_book, .inr (8, [.int (nI 40), .int (nI 3), .ref a_book, .int s_book])), (a_book, .inl (E.2.1, (40 * 3), .inl f_book)), (h_told, .inr (8, [.int (nI 60), .int (nI 1), .ref a_told, .int s_told])), (a_told, .inl (E.2.1, (60 * 1), .inl f_told)), (h_written, .inr (8, [.int (nI 40), .int (nI 2), .ref a_written, .int s_written])), (a_written, .inl (E.2.1, (40 * 2), .inl f_written)), (h_late, .inr (8, [.int (nI 60), .int (nI 1), .ref a_late, .int s_late])), (a_late, .inl (E.2.1, (60 * 1), .inl f_late)), (a_sums, .inl (E.2.1, 14, .inl sums)), (a_asum, .inl (E.2.1, 64, .inl asum)), (h_line, .inr (8, [.int (nI 256), .int (nI 3), .ref a_line, .int s_line_6])), (a_line, .inl (E.2.1, (256 * 3), .inl f_line_7)), (h_waits, .inr (8, [.int (nI 256), .int (nI 2), .ref a_waits, .int s_waits])), (a_waits, .inl (E.2.1, (256 * 2), .inl f_waits)), (h_boxes, .inr (8, [.int (nI 192), .int (nI 3), .ref a_boxes, .int s_boxes])), (a_boxes, .inl (E.2.1, (192 * 3), .inl f_boxes))] H locs := w.sub [0, 18, 19, 1, 2, 3, 4, 5, 6, 7, 8, 9, 10, 11, 12, 13, 14, 15, 16, 17] (by decide) rfl
        obtain ⟨o_9, ev⟩ : ∃ y, y = tset o_5 x1 2 o_8 := ⟨_, rfl⟩
        have hf := lt_n ev hf
        refine mx_callV (As := [.int x1, .int 2, .int o_8]) (rest := []) (wr := [(h, .inr (2, [.ref h_rules, .ref h_ledger, .ref h_line, .ref h_waits, .ref h_boxes])), (h_rules, .inr (4, [.ref a_vals, .int now])), (a_vals, .inl (E.2.1, 8, .inl vals)), (h_ledger, .inr (1, [.ref h_rules, .ref h_book, .ref h_told, .ref h_written, .ref h_late, .ref a_sums, .ref a_asum])), (h_book, .inr (8, [.int (nI 40), .int (nI 3), .ref a_book, .int s_book])), (a_book, .inl (E.2.1, (40 * 3), .inl f_book)), (h_told, .inr (8, [.int (nI 60), .int (nI 1), .ref a_told, .int s_told])), (a_told, .inl (E.2.1, (60 * 1), .inl f_told)), (h_written, .inr (8, [.int (nI 40), .int (nI 2), .ref a_written, .int s_written])), (a_written, .inl (E.2.1, (40 * 2), .inl f_written)), (h_late, .inr (8, [.int (nI 60), .int (nI 1), .ref a_late, .int s_late])), (a_late, .inl (E.2.1, (60 * 1), .inl f_late)), (a_sums, .inl (E.2.1, 14, .inl sums)), (a_asum, .inl (E.2.1, 64, .inl asum)), (h_waits, .inr (8, [.int (nI 256), .int (nI 2), .ref a_waits, .int s_waits])), (a_waits, .inl (E.2.1, (256 * 2), .inl f_waits)), (h_boxes, .inr (8, [.int (nI 192), .int (nI 3), .ref a_boxes, .int s_boxes])), (a_boxes, .inl (E.2.1, (192 * 3), .inl f_boxes))]) (c_X9_set E l h_line a_line 256 3 o_5 s_line_6 f_line_7 x1 2 o_8 ok_line o_9 ev) B w [14, 15] [0, 1, 2, 3, 4, 5, 6, 7, 8, 9, 10, 11, 12, 13, 16, 17, 18, 19] rfl rfl (by decide) (by decide) (by decide) 14 rfl rfl cv_X9_set kw_472 3 (by decide +kernel) ⟨Nat.le_of_ble_eq_true rfl, Nat.le_of_ble_eq_true rfl⟩ rfl hl.1 rfl (Nat.le_of_ble_eq_true rfl) dX3_runWhatMay_54 rfl rfl ⟨Nat.zero_le _, Nat.zero_le _⟩ (fun v w' H locs hpo w => ?_)
        clear ev
        obtain ⟨s_line_10, f_line_11, ok_line, rfl, rfl⟩ := hpo
        have w : mW E A s [(h, .inr (2, [.ref h_rules, .ref h_ledger, .ref h_line, .ref h_waits, .ref h_boxes])), (h_rules, .inr (4, [.ref a_vals, .int now])), (a_vals, .inl (E.2.1, 8, .inl vals)), (h_ledger, .inr (1, [.ref h_rules, .ref h_book, .ref h_told, .ref h_written, .ref h_late, .ref a_sums, .ref a_asum])), (h_book, .inr (8, [.int (nI 40), .int (nI 3), .ref a_book, .int s_book])), (a_book, .inl (E.2.1, (40 * 3), .inl f_book)), (h_told, .inr (8, [.int (nI 60), .int (nI 1), .ref a_told, .int s_told])), (a_told, .inl (E.2.1, (60 * 1), .inl f_told)), (h_written, .inr (8, [.int (nI 40), .int (nI 2), .ref a_written, .int s_written])), (a_written, .inl (E.2.1, (40 * 2), .inl f_written)), (h_late, .inr (8, [.int (nI 60), .int (nI 1), .ref a_late, .int s_late])), (a_late, .inl (E.2.1, (60 * 1), .inl f_late)), (a_sums, .inl (E.2.1, 14, .inl sums)), (a_asum, .inl (E.2.1, 64, .inl asum)), (h_line, .inr (8, [.int (nI 256), .int (nI 3), .ref a_line, .int s_line_10])), (a_line, .inl (E.2.1, (256 * 3), .inl f_line_11)), (h_waits, .inr (8, [.int (nI 256), .int (nI 2), .ref a_waits, .int s_waits])), (a_waits, .inl (E.2.1, (256 * 2), .inl f_waits)), (h_boxes, .inr (8, [.int (nI 192), .int (nI 3), .ref a_boxes, .int s_boxes])), (a_boxes, .inl (E.2.1, (192 * 3), .inl f_boxes))] H locs := w.sub [0, 1, 2, 3, 4, 5, 6, 7, 8, 9, 10, 11, 12, 13, 18, 19, 14, 15, 16, 17] (by decide) rfl
        refine lv_aload_n hx hb dX3_runWhatMay_57 rfl (lv_at hl 0 rfl) ?_
        refine mx_get B w 0 fl_X3_15 rfl rfl dX3_runWhatMay_58 ?_
        refine lv_aload_n hx hb dX3_runWhatMay_61 rfl (lv_at hl 0 rfl) ?_
        refine mx_get B w 0 fl_X3_24 rfl rfl dX3_runWhatMay_62 ?_
        refine lv_iload_n hx hb dX3_runWhatMay_65 rfl (lv_at hl 1 rfl) ?_
        refine lv_iconst (v := 0) hx hb dX3_runWhatMay_66 (by decide) ?_
        obtain ⟨o_12, ev⟩ : ∃ y, y = tget o_9 x1 0 := ⟨_, rfl⟩
        have hf := lt_n ev hf
        refine mx_callV (As := [.int x1, .int 0]) (rest := [.ref h_ledger]) (wr := [(h, .inr (2, [.ref h_rules, .ref h_ledger, .ref h_line, .ref h_waits, .ref h_boxes])), (h_rules, .inr (4, [.ref a_vals, .int now])), (a_vals, .inl (E.2.1, 8, .inl vals)), (h_ledger, .inr (1, [.ref h_rules, .ref h_book, .ref h_told, .ref h_written, .ref h_late, .ref a_sums, .ref a_asum])), (h_book, .inr (8, [.int (nI 40), .int (nI 3), .ref a_book, .int s_book])), (a_book, .inl (E.2.1, (40 * 3), .inl f_book)), (h_told, .inr (8, [.int (nI 60), .int (nI 1), .ref a_told, .int s_told])), (a_told, .inl (E.2.1, (60 * 1), .inl f_told)), (h_written, .inr (8, [.int (nI 40), .int (nI 2), .ref a_written, .int s_written])), (a_written, .inl (E.2.1, (40 * 2), .inl f_written)), (h_late, .inr (8, [.int (nI 60), .int (nI 1), .ref a_late, .int s_late])), (a_late, .inl (E.2.1, (60 * 1), .inl f_late)), (a_sums, .inl (E.2.1, 14, .inl sums)), (a_asum, .inl (E.2.1, 64, .inl asum)), (h_waits, .inr (8, [.int (nI 256), .int (nI 2), .ref a_waits, .int s_waits])), (a_waits, .inl (E.2.1, (256 * 2), .inl f_waits)), (h_boxes, .inr (8, [.int (nI 192), .int (nI 3), .ref a_boxes, .int s_boxes])), (a_boxes, .inl (E.2.1, (192 * 3), .inl f_boxes))]) (c_X9_get E l h_line a_line 256 3 o_9 s_line_10 f_line_11 x1 0 ok_line o_12 ev) B w [14, 15] [0, 1, 2, 3, 4, 5, 6, 7, 8, 9, 10, 11, 12, 13, 16, 17, 18, 19] rfl rfl (by decide) (by decide) (by decide) 14 rfl rfl cv_X9_get kw_474 2 (by decide +kernel) ⟨Nat.le_of_ble_eq_true rfl, Nat.le_of_ble_eq_true rfl⟩ rfl hl.1 rfl (Nat.le_of_ble_eq_true rfl) dX3_runWhatMay_67 rfl rfl ⟨Nat.zero_le _, Nat.zero_le _⟩ (fun v w' H locs hpo w => ?_)
        clear ev
        obtain ⟨rfl, rfl⟩ := hpo
        have w : mW E A s [(h, .inr (2, [.ref h_rules, .ref h_ledger, .ref h_line, .ref h_waits, .ref h_boxes])), (h_rules, .inr (4, [.ref a_vals, .int now])), (a_vals, .inl (E.2.1, 8, .inl vals)), (h_ledger, .inr (1, [.ref h_rules, .ref h_book, .ref h_told, .ref h_written, .ref h_late, .ref a_sums, .ref a_asum])), (h_book, .inr (8, [.int (nI 40), .int (nI 3), .ref a_book, .int s_book])), (a_book, .inl (E.2.1, (40 * 3), .inl f_book)), (h_told, .inr (8, [.int (nI 60), .int (nI 1), .ref a_told, .int s_told])), (a_told, .inl (E.2.1, (60 * 1), .inl f_told)), (h_written, .inr (8, [.int (nI 40), .int (nI 2), .ref a_written, .int s_written])), (a_written, .inl (E.2.1, (40 * 2), .inl f_written)), (h_late, .inr (8, [.int (nI 60), .int (nI 1), .ref a_late, .int s_late])), (a_late, .inl (E.2.1, (60 * 1), .inl f_late)), (a_sums, .inl (E.2.1, 14, .inl sums)), (a_asum, .inl (E.2.1, 64, .inl asum)), (h_line, .inr (8, [.int (nI 256), .int (nI 3), .ref a_line, .int s_line_10])), (a_line, .inl (E.2.1, (256 * 3), .inl f_line_11)), (h_waits, .inr (8, [.int (nI 256), .int (nI 2), .ref a_waits, .int s_waits])), (a_waits, .inl (E.2.1, (256 * 2), .inl f_waits)), (h_boxes, .inr (8, [.int (nI 192), .int (nI 3), .ref a_boxes, .int s_boxes])), (a_boxes, .inl (E.2.1, (192 * 3), .inl f_boxes))] H locs := w.sub [0, 1, 2, 3, 4, 5, 6, 7, 8, 9, 10, 11, 12, 13, 18, 19, 14, 15, 16, 17] (by decide) rfl
        obtain ⟨o_13, hq, hf⟩ := bd_e hf
        refine mx_callV (As := [.int o_12]) (rest := []) (wr := [(h, .inr (2, [.ref h_rules, .ref h_ledger, .ref h_line, .ref h_waits, .ref h_boxes])), (h_line, .inr (8, [.int (nI 256), .int (nI 3), .ref a_line, .int s_line_10])), (a_line, .inl (E.2.1, (256 * 3), .inl f_line_11)), (h_waits, .inr (8, [.int (nI 256), .int (nI 2), .ref a_waits, .int s_waits])), (a_waits, .inl (E.2.1, (256 * 2), .inl f_waits)), (h_boxes, .inr (8, [.int (nI 192), .int (nI 3), .ref a_boxes, .int s_boxes])), (a_boxes, .inl (E.2.1, (192 * 3), .inl f_boxes))]) (d_X2_noteTold E l N h_ledger h_rules a_vals h_book a_book h_told a_told h_written a_written h_late a_late a_sums a_asum vals now book told written late sums asum s_book f_book s_told f_told s_written f_written s_late f_late o_12 ok_book ok_told ok_written ok_late o_13 hq) B w [3, 1, 2, 4, 5, 6, 7, 8, 9, 10, 11, 12, 13] [0, 14, 15, 16, 17, 18, 19] rfl rfl (by decide) (by decide) (by decide) 3 rfl rfl cv_X2_noteTold kw_475 1 (by decide +kernel) ⟨Nat.le_of_ble_eq_true rfl, Nat.le_of_ble_eq_true rfl⟩ rfl hl.1 rfl (Nat.le_of_ble_eq_true rfl) dX3_runWhatMay_70 rfl rfl ⟨Nat.zero_le _, Nat.zero_le _⟩ (fun v w' H locs hpo w => ?_)
        clear hq
        obtain ⟨s_book_14, f_book_15, s_told_16, f_told_17, ok_book, ok_told, rfl, rfl⟩ := hpo
        have w : mW E A s [(h, .inr (2, [.ref h_rules, .ref h_ledger, .ref h_line, .ref h_waits, .ref h_boxes])), (h_rules, .inr (4, [.ref a_vals, .int now])), (a_vals, .inl (E.2.1, 8, .inl vals)), (h_ledger, .inr (1, [.ref h_rules, .ref h_book, .ref h_told, .ref h_written, .ref h_late, .ref a_sums, .ref a_asum])), (h_book, .inr (8, [.int (nI 40), .int (nI 3), .ref a_book, .int s_book_14])), (a_book, .inl (E.2.1, (40 * 3), .inl f_book_15)), (h_told, .inr (8, [.int (nI 60), .int (nI 1), .ref a_told, .int s_told_16])), (a_told, .inl (E.2.1, (60 * 1), .inl f_told_17)), (h_written, .inr (8, [.int (nI 40), .int (nI 2), .ref a_written, .int s_written])), (a_written, .inl (E.2.1, (40 * 2), .inl f_written)), (h_late, .inr (8, [.int (nI 60), .int (nI 1), .ref a_late, .int s_late])), (a_late, .inl (E.2.1, (60 * 1), .inl f_late)), (a_sums, .inl (E.2.1, 14, .inl o_13.2.2)), (a_asum, .inl (E.2.1, 64, .inl asum)), (h_line, .inr (8, [.int (nI 256), .int (nI 3), .ref a_line, .int s_line_10])), (a_line, .inl (E.2.1, (256 * 3), .inl f_line_11)), (h_waits, .inr (8, [.int (nI 256), .int (nI 2), .ref a_waits, .int s_waits])), (a_waits, .inl (E.2.1, (256 * 2), .inl f_waits)), (h_boxes, .inr (8, [.int (nI 192), .int (nI 3), .ref a_boxes, .int s_boxes])), (a_boxes, .inl (E.2.1, (192 * 3), .inl f_boxes))] H locs := w.sub [0, 8, 9, 7, 10, 11, 12, 13, 14, 15, 16, 17, 18, 19, 1, 2, 3, 4, 5, 6] (by decide) rfl
        obtain ⟨x1_18, ev⟩ : ∃ y : Int32, y = x1 + 1 := ⟨_, rfl⟩
        refine lv_iinc (v := x1_18) (lv' := [(1, .int x1_18), (0, .ref h), (2, .int x2)]) hx hb dX3_runWhatMay_73 hl (k := 1) rfl (by rw [ev]; rfl) (by decide) rfl (fun ls hl => ?_)
        have hf := lt_n ev hf; clear ev
        obtain ⟨x2_19, ev⟩ : ∃ y : Int32, y = x2 + (-1) := ⟨_, rfl⟩
        refine lv_iinc (v := x2_19) (lv' := [(2, .int x2_19), (1, .int x1_18), (0, .ref h)]) hx hb dX3_runWhatMay_76 hl (k := 2) rfl (by rw [ev]; rfl) (by decide) rfl (fun ls hl => ?_)
        have hf := lt_n ev hf; clear ev
        refine lv_goto (tgt := 16) hx hb dX3_runWhatMay_79 (by decide) ?_
        exact hrec _ _ _ _ _ _ _ _ _ _ _ _ _ _ _ hf ok_book ok_told ok_line w (lv_sub hl [2, 1, 0] rfl)
noncomputable def F_X3_runWhatMay (N : Nat)  (vals : Nat → Int32) (now : Int32) (book : Rows) (told : Rows) (sums : Nat → Int32) (line : Rows)  : Option (Rows × Rows × (Nat → Int32) × Rows) :=
  bd (F_X3_running line) (fun o_1 =>
  bd (F_X5_value vals 4) (fun o_2 =>
  lt (o_2 - o_1) (fun x2_3 =>
  L_X3_runWhatMay_16 N (fun book told sums line => some (book, told, sums, line)) vals now N o_1 x2_3 book told sums line)))
set_option maxHeartbeats 4000000 in
set_option maxRecDepth 100000 in
theorem d_X3_runWhatMay (E : mE) (l : Launch) (N : Nat) (h : Nat) (h_rules : Nat) (a_vals : Nat) (h_ledger : Nat) (h_book : Nat) (a_book : Nat) (h_told : Nat) (a_told : Nat) (h_written : Nat) (a_written : Nat) (h_late : Nat) (a_late : Nat) (a_sums : Nat) (a_asum : Nat) (h_line : Nat) (a_line : Nat) (h_waits : Nat) (a_waits : Nat) (h_boxes : Nat) (a_boxes : Nat)  (vals : Nat → Int32) (now : Int32) (book : Rows) (told : Rows) (written : Rows) (late : Rows) (sums : Nat → Int32) (asum : Nat → Int32) (line : Rows) (waits : Rows) (boxes : Rows) (s_book : Int32) (f_book : Nat → Int32) (s_told : Int32) (f_told : Nat → Int32) (s_written : Int32) (f_written : Nat → Int32) (s_late : Int32) (f_late : Nat → Int32) (s_line : Int32) (f_line : Nat → Int32) (s_waits : Int32) (f_waits : Nat → Int32) (s_boxes : Int32) (f_boxes : Nat → Int32)  (ok_book : tb_ok 40 3 book s_book f_book) (ok_told : tb_ok 60 1 told s_told f_told) (ok_written : tb_ok 40 2 written s_written f_written) (ok_late : tb_ok 60 1 late s_late f_late) (ok_line : tb_ok 256 3 line s_line f_line) (ok_waits : tb_ok 256 2 waits s_waits f_waits) (ok_boxes : tb_ok 192 3 boxes s_boxes f_boxes) (o : Rows × Rows × (Nat → Int32) × Rows) (hf : F_X3_runWhatMay N vals now book told sums line = some o) : MX E l yX3_runWhatMay cX3_runWhatMay 3 none ({ frames := 3, cells := 0, slots := 0, locals := 68 } : Room) [.ref h] [(h, .inr (2, [.ref h_rules, .ref h_ledger, .ref h_line, .ref h_waits, .ref h_boxes])), (h_rules, .inr (4, [.ref a_vals, .int now])), (a_vals, .inl (E.2.1, 8, .inl vals)), (h_ledger, .inr (1, [.ref h_rules, .ref h_book, .ref h_told, .ref h_written, .ref h_late, .ref a_sums, .ref a_asum])), (h_book, .inr (8, [.int (nI 40), .int (nI 3), .ref a_book, .int s_book])), (a_book, .inl (E.2.1, (40 * 3), .inl f_book)), (h_told, .inr (8, [.int (nI 60), .int (nI 1), .ref a_told, .int s_told])), (a_told, .inl (E.2.1, (60 * 1), .inl f_told)), (h_written, .inr (8, [.int (nI 40), .int (nI 2), .ref a_written, .int s_written])), (a_written, .inl (E.2.1, (40 * 2), .inl f_written)), (h_late, .inr (8, [.int (nI 60), .int (nI 1), .ref a_late, .int s_late])), (a_late, .inl (E.2.1, (60 * 1), .inl f_late)), (a_sums, .inl (E.2.1, 14, .inl sums)), (a_asum, .inl (E.2.1, 64, .inl asum)), (h_line, .inr (8, [.int (nI 256), .int (nI 3), .ref a_line, .int s_line])), (a_line, .inl (E.2.1, (256 * 3), .inl f_line)), (h_waits, .inr (8, [.int (nI 256), .int (nI 2), .ref a_waits, .int s_waits])), (a_waits, .inl (E.2.1, (256 * 2), .inl f_waits)), (h_boxes, .inr (8, [.int (nI 192), .int (nI 3), .ref a_boxes, .int s_boxes])), (a_boxes, .inl (E.2.1, (192 * 3), .inl f_boxes))] (po_X3_runWhatMay E h h_rules a_vals h_ledger h_book a_book h_told a_told h_written a_written h_late a_late a_sums a_asum h_line a_line h_waits a_waits h_boxes a_boxes vals now book told written late sums asum line waits boxes s_book f_book s_told f_told s_written f_written s_late f_late s_line f_line s_waits f_waits s_boxes f_boxes o) := by
  refine mx_intro (by decide +kernel) (Nat.le_of_ble_eq_true rfl) ?_
  intro p e s m args below meth c A Q ls B w hl
  obtain ⟨hx, hb, hml, hown, hts⟩ := id B.1
  unfold F_X3_runWhatMay at hf
  have hl : lv_has ls 3 [(0, .ref h)] := hl
  refine lv_aload_n hx hb dX3_runWhatMay_0 rfl (lv_at hl 0 rfl) ?_
  obtain ⟨o_1, hq, hf⟩ := bd_e hf
  refine mx_callV (As := []) (rest := []) (wr := []) (d_X3_running E l  h h_rules a_vals h_ledger h_book a_book h_told a_told h_written a_written h_late a_late a_sums a_asum h_line a_line h_waits a_waits h_boxes a_boxes vals now book told written late sums asum line waits boxes s_book f_book s_told f_told s_written f_written s_late f_late s_line f_line s_waits f_waits s_boxes f_boxes  ok_book ok_told ok_written ok_late ok_line ok_waits ok_boxes o_1 hq) B w [0, 1, 2, 3, 4, 5, 6, 7, 8, 9, 10, 11, 12, 13, 14, 15, 16, 17, 18, 19] [] rfl rfl (by decide) (by decide) (by decide) 0 rfl rfl cv_X3_running kw_461 0 (by decide +kernel) ⟨Nat.le_of_ble_eq_true rfl, Nat.le_of_ble_eq_true rfl⟩ rfl hl.1 rfl (Nat.le_of_ble_eq_true rfl) dX3_runWhatMay_1 rfl rfl ⟨Nat.zero_le _, Nat.zero_le _⟩ (fun v w' H locs hpo w => ?_)
  clear hq
  obtain ⟨rfl, rfl⟩ := hpo
  have w : mW E A s [(h, .inr (2, [.ref h_rules, .ref h_ledger, .ref h_line, .ref h_waits, .ref h_boxes])), (h_rules, .inr (4, [.ref a_vals, .int now])), (a_vals, .inl (E.2.1, 8, .inl vals)), (h_ledger, .inr (1, [.ref h_rules, .ref h_book, .ref h_told, .ref h_written, .ref h_late, .ref a_sums, .ref a_asum])), (h_book, .inr (8, [.int (nI 40), .int (nI 3), .ref a_book, .int s_book])), (a_book, .inl (E.2.1, (40 * 3), .inl f_book)), (h_told, .inr (8, [.int (nI 60), .int (nI 1), .ref a_told, .int s_told])), (a_told, .inl (E.2.1, (60 * 1), .inl f_told)), (h_written, .inr (8, [.int (nI 40), .int (nI 2), .ref a_written, .int s_written])), (a_written, .inl (E.2.1, (40 * 2), .inl f_written)), (h_late, .inr (8, [.int (nI 60), .int (nI 1), .ref a_late, .int s_late])), (a_late, .inl (E.2.1, (60 * 1), .inl f_late)), (a_sums, .inl (E.2.1, 14, .inl sums)), (a_asum, .inl (E.2.1, 64, .inl asum)), (h_line, .inr (8, [.int (nI 256), .int (nI 3), .ref a_line, .int s_line])), (a_line, .inl (E.2.1, (256 * 3), .inl f_line)), (h_waits, .inr (8, [.int (nI 256), .int (nI 2), .ref a_waits, .int s_waits])), (a_waits, .inl (E.2.1, (256 * 2), .inl f_waits)), (h_boxes, .inr (8, [.int (nI 192), .int (nI 3), .ref a_boxes, .int s_boxes])), (a_boxes, .inl (E.2.1, (192 * 3), .inl f_boxes))] H locs := w
  refine lv_istore_n (lv' := [(1, .int o_1), (0, .ref h)]) hx hb dX3_runWhatMay_4 rfl hl (by decide) rfl (fun ls hl => ?_)
  refine lv_aload_n hx hb dX3_runWhatMay_5 rfl (lv_at hl 1 rfl) ?_
  refine mx_get B w 0 fl_X3_9 rfl rfl dX3_runWhatMay_6 ?_
  refine lv_iconst (v := 4) hx hb dX3_runWhatMay_9 (by decide) ?_
  obtain ⟨o_2, hq, hf⟩ := bd_e hf
  refine mx_callV (As := [.int 4]) (rest := []) (wr := [(h, .inr (2, [.ref h_rules, .ref h_ledger, .ref h_line, .ref h_waits, .ref h_boxes])), (h_ledger, .inr (1, [.ref h_rules, .ref h_book, .ref h_told, .ref h_written, .ref h_late, .ref a_sums, .ref a_asum])), (h_book, .inr (8, [.int (nI 40), .int (nI 3), .ref a_book, .int s_book])), (a_book, .inl (E.2.1, (40 * 3), .inl f_book)), (h_told, .inr (8, [.int (nI 60), .int (nI 1), .ref a_told, .int s_told])), (a_told, .inl (E.2.1, (60 * 1), .inl f_told)), (h_written, .inr (8, [.int (nI 40), .int (nI 2), .ref a_written, .int s_written])), (a_written, .inl (E.2.1, (40 * 2), .inl f_written)), (h_late, .inr (8, [.int (nI 60), .int (nI 1), .ref a_late, .int s_late])), (a_late, .inl (E.2.1, (60 * 1), .inl f_late)), (a_sums, .inl (E.2.1, 14, .inl sums)), (a_asum, .inl (E.2.1, 64, .inl asum)), (h_line, .inr (8, [.int (nI 256), .int (nI 3), .ref a_line, .int s_line])), (a_line, .inl (E.2.1, (256 * 3), .inl f_line)), (h_waits, .inr (8, [.int (nI 256), .int (nI 2), .ref a_waits, .int s_waits])), (a_waits, .inl (E.2.1, (256 * 2), .inl f_waits)), (h_boxes, .inr (8, [.int (nI 192), .int (nI 3), .ref a_boxes, .int s_boxes])), (a_boxes, .inl (E.2.1, (192 * 3), .inl f_boxes))]) (d_X5_value E l  h_rules a_vals vals now 4  o_2 hq) B w [1, 2] [0, 3, 4, 5, 6, 7, 8, 9, 10, 11, 12, 13, 14, 15, 16, 17, 18, 19] rfl rfl (by decide) (by decide) (by decide) 1 rfl rfl cv_X5_value kw_470 1 (by decide +kernel) ⟨Nat.le_of_ble_eq_true rfl, Nat.le_of_ble_eq_true rfl⟩ rfl hl.1 rfl (Nat.le_of_ble_eq_true rfl) dX3_runWhatMay_10 rfl rfl ⟨Nat.zero_le _, Nat.zero_le _⟩ (fun v w' H locs hpo w => ?_)
  clear hq
  obtain ⟨rfl, rfl⟩ := hpo
  have w : mW E A s [(h, .inr (2, [.ref h_rules, .ref h_ledger, .ref h_line, .ref h_waits, .ref h_boxes])), (h_rules, .inr (4, [.ref a_vals, .int now])), (a_vals, .inl (E.2.1, 8, .inl vals)), (h_ledger, .inr (1, [.ref h_rules, .ref h_book, .ref h_told, .ref h_written, .ref h_late, .ref a_sums, .ref a_asum])), (h_book, .inr (8, [.int (nI 40), .int (nI 3), .ref a_book, .int s_book])), (a_book, .inl (E.2.1, (40 * 3), .inl f_book)), (h_told, .inr (8, [.int (nI 60), .int (nI 1), .ref a_told, .int s_told])), (a_told, .inl (E.2.1, (60 * 1), .inl f_told)), (h_written, .inr (8, [.int (nI 40), .int (nI 2), .ref a_written, .int s_written])), (a_written, .inl (E.2.1, (40 * 2), .inl f_written)), (h_late, .inr (8, [.int (nI 60), .int (nI 1), .ref a_late, .int s_late])), (a_late, .inl (E.2.1, (60 * 1), .inl f_late)), (a_sums, .inl (E.2.1, 14, .inl sums)), (a_asum, .inl (E.2.1, 64, .inl asum)), (h_line, .inr (8, [.int (nI 256), .int (nI 3), .ref a_line, .int s_line])), (a_line, .inl (E.2.1, (256 * 3), .inl f_line)), (h_waits, .inr (8, [.int (nI 256), .int (nI 2), .ref a_waits, .int s_waits])), (a_waits, .inl (E.2.1, (256 * 2), .inl f_waits)), (h_boxes, .inr (8, [.int (nI 192), .int (nI 3), .ref a_boxes, .int s_boxes])), (a_boxes, .inl (E.2.1, (192 * 3), .inl f_boxes))] H locs := w.sub [0, 18, 19, 1, 2, 3, 4, 5, 6, 7, 8, 9, 10, 11, 12, 13, 14, 15, 16, 17] (by decide) rfl
  refine lv_iload_n hx hb dX3_runWhatMay_13 rfl (lv_at hl 0 rfl) ?_
  refine lv_isub hx hb dX3_runWhatMay_14 ?_
  refine lv_topi (fun x2_3 ev => ?_)
  have hf := lt_n ev hf; clear ev
  refine lv_istore_n (lv' := [(2, .int x2_3), (1, .int o_1), (0, .ref h)]) hx hb dX3_runWhatMay_15 rfl hl (by decide) rfl (fun ls hl => ?_)
  refine l_X3_runWhatMay_16 B _ ok_written ok_late ok_waits ok_boxes ?_ N _ _ _ _ _ _ _ _ _ _ _ _ _ _ _ hf ok_book ok_told ok_line w (lv_sub hl [2, 1, 0] rfl)
  · intro book told sums line s_book f_book s_told f_told s_line f_line H locs ls hf ok_book ok_told ok_line w hl
    cases hf
    exact mx_vret B w ⟨_, _, _, _, _, _, ok_book, ok_told, ok_line, rfl, rfl⟩ dX3_runWhatMay_82
-- X11_rule
def po_X11_rule (E : mE) (h : Nat) (h_tape : Nat) (a_tby : Nat) (h_rowOfKeys : Nat) (a_rowOfKeys : Nat) (h_replays : Nat) (h_places : Nat) (a_places : Nat) (h_rules : Nat) (a_vals : Nat) (h_ledger : Nat) (h_book : Nat) (a_book : Nat) (h_told : Nat) (a_told : Nat) (h_written : Nat) (a_written : Nat) (h_late : Nat) (a_late : Nat) (a_sums : Nat) (a_asum : Nat) (h_shelf : Nat) (h_entries : Nat) (h_ents : Nat) (a_ents : Nat) (h_cold : Nat) (h_colds : Nat) (a_colds : Nat) (h_sketch : Nat) (a_cnt : Nat) (h_loads : Nat) (h_line : Nat) (a_line : Nat) (h_waits : Nat) (a_waits : Nat) (h_boxes : Nat) (a_boxes : Nat) (h_at : Nat) (kv : Value) (tby : Nat → Int32) (tsz : Int32) (rowOfKeys : Rows) (places : Rows) (vals : Nat → Int32) (now : Int32) (book : Rows) (told : Rows) (written : Rows) (late : Rows) (sums : Nat → Int32) (asum : Nat → Int32) (ents : Rows) (colds : Rows) (cnt : Nat → Int32) (uses : Int32) (usesInWindow : Int32) (entriesSoFar : Int32) (dirtySoFar : Int32) (line : Rows) (waits : Rows) (boxes : Rows) (s_rowOfKeys : Int32) (f_rowOfKeys : Nat → Int32) (s_places : Int32) (f_places : Nat → Int32) (s_book : Int32) (f_book : Nat → Int32) (s_told : Int32) (f_told : Nat → Int32) (s_written : Int32) (f_written : Nat → Int32) (s_late : Int32) (f_late : Nat → Int32) (s_ents : Int32) (f_ents : Nat → Int32) (s_colds : Int32) (f_colds : Nat → Int32) (s_line : Int32) (f_line : Nat → Int32) (s_waits : Int32) (f_waits : Nat → Int32) (s_boxes : Int32) (f_boxes : Nat → Int32) (o : Int32 × (Nat → Int32) × Rows × Rows × Rows × (Nat → Int32) × Rows × Rows × Int32 × Rows) : Option Value → va_W → Prop := (fun (v : Option Value) (w' : va_W) => ∃ (s_book' : Int32) (f_book' : Nat → Int32) (s_told' : Int32) (f_told' : Nat → Int32) (s_written' : Int32) (f_written' : Nat → Int32) (s_ents' : Int32) (f_ents' : Nat → Int32) (s_colds' : Int32) (f_colds' : Nat → Int32) (s_line' : Int32) (f_line' : Nat → Int32), tb_ok 40 3 o.2.2.1 s_book' f_book' ∧ tb_ok 60 1 o.2.2.2.1 s_told' f_told' ∧ tb_ok 40 2 o.2.2.2.2.1 s_written' f_written' ∧ tb_ok 200 9 o.2.2.2.2.2.2.1 s_ents' f_ents' ∧ tb_ok 20 9 o.2.2.2.2.2.2.2.1 s_colds' f_colds' ∧ tb_ok 256 3 o.2.2.2.2.2.2.2.2.2 s_line' f_line' ∧ v = some (.int o.1) ∧ w' = [(h, .inr (10, [.ref h_tape, .ref h_rowOfKeys, .ref h_replays, .ref h_at, .ref h_rules, .ref h_ledger, .ref h_shelf, .ref h_loads, kv])), (h_tape, .inr (9, [.ref a_tby, .int tsz])), (a_tby, .inl (E.2.1, 60, .inl tby)), (h_rowOfKeys, .inr (8, [.int (nI 30), .int (nI 1), .ref a_rowOfKeys, .int s_rowOfKeys])), (a_rowOfKeys, .inl (E.2.1, (30 * 1), .inl f_rowOfKeys)), (h_replays, .inr (3, [.ref h_places])), (h_places, .inr (8, [.int (nI 12), .int (nI 3), .ref a_places, .int s_places])), (a_places, .inl (E.2.1, (12 * 3), .inl f_places)), (h_rules, .inr (4, [.ref a_vals, .int now])), (a_vals, .inl (E.2.1, 8, .inl o.2.1)), (h_ledger, .inr (1, [.ref h_rules, .ref h_book, .ref h_told, .ref h_written, .ref h_late, .ref a_sums, .ref a_asum])), (h_book, .inr (8, [.int (nI 40), .int (nI 3), .ref a_book, .int s_book'])), (a_book, .inl (E.2.1, (40 * 3), .inl f_book')), (h_told, .inr (8, [.int (nI 60), .int (nI 1), .ref a_told, .int s_told'])), (a_told, .inl (E.2.1, (60 * 1), .inl f_told')), (h_written, .inr (8, [.int (nI 40), .int (nI 2), .ref a_written, .int s_written'])), (a_written, .inl (E.2.1, (40 * 2), .inl f_written')), (h_late, .inr (8, [.int (nI 60), .int (nI 1), .ref a_late, .int s_late])), (a_late, .inl (E.2.1, (60 * 1), .inl f_late)), (a_sums, .inl (E.2.1, 14, .inl o.2.2.2.2.2.1)), (a_asum, .inl (E.2.1, 64, .inl asum)), (h_shelf, .inr (5, [.ref h_rules, .ref h_ledger, .ref h_entries, .ref h_cold, .ref h_sketch, .int uses, .int o.2.2.2.2.2.2.2.2.1, .int entriesSoFar, .int dirtySoFar])), (h_entries, .inr (0, [.ref h_rules, .ref h_ents])), (h_ents, .inr (8, [.int (nI 200), .int (nI 9), .ref a_ents, .int s_ents'])), (a_ents, .inl (E.2.1, (200 * 9), .inl f_ents')), (h_cold, .inr (0, [.ref h_rules, .ref h_colds])), (h_colds, .inr (8, [.int (nI 20), .int (nI 9), .ref a_colds, .int s_colds'])), (a_colds, .inl (E.2.1, (20 * 9), .inl f_colds')), (h_sketch, .inr (6, [.ref a_cnt])), (a_cnt, .inl (E.2.1, 64, .inl cnt)), (h_loads, .inr (2, [.ref h_rules, .ref h_ledger, .ref h_line, .ref h_waits, .ref h_boxes])), (h_line, .inr (8, [.int (nI 256), .int (nI 3), .ref a_line, .int s_line'])), (a_line, .inl (E.2.1, (256 * 3), .inl f_line')), (h_waits, .inr (8, [.int (nI 256), .int (nI 2), .ref a_waits, .int s_waits])), (a_waits, .inl (E.2.1, (256 * 2), .inl f_waits)), (h_boxes, .inr (8, [.int (nI 192), .int (nI 3), .ref a_boxes, .int s_boxes])), (a_boxes, .inl (E.2.1, (192 * 3), .inl f_boxes))])
noncomputable def F_X11_rule (N : Nat)  (vals : Nat → Int32) (now : Int32) (book : Rows) (told : Rows) (written : Rows) (sums : Nat → Int32) (ents : Rows) (colds : Rows) (usesInWindow : Int32) (line : Rows) (x1 : Int32) (x2 : Int32) : Option (Int32 × (Nat → Int32) × Rows × Rows × Rows × (Nat → Int32) × Rows × Rows × Int32 × Rows) :=
  bd (F_X5_allow x1 x2) (fun o_1 =>
  if (o_1 = 0 : Prop) then
  some ((-1001), vals, book, told, written, sums, ents, colds, usesInWindow, line)
  else
  bd (F_X5_value vals x1) (fun o_2 =>
  bd (F_X5_set vals x1 x2) (fun o_3 =>
  if (x1 = 0 : Prop) then
  bd (F_X6_fitInto N o_3 now book written sums ents colds x2) (fun o_15 =>
  some (o_2, o_3, o_15.1, told, o_15.2.1, o_15.2.2.1, o_15.2.2.2.1, o_15.2.2.2.2, usesInWindow, line))
  else
  if (x1 = 1 : Prop) then
  bd (F_X6_beginWindow usesInWindow) (fun o_14 =>
  some (o_2, o_3, book, told, written, sums, ents, colds, o_14, line))
  else
  if (x1 = 4 : Prop) then
  bd (F_X3_runWhatMay N o_3 now book told sums line) (fun o_7 =>
  some (o_2, o_3, o_7.1, o_7.2.1, written, o_7.2.2.1, ents, colds, usesInWindow, o_7.2.2.2))
  else
  if (x1 = 6 : Prop) then
  bd (F_X6_trimCold N o_3 colds) (fun o_4 =>
  some (o_2, o_3, book, told, written, sums, ents, o_4, usesInWindow, line))
  else
  some (o_2, o_3, book, told, written, sums, ents, colds, usesInWindow, line))))
set_option maxHeartbeats 4000000 in
set_option maxRecDepth 100000 in
theorem d_X11_rule (E : mE) (l : Launch) (N : Nat) (h : Nat) (h_tape : Nat) (a_tby : Nat) (h_rowOfKeys : Nat) (a_rowOfKeys : Nat) (h_replays : Nat) (h_places : Nat) (a_places : Nat) (h_rules : Nat) (a_vals : Nat) (h_ledger : Nat) (h_book : Nat) (a_book : Nat) (h_told : Nat) (a_told : Nat) (h_written : Nat) (a_written : Nat) (h_late : Nat) (a_late : Nat) (a_sums : Nat) (a_asum : Nat) (h_shelf : Nat) (h_entries : Nat) (h_ents : Nat) (a_ents : Nat) (h_cold : Nat) (h_colds : Nat) (a_colds : Nat) (h_sketch : Nat) (a_cnt : Nat) (h_loads : Nat) (h_line : Nat) (a_line : Nat) (h_waits : Nat) (a_waits : Nat) (h_boxes : Nat) (a_boxes : Nat) (h_at : Nat) (kv : Value) (tby : Nat → Int32) (tsz : Int32) (rowOfKeys : Rows) (places : Rows) (vals : Nat → Int32) (now : Int32) (book : Rows) (told : Rows) (written : Rows) (late : Rows) (sums : Nat → Int32) (asum : Nat → Int32) (ents : Rows) (colds : Rows) (cnt : Nat → Int32) (uses : Int32) (usesInWindow : Int32) (entriesSoFar : Int32) (dirtySoFar : Int32) (line : Rows) (waits : Rows) (boxes : Rows) (s_rowOfKeys : Int32) (f_rowOfKeys : Nat → Int32) (s_places : Int32) (f_places : Nat → Int32) (s_book : Int32) (f_book : Nat → Int32) (s_told : Int32) (f_told : Nat → Int32) (s_written : Int32) (f_written : Nat → Int32) (s_late : Int32) (f_late : Nat → Int32) (s_ents : Int32) (f_ents : Nat → Int32) (s_colds : Int32) (f_colds : Nat → Int32) (s_line : Int32) (f_line : Nat → Int32) (s_waits : Int32) (f_waits : Nat → Int32) (s_boxes : Int32) (f_boxes : Nat → Int32) (x1 : Int32) (x2 : Int32) (ok_rowOfKeys : tb_ok 30 1 rowOfKeys s_rowOfKeys f_rowOfKeys) (ok_places : tb_ok 12 3 places s_places f_places) (ok_book : tb_ok 40 3 book s_book f_book) (ok_told : tb_ok 60 1 told s_told f_told) (ok_written : tb_ok 40 2 written s_written f_written) (ok_late : tb_ok 60 1 late s_late f_late) (ok_ents : tb_ok 200 9 ents s_ents f_ents) (ok_colds : tb_ok 20 9 colds s_colds f_colds) (ok_line : tb_ok 256 3 line s_line f_line) (ok_waits : tb_ok 256 2 waits s_waits f_waits) (ok_boxes : tb_ok 192 3 boxes s_boxes f_boxes) (o : Int32 × (Nat → Int32) × Rows × Rows × Rows × (Nat → Int32) × Rows × Rows × Int32 × Rows) (hf : F_X11_rule N vals now book told written sums ents colds usesInWindow line x1 x2 = some o) : MX E l yX11_rule cX11_rule 4 (some .int) ({ frames := 6, cells := 0, slots := 0, locals := 140 } : Room) [.ref h, .int x1, .int x2] [(h, .inr (10, [.ref h_tape, .ref h_rowOfKeys, .ref h_replays, .ref h_at, .ref h_rules, .ref h_ledger, .ref h_shelf, .ref h_loads, kv])), (h_tape, .inr (9, [.ref a_tby, .int tsz])), (a_tby, .inl (E.2.1, 60, .inl tby)), (h_rowOfKeys, .inr (8, [.int (nI 30), .int (nI 1), .ref a_rowOfKeys, .int s_rowOfKeys])), (a_rowOfKeys, .inl (E.2.1, (30 * 1), .inl f_rowOfKeys)), (h_replays, .inr (3, [.ref h_places])), (h_places, .inr (8, [.int (nI 12), .int (nI 3), .ref a_places, .int s_places])), (a_places, .inl (E.2.1, (12 * 3), .inl f_places)), (h_rules, .inr (4, [.ref a_vals, .int now])), (a_vals, .inl (E.2.1, 8, .inl vals)), (h_ledger, .inr (1, [.ref h_rules, .ref h_book, .ref h_told, .ref h_written, .ref h_late, .ref a_sums, .ref a_asum])), (h_book, .inr (8, [.int (nI 40), .int (nI 3), .ref a_book, .int s_book])), (a_book, .inl (E.2.1, (40 * 3), .inl f_book)), (h_told, .inr (8, [.int (nI 60), .int (nI 1), .ref a_told, .int s_told])), (a_told, .inl (E.2.1, (60 * 1), .inl f_told)), (h_written, .inr (8, [.int (nI 40), .int (nI 2), .ref a_written, .int s_written])), (a_written, .inl (E.2.1, (40 * 2), .inl f_written)), (h_late, .inr (8, [.int (nI 60), .int (nI 1), .ref a_late, .int s_late])), (a_late, .inl (E.2.1, (60 * 1), .inl f_late)), (a_sums, .inl (E.2.1, 14, .inl sums)), (a_asum, .inl (E.2.1, 64, .inl asum)), (h_shelf, .inr (5, [.ref h_rules, .ref h_ledger, .ref h_entries, .ref h_cold, .ref h_sketch, .int uses, .int usesInWindow, .int entriesSoFar, .int dirtySoFar])), (h_entries, .inr (0, [.ref h_rules, .ref h_ents])), (h_ents, .inr (8, [.int (nI 200), .int (nI 9), .ref a_ents, .int s_ents])), (a_ents, .inl (E.2.1, (200 * 9), .inl f_ents)), (h_cold, .inr (0, [.ref h_rules, .ref h_colds])), (h_colds, .inr (8, [.int (nI 20), .int (nI 9), .ref a_colds, .int s_colds])), (a_colds, .inl (E.2.1, (20 * 9), .inl f_colds)), (h_sketch, .inr (6, [.ref a_cnt])), (a_cnt, .inl (E.2.1, 64, .inl cnt)), (h_loads, .inr (2, [.ref h_rules, .ref h_ledger, .ref h_line, .ref h_waits, .ref h_boxes])), (h_line, .inr (8, [.int (nI 256), .int (nI 3), .ref a_line, .int s_line])), (a_line, .inl (E.2.1, (256 * 3), .inl f_line)), (h_waits, .inr (8, [.int (nI 256), .int (nI 2), .ref a_waits, .int s_waits])), (a_waits, .inl (E.2.1, (256 * 2), .inl f_waits)), (h_boxes, .inr (8, [.int (nI 192), .int (nI 3), .ref a_boxes, .int s_boxes])), (a_boxes, .inl (E.2.1, (192 * 3), .inl f_boxes))] (po_X11_rule E h h_tape a_tby h_rowOfKeys a_rowOfKeys h_replays h_places a_places h_rules a_vals h_ledger h_book a_book h_told a_told h_written a_written h_late a_late a_sums a_asum h_shelf h_entries h_ents a_ents h_cold h_colds a_colds h_sketch a_cnt h_loads h_line a_line h_waits a_waits h_boxes a_boxes h_at kv tby tsz rowOfKeys places vals now book told written late sums asum ents colds cnt uses usesInWindow entriesSoFar dirtySoFar line waits boxes s_rowOfKeys f_rowOfKeys s_places f_places s_book f_book s_told f_told s_written f_written s_late f_late s_ents f_ents s_colds f_colds s_line f_line s_waits f_waits s_boxes f_boxes o) := by
  refine mx_intro (by decide +kernel) (Nat.le_of_ble_eq_true rfl) ?_
  intro p e s m args below meth c A Q ls B w hl
  obtain ⟨hx, hb, hml, hown, hts⟩ := id B.1
  unfold F_X11_rule at hf
  have hl : lv_has ls 4 [(0, .ref h), (1, .int x1), (2, .int x2)] := hl
  refine lv_iload_n hx hb dX11_rule_0 rfl (lv_at hl 1 rfl) ?_
  refine lv_iload_n hx hb dX11_rule_1 rfl (lv_at hl 2 rfl) ?_
  obtain ⟨o_1, hq, hf⟩ := bd_e hf
  refine mx_callS (As := [.int x1, .int x2]) (rest := []) (wr := [(h, .inr (10, [.ref h_tape, .ref h_rowOfKeys, .ref h_replays, .ref h_at, .ref h_rules, .ref h_ledger, .ref h_shelf, .ref h_loads, kv])), (h_tape, .inr (9, [.ref a_tby, .int tsz])), (a_tby, .inl (E.2.1, 60, .inl tby)), (h_rowOfKeys, .inr (8, [.int (nI 30), .int (nI 1), .ref a_rowOfKeys, .int s_rowOfKeys])), (a_rowOfKeys, .inl (E.2.1, (30 * 1), .inl f_rowOfKeys)), (h_replays, .inr (3, [.ref h_places])), (h_places, .inr (8, [.int (nI 12), .int (nI 3), .ref a_places, .int s_places])), (a_places, .inl (E.2.1, (12 * 3), .inl f_places)), (h_rules, .inr (4, [.ref a_vals, .int now])), (a_vals, .inl (E.2.1, 8, .inl vals)), (h_ledger, .inr (1, [.ref h_rules, .ref h_book, .ref h_told, .ref h_written, .ref h_late, .ref a_sums, .ref a_asum])), (h_book, .inr (8, [.int (nI 40), .int (nI 3), .ref a_book, .int s_book])), (a_book, .inl (E.2.1, (40 * 3), .inl f_book)), (h_told, .inr (8, [.int (nI 60), .int (nI 1), .ref a_told, .int s_told])), (a_told, .inl (E.2.1, (60 * 1), .inl f_told)), (h_written, .inr (8, [.int (nI 40), .int (nI 2), .ref a_written, .int s_written])), (a_written, .inl (E.2.1, (40 * 2), .inl f_written)), (h_late, .inr (8, [.int (nI 60), .int (nI 1), .ref a_late, .int s_late])), (a_late, .inl (E.2.1, (60 * 1), .inl f_late)), (a_sums, .inl (E.2.1, 14, .inl sums)), (a_asum, .inl (E.2.1, 64, .inl asum)), (h_shelf, .inr (5, [.ref h_rules, .ref h_ledger, .ref h_entries, .ref h_cold, .ref h_sketch, .int uses, .int usesInWindow, .int entriesSoFar, .int dirtySoFar])), (h_entries, .inr (0, [.ref h_rules, .ref h_ents])), (h_ents, .inr (8, [.int (nI 200), .int (nI 9), .ref a_ents, .int s_ents])), (a_ents, .inl (E.2.1, (200 * 9), .inl f_ents)), (h_cold, .inr (0, [.ref h_rules, .ref h_colds])), (h_colds, .inr (8, [.int (nI 20), .int (nI 9), .ref a_colds, .int s_colds])), (a_colds, .inl (E.2.1, (20 * 9), .inl f_colds)), (h_sketch, .inr (6, [.ref a_cnt])), (a_cnt, .inl (E.2.1, 64, .inl cnt)), (h_loads, .inr (2, [.ref h_rules, .ref h_ledger, .ref h_line, .ref h_waits, .ref h_boxes])), (h_line, .inr (8, [.int (nI 256), .int (nI 3), .ref a_line, .int s_line])), (a_line, .inl (E.2.1, (256 * 3), .inl f_line)), (h_waits, .inr (8, [.int (nI 256), .int (nI 2), .ref a_waits, .int s_waits])), (a_waits, .inl (E.2.1, (256 * 2), .inl f_waits)), (h_boxes, .inr (8, [.int (nI 192), .int (nI 3), .ref a_boxes, .int s_boxes])), (a_boxes, .inl (E.2.1, (192 * 3), .inl f_boxes))]) (d_X5_allow E l   x1 x2  o_1 hq) B w [] [0, 1, 2, 3, 4, 5, 6, 7, 8, 9, 10, 11, 12, 13, 14, 15, 16, 17, 18, 19, 20, 21, 22, 23, 24, 25, 26, 27, 28, 29, 30, 31, 32, 33, 34, 35, 36] rfl rfl (by decide) (by decide) (by decide) cs_X5_allow kw_333 2 (by decide +kernel) ⟨Nat.le_of_ble_eq_true rfl, Nat.le_of_ble_eq_true rfl⟩ rfl hl.1 rfl (Nat.le_of_ble_eq_true rfl) dX11_rule_2 rfl rfl ⟨Nat.zero_le _, Nat.zero_le _⟩ (fun v w' H locs hpo w => ?_)
  clear hq
  obtain ⟨rfl, rfl⟩ := hpo
  have w : mW E A s [(h, .inr (10, [.ref h_tape, .ref h_rowOfKeys, .ref h_replays, .ref h_at, .ref h_rules, .ref h_ledger, .ref h_shelf, .ref h_loads, kv])), (h_tape, .inr (9, [.ref a_tby, .int tsz])), (a_tby, .inl (E.2.1, 60, .inl tby)), (h_rowOfKeys, .inr (8, [.int (nI 30), .int (nI 1), .ref a_rowOfKeys, .int s_rowOfKeys])), (a_rowOfKeys, .inl (E.2.1, (30 * 1), .inl f_rowOfKeys)), (h_replays, .inr (3, [.ref h_places])), (h_places, .inr (8, [.int (nI 12), .int (nI 3), .ref a_places, .int s_places])), (a_places, .inl (E.2.1, (12 * 3), .inl f_places)), (h_rules, .inr (4, [.ref a_vals, .int now])), (a_vals, .inl (E.2.1, 8, .inl vals)), (h_ledger, .inr (1, [.ref h_rules, .ref h_book, .ref h_told, .ref h_written, .ref h_late, .ref a_sums, .ref a_asum])), (h_book, .inr (8, [.int (nI 40), .int (nI 3), .ref a_book, .int s_book])), (a_book, .inl (E.2.1, (40 * 3), .inl f_book)), (h_told, .inr (8, [.int (nI 60), .int (nI 1), .ref a_told, .int s_told])), (a_told, .inl (E.2.1, (60 * 1), .inl f_told)), (h_written, .inr (8, [.int (nI 40), .int (nI 2), .ref a_written, .int s_written])), (a_written, .inl (E.2.1, (40 * 2), .inl f_written)), (h_late, .inr (8, [.int (nI 60), .int (nI 1), .ref a_late, .int s_late])), (a_late, .inl (E.2.1, (60 * 1), .inl f_late)), (a_sums, .inl (E.2.1, 14, .inl sums)), (a_asum, .inl (E.2.1, 64, .inl asum)), (h_shelf, .inr (5, [.ref h_rules, .ref h_ledger, .ref h_entries, .ref h_cold, .ref h_sketch, .int uses, .int usesInWindow, .int entriesSoFar, .int dirtySoFar])), (h_entries, .inr (0, [.ref h_rules, .ref h_ents])), (h_ents, .inr (8, [.int (nI 200), .int (nI 9), .ref a_ents, .int s_ents])), (a_ents, .inl (E.2.1, (200 * 9), .inl f_ents)), (h_cold, .inr (0, [.ref h_rules, .ref h_colds])), (h_colds, .inr (8, [.int (nI 20), .int (nI 9), .ref a_colds, .int s_colds])), (a_colds, .inl (E.2.1, (20 * 9), .inl f_colds)), (h_sketch, .inr (6, [.ref a_cnt])), (a_cnt, .inl (E.2.1, 64, .inl cnt)), (h_loads, .inr (2, [.ref h_rules, .ref h_ledger, .ref h_line, .ref h_waits, .ref h_boxes])), (h_line, .inr (8, [.int (nI 256), .int (nI 3), .ref a_line, .int s_line])), (a_line, .inl (E.2.1, (256 * 3), .inl f_line)), (h_waits, .inr (8, [.int (nI 256), .int (nI 2), .ref a_waits, .int s_waits])), (a_waits, .inl (E.2.1, (256 * 2), .inl f_waits)), (h_boxes, .inr (8, [.int (nI 192), .int (nI 3), .ref a_boxes, .int s_boxes])), (a_boxes, .inl (E.2.1, (192 * 3), .inl f_boxes))] H locs := w
  refine lv_if_ne (tgt := 12) hx hb dX11_rule_5 (by decide) (fun hc => ?_) (fun hc => ?_)
  · have hf := it_f hc hf
    refine lv_aload_n hx hb dX11_rule_12 rfl (lv_at hl 0 rfl) ?_
    refine mx_get B w 0 fl_X11_43 rfl rfl dX11_rule_13 ?_
    refine lv_iload_n hx hb dX11_rule_16 rfl (lv_at hl 1 rfl) ?_
    obtain ⟨o_2, hq, hf⟩ := bd_e hf
    refine mx_callV (As := [.int x1]) (rest := []) (wr := [(h, .inr (10, [.ref h_tape, .ref h_rowOfKeys, .ref h_replays, .ref h_at, .ref h_rules, .ref h_ledger, .ref h_shelf, .ref h_loads, kv])), (h_tape, .inr (9, [.ref a_tby, .int tsz])), (a_tby, .inl (E.2.1, 60, .inl tby)), (h_rowOfKeys, .inr (8, [.int (nI 30), .int (nI 1), .ref a_rowOfKeys, .int s_rowOfKeys])), (a_rowOfKeys, .inl (E.2.1, (30 * 1), .inl f_rowOfKeys)), (h_replays, .inr (3, [.ref h_places])), (h_places, .inr (8, [.int (nI 12), .int (nI 3), .ref a_places, .int s_places])), (a_places, .inl (E.2.1, (12 * 3), .inl f_places)), (h_ledger, .inr (1, [.ref h_rules, .ref h_book, .ref h_told, .ref h_written, .ref h_late, .ref a_sums, .ref a_asum])), (h_book, .inr (8, [.int (nI 40), .int (nI 3), .ref a_book, .int s_book])), (a_book, .inl (E.2.1, (40 * 3), .inl f_book)), (h_told, .inr (8, [.int (nI 60), .int (nI 1), .ref a_told, .int s_told])), (a_told, .inl (E.2.1, (60 * 1), .inl f_told)), (h_written, .inr (8, [.int (nI 40), .int (nI 2), .ref a_written, .int s_written])), (a_written, .inl (E.2.1, (40 * 2), .inl f_written)), (h_late, .inr (8, [.int (nI 60), .int (nI 1), .ref a_late, .int s_late])), (a_late, .inl (E.2.1, (60 * 1), .inl f_late)), (a_sums, .inl (E.2.1, 14, .inl sums)), (a_asum, .inl (E.2.1, 64, .inl asum)), (h_shelf, .inr (5, [.ref h_rules, .ref h_ledger, .ref h_entries, .ref h_cold, .ref h_sketch, .int uses, .int usesInWindow, .int entriesSoFar, .int dirtySoFar])), (h_entries, .inr (0, [.ref h_rules, .ref h_ents])), (h_ents, .inr (8, [.int (nI 200), .int (nI 9), .ref a_ents, .int s_ents])), (a_ents, .inl (E.2.1, (200 * 9), .inl f_ents)), (h_cold, .inr (0, [.ref h_rules, .ref h_colds])), (h_colds, .inr (8, [.int (nI 20), .int (nI 9), .ref a_colds, .int s_colds])), (a_colds, .inl (E.2.1, (20 * 9), .inl f_colds)), (h_sketch, .inr (6, [.ref a_cnt])), (a_cnt, .inl (E.2.1, 64, .inl cnt)), (h_loads, .inr (2, [.ref h_rules, .ref h_ledger, .ref h_line, .ref h_waits, .ref h_boxes])), (h_line, .inr (8, [.int (nI 256), .int (nI 3), .ref a_line, .int s_line])), (a_line, .inl (E.2.1, (256 * 3), .inl f_line)), (h_waits, .inr (8, [.int (nI 256), .int (nI 2), .ref a_waits, .int s_waits])), (a_waits, .inl (E.2.1, (256 * 2), .inl f_waits)), (h_boxes, .inr (8, [.int (nI 192), .int (nI 3), .ref a_boxes, .int s_boxes])), (a_boxes, .inl (E.2.1, (192 * 3), .inl f_boxes))]) (d_X5_value E l  h_rules a_vals vals now x1  o_2 hq) B w [8, 9] [0, 1, 2, 3, 4, 5, 6, 7, 10, 11, 12, 13, 14, 15, 16, 17, 18, 19, 20, 21, 22, 23, 24, 25, 26, 27, 28, 29, 30, 31, 32, 33, 34, 35, 36] rfl rfl (by decide) (by decide) (by decide) 8 rfl rfl cv_X5_value kw_340 1 (by decide +kernel) ⟨Nat.le_of_ble_eq_true rfl, Nat.le_of_ble_eq_true rfl⟩ rfl hl.1 rfl (Nat.le_of_ble_eq_true rfl) dX11_rule_17 rfl rfl ⟨Nat.zero_le _, Nat.zero_le _⟩ (fun v w' H locs hpo w => ?_)
    clear hq
    obtain ⟨rfl, rfl⟩ := hpo
    have w : mW E A s [(h, .inr (10, [.ref h_tape, .ref h_rowOfKeys, .ref h_replays, .ref h_at, .ref h_rules, .ref h_ledger, .ref h_shelf, .ref h_loads, kv])), (h_tape, .inr (9, [.ref a_tby, .int tsz])), (a_tby, .inl (E.2.1, 60, .inl tby)), (h_rowOfKeys, .inr (8, [.int (nI 30), .int (nI 1), .ref a_rowOfKeys, .int s_rowOfKeys])), (a_rowOfKeys, .inl (E.2.1, (30 * 1), .inl f_rowOfKeys)), (h_replays, .inr (3, [.ref h_places])), (h_places, .inr (8, [.int (nI 12), .int (nI 3), .ref a_places, .int s_places])), (a_places, .inl (E.2.1, (12 * 3), .inl f_places)), (h_rules, .inr (4, [.ref a_vals, .int now])), (a_vals, .inl (E.2.1, 8, .inl vals)), (h_ledger, .inr (1, [.ref h_rules, .ref h_book, .ref h_told, .ref h_written, .ref h_late, .ref a_sums, .ref a_asum])), (h_book, .inr (8, [.int (nI 40), .int (nI 3), .ref a_book, .int s_book])), (a_book, .inl (E.2.1, (40 * 3), .inl f_book)), (h_told, .inr (8, [.int (nI 60), .int (nI 1), .ref a_told, .int s_told])), (a_told, .inl (E.2.1, (60 * 1), .inl f_told)), (h_written, .inr (8, [.int (nI 40), .int (nI 2), .ref a_written, .int s_written])), (a_written, .inl (E.2.1, (40 * 2), .inl f_written)), (h_late, .inr (8, [.int (nI 60), .int (nI 1), .ref a_late, .int s_late])), (a_late, .inl (E.2.1, (60 * 1), .inl f_late)), (a_sums, .inl (E.2.1, 14, .inl sums)), (a_asum, .inl (E.2.1, 64, .inl asum)), (h_shelf, .inr (5, [.ref h_rules, .ref h_ledger, .ref h_entries, .ref h_cold, .ref h_sketch, .int uses, .int usesInWindow, .int entriesSoFar, .int dirtySoFar])), (h_entries, .inr (0, [.ref h_rules, .ref h_ents])), (h_ents, .inr (8, [.int (nI 200), .int (nI 9), .ref a_ents, .int s_ents])), (a_ents, .inl (E.2.1, (200 * 9), .inl f_ents)), (h_cold, .inr (0, [.ref h_rules, .ref h_colds])), (h_colds, .inr (8, [.int (nI 20), .int (nI 9), .ref a_colds, .int s_colds])), (a_colds, .inl (E.2.1, (20 * 9), .inl f_colds)), (h_sketch, .inr (6, [.ref a_cnt])), (a_cnt, .inl (E.2.1, 64, .inl cnt)), (h_loads, .inr (2, [.ref h_rules, .ref h_ledger, .ref h_line, .ref h_waits, .ref h_boxes])), (h_line, .inr (8, [.int (nI 256), .int (nI 3), .ref a_line, .int s_line])), (a_line, .inl (E.2.1, (256 * 3), .inl f_line)), (h_waits, .inr (8, [.int (nI 256), .int (nI 2), .ref a_waits, .int s_waits])), (a_waits, .inl (E.2.1, (256 * 2), .inl f_waits)), (h_boxes, .inr (8, [.int (nI 192), .int (nI 3), .ref a_boxes, .int s_boxes])), (a_boxes, .inl (E.2.1, (192 * 3), .inl f_boxes))] H locs := w.sub [0, 1, 2, 3, 4, 5, 6, 7, 35, 36, 8, 9, 10, 11, 12, 13, 14, 15, 16, 17, 18, 19, 20, 21, 22, 23, 24, 25, 26, 27, 28, 29, 30, 31, 32, 33, 34] (by decide) rfl
    refine lv_istore_n (lv' := [(3, .int o_2), (0, .ref h), (1, .int x1), (2, .int x2)]) hx hb dX11_rule_20 rfl hl (by decide) rfl (fun ls hl => ?_)
    refine lv_aload_n hx hb dX11_rule_21 rfl (lv_at hl 1 rfl) ?_
    refine mx_get B w 0 fl_X11_43 rfl rfl dX11_rule_22 ?_
    refine lv_iload_n hx hb dX11_rule_25 rfl (lv_at hl 2 rfl) ?_
    refine lv_iload_n hx hb dX11_rule_26 rfl (lv_at hl 3 rfl) ?_
    obtain ⟨o_3, hq, hf⟩ := bd_e hf
    refine mx_callV (As := [.int x1, .int x2]) (rest := []) (wr := [(h, .inr (10, [.ref h_tape, .ref h_rowOfKeys, .ref h_replays, .ref h_at, .ref h_rules, .ref h_ledger, .ref h_shelf, .ref h_loads, kv])), (h_tape, .inr (9, [.ref a_tby, .int tsz])), (a_tby, .inl (E.2.1, 60, .inl tby)), (h_rowOfKeys, .inr (8, [.int (nI 30), .int (nI 1), .ref a_rowOfKeys, .int s_rowOfKeys])), (a_rowOfKeys, .inl (E.2.1, (30 * 1), .inl f_rowOfKeys)), (h_replays, .inr (3, [.ref h_places])), (h_places, .inr (8, [.int (nI 12), .int (nI 3), .ref a_places, .int s_places])), (a_places, .inl (E.2.1, (12 * 3), .inl f_places)), (h_ledger, .inr (1, [.ref h_rules, .ref h_book, .ref h_told, .ref h_written, .ref h_late, .ref a_sums, .ref a_asum])), (h_book, .inr (8, [.int (nI 40), .int (nI 3), .ref a_book, .int s_book])), (a_book, .inl (E.2.1, (40 * 3), .inl f_book)), (h_told, .inr (8, [.int (nI 60), .int (nI 1), .ref a_told, .int s_told])), (a_told, .inl (E.2.1, (60 * 1), .inl f_told)), (h_written, .inr (8, [.int (nI 40), .int (nI 2), .ref a_written, .int s_written])), (a_written, .inl (E.2.1, (40 * 2), .inl f_written)), (h_late, .inr (8, [.int (nI 60), .int (nI 1), .ref a_late, .int s_late])), (a_late, .inl (E.2.1, (60 * 1), .inl f_late)), (a_sums, .inl (E.2.1, 14, .inl sums)), (a_asum, .inl (E.2.1, 64, .inl asum)), (h_shelf, .inr (5, [.ref h_rules, .ref h_ledger, .ref h_entries, .ref h_cold, .ref h_sketch, .int uses, .int usesInWindow, .int entriesSoFar, .int dirtySoFar])), (h_entries, .inr (0, [.ref h_rules, .ref h_ents])), (h_ents, .inr (8, [.int (nI 200), .int (nI 9), .ref a_ents, .int s_ents])), (a_ents, .inl (E.2.1, (200 * 9), .inl f_ents)), (h_cold, .inr (0, [.ref h_rules, .ref h_colds])), (h_colds, .inr (8, [.int (nI 20), .int (nI 9), .ref a_colds, .int s_colds])), (a_colds, .inl (E.2.1, (20 * 9), .inl f_colds)), (h_sketch, .inr (6, [.ref a_cnt])), (a_cnt, .inl (E.2.1, 64, .inl cnt)), (h_loads, .inr (2, [.ref h_rules, .ref h_ledger, .ref h_line, .ref h_waits, .ref h_boxes])), (h_line, .inr (8, [.int (nI 256), .int (nI 3), .ref a_line, .int s_line])), (a_line, .inl (E.2.1, (256 * 3), .inl f_line)), (h_waits, .inr (8, [.int (nI 256), .int (nI 2), .ref a_waits, .int s_waits])), (a_waits, .inl (E.2.1, (256 * 2), .inl f_waits)), (h_boxes, .inr (8, [.int (nI 192), .int (nI 3), .ref a_boxes, .int s_boxes])), (a_boxes, .inl (E.2.1, (192 * 3), .inl f_boxes))]) (d_X5_set E l  h_rules a_vals vals now x1 x2  o_3 hq) B w [8, 9] [0, 1, 2, 3, 4, 5, 6, 7, 10, 11, 12, 13, 14, 15, 16, 17, 18, 19, 20, 21, 22, 23, 24, 25, 26, 27, 28, 29, 30, 31, 32, 33, 34, 35, 36] rfl rfl (by decide) (by decide) (by decide) 8 rfl rfl cv_X5_set kw_344 2 (by decide +kernel) ⟨Nat.le_of_ble_eq_true rfl, Nat.le_of_ble_eq_true rfl⟩ rfl hl.1 rfl (Nat.le_of_ble_eq_true rfl) dX11_rule_27 rfl rfl ⟨Nat.zero_le _, Nat.zero_le _⟩ (fun v w' H locs hpo w => ?_)
    clear hq
    obtain ⟨rfl, rfl⟩ := hpo
    have w : mW E A s [(h, .inr (10, [.ref h_tape, .ref h_rowOfKeys, .ref h_replays, .ref h_at, .ref h_rules, .ref h_ledger, .ref h_shelf, .ref h_loads, kv])), (h_tape, .inr (9, [.ref a_tby, .int tsz])), (a_tby, .inl (E.2.1, 60, .inl tby)), (h_rowOfKeys, .inr (8, [.int (nI 30), .int (nI 1), .ref a_rowOfKeys, .int s_rowOfKeys])), (a_rowOfKeys, .inl (E.2.1, (30 * 1), .inl f_rowOfKeys)), (h_replays, .inr (3, [.ref h_places])), (h_places, .inr (8, [.int (nI 12), .int (nI 3), .ref a_places, .int s_places])), (a_places, .inl (E.2.1, (12 * 3), .inl f_places)), (h_rules, .inr (4, [.ref a_vals, .int now])), (a_vals, .inl (E.2.1, 8, .inl o_3)), (h_ledger, .inr (1, [.ref h_rules, .ref h_book, .ref h_told, .ref h_written, .ref h_late, .ref a_sums, .ref a_asum])), (h_book, .inr (8, [.int (nI 40), .int (nI 3), .ref a_book, .int s_book])), (a_book, .inl (E.2.1, (40 * 3), .inl f_book)), (h_told, .inr (8, [.int (nI 60), .int (nI 1), .ref a_told, .int s_told])), (a_told, .inl (E.2.1, (60 * 1), .inl f_told)), (h_written, .inr (8, [.int (nI 40), .int (nI 2), .ref a_written, .int s_written])), (a_written, .inl (E.2.1, (40 * 2), .inl f_written)), (h_late, .inr (8, [.int (nI 60), .int (nI 1), .ref a_late, .int s_late])), (a_late, .inl (E.2.1, (60 * 1), .inl f_late)), (a_sums, .inl (E.2.1, 14, .inl sums)), (a_asum, .inl (E.2.1, 64, .inl asum)), (h_shelf, .inr (5, [.ref h_rules, .ref h_ledger, .ref h_entries, .ref h_cold, .ref h_sketch, .int uses, .int usesInWindow, .int entriesSoFar, .int dirtySoFar])), (h_entries, .inr (0, [.ref h_rules, .ref h_ents])), (h_ents, .inr (8, [.int (nI 200), .int (nI 9), .ref a_ents, .int s_ents])), (a_ents, .inl (E.2.1, (200 * 9), .inl f_ents)), (h_cold, .inr (0, [.ref h_rules, .ref h_colds])), (h_colds, .inr (8, [.int (nI 20), .int (nI 9), .ref a_colds, .int s_colds])), (a_colds, .inl (E.2.1, (20 * 9), .inl f_colds)), (h_sketch, .inr (6, [.ref a_cnt])), (a_cnt, .inl (E.2.1, 64, .inl cnt)), (h_loads, .inr (2, [.ref h_rules, .ref h_ledger, .ref h_line, .ref h_waits, .ref h_boxes])), (h_line, .inr (8, [.int (nI 256), .int (nI 3), .ref a_line, .int s_line])), (a_line, .inl (E.2.1, (256 * 3), .inl f_line)), (h_waits, .inr (8, [.int (nI 256), .int (nI 2), .ref a_waits, .int s_waits])), (a_waits, .inl (E.2.1, (256 * 2), .inl f_waits)), (h_boxes, .inr (8, [.int (nI 192), .int (nI 3), .ref a_boxes, .int s_boxes])), (a_boxes, .inl (E.2.1, (192 * 3), .inl f_boxes))] H locs := w.sub [0, 1, 2, 3, 4, 5, 6, 7, 35, 36, 8, 9, 10, 11, 12, 13, 14, 15, 16, 17, 18, 19, 20, 21, 22, 23, 24, 25, 26, 27, 28, 29, 30, 31, 32, 33, 34] (by decide) rfl
    refine lv_iload_n hx hb dX11_rule_30 rfl (lv_at hl 2 rfl) ?_
    refine lv_if_ne (tgt := 45) hx hb dX11_rule_31 (by decide) (fun hc => ?_) (fun hc => ?_)
    · have hf := it_f hc hf
      refine lv_iload_n hx hb dX11_rule_45 rfl (lv_at hl 2 rfl) ?_
      refine lv_iconst (v := 1) hx hb dX11_rule_46 (by decide) ?_
      refine lv_icmp_ne (tgt := 60) hx hb dX11_rule_47 (by decide) (fun hc => ?_) (fun hc => ?_)
      · have hf := it_f hc hf
        refine lv_iload_n hx hb dX11_rule_60 rfl (lv_at hl 2 rfl) ?_
        refine lv_iconst (v := 4) hx hb dX11_rule_61 (by decide) ?_
        refine lv_icmp_ne (tgt := 75) hx hb dX11_rule_62 (by decide) (fun hc => ?_) (fun hc => ?_)
        · have hf := it_f hc hf
          refine lv_iload_n hx hb dX11_rule_75 rfl (lv_at hl 2 rfl) ?_
          refine lv_bipush (v := 6) hx hb dX11_rule_76 (by decide) ?_
          refine lv_icmp_ne (tgt := 88) hx hb dX11_rule_78 (by decide) (fun hc => ?_) (fun hc => ?_)
          · have hf := it_f hc hf
            refine lv_iload_n hx hb dX11_rule_88 rfl (lv_at hl 0 rfl) ?_
            cases hf
            exact mx_iret B w ⟨_, _, _, _, _, _, _, _, _, _, _, _, ok_book, ok_told, ok_written, ok_ents, ok_colds, ok_line, rfl, rfl⟩ dX11_rule_89
          · have hf := it_t hc hf
            refine lv_aload_n hx hb dX11_rule_81 rfl (lv_at hl 1 rfl) ?_
            refine mx_get B w 0 fl_X11_53 rfl rfl dX11_rule_82 ?_
            obtain ⟨o_4, hq, hf⟩ := bd_e hf
            refine mx_callV (As := []) (rest := []) (wr := [(h, .inr (10, [.ref h_tape, .ref h_rowOfKeys, .ref h_replays, .ref h_at, .ref h_rules, .ref h_ledger, .ref h_shelf, .ref h_loads, kv])), (h_tape, .inr (9, [.ref a_tby, .int tsz])), (a_tby, .inl (E.2.1, 60, .inl tby)), (h_rowOfKeys, .inr (8, [.int (nI 30), .int (nI 1), .ref a_rowOfKeys, .int s_rowOfKeys])), (a_rowOfKeys, .inl (E.2.1, (30 * 1), .inl f_rowOfKeys)), (h_replays, .inr (3, [.ref h_places])), (h_places, .inr (8, [.int (nI 12), .int (nI 3), .ref a_places, .int s_places])), (a_places, .inl (E.2.1, (12 * 3), .inl f_places)), (h_loads, .inr (2, [.ref h_rules, .ref h_ledger, .ref h_line, .ref h_waits, .ref h_boxes])), (h_line, .inr (8, [.int (nI 256), .int (nI 3), .ref a_line, .int s_line])), (a_line, .inl (E.2.1, (256 * 3), .inl f_line)), (h_waits, .inr (8, [.int (nI 256), .int (nI 2), .ref a_waits, .int s_waits])), (a_waits, .inl (E.2.1, (256 * 2), .inl f_waits)), (h_boxes, .inr (8, [.int (nI 192), .int (nI 3), .ref a_boxes, .int s_boxes])), (a_boxes, .inl (E.2.1, (192 * 3), .inl f_boxes))]) (d_X6_trimCold E l N h_shelf h_rules a_vals h_ledger h_book a_book h_told a_told h_written a_written h_late a_late a_sums a_asum h_entries h_ents a_ents h_cold h_colds a_colds h_sketch a_cnt o_3 now book told written late sums asum ents colds cnt uses usesInWindow entriesSoFar dirtySoFar s_book f_book s_told f_told s_written f_written s_late f_late s_ents f_ents s_colds f_colds  ok_book ok_told ok_written ok_late ok_ents ok_colds o_4 hq) B w [21, 8, 9, 10, 11, 12, 13, 14, 15, 16, 17, 18, 19, 20, 22, 23, 24, 25, 26, 27, 28, 29] [0, 1, 2, 3, 4, 5, 6, 7, 30, 31, 32, 33, 34, 35, 36] rfl rfl (by decide) (by decide) (by decide) 21 rfl rfl cv_X6_trimCold kw_479 0 (by decide +kernel) ⟨Nat.le_of_ble_eq_true rfl, Nat.le_of_ble_eq_true rfl⟩ rfl hl.1 rfl (Nat.le_of_ble_eq_true rfl) dX11_rule_85 rfl rfl ⟨Nat.zero_le _, Nat.zero_le _⟩ (fun v w' H locs hpo w => ?_)
            clear hq
            obtain ⟨s_colds_5, f_colds_6, ok_colds, rfl, rfl⟩ := hpo
            have w : mW E A s [(h, .inr (10, [.ref h_tape, .ref h_rowOfKeys, .ref h_replays, .ref h_at, .ref h_rules, .ref h_ledger, .ref h_shelf, .ref h_loads, kv])), (h_tape, .inr (9, [.ref a_tby, .int tsz])), (a_tby, .inl (E.2.1, 60, .inl tby)), (h_rowOfKeys, .inr (8, [.int (nI 30), .int (nI 1), .ref a_rowOfKeys, .int s_rowOfKeys])), (a_rowOfKeys, .inl (E.2.1, (30 * 1), .inl f_rowOfKeys)), (h_replays, .inr (3, [.ref h_places])), (h_places, .inr (8, [.int (nI 12), .int (nI 3), .ref a_places, .int s_places])), (a_places, .inl (E.2.1, (12 * 3), .inl f_places)), (h_rules, .inr (4, [.ref a_vals, .int now])), (a_vals, .inl (E.2.1, 8, .inl o_3)), (h_ledger, .inr (1, [.ref h_rules, .ref h_book, .ref h_told, .ref h_written, .ref h_late, .ref a_sums, .ref a_asum])), (h_book, .inr (8, [.int (nI 40), .int (nI 3), .ref a_book, .int s_book])), (a_book, .inl (E.2.1, (40 * 3), .inl f_book)), (h_told, .inr (8, [.int (nI 60), .int (nI 1), .ref a_told, .int s_told])), (a_told, .inl (E.2.1, (60 * 1), .inl f_told)), (h_written, .inr (8, [.int (nI 40), .int (nI 2), .ref a_written, .int s_written])), (a_written, .inl (E.2.1, (40 * 2), .inl f_written)), (h_late, .inr (8, [.int (nI 60), .int (nI 1), .ref a_late, .int s_late])), (a_late, .inl (E.2.1, (60 * 1), .inl f_late)), (a_sums, .inl (E.2.1, 14, .inl sums)), (a_asum, .inl (E.2.1, 64, .inl asum)), (h_shelf, .inr (5, [.ref h_rules, .ref h_ledger, .ref h_entries, .ref h_cold, .ref h_sketch, .int uses, .int usesInWindow, .int entriesSoFar, .int dirtySoFar])), (h_entries, .inr (0, [.ref h_rules, .ref h_ents])), (h_ents, .inr (8, [.int (nI 200), .int (nI 9), .ref a_ents, .int s_ents])), (a_ents, .inl (E.2.1, (200 * 9), .inl f_ents)), (h_cold, .inr (0, [.ref h_rules, .ref h_colds])), (h_colds, .inr (8, [.int (nI 20), .int (nI 9), .ref a_colds, .int s_colds_5])), (a_colds, .inl (E.2.1, (20 * 9), .inl f_colds_6)), (h_sketch, .inr (6, [.ref a_cnt])), (a_cnt, .inl (E.2.1, 64, .inl cnt)), (h_loads, .inr (2, [.ref h_rules, .ref h_ledger, .ref h_line, .ref h_waits, .ref h_boxes])), (h_line, .inr (8, [.int (nI 256), .int (nI 3), .ref a_line, .int s_line])), (a_line, .inl (E.2.1, (256 * 3), .inl f_line)), (h_waits, .inr (8, [.int (nI 256), .int (nI 2), .ref a_waits, .int s_waits])), (a_waits, .inl (E.2.1, (256 * 2), .inl f_waits)), (h_boxes, .inr (8, [.int (nI 192), .int (nI 3), .ref a_boxes, .int s_boxes])), (a_boxes, .inl (E.2.1, (192 * 3), .inl f_boxes))] H locs := w.sub [0, 1, 2, 3, 4, 5, 6, 7, 16, 17, 18, 19, 20, 21, 22, 23, 24, 25, 26, 27, 28, 15, 29, 30, 31, 32, 33, 34, 35, 36, 8, 9, 10, 11, 12, 13, 14] (by decide) rfl
            refine lv_iload_n hx hb dX11_rule_88 rfl (lv_at hl 0 rfl) ?_
            cases hf
            exact mx_iret B w ⟨_, _, _, _, _, _, _, _, _, _, _, _, ok_book, ok_told, ok_written, ok_ents, ok_colds, ok_line, rfl, rfl⟩ dX11_rule_89
        · have hf := it_t hc hf
          refine lv_aload_n hx hb dX11_rule_65 rfl (lv_at hl 1 rfl) ?_
          refine mx_get B w 0 fl_X11_58 rfl rfl dX11_rule_66 ?_
          obtain ⟨o_7, hq, hf⟩ := bd_e hf
          refine mx_callV (As := []) (rest := []) (wr := [(h, .inr (10, [.ref h_tape, .ref h_rowOfKeys, .ref h_replays, .ref h_at, .ref h_rules, .ref h_ledger, .ref h_shelf, .ref h_loads, kv])), (h_tape, .inr (9, [.ref a_tby, .int tsz])), (a_tby, .inl (E.2.1, 60, .inl tby)), (h_rowOfKeys, .inr (8, [.int (nI 30), .int (nI 1), .ref a_rowOfKeys, .int s_rowOfKeys])), (a_rowOfKeys, .inl (E.2.1, (30 * 1), .inl f_rowOfKeys)), (h_replays, .inr (3, [.ref h_places])), (h_places, .inr (8, [.int (nI 12), .int (nI 3), .ref a_places, .int s_places])), (a_places, .inl (E.2.1, (12 * 3), .inl f_places)), (h_shelf, .inr (5, [.ref h_rules, .ref h_ledger, .ref h_entries, .ref h_cold, .ref h_sketch, .int uses, .int usesInWindow, .int entriesSoFar, .int dirtySoFar])), (h_entries, .inr (0, [.ref h_rules, .ref h_ents])), (h_ents, .inr (8, [.int (nI 200), .int (nI 9), .ref a_ents, .int s_ents])), (a_ents, .inl (E.2.1, (200 * 9), .inl f_ents)), (h_cold, .inr (0, [.ref h_rules, .ref h_colds])), (h_colds, .inr (8, [.int (nI 20), .int (nI 9), .ref a_colds, .int s_colds])), (a_colds, .inl (E.2.1, (20 * 9), .inl f_colds)), (h_sketch, .inr (6, [.ref a_cnt])), (a_cnt, .inl (E.2.1, 64, .inl cnt))]) (d_X3_runWhatMay E l N h_loads h_rules a_vals h_ledger h_book a_book h_told a_told h_written a_written h_late a_late a_sums a_asum h_line a_line h_waits a_waits h_boxes a_boxes o_3 now book told written late sums asum line waits boxes s_book f_book s_told f_told s_written f_written s_late f_late s_line f_line s_waits f_waits s_boxes f_boxes  ok_book ok_told ok_written ok_late ok_line ok_waits ok_boxes o_7 hq) B w [30, 8, 9, 10, 11, 12, 13, 14, 15, 16, 17, 18, 19, 20, 31, 32, 33, 34, 35, 36] [0, 1, 2, 3, 4, 5, 6, 7, 21, 22, 23, 24, 25, 26, 27, 28, 29] rfl rfl (by decide) (by decide) (by decide) 30 rfl rfl cv_X3_runWhatMay kw_457 0 (by decide +kernel) ⟨Nat.le_of_ble_eq_true rfl, Nat.le_of_ble_eq_true rfl⟩ rfl hl.1 rfl (Nat.le_of_ble_eq_true rfl) dX11_rule_69 rfl rfl ⟨Nat.zero_le _, Nat.zero_le _⟩ (fun v w' H locs hpo w => ?_)
          clear hq
          obtain ⟨s_book_8, f_book_9, s_told_10, f_told_11, s_line_12, f_line_13, ok_book, ok_told, ok_line, rfl, rfl⟩ := hpo
          have w : mW E A s [(h, .inr (10, [.ref h_tape, .ref h_rowOfKeys, .ref h_replays, .ref h_at, .ref h_rules, .ref h_ledger, .ref h_shelf, .ref h_loads, kv])), (h_tape, .inr (9, [.ref a_tby, .int tsz])), (a_tby, .inl (E.2.1, 60, .inl tby)), (h_rowOfKeys, .inr (8, [.int (nI 30), .int (nI 1), .ref a_rowOfKeys, .int s_rowOfKeys])), (a_rowOfKeys, .inl (E.2.1, (30 * 1), .inl f_rowOfKeys)), (h_replays, .inr (3, [.ref h_places])), (h_places, .inr (8, [.int (nI 12), .int (nI 3), .ref a_places, .int s_places])), (a_places, .inl (E.2.1, (12 * 3), .inl f_places)), (h_rules, .inr (4, [.ref a_vals, .int now])), (a_vals, .inl (E.2.1, 8, .inl o_3)), (h_ledger, .inr (1, [.ref h_rules, .ref h_book, .ref h_told, .ref h_written, .ref h_late, .ref a_sums, .ref a_asum])), (h_book, .inr (8, [.int (nI 40), .int (nI 3), .ref a_book, .int s_book_8])), (a_book, .inl (E.2.1, (40 * 3), .inl f_book_9)), (h_told, .inr (8, [.int (nI 60), .int (nI 1), .ref a_told, .int s_told_10])), (a_told, .inl (E.2.1, (60 * 1), .inl f_told_11)), (h_written, .inr (8, [.int (nI 40), .int (nI 2), .ref a_written, .int s_written])), (a_written, .inl (E.2.1, (40 * 2), .inl f_written)), (h_late, .inr (8, [.int (nI 60), .int (nI 1), .ref a_late, .int s_late])), (a_late, .inl (E.2.1, (60 * 1), .inl f_late)), (a_sums, .inl (E.2.1, 14, .inl o_7.2.2.1)), (a_asum, .inl (E.2.1, 64, .inl asum)), (h_shelf, .inr (5, [.ref h_rules, .ref h_ledger, .ref h_entries, .ref h_cold, .ref h_sketch, .int uses, .int usesInWindow, .int entriesSoFar, .int dirtySoFar])), (h_entries, .inr (0, [.ref h_rules, .ref h_ents])), (h_ents, .inr (8, [.int (nI 200), .int (nI 9), .ref a_ents, .int s_ents])), (a_ents, .inl (E.2.1, (200 * 9), .inl f_ents)), (h_cold, .inr (0, [.ref h_rules, .ref h_colds])), (h_colds, .inr (8, [.int (nI 20), .int (nI 9), .ref a_colds, .int s_colds])), (a_colds, .inl (E.2.1, (20 * 9), .inl f_colds)), (h_sketch, .inr (6, [.ref a_cnt])), (a_cnt, .inl (E.2.1, 64, .inl cnt)), (h_loads, .inr (2, [.ref h_rules, .ref h_ledger, .ref h_line, .ref h_waits, .ref h_boxes])), (h_line, .inr (8, [.int (nI 256), .int (nI 3), .ref a_line, .int s_line_12])), (a_line, .inl (E.2.1, (256 * 3), .inl f_line_13)), (h_waits, .inr (8, [.int (nI 256), .int (nI 2), .ref a_waits, .int s_waits])), (a_waits, .inl (E.2.1, (256 * 2), .inl f_waits)), (h_boxes, .inr (8, [.int (nI 192), .int (nI 3), .ref a_boxes, .int s_boxes])), (a_boxes, .inl (E.2.1, (192 * 3), .inl f_boxes))] H locs := w.sub [0, 1, 2, 3, 4, 5, 6, 7, 18, 19, 20, 21, 22, 23, 24, 25, 26, 27, 28, 29, 30, 8, 9, 10, 11, 12, 13, 14, 15, 16, 17, 31, 32, 33, 34, 35, 36] (by decide) rfl
          refine lv_goto (tgt := 88) hx hb dX11_rule_72 (by decide) ?_
          refine lv_iload_n hx hb dX11_rule_88 rfl (lv_at hl 0 rfl) ?_
          cases hf
          exact mx_iret B w ⟨_, _, _, _, _, _, _, _, _, _, _, _, ok_book, ok_told, ok_written, ok_ents, ok_colds, ok_line, rfl, rfl⟩ dX11_rule_89
      · have hf := it_t hc hf
        refine lv_aload_n hx hb dX11_rule_50 rfl (lv_at hl 1 rfl) ?_
        refine mx_get B w 0 fl_X11_53 rfl rfl dX11_rule_51 ?_
        obtain ⟨o_14, hq, hf⟩ := bd_e hf
        refine mx_callV (As := []) (rest := []) (wr := [(h, .inr (10, [.ref h_tape, .ref h_rowOfKeys, .ref h_replays, .ref h_at, .ref h_rules, .ref h_ledger, .ref h_shelf, .ref h_loads, kv])), (h_tape, .inr (9, [.ref a_tby, .int tsz])), (a_tby, .inl (E.2.1, 60, .inl tby)), (h_rowOfKeys, .inr (8, [.int (nI 30), .int (nI 1), .ref a_rowOfKeys, .int s_rowOfKeys])), (a_rowOfKeys, .inl (E.2.1, (30 * 1), .inl f_rowOfKeys)), (h_replays, .inr (3, [.ref h_places])), (h_places, .inr (8, [.int (nI 12), .int (nI 3), .ref a_places, .int s_places])), (a_places, .inl (E.2.1, (12 * 3), .inl f_places)), (h_loads, .inr (2, [.ref h_rules, .ref h_ledger, .ref h_line, .ref h_waits, .ref h_boxes])), (h_line, .inr (8, [.int (nI 256), .int (nI 3), .ref a_line, .int s_line])), (a_line, .inl (E.2.1, (256 * 3), .inl f_line)), (h_waits, .inr (8, [.int (nI 256), .int (nI 2), .ref a_waits, .int s_waits])), (a_waits, .inl (E.2.1, (256 * 2), .inl f_waits)), (h_boxes, .inr (8, [.int (nI 192), .int (nI 3), .ref a_boxes, .int s_boxes])), (a_boxes, .inl (E.2.1, (192 * 3), .inl f_boxes))]) (d_X6_beginWindow E l  h_shelf h_rules a_vals h_ledger h_book a_book h_told a_told h_written a_written h_late a_late a_sums a_asum h_entries h_ents a_ents h_cold h_colds a_colds h_sketch a_cnt o_3 now book told written late sums asum ents colds cnt uses usesInWindow entriesSoFar dirtySoFar s_book f_book s_told f_told s_written f_written s_late f_late s_ents f_ents s_colds f_colds  ok_book ok_told ok_written ok_late ok_ents ok_colds o_14 hq) B w [21, 8, 9, 10, 11, 12, 13, 14, 15, 16, 17, 18, 19, 20, 22, 23, 24, 25, 26, 27, 28, 29] [0, 1, 2, 3, 4, 5, 6, 7, 30, 31, 32, 33, 34, 35, 36] rfl rfl (by decide) (by decide) (by decide) 21 rfl rfl cv_X6_beginWindow kw_453 0 (by decide +kernel) ⟨Nat.le_of_ble_eq_true rfl, Nat.le_of_ble_eq_true rfl⟩ rfl hl.1 rfl (Nat.le_of_ble_eq_true rfl) dX11_rule_54 rfl rfl ⟨Nat.zero_le _, Nat.zero_le _⟩ (fun v w' H locs hpo w => ?_)
        clear hq
        obtain ⟨rfl, rfl⟩ := hpo
        have w : mW E A s [(h, .inr (10, [.ref h_tape, .ref h_rowOfKeys, .ref h_replays, .ref h_at, .ref h_rules, .ref h_ledger, .ref h_shelf, .ref h_loads, kv])), (h_tape, .inr (9, [.ref a_tby, .int tsz])), (a_tby, .inl (E.2.1, 60, .inl tby)), (h_rowOfKeys, .inr (8, [.int (nI 30), .int (nI 1), .ref a_rowOfKeys, .int s_rowOfKeys])), (a_rowOfKeys, .inl (E.2.1, (30 * 1), .inl f_rowOfKeys)), (h_replays, .inr (3, [.ref h_places])), (h_places, .inr (8, [.int (nI 12), .int (nI 3), .ref a_places, .int s_places])), (a_places, .inl (E.2.1, (12 * 3), .inl f_places)), (h_rules, .inr (4, [.ref a_vals, .int now])), (a_vals, .inl (E.2.1, 8, .inl o_3)), (h_ledger, .inr (1, [.ref h_rules, .ref h_book, .ref h_told, .ref h_written, .ref h_late, .ref a_sums, .ref a_asum])), (h_book, .inr (8, [.int (nI 40), .int (nI 3), .ref a_book, .int s_book])), (a_book, .inl (E.2.1, (40 * 3), .inl f_book)), (h_told, .inr (8, [.int (nI 60), .int (nI 1), .ref a_told, .int s_told])), (a_told, .inl (E.2.1, (60 * 1), .inl f_told)), (h_written, .inr (8, [.int (nI 40), .int (nI 2), .ref a_written, .int s_written])), (a_written, .inl (E.2.1, (40 * 2), .inl f_written)), (h_late, .inr (8, [.int (nI 60), .int (nI 1), .ref a_late, .int s_late])), (a_late, .inl (E.2.1, (60 * 1), .inl f_late)), (a_sums, .inl (E.2.1, 14, .inl sums)), (a_asum, .inl (E.2.1, 64, .inl asum)), (h_shelf, .inr (5, [.ref h_rules, .ref h_ledger, .ref h_entries, .ref h_cold, .ref h_sketch, .int uses, .int o_14, .int entriesSoFar, .int dirtySoFar])), (h_entries, .inr (0, [.ref h_rules, .ref h_ents])), (h_ents, .inr (8, [.int (nI 200), .int (nI 9), .ref a_ents, .int s_ents])), (a_ents, .inl (E.2.1, (200 * 9), .inl f_ents)), (h_cold, .inr (0, [.ref h_rules, .ref h_colds])), (h_colds, .inr (8, [.int (nI 20), .int (nI 9), .ref a_colds, .int s_colds])), (a_colds, .inl (E.2.1, (20 * 9), .inl f_colds)), (h_sketch, .inr (6, [.ref a_cnt])), (a_cnt, .inl (E.2.1, 64, .inl cnt)), (h_loads, .inr (2, [.ref h_rules, .ref h_ledger, .ref h_line, .ref h_waits, .ref h_boxes])), (h_line, .inr (8, [.int (nI 256), .int (nI 3), .ref a_line, .int s_line])), (a_line, .inl (E.2.1, (256 * 3), .inl f_line)), (h_waits, .inr (8, [.int (nI 256), .int (nI 2), .ref a_waits, .int s_waits])), (a_waits, .inl (E.2.1, (256 * 2), .inl f_waits)), (h_boxes, .inr (8, [.int (nI 192), .int (nI 3), .ref a_boxes, .int s_boxes])), (a_boxes, .inl (E.2.1, (192 * 3), .inl f_boxes))] H locs := w.sub [0, 1, 2, 3, 4, 5, 6, 7, 16, 17, 18, 19, 20, 21, 22, 23, 24, 25, 26, 27, 28, 15, 29, 30, 31, 32, 33, 34, 35, 36, 8, 9, 10, 11, 12, 13, 14] (by decide) rfl
        refine lv_goto (tgt := 88) hx hb dX11_rule_57 (by decide) ?_
        refine lv_iload_n hx hb dX11_rule_88 rfl (lv_at hl 0 rfl) ?_
        cases hf
        exact mx_iret B w ⟨_, _, _, _, _, _, _, _, _, _, _, _, ok_book, ok_told, ok_written, ok_ents, ok_colds, ok_line, rfl, rfl⟩ dX11_rule_89
    · have hf := it_t hc hf
      refine lv_aload_n hx hb dX11_rule_34 rfl (lv_at hl 1 rfl) ?_
      refine mx_get B w 0 fl_X11_53 rfl rfl dX11_rule_35 ?_
      refine lv_iload_n hx hb dX11_rule_38 rfl (lv_at hl 3 rfl) ?_
      obtain ⟨o_15, hq, hf⟩ := bd_e hf
      refine mx_callV (As := [.int x2]) (rest := []) (wr := [(h, .inr (10, [.ref h_tape, .ref h_rowOfKeys, .ref h_replays, .ref h_at, .ref h_rules, .ref h_ledger, .ref h_shelf, .ref h_loads, kv])), (h_tape, .inr (9, [.ref a_tby, .int tsz])), (a_tby, .inl (E.2.1, 60, .inl tby)), (h_rowOfKeys, .inr (8, [.int (nI 30), .int (nI 1), .ref a_rowOfKeys, .int s_rowOfKeys])), (a_rowOfKeys, .inl (E.2.1, (30 * 1), .inl f_rowOfKeys)), (h_replays, .inr (3, [.ref h_places])), (h_places, .inr (8, [.int (nI 12), .int (nI 3), .ref a_places, .int s_places])), (a_places, .inl (E.2.1, (12 * 3), .inl f_places)), (h_loads, .inr (2, [.ref h_rules, .ref h_ledger, .ref h_line, .ref h_waits, .ref h_boxes])), (h_line, .inr (8, [.int (nI 256), .int (nI 3), .ref a_line, .int s_line])), (a_line, .inl (E.2.1, (256 * 3), .inl f_line)), (h_waits, .inr (8, [.int (nI 256), .int (nI 2), .ref a_waits, .int s_waits])), (a_waits, .inl (E.2.1, (256 * 2), .inl f_waits)), (h_boxes, .inr (8, [.int (nI 192), .int (nI 3), .ref a_boxes, .int s_boxes])), (a_boxes, .inl (E.2.1, (192 * 3), .inl f_boxes))]) (d_X6_fitInto E l N h_shelf h_rules a_vals h_ledger h_book a_book h_told a_told h_written a_written h_late a_late a_sums a_asum h_entries h_ents a_ents h_cold h_colds a_colds h_sketch a_cnt o_3 now book told written late sums asum ents colds cnt uses usesInWindow entriesSoFar dirtySoFar s_book f_book s_told f_told s_written f_written s_late f_late s_ents f_ents s_colds f_colds x2 ok_book ok_told ok_written ok_late ok_ents ok_colds o_15 hq) B w [21, 8, 9, 10, 11, 12, 13, 14, 15, 16, 17, 18, 19, 20, 22, 23, 24, 25, 26, 27, 28, 29] [0, 1, 2, 3, 4, 5, 6, 7, 30, 31, 32, 33, 34, 35, 36] rfl rfl (by decide) (by decide) (by decide) 21 rfl rfl cv_X6_fitInto kw_348 1 (by decide +kernel) ⟨Nat.le_of_ble_eq_true rfl, Nat.le_of_ble_eq_true rfl⟩ rfl hl.1 rfl (Nat.le_of_ble_eq_true rfl) dX11_rule_39 rfl rfl ⟨Nat.zero_le _, Nat.zero_le _⟩ (fun v w' H locs hpo w => ?_)
      clear hq
      obtain ⟨s_book_16, f_book_17, s_written_18, f_written_19, s_ents_20, f_ents_21, s_colds_22, f_colds_23, ok_book, ok_written, ok_ents, ok_colds, rfl, rfl⟩ := hpo
      have w : mW E A s [(h, .inr (10, [.ref h_tape, .ref h_rowOfKeys, .ref h_replays, .ref h_at, .ref h_rules, .ref h_ledger, .ref h_shelf, .ref h_loads, kv])), (h_tape, .inr (9, [.ref a_tby, .int tsz])), (a_tby, .inl (E.2.1, 60, .inl tby)), (h_rowOfKeys, .inr (8, [.int (nI 30), .int (nI 1), .ref a_rowOfKeys, .int s_rowOfKeys])), (a_rowOfKeys, .inl (E.2.1, (30 * 1), .inl f_rowOfKeys)), (h_replays, .inr (3, [.ref h_places])), (h_places, .inr (8, [.int (nI 12), .int (nI 3), .ref a_places, .int s_places])), (a_places, .inl (E.2.1, (12 * 3), .inl f_places)), (h_rules, .inr (4, [.ref a_vals, .int now])), (a_vals, .inl (E.2.1, 8, .inl o_3)), (h_ledger, .inr (1, [.ref h_rules, .ref h_book, .ref h_told, .ref h_written, .ref h_late, .ref a_sums, .ref a_asum])), (h_book, .inr (8, [.int (nI 40), .int (nI 3), .ref a_book, .int s_book_16])), (a_book, .inl (E.2.1, (40 * 3), .inl f_book_17)), (h_told, .inr (8, [.int (nI 60), .int (nI 1), .ref a_told, .int s_told])), (a_told, .inl (E.2.1, (60 * 1), .inl f_told)), (h_written, .inr (8, [.int (nI 40), .int (nI 2), .ref a_written, .int s_written_18])), (a_written, .inl (E.2.1, (40 * 2), .inl f_written_19)), (h_late, .inr (8, [.int (nI 60), .int (nI 1), .ref a_late, .int s_late])), (a_late, .inl (E.2.1, (60 * 1), .inl f_late)), (a_sums, .inl (E.2.1, 14, .inl o_15.2.2.1)), (a_asum, .inl (E.2.1, 64, .inl asum)), (h_shelf, .inr (5, [.ref h_rules, .ref h_ledger, .ref h_entries, .ref h_cold, .ref h_sketch, .int uses, .int usesInWindow, .int entriesSoFar, .int dirtySoFar])), (h_entries, .inr (0, [.ref h_rules, .ref h_ents])), (h_ents, .inr (8, [.int (nI 200), .int (nI 9), .ref a_ents, .int s_ents_20])), (a_ents, .inl (E.2.1, (200 * 9), .inl f_ents_21)), (h_cold, .inr (0, [.ref h_rules, .ref h_colds])), (h_colds, .inr (8, [.int (nI 20), .int (nI 9), .ref a_colds, .int s_colds_22])), (a_colds, .inl (E.2.1, (20 * 9), .inl f_colds_23)), (h_sketch, .inr (6, [.ref a_cnt])), (a_cnt, .inl (E.2.1, 64, .inl cnt)), (h_loads, .inr (2, [.ref h_rules, .ref h_ledger, .ref h_line, .ref h_waits, .ref h_boxes])), (h_line, .inr (8, [.int (nI 256), .int (nI 3), .ref a_line, .int s_line])), (a_line, .inl (E.2.1, (256 * 3), .inl f_line)), (h_waits, .inr (8, [.int (nI 256), .int (nI 2), .ref a_waits, .int s_waits])), (a_waits, .inl (E.2.1, (256 * 2), .inl f_waits)), (h_boxes, .inr (8, [.int (nI 192), .int (nI 3), .ref a_boxes, .int s_boxes])), (a_boxes, .inl (E.2.1, (192 * 3), .inl f_boxes))] H locs := w.sub [0, 1, 2, 3, 4, 5, 6, 7, 16, 17, 18, 19, 20, 21, 22, 23, 24, 25, 26, 27, 28, 15, 29, 30, 31, 32, 33, 34, 35, 36, 8, 9, 10, 11, 12, 13, 14] (by decide) rfl
      refine lv_goto (tgt := 88) hx hb dX11_rule_42 (by decide) ?_
      refine lv_iload_n hx hb dX11_rule_88 rfl (lv_at hl 0 rfl) ?_
      cases hf
      exact mx_iret B w ⟨_, _, _, _, _, _, _, _, _, _, _, _, ok_book, ok_told, ok_written, ok_ents, ok_colds, ok_line, rfl, rfl⟩ dX11_rule_89
  · have hf := it_t hc hf
    refine lv_sipush (v := (-1001)) hx hb dX11_rule_8 (by decide) ?_
    cases hf
    exact mx_iret B w ⟨_, _, _, _, _, _, _, _, _, _, _, _, ok_book, ok_told, ok_written, ok_ents, ok_colds, ok_line, rfl, rfl⟩ dX11_rule_11
-- X5_pass
def po_X5_pass (E : mE) (h : Nat) (a_vals : Nat)  (vals : Nat → Int32) (now : Int32)  (o : Int32) : Option Value → va_W → Prop := (fun (v : Option Value) (w' : va_W) => v = none ∧ w' = [(h, .inr (4, [.ref a_vals, .int o])), (a_vals, .inl (E.2.1, 8, .inl vals))])
noncomputable def F_X5_pass  (now : Int32) (x1 : Int32) : Option (Int32) :=
  lt ((now + x1)) (fun now_1 =>
  some (now_1))
set_option maxHeartbeats 4000000 in
set_option maxRecDepth 100000 in
theorem d_X5_pass (E : mE) (l : Launch) (h : Nat) (a_vals : Nat)  (vals : Nat → Int32) (now : Int32)  (x1 : Int32)  (o : Int32) (hf : F_X5_pass now x1 = some o) : MX E l yX5_pass cX5_pass 2 none ({ frames := 0, cells := 0, slots := 0, locals := 0 } : Room) [.ref h, .int x1] [(h, .inr (4, [.ref a_vals, .int now])), (a_vals, .inl (E.2.1, 8, .inl vals))] (po_X5_pass E h a_vals vals now o) := by
  refine mx_intro (by decide +kernel) (Nat.le_of_ble_eq_true rfl) ?_
  intro p e s m args below meth c A Q ls B w hl
  obtain ⟨hx, hb, hml, hown, hts⟩ := id B.1
  unfold F_X5_pass at hf
  have hl : lv_has ls 2 [(0, .ref h), (1, .int x1)] := hl
  refine lv_aload_n hx hb dX5_pass_0 rfl (lv_at hl 0 rfl) ?_
  refine lv_dup hx hb dX5_pass_1 rfl ?_
  refine mx_get B w 0 fl_X5_13 rfl rfl dX5_pass_2 ?_
  refine lv_iload_n hx hb dX5_pass_5 rfl (lv_at hl 1 rfl) ?_
  refine lv_iadd hx hb dX5_pass_6 ?_
  refine mx_puti B w 0 fl_X5_13 fi_X5_1 rfl (Nat.le_of_ble_eq_true rfl) dX5_pass_7 (fun now_1 H locs ev w => ?_)
  have hf := lt_n ev hf; clear ev
  have w : mW E A s [(h, .inr (4, [.ref a_vals, .int now_1])), (a_vals, .inl (E.2.1, 8, .inl vals))] H locs := w
  cases hf
  exact mx_vret B w ⟨rfl, rfl⟩ dX5_pass_10
-- X3_firstDelivery
def po_X3_firstDelivery (E : mE) (h : Nat) (h_rules : Nat) (a_vals : Nat) (h_ledger : Nat) (h_book : Nat) (a_book : Nat) (h_told : Nat) (a_told : Nat) (h_written : Nat) (a_written : Nat) (h_late : Nat) (a_late : Nat) (a_sums : Nat) (a_asum : Nat) (h_line : Nat) (a_line : Nat) (h_waits : Nat) (a_waits : Nat) (h_boxes : Nat) (a_boxes : Nat)  (vals : Nat → Int32) (now : Int32) (book : Rows) (told : Rows) (written : Rows) (late : Rows) (sums : Nat → Int32) (asum : Nat → Int32) (line : Rows) (waits : Rows) (boxes : Rows) (s_book : Int32) (f_book : Nat → Int32) (s_told : Int32) (f_told : Nat → Int32) (s_written : Int32) (f_written : Nat → Int32) (s_late : Int32) (f_late : Nat → Int32) (s_line : Int32) (f_line : Nat → Int32) (s_waits : Int32) (f_waits : Nat → Int32) (s_boxes : Int32) (f_boxes : Nat → Int32) (o : Int32) : Option Value → va_W → Prop := (fun (v : Option Value) (w' : va_W) => v = some (.int o) ∧ w' = [(h, .inr (2, [.ref h_rules, .ref h_ledger, .ref h_line, .ref h_waits, .ref h_boxes])), (h_rules, .inr (4, [.ref a_vals, .int now])), (a_vals, .inl (E.2.1, 8, .inl vals)), (h_ledger, .inr (1, [.ref h_rules, .ref h_book, .ref h_told, .ref h_written, .ref h_late, .ref a_sums, .ref a_asum])), (h_book, .inr (8, [.int (nI 40), .int (nI 3), .ref a_book, .int s_book])), (a_book, .inl (E.2.1, (40 * 3), .inl f_book)), (h_told, .inr (8, [.int (nI 60), .int (nI 1), .ref a_told, .int s_told])), (a_told, .inl (E.2.1, (60 * 1), .inl f_told)), (h_written, .inr (8, [.int (nI 40), .int (nI 2), .ref a_written, .int s_written])), (a_written, .inl (E.2.1, (40 * 2), .inl f_written)), (h_late, .inr (8, [.int (nI 60), .int (nI 1), .ref a_late, .int s_late])), (a_late, .inl (E.2.1, (60 * 1), .inl f_late)), (a_sums, .inl (E.2.1, 14, .inl sums)), (a_asum, .inl (E.2.1, 64, .inl asum)), (h_line, .inr (8, [.int (nI 256), .int (nI 3), .ref a_line, .int s_line])), (a_line, .inl (E.2.1, (256 * 3), .inl f_line)), (h_waits, .inr (8, [.int (nI 256), .int (nI 2), .ref a_waits, .int s_waits])), (a_waits, .inl (E.2.1, (256 * 2), .inl f_waits)), (h_boxes, .inr (8, [.int (nI 192), .int (nI 3), .ref a_boxes, .int s_boxes])), (a_boxes, .inl (E.2.1, (192 * 3), .inl f_boxes))])
noncomputable def F_X3_firstDelivery  (boxes : Rows) (x1 : Int32) : Option (Int32) :=
  lt (tfind boxes 0 x1 0) (fun o_1 =>
  some (o_1))
set_option maxHeartbeats 4000000 in
set_option maxRecDepth 100000 in
theorem d_X3_firstDelivery (E : mE) (l : Launch) (h : Nat) (h_rules : Nat) (a_vals : Nat) (h_ledger : Nat) (h_book : Nat) (a_book : Nat) (h_told : Nat) (a_told : Nat) (h_written : Nat) (a_written : Nat) (h_late : Nat) (a_late : Nat) (a_sums : Nat) (a_asum : Nat) (h_line : Nat) (a_line : Nat) (h_waits : Nat) (a_waits : Nat) (h_boxes : Nat) (a_boxes : Nat)  (vals : Nat → Int32) (now : Int32) (book : Rows) (told : Rows) (written : Rows) (late : Rows) (sums : Nat → Int32) (asum : Nat → Int32) (line : Rows) (waits : Rows) (boxes : Rows) (s_book : Int32) (f_book : Nat → Int32) (s_told : Int32) (f_told : Nat → Int32) (s_written : Int32) (f_written : Nat → Int32) (s_late : Int32) (f_late : Nat → Int32) (s_line : Int32) (f_line : Nat → Int32) (s_waits : Int32) (f_waits : Nat → Int32) (s_boxes : Int32) (f_boxes : Nat → Int32) (x1 : Int32) (ok_book : tb_ok 40 3 book s_book f_book) (ok_told : tb_ok 60 1 told s_told f_told) (ok_written : tb_ok 40 2 written s_written f_written) (ok_late : tb_ok 60 1 late s_late f_late) (ok_line : tb_ok 256 3 line s_line f_line) (ok_waits : tb_ok 256 2 waits s_waits f_waits) (ok_boxes : tb_ok 192 3 boxes s_boxes f_boxes) (o : Int32) (hf : F_X3_firstDelivery boxes x1 = some o) : MX E l yX3_firstDelivery cX3_firstDelivery 2 (some .int) ({ frames := 2, cells := 0, slots := 0, locals := 49 } : Room) [.ref h, .int x1] [(h, .inr (2, [.ref h_rules, .ref h_ledger, .ref h_line, .ref h_waits, .ref h_boxes])), (h_rules, .inr (4, [.ref a_vals, .int now])), (a_vals, .inl (E.2.1, 8, .inl vals)), (h_ledger, .inr (1, [.ref h_rules, .ref h_book, .ref h_told, .ref h_written, .ref h_late, .ref a_sums, .ref a_asum])), (h_book, .inr (8, [.int (nI 40), .int (nI 3), .ref a_book, .int s_book])), (a_book, .inl (E.2.1, (40 * 3), .inl f_book)), (h_told, .inr (8, [.int (nI 60), .int (nI 1), .ref a_told, .int s_told])), (a_told, .inl (E.2.1, (60 * 1), .inl f_told)), (h_written, .inr (8, [.int (nI 40), .int (nI 2), .ref a_written, .int s_written])), (a_written, .inl (E.2.1, (40 * 2), .inl f_written)), (h_late, .inr (8, [.int (nI 60), .int (nI 1), .ref a_late, .int s_late])), (a_late, .inl (E.2.1, (60 * 1), .inl f_late)), (a_sums, .inl (E.2.1, 14, .inl sums)), (a_asum, .inl (E.2.1, 64, .inl asum)), (h_line, .inr (8, [.int (nI 256), .int (nI 3), .ref a_line, .int s_line])), (a_line, .inl (E.2.1, (256 * 3), .inl f_line)), (h_waits, .inr (8, [.int (nI 256), .int (nI 2), .ref a_waits, .int s_waits])), (a_waits, .inl (E.2.1, (256 * 2), .inl f_waits)), (h_boxes, .inr (8, [.int (nI 192), .int (nI 3), .ref a_boxes, .int s_boxes])), (a_boxes, .inl (E.2.1, (192 * 3), .inl f_boxes))] (po_X3_firstDelivery E h h_rules a_vals h_ledger h_book a_book h_told a_told h_written a_written h_late a_late a_sums a_asum h_line a_line h_waits a_waits h_boxes a_boxes vals now book told written late sums asum line waits boxes s_book f_book s_told f_told s_written f_written s_late f_late s_line f_line s_waits f_waits s_boxes f_boxes o) := by
  refine mx_intro (by decide +kernel) (Nat.le_of_ble_eq_true rfl) ?_
  intro p e s m args below meth c A Q ls B w hl
  obtain ⟨hx, hb, hml, hown, hts⟩ := id B.1
  unfold F_X3_firstDelivery at hf
  have hl : lv_has ls 2 [(0, .ref h), (1, .int x1)] := hl
  refine lv_aload_n hx hb dX3_firstDelivery_0 rfl (lv_at hl 0 rfl) ?_
  refine mx_get B w 0 fl_X3_31 rfl rfl dX3_firstDelivery_1 ?_
  refine lv_iconst (v := 0) hx hb dX3_firstDelivery_4 (by decide) ?_
  refine lv_iload_n hx hb dX3_firstDelivery_5 rfl (lv_at hl 1 rfl) ?_
  refine lv_iconst (v := 0) hx hb dX3_firstDelivery_6 (by decide) ?_
  obtain ⟨o_1, ev⟩ : ∃ y, y = tfind boxes 0 x1 0 := ⟨_, rfl⟩
  have hf := lt_n ev hf
  refine mx_callV (As := [.int 0, .int x1, .int 0]) (rest := []) (wr := [(h, .inr (2, [.ref h_rules, .ref h_ledger, .ref h_line, .ref h_waits, .ref h_boxes])), (h_rules, .inr (4, [.ref a_vals, .int now])), (a_vals, .inl (E.2.1, 8, .inl vals)), (h_ledger, .inr (1, [.ref h_rules, .ref h_book, .ref h_told, .ref h_written, .ref h_late, .ref a_sums, .ref a_asum])), (h_book, .inr (8, [.int (nI 40), .int (nI 3), .ref a_book, .int s_book])), (a_book, .inl (E.2.1, (40 * 3), .inl f_book)), (h_told, .inr (8, [.int (nI 60), .int (nI 1), .ref a_told, .int s_told])), (a_told, .inl (E.2.1, (60 * 1), .inl f_told)), (h_written, .inr (8, [.int (nI 40), .int (nI 2), .ref a_written, .int s_written])), (a_written, .inl (E.2.1, (40 * 2), .inl f_written)), (h_late, .inr (8, [.int (nI 60), .int (nI 1), .ref a_late, .int s_late])), (a_late, .inl (E.2.1, (60 * 1), .inl f_late)), (a_sums, .inl (E.2.1, 14, .inl sums)), (a_asum, .inl (E.2.1, 64, .inl asum)), (h_line, .inr (8, [.int (nI 256), .int (nI 3), .ref a_line, .int s_line])), (a_line, .inl (E.2.1, (256 * 3), .inl f_line)), (h_waits, .inr (8, [.int (nI 256), .int (nI 2), .ref a_waits, .int s_waits])), (a_waits, .inl (E.2.1, (256 * 2), .inl f_waits))]) (c_X9_find E l h_boxes a_boxes 192 3 boxes s_boxes f_boxes 0 x1 0 ok_boxes o_1 ev) B w [18, 19] [0, 1, 2, 3, 4, 5, 6, 7, 8, 9, 10, 11, 12, 13, 14, 15, 16, 17] rfl rfl (by decide) (by decide) (by decide) 18 rfl rfl cv_X9_find kw_512 3 (by decide +kernel) ⟨Nat.le_of_ble_eq_true rfl, Nat.le_of_ble_eq_true rfl⟩ rfl hl.1 rfl (Nat.le_of_ble_eq_true rfl) dX3_firstDelivery_7 rfl rfl ⟨Nat.zero_le _, Nat.zero_le _⟩ (fun v w' H locs hpo w => ?_)
  clear ev
  obtain ⟨rfl, rfl⟩ := hpo
  have w : mW E A s [(h, .inr (2, [.ref h_rules, .ref h_ledger, .ref h_line, .ref h_waits, .ref h_boxes])), (h_rules, .inr (4, [.ref a_vals, .int now])), (a_vals, .inl (E.2.1, 8, .inl vals)), (h_ledger, .inr (1, [.ref h_rules, .ref h_book, .ref h_told, .ref h_written, .ref h_late, .ref a_sums, .ref a_asum])), (h_book, .inr (8, [.int (nI 40), .int (nI 3), .ref a_book, .int s_book])), (a_book, .inl (E.2.1, (40 * 3), .inl f_book)), (h_told, .inr (8, [.int (nI 60), .int (nI 1), .ref a_told, .int s_told])), (a_told, .inl (E.2.1, (60 * 1), .inl f_told)), (h_written, .inr (8, [.int (nI 40), .int (nI 2), .ref a_written, .int s_written])), (a_written, .inl (E.2.1, (40 * 2), .inl f_written)), (h_late, .inr (8, [.int (nI 60), .int (nI 1), .ref a_late, .int s_late])), (a_late, .inl (E.2.1, (60 * 1), .inl f_late)), (a_sums, .inl (E.2.1, 14, .inl sums)), (a_asum, .inl (E.2.1, 64, .inl asum)), (h_line, .inr (8, [.int (nI 256), .int (nI 3), .ref a_line, .int s_line])), (a_line, .inl (E.2.1, (256 * 3), .inl f_line)), (h_waits, .inr (8, [.int (nI 256), .int (nI 2), .ref a_waits, .int s_waits])), (a_waits, .inl (E.2.1, (256 * 2), .inl f_waits)), (h_boxes, .inr (8, [.int (nI 192), .int (nI 3), .ref a_boxes, .int s_boxes])), (a_boxes, .inl (E.2.1, (192 * 3), .inl f_boxes))] H locs := w
  cases hf
  exact mx_iret B w ⟨rfl, rfl⟩ dX3_firstDelivery_10
-- X2_tallyOf
def po_X2_tallyOf (E : mE) (h : Nat) (h_rules : Nat) (a_vals : Nat) (h_book : Nat) (a_book : Nat) (h_told : Nat) (a_told : Nat) (h_written : Nat) (a_written : Nat) (h_late : Nat) (a_late : Nat) (a_sums : Nat) (a_asum : Nat)  (vals : Nat → Int32) (now : Int32) (book : Rows) (told : Rows) (written : Rows) (late : Rows) (sums : Nat → Int32) (asum : Nat → Int32) (s_book : Int32) (f_book : Nat → Int32) (s_told : Int32) (f_told : Nat → Int32) (s_written : Int32) (f_written : Nat → Int32) (s_late : Int32) (f_late : Nat → Int32) (o : (Nat → Int32)) : Option Value → va_W → Prop := (fun (v : Option Value) (w' : va_W) => v = none ∧ w' = [(h, .inr (1, [.ref h_rules, .ref h_book, .ref h_told, .ref h_written, .ref h_late, .ref a_sums, .ref a_asum])), (h_rules, .inr (4, [.ref a_vals, .int now])), (a_vals, .inl (E.2.1, 8, .inl vals)), (h_book, .inr (8, [.int (nI 40), .int (nI 3), .ref a_book, .int s_book])), (a_book, .inl (E.2.1, (40 * 3), .inl f_book)), (h_told, .inr (8, [.int (nI 60), .int (nI 1), .ref a_told, .int s_told])), (a_told, .inl (E.2.1, (60 * 1), .inl f_told)), (h_written, .inr (8, [.int (nI 40), .int (nI 2), .ref a_written, .int s_written])), (a_written, .inl (E.2.1, (40 * 2), .inl f_written)), (h_late, .inr (8, [.int (nI 60), .int (nI 1), .ref a_late, .int s_late])), (a_late, .inl (E.2.1, (60 * 1), .inl f_late)), (a_sums, .inl (E.2.1, 14, .inl sums)), (a_asum, .inl (E.2.1, 64, .inl o))])
noncomputable def F_X2_tallyOf  (asum : Nat → Int32) (x1 : Int32) (x2 : Int32) : Option ((Nat → Int32)) :=
  lt ((x1 * 4) + x2) (fun x3_1 =>
  if (x3_1 < 0 : Prop) then
  some (asum)
  else
  if ((nI 64) ≤ x3_1 : Prop) then
  some (asum)
  else
  ld asum 64 x3_1 (fun v_2 =>
  sto asum 64 x3_1 (v_2 + 1) (fun asum_3 =>
  some (asum_3))))
set_option maxHeartbeats 4000000 in
set_option maxRecDepth 100000 in
theorem d_X2_tallyOf (E : mE) (l : Launch) (h : Nat) (h_rules : Nat) (a_vals : Nat) (h_book : Nat) (a_book : Nat) (h_told : Nat) (a_told : Nat) (h_written : Nat) (a_written : Nat) (h_late : Nat) (a_late : Nat) (a_sums : Nat) (a_asum : Nat)  (vals : Nat → Int32) (now : Int32) (book : Rows) (told : Rows) (written : Rows) (late : Rows) (sums : Nat → Int32) (asum : Nat → Int32) (s_book : Int32) (f_book : Nat → Int32) (s_told : Int32) (f_told : Nat → Int32) (s_written : Int32) (f_written : Nat → Int32) (s_late : Int32) (f_late : Nat → Int32) (x1 : Int32) (x2 : Int32) (ok_book : tb_ok 40 3 book s_book f_book) (ok_told : tb_ok 60 1 told s_told f_told) (ok_written : tb_ok 40 2 written s_written f_written) (ok_late : tb_ok 60 1 late s_late f_late) (o : (Nat → Int32)) (hf : F_X2_tallyOf asum x1 x2 = some o) : MX E l yX2_tallyOf cX2_tallyOf 4 none ({ frames := 0, cells := 0, slots := 0, locals := 0 } : Room) [.ref h, .int x1, .int x2] [(h, .inr (1, [.ref h_rules, .ref h_book, .ref h_told, .ref h_written, .ref h_late, .ref a_sums, .ref a_asum])), (h_rules, .inr (4, [.ref a_vals, .int now])), (a_vals, .inl (E.2.1, 8, .inl vals)), (h_book, .inr (8, [.int (nI 40), .int (nI 3), .ref a_book, .int s_book])), (a_book, .inl (E.2.1, (40 * 3), .inl f_book)), (h_told, .inr (8, [.int (nI 60), .int (nI 1), .ref a_told, .int s_told])), (a_told, .inl (E.2.1, (60 * 1), .inl f_told)), (h_written, .inr (8, [.int (nI 40), .int (nI 2), .ref a_written, .int s_written])), (a_written, .inl (E.2.1, (40 * 2), .inl f_written)), (h_late, .inr (8, [.int (nI 60), .int (nI 1), .ref a_late, .int s_late])), (a_late, .inl (E.2.1, (60 * 1), .inl f_late)), (a_sums, .inl (E.2.1, 14, .inl sums)), (a_asum, .inl (E.2.1, 64, .inl asum))] (po_X2_tallyOf E h h_rules a_vals h_book a_book h_told a_told h_written a_written h_late a_late a_sums a_asum vals now book told written late sums asum s_book f_book s_told f_told s_written f_written s_late f_late o) := by
  refine mx_intro (by decide +kernel) (Nat.le_of_ble_eq_true rfl) ?_
  intro p e s m args below meth c A Q ls B w hl
  obtain ⟨hx, hb, hml, hown, hts⟩ := id B.1
  unfold F_X2_tallyOf at hf
  have hl : lv_has ls 4 [(0, .ref h), (1, .int x1), (2, .int x2)] := hl
  refine lv_iload_n hx hb dX2_tallyOf_0 rfl (lv_at hl 1 rfl) ?_
  refine lv_iconst (v := 4) hx hb dX2_tallyOf_1 (by decide) ?_
  refine lv_imul hx hb dX2_tallyOf_2 ?_
  refine lv_iload_n hx hb dX2_tallyOf_3 rfl (lv_at hl 2 rfl) ?_
  refine lv_iadd hx hb dX2_tallyOf_4 ?_
  refine lv_topi (fun x3_1 ev => ?_)
  have hf := lt_n ev hf; clear ev
  refine lv_istore_n (lv' := [(3, .int x3_1), (0, .ref h), (1, .int x1), (2, .int x2)]) hx hb dX2_tallyOf_5 rfl hl (by decide) rfl (fun ls hl => ?_)
  refine lv_iload_n hx hb dX2_tallyOf_6 rfl (lv_at hl 0 rfl) ?_
  refine lv_if_lt (tgt := 29) hx hb dX2_tallyOf_7 (by decide) (fun hc => ?_) (fun hc => ?_)
  · have hf := it_t hc hf
    cases hf
    exact mx_vret B w ⟨rfl, rfl⟩ dX2_tallyOf_29
  · have hf := it_f hc hf
    refine lv_iload_n hx hb dX2_tallyOf_10 rfl (lv_at hl 0 rfl) ?_
    refine lv_aload_n hx hb dX2_tallyOf_11 rfl (lv_at hl 1 rfl) ?_
    refine mx_get B w 0 fl_X2_37 rfl rfl dX2_tallyOf_12 ?_
    refine mx_alen B w 12 rfl dX2_tallyOf_15 ?_
    refine lv_icmp_ge (tgt := 29) hx hb dX2_tallyOf_16 (by decide) (fun hc => ?_) (fun hc => ?_)
    · have hf := it_t hc hf
      cases hf
      exact mx_vret B w ⟨rfl, rfl⟩ dX2_tallyOf_29
    · have hf := it_f hc hf
      refine lv_aload_n hx hb dX2_tallyOf_19 rfl (lv_at hl 1 rfl) ?_
      refine mx_get B w 0 fl_X2_37 rfl rfl dX2_tallyOf_20 ?_
      refine lv_iload_n hx hb dX2_tallyOf_23 rfl (lv_at hl 0 rfl) ?_
      refine lv_dup2_11 hx hb dX2_tallyOf_24 rfl rfl ?_
      obtain ⟨hin, hf⟩ := ld_e hf
      refine mx_iald B w 12 rfl hin dX2_tallyOf_25 (fun v_2 ev => ?_)
      have hf := hf _ ev; clear ev
      refine lv_iconst (v := 1) hx hb dX2_tallyOf_26 (by decide) ?_
      refine lv_iadd hx hb dX2_tallyOf_27 ?_
      obtain ⟨hin, hf⟩ := sto_e hf
      refine mx_iast B w 12 rfl hin dX2_tallyOf_28 (fun asum_3 H locs ev w => ?_)
      have hf := hf _ ev; clear ev
      have w : mW E A s [(h, .inr (1, [.ref h_rules, .ref h_book, .ref h_told, .ref h_written, .ref h_late, .ref a_sums, .ref a_asum])), (h_rules, .inr (4, [.ref a_vals, .int now])), (a_vals, .inl (E.2.1, 8, .inl vals)), (h_book, .inr (8, [.int (nI 40), .int (nI 3), .ref a_book, .int s_book])), (a_book, .inl (E.2.1, (40 * 3), .inl f_book)), (h_told, .inr (8, [.int (nI 60), .int (nI 1), .ref a_told, .int s_told])), (a_told, .inl (E.2.1, (60 * 1), .inl f_told)), (h_written, .inr (8, [.int (nI 40), .int (nI 2), .ref a_written, .int s_written])), (a_written, .inl (E.2.1, (40 * 2), .inl f_written)), (h_late, .inr (8, [.int (nI 60), .int (nI 1), .ref a_late, .int s_late])), (a_late, .inl (E.2.1, (60 * 1), .inl f_late)), (a_sums, .inl (E.2.1, 14, .inl sums)), (a_asum, .inl (E.2.1, 64, .inl asum_3))] H locs := w
      cases hf
      exact mx_vret B w ⟨rfl, rfl⟩ dX2_tallyOf_29
-- X2_noteDelivered
def po_X2_noteDelivered (E : mE) (h : Nat) (h_rules : Nat) (a_vals : Nat) (h_book : Nat) (a_book : Nat) (h_told : Nat) (a_told : Nat) (h_written : Nat) (a_written : Nat) (h_late : Nat) (a_late : Nat) (a_sums : Nat) (a_asum : Nat)  (vals : Nat → Int32) (now : Int32) (book : Rows) (told : Rows) (written : Rows) (late : Rows) (sums : Nat → Int32) (asum : Nat → Int32) (s_book : Int32) (f_book : Nat → Int32) (s_told : Int32) (f_told : Nat → Int32) (s_written : Int32) (f_written : Nat → Int32) (s_late : Int32) (f_late : Nat → Int32) (o : (Nat → Int32) × (Nat → Int32)) : Option Value → va_W → Prop := (fun (v : Option Value) (w' : va_W) => v = none ∧ w' = [(h, .inr (1, [.ref h_rules, .ref h_book, .ref h_told, .ref h_written, .ref h_late, .ref a_sums, .ref a_asum])), (h_rules, .inr (4, [.ref a_vals, .int now])), (a_vals, .inl (E.2.1, 8, .inl vals)), (h_book, .inr (8, [.int (nI 40), .int (nI 3), .ref a_book, .int s_book])), (a_book, .inl (E.2.1, (40 * 3), .inl f_book)), (h_told, .inr (8, [.int (nI 60), .int (nI 1), .ref a_told, .int s_told])), (a_told, .inl (E.2.1, (60 * 1), .inl f_told)), (h_written, .inr (8, [.int (nI 40), .int (nI 2), .ref a_written, .int s_written])), (a_written, .inl (E.2.1, (40 * 2), .inl f_written)), (h_late, .inr (8, [.int (nI 60), .int (nI 1), .ref a_late, .int s_late])), (a_late, .inl (E.2.1, (60 * 1), .inl f_late)), (a_sums, .inl (E.2.1, 14, .inl o.1)), (a_asum, .inl (E.2.1, 64, .inl o.2))])
noncomputable def F_X2_noteDelivered  (sums : Nat → Int32) (asum : Nat → Int32) (x1 : Int32) : Option ((Nat → Int32) × (Nat → Int32)) :=
  bd (F_X2_tally sums 8) (fun o_1 =>
  bd (F_X2_tallyOf asum x1 2) (fun o_2 =>
  some (o_1, o_2)))
set_option maxHeartbeats 4000000 in
set_option maxRecDepth 100000 in
theorem d_X2_noteDelivered (E : mE) (l : Launch) (h : Nat) (h_rules : Nat) (a_vals : Nat) (h_book : Nat) (a_book : Nat) (h_told : Nat) (a_told : Nat) (h_written : Nat) (a_written : Nat) (h_late : Nat) (a_late : Nat) (a_sums : Nat) (a_asum : Nat)  (vals : Nat → Int32) (now : Int32) (book : Rows) (told : Rows) (written : Rows) (late : Rows) (sums : Nat → Int32) (asum : Nat → Int32) (s_book : Int32) (f_book : Nat → Int32) (s_told : Int32) (f_told : Nat → Int32) (s_written : Int32) (f_written : Nat → Int32) (s_late : Int32) (f_late : Nat → Int32) (x1 : Int32) (ok_book : tb_ok 40 3 book s_book f_book) (ok_told : tb_ok 60 1 told s_told f_told) (ok_written : tb_ok 40 2 written s_written f_written) (ok_late : tb_ok 60 1 late s_late f_late) (o : (Nat → Int32) × (Nat → Int32)) (hf : F_X2_noteDelivered sums asum x1 = some o) : MX E l yX2_noteDelivered cX2_noteDelivered 2 none ({ frames := 1, cells := 0, slots := 0, locals := 23 } : Room) [.ref h, .int x1] [(h, .inr (1, [.ref h_rules, .ref h_book, .ref h_told, .ref h_written, .ref h_late, .ref a_sums, .ref a_asum])), (h_rules, .inr (4, [.ref a_vals, .int now])), (a_vals, .inl (E.2.1, 8, .inl vals)), (h_book, .inr (8, [.int (nI 40), .int (nI 3), .ref a_book, .int s_book])), (a_book, .inl (E.2.1, (40 * 3), .inl f_book)), (h_told, .inr (8, [.int (nI 60), .int (nI 1), .ref a_told, .int s_told])), (a_told, .inl (E.2.1, (60 * 1), .inl f_told)), (h_written, .inr (8, [.int (nI 40), .int (nI 2), .ref a_written, .int s_written])), (a_written, .inl (E.2.1, (40 * 2), .inl f_written)), (h_late, .inr (8, [.int (nI 60), .int (nI 1), .ref a_late, .int s_late])), (a_late, .inl (E.2.1, (60 * 1), .inl f_late)), (a_sums, .inl (E.2.1, 14, .inl sums)), (a_asum, .inl (E.2.1, 64, .inl asum))] (po_X2_noteDelivered E h h_rules a_vals h_book a_book h_told a_told h_written a_written h_late a_late a_sums a_asum vals now book told written late sums asum s_book f_book s_told f_told s_written f_written s_late f_late o) := by
  refine mx_intro (by decide +kernel) (Nat.le_of_ble_eq_true rfl) ?_
  intro p e s m args below meth c A Q ls B w hl
  obtain ⟨hx, hb, hml, hown, hts⟩ := id B.1
  unfold F_X2_noteDelivered at hf
  have hl : lv_has ls 2 [(0, .ref h), (1, .int x1)] := hl
  refine lv_aload_n hx hb dX2_noteDelivered_0 rfl (lv_at hl 0 rfl) ?_
  refine lv_bipush (v := 8) hx hb dX2_noteDelivered_1 (by decide) ?_
  obtain ⟨o_1, hq, hf⟩ := bd_e hf
  refine mx_callV (As := [.int 8]) (rest := []) (wr := []) (d_X2_tally E l  h h_rules a_vals h_book a_book h_told a_told h_written a_written h_late a_late a_sums a_asum vals now book told written late sums asum s_book f_book s_told f_told s_written f_written s_late f_late 8 ok_book ok_told ok_written ok_late o_1 hq) B w [0, 1, 2, 3, 4, 5, 6, 7, 8, 9, 10, 11, 12] [] rfl rfl (by decide) (by decide) (by decide) 0 rfl rfl cv_X2_tally kw_448 1 (by decide +kernel) ⟨Nat.le_of_ble_eq_true rfl, Nat.le_of_ble_eq_true rfl⟩ rfl hl.1 rfl (Nat.le_of_ble_eq_true rfl) dX2_noteDelivered_3 rfl rfl ⟨Nat.zero_le _, Nat.zero_le _⟩ (fun v w' H locs hpo w => ?_)
  clear hq
  obtain ⟨rfl, rfl⟩ := hpo
  have w : mW E A s [(h, .inr (1, [.ref h_rules, .ref h_book, .ref h_told, .ref h_written, .ref h_late, .ref a_sums, .ref a_asum])), (h_rules, .inr (4, [.ref a_vals, .int now])), (a_vals, .inl (E.2.1, 8, .inl vals)), (h_book, .inr (8, [.int (nI 40), .int (nI 3), .ref a_book, .int s_book])), (a_book, .inl (E.2.1, (40 * 3), .inl f_book)), (h_told, .inr (8, [.int (nI 60), .int (nI 1), .ref a_told, .int s_told])), (a_told, .inl (E.2.1, (60 * 1), .inl f_told)), (h_written, .inr (8, [.int (nI 40), .int (nI 2), .ref a_written, .int s_written])), (a_written, .inl (E.2.1, (40 * 2), .inl f_written)), (h_late, .inr (8, [.int (nI 60), .int (nI 1), .ref a_late, .int s_late])), (a_late, .inl (E.2.1, (60 * 1), .inl f_late)), (a_sums, .inl (E.2.1, 14, .inl o_1)), (a_asum, .inl (E.2.1, 64, .inl asum))] H locs := w
  refine lv_aload_n hx hb dX2_noteDelivered_6 rfl (lv_at hl 0 rfl) ?_
  refine lv_iload_n hx hb dX2_noteDelivered_7 rfl (lv_at hl 1 rfl) ?_
  refine lv_iconst (v := 2) hx hb dX2_noteDelivered_8 (by decide) ?_
  obtain ⟨o_2, hq, hf⟩ := bd_e hf
  refine mx_callV (As := [.int x1, .int 2]) (rest := []) (wr := []) (d_X2_tallyOf E l  h h_rules a_vals h_book a_book h_told a_told h_written a_written h_late a_late a_sums a_asum vals now book told written late o_1 asum s_book f_book s_told f_told s_written f_written s_late f_late x1 2 ok_book ok_told ok_written ok_late o_2 hq) B w [0, 1, 2, 3, 4, 5, 6, 7, 8, 9, 10, 11, 12] [] rfl rfl (by decide) (by decide) (by decide) 0 rfl rfl cv_X2_tallyOf kw_523 2 (by decide +kernel) ⟨Nat.le_of_ble_eq_true rfl, Nat.le_of_ble_eq_true rfl⟩ rfl hl.1 rfl (Nat.le_of_ble_eq_true rfl) dX2_noteDelivered_9 rfl rfl ⟨Nat.zero_le _, Nat.zero_le _⟩ (fun v w' H locs hpo w => ?_)
  clear hq
  obtain ⟨rfl, rfl⟩ := hpo
  have w : mW E A s [(h, .inr (1, [.ref h_rules, .ref h_book, .ref h_told, .ref h_written, .ref h_late, .ref a_sums, .ref a_asum])), (h_rules, .inr (4, [.ref a_vals, .int now])), (a_vals, .inl (E.2.1, 8, .inl vals)), (h_book, .inr (8, [.int (nI 40), .int (nI 3), .ref a_book, .int s_book])), (a_book, .inl (E.2.1, (40 * 3), .inl f_book)), (h_told, .inr (8, [.int (nI 60), .int (nI 1), .ref a_told, .int s_told])), (a_told, .inl (E.2.1, (60 * 1), .inl f_told)), (h_written, .inr (8, [.int (nI 40), .int (nI 2), .ref a_written, .int s_written])), (a_written, .inl (E.2.1, (40 * 2), .inl f_written)), (h_late, .inr (8, [.int (nI 60), .int (nI 1), .ref a_late, .int s_late])), (a_late, .inl (E.2.1, (60 * 1), .inl f_late)), (a_sums, .inl (E.2.1, 14, .inl o_1)), (a_asum, .inl (E.2.1, 64, .inl o_2))] H locs := w
  cases hf
  exact mx_vret B w ⟨rfl, rfl⟩ dX2_noteDelivered_12
-- X3_deliver
def po_X3_deliver (E : mE) (h : Nat) (h_rules : Nat) (a_vals : Nat) (h_ledger : Nat) (h_book : Nat) (a_book : Nat) (h_told : Nat) (a_told : Nat) (h_written : Nat) (a_written : Nat) (h_late : Nat) (a_late : Nat) (a_sums : Nat) (a_asum : Nat) (h_line : Nat) (a_line : Nat) (h_waits : Nat) (a_waits : Nat) (h_boxes : Nat) (a_boxes : Nat)  (vals : Nat → Int32) (now : Int32) (book : Rows) (told : Rows) (written : Rows) (late : Rows) (sums : Nat → Int32) (asum : Nat → Int32) (line : Rows) (waits : Rows) (boxes : Rows) (s_book : Int32) (f_book : Nat → Int32) (s_told : Int32) (f_told : Nat → Int32) (s_written : Int32) (f_written : Nat → Int32) (s_late : Int32) (f_late : Nat → Int32) (s_line : Int32) (f_line : Nat → Int32) (s_waits : Int32) (f_waits : Nat → Int32) (s_boxes : Int32) (f_boxes : Nat → Int32) (o : (Nat → Int32) × (Nat → Int32) × Rows) : Option Value → va_W → Prop := (fun (v : Option Value) (w' : va_W) => ∃ (s_boxes' : Int32) (f_boxes' : Nat → Int32), tb_ok 192 3 o.2.2 s_boxes' f_boxes' ∧ v = none ∧ w' = [(h, .inr (2, [.ref h_rules, .ref h_ledger, .ref h_line, .ref h_waits, .ref h_boxes])), (h_rules, .inr (4, [.ref a_vals, .int now])), (a_vals, .inl (E.2.1, 8, .inl vals)), (h_ledger, .inr (1, [.ref h_rules, .ref h_book, .ref h_told, .ref h_written, .ref h_late, .ref a_sums, .ref a_asum])), (h_book, .inr (8, [.int (nI 40), .int (nI 3), .ref a_book, .int s_book])), (a_book, .inl (E.2.1, (40 * 3), .inl f_book)), (h_told, .inr (8, [.int (nI 60), .int (nI 1), .ref a_told, .int s_told])), (a_told, .inl (E.2.1, (60 * 1), .inl f_told)), (h_written, .inr (8, [.int (nI 40), .int (nI 2), .ref a_written, .int s_written])), (a_written, .inl (E.2.1, (40 * 2), .inl f_written)), (h_late, .inr (8, [.int (nI 60), .int (nI 1), .ref a_late, .int s_late])), (a_late, .inl (E.2.1, (60 * 1), .inl f_late)), (a_sums, .inl (E.2.1, 14, .inl o.1)), (a_asum, .inl (E.2.1, 64, .inl o.2.1)), (h_line, .inr (8, [.int (nI 256), .int (nI 3), .ref a_line, .int s_line])), (a_line, .inl (E.2.1, (256 * 3), .inl f_line)), (h_waits, .inr (8, [.int (nI 256), .int (nI 2), .ref a_waits, .int s_waits])), (a_waits, .inl (E.2.1, (256 * 2), .inl f_waits)), (h_boxes, .inr (8, [.int (nI 192), .int (nI 3), .ref a_boxes, .int s_boxes'])), (a_boxes, .inl (E.2.1, (192 * 3), .inl f_boxes'))])
noncomputable def J_X3_deliver_35   (x1 : Int32) (x2 : Int32) (x3 : Int32) (sums : Nat → Int32) (asum : Nat → Int32) (boxes : Rows) : Option ((Nat → Int32) × (Nat → Int32) × Rows) :=
  lt (tpush 192 3 boxes x1 x2 x3) (fun o_2 =>
  bd (F_X2_noteDelivered sums asum x1) (fun o_5 =>
  some (o_5.1, o_5.2, o_2.2)))
set_option maxHeartbeats 4000000 in
set_option maxRecDepth 100000 in
theorem j_X3_deliver_35 {E : mE} {l : Launch} {p : Program} {e : Env} {s : State} {m : MethodId} {args : Array Value} {below : List Frame} {meth : Method} {c : Code} {A : Nat → Prop} {Q : State → Prop} {h : Nat} {h_rules : Nat} {a_vals : Nat} {h_ledger : Nat} {h_book : Nat} {a_book : Nat} {h_told : Nat} {a_told : Nat} {h_written : Nat} {a_written : Nat} {h_late : Nat} {a_late : Nat} {a_sums : Nat} {a_asum : Nat} {h_line : Nat} {a_line : Nat} {h_waits : Nat} {a_waits : Nat} {h_boxes : Nat} {a_boxes : Nat}  {vals : Nat → Int32} {now : Int32} {book : Rows} {told : Rows} {written : Rows} {late : Rows} {sums0 : Nat → Int32} {asum0 : Nat → Int32} {line : Rows} {waits : Rows} {boxes0 : Rows} {s_book : Int32} {f_book : Nat → Int32} {s_told : Int32} {f_told : Nat → Int32} {s_written : Int32} {f_written : Nat → Int32} {s_late : Int32} {f_late : Nat → Int32} {s_line : Int32} {f_line : Nat → Int32} {s_waits : Int32} {f_waits : Nat → Int32} {s_boxes0 : Int32} {f_boxes0 : Nat → Int32} {o : (Nat → Int32) × (Nat → Int32) × Rows} (B : mB E yX3_deliver cX3_deliver 4 none 0 0 (po_X3_deliver E h h_rules a_vals h_ledger h_book a_book h_told a_told h_written a_written h_late a_late a_sums a_asum h_line a_line h_waits a_waits h_boxes a_boxes vals now book told written late sums0 asum0 line waits boxes0 s_book f_book s_told f_told s_written f_written s_late f_late s_line f_line s_waits f_waits s_boxes0 f_boxes0 o) p s m args below meth c A Q) {x1 : Int32} {x2 : Int32} {x3 : Int32} {sums : Nat → Int32} {asum : Nat → Int32} {boxes : Rows} {s_boxes : Int32} {f_boxes : Nat → Int32}   {H : Heap} {locs : List Loc} {ls : Array Slot} (hf : J_X3_deliver_35 x1 x2 x3 sums asum boxes = some o) (ok_book : tb_ok 40 3 book s_book f_book) (ok_told : tb_ok 60 1 told s_told f_told) (ok_written : tb_ok 40 2 written s_written f_written) (ok_late : tb_ok 60 1 late s_late f_late) (ok_line : tb_ok 256 3 line s_line f_line) (ok_waits : tb_ok 256 2 waits s_waits f_waits) (ok_boxes : tb_ok 192 3 boxes s_boxes f_boxes) (w : mW E A s [(h, .inr (2, [.ref h_rules, .ref h_ledger, .ref h_line, .ref h_waits, .ref h_boxes])), (h_rules, .inr (4, [.ref a_vals, .int now])), (a_vals, .inl (E.2.1, 8, .inl vals)), (h_ledger, .inr (1, [.ref h_rules, .ref h_book, .ref h_told, .ref h_written, .ref h_late, .ref a_sums, .ref a_asum])), (h_book, .inr (8, [.int (nI 40), .int (nI 3), .ref a_book, .int s_book])), (a_book, .inl (E.2.1, (40 * 3), .inl f_book)), (h_told, .inr (8, [.int (nI 60), .int (nI 1), .ref a_told, .int s_told])), (a_told, .inl (E.2.1, (60 * 1), .inl f_told)), (h_written, .inr (8, [.int (nI 40), .int (nI 2), .ref a_written, .int s_written])), (a_written, .inl (E.2.1, (40 * 2), .inl f_written)), (h_late, .inr (8, [.int (nI 60), .int (nI 1), .ref a_late, .int s_late])), (a_late, .inl (E.2.1, (60 * 1), .inl f_late)), (a_sums, .inl (E.2.1, 14, .inl sums)), (a_asum, .inl (E.2.1, 64, .inl asum)), (h_line, .inr (8, [.int (nI 256), .int (nI 3), .ref a_line, .int s_line])), (a_line, .inl (E.2.1, (256 * 3), .inl f_line)), (h_waits, .inr (8, [.int (nI 256), .int (nI 2), .ref a_waits, .int s_waits])), (a_waits, .inl (E.2.1, (256 * 2), .inl f_waits)), (h_boxes, .inr (8, [.int (nI 192), .int (nI 3), .ref a_boxes, .int s_boxes])), (a_boxes, .inl (E.2.1, (192 * 3), .inl f_boxes))] H locs) (hl : lv_has ls 4 [(0, .ref h), (1, .int x1), (2, .int x2), (3, .int x3)]) : W p l e ({ frames := 3, cells := 0, slots := 0, locals := 70 } : Room) s m args below meth c H locs 0 0 Q (F0 m 35 ls []) := by
  obtain ⟨hx, hb, hml, hown, hts⟩ := id B.1
  unfold J_X3_deliver_35 at hf
  refine lv_aload_n hx hb dX3_deliver_35 rfl (lv_at hl 0 rfl) ?_
  refine mx_get B w 0 fl_X3_31 rfl rfl dX3_deliver_36 ?_
  refine lv_iload_n hx hb dX3_deliver_39 rfl (lv_at hl 1 rfl) ?_
  refine lv_iload_n hx hb dX3_deliver_40 rfl (lv_at hl 2 rfl) ?_
  refine lv_iload_n hx hb dX3_deliver_41 rfl (lv_at hl 3 rfl) ?_
  obtain ⟨o_2, ev⟩ : ∃ y, y = tpush 192 3 boxes x1 x2 x3 := ⟨_, rfl⟩
  have hf := lt_n ev hf
  refine mx_callV (As := [.int x1, .int x2, .int x3]) (rest := []) (wr := [(h, .inr (2, [.ref h_rules, .ref h_ledger, .ref h_line, .ref h_waits, .ref h_boxes])), (h_rules, .inr (4, [.ref a_vals, .int now])), (a_vals, .inl (E.2.1, 8, .inl vals)), (h_ledger, .inr (1, [.ref h_rules, .ref h_book, .ref h_told, .ref h_written, .ref h_late, .ref a_sums, .ref a_asum])), (h_book, .inr (8, [.int (nI 40), .int (nI 3), .ref a_book, .int s_book])), (a_book, .inl (E.2.1, (40 * 3), .inl f_book)), (h_told, .inr (8, [.int (nI 60), .int (nI 1), .ref a_told, .int s_told])), (a_told, .inl (E.2.1, (60 * 1), .inl f_told)), (h_written, .inr (8, [.int (nI 40), .int (nI 2), .ref a_written, .int s_written])), (a_written, .inl (E.2.1, (40 * 2), .inl f_written)), (h_late, .inr (8, [.int (nI 60), .int (nI 1), .ref a_late, .int s_late])), (a_late, .inl (E.2.1, (60 * 1), .inl f_late)), (a_sums, .inl (E.2.1, 14, .inl sums)), (a_asum, .inl (E.2.1, 64, .inl asum)), (h_line, .inr (8, [.int (nI 256), .int (nI 3), .ref a_line, .int s_line])), (a_line, .inl (E.2.1, (256 * 3), .inl f_line)), (h_waits, .inr (8, [.int (nI 256), .int (nI 2), .ref a_waits, .int s_waits])), (a_waits, .inl (E.2.1, (256 * 2), .inl f_waits))]) (c_X9_push E l h_boxes a_boxes 192 3 boxes s_boxes f_boxes x1 x2 x3 ok_boxes o_2 ev) B w [18, 19] [0, 1, 2, 3, 4, 5, 6, 7, 8, 9, 10, 11, 12, 13, 14, 15, 16, 17] rfl rfl (by decide) (by decide) (by decide) 18 rfl rfl cv_X9_push kw_518 3 (by decide +kernel) ⟨Nat.le_of_ble_eq_true rfl, Nat.le_of_ble_eq_true rfl⟩ rfl hl.1 rfl (Nat.le_of_ble_eq_true rfl) dX3_deliver_42 rfl rfl ⟨Nat.zero_le _, Nat.zero_le _⟩ (fun v w' H locs hpo w => ?_)
  clear ev
  obtain ⟨s_boxes_3, f_boxes_4, ok_boxes, rfl, rfl⟩ := hpo
  have w : mW E A s [(h, .inr (2, [.ref h_rules, .ref h_ledger, .ref h_line, .ref h_waits, .ref h_boxes])), (h_rules, .inr (4, [.ref a_vals, .int now])), (a_vals, .inl (E.2.1, 8, .inl vals)), (h_ledger, .inr (1, [.ref h_rules, .ref h_book, .ref h_told, .ref h_written, .ref h_late, .ref a_sums, .ref a_asum])), (h_book, .inr (8, [.int (nI 40), .int (nI 3), .ref a_book, .int s_book])), (a_book, .inl (E.2.1, (40 * 3), .inl f_book)), (h_told, .inr (8, [.int (nI 60), .int (nI 1), .ref a_told, .int s_told])), (a_told, .inl (E.2.1, (60 * 1), .inl f_told)), (h_written, .inr (8, [.int (nI 40), .int (nI 2), .ref a_written, .int s_written])), (a_written, .inl (E.2.1, (40 * 2), .inl f_written)), (h_late, .inr (8, [.int (nI 60), .int (nI 1), .ref a_late, .int s_late])), (a_late, .inl (E.2.1, (60 * 1), .inl f_late)), (a_sums, .inl (E.2.1, 14, .inl sums)), (a_asum, .inl (E.2.1, 64, .inl asum)), (h_line, .inr (8, [.int (nI 256), .int (nI 3), .ref a_line, .int s_line])), (a_line, .inl (E.2.1, (256 * 3), .inl f_line)), (h_waits, .inr (8, [.int (nI 256), .int (nI 2), .ref a_waits, .int s_waits])), (a_waits, .inl (E.2.1, (256 * 2), .inl f_waits)), (h_boxes, .inr (8, [.int (nI 192), .int (nI 3), .ref a_boxes, .int s_boxes_3])), (a_boxes, .inl (E.2.1, (192 * 3), .inl f_boxes_4))] H locs := w
  refine lv_pop hx hb dX3_deliver_45 rfl ?_
  refine lv_aload_n hx hb dX3_deliver_46 rfl (lv_at hl 0 rfl) ?_
  refine mx_get B w 0 fl_X3_15 rfl rfl dX3_deliver_47 ?_
  refine lv_iload_n hx hb dX3_deliver_50 rfl (lv_at hl 1 rfl) ?_
  obtain ⟨o_5, hq, hf⟩ := bd_e hf
  refine mx_callV (As := [.int x1]) (rest := []) (wr := [(h, .inr (2, [.ref h_rules, .ref h_ledger, .ref h_line, .ref h_waits, .ref h_boxes])), (h_line, .inr (8, [.int (nI 256), .int (nI 3), .ref a_line, .int s_line])), (a_line, .inl (E.2.1, (256 * 3), .inl f_line)), (h_waits, .inr (8, [.int (nI 256), .int (nI 2), .ref a_waits, .int s_waits])), (a_waits, .inl (E.2.1, (256 * 2), .inl f_waits)), (h_boxes, .inr (8, [.int (nI 192), .int (nI 3), .ref a_boxes, .int s_boxes_3])), (a_boxes, .inl (E.2.1, (192 * 3), .inl f_boxes_4))]) (d_X2_noteDelivered E l  h_ledger h_rules a_vals h_book a_book h_told a_told h_written a_written h_late a_late a_sums a_asum vals now book told written late sums asum s_book f_book s_told f_told s_written f_written s_late f_late x1 ok_book ok_told ok_written ok_late o_5 hq) B w [3, 1, 2, 4, 5, 6, 7, 8, 9, 10, 11, 12, 13] [0, 14, 15, 16, 17, 18, 19] rfl rfl (by decide) (by decide) (by decide) 3 rfl rfl cv_X2_noteDelivered kw_519 1 (by decide +kernel) ⟨Nat.le_of_ble_eq_true rfl, Nat.le_of_ble_eq_true rfl⟩ rfl hl.1 rfl (Nat.le_of_ble_eq_true rfl) dX3_deliver_51 rfl rfl ⟨Nat.zero_le _, Nat.zero_le _⟩ (fun v w' H locs hpo w => ?_)
  clear hq
  obtain ⟨rfl, rfl⟩ := hpo
  have w : mW E A s [(h, .inr (2, [.ref h_rules, .ref h_ledger, .ref h_line, .ref h_waits, .ref h_boxes])), (h_rules, .inr (4, [.ref a_vals, .int now])), (a_vals, .inl (E.2.1, 8, .inl vals)), (h_ledger, .inr (1, [.ref h_rules, .ref h_book, .ref h_told, .ref h_written, .ref h_late, .ref a_sums, .ref a_asum])), (h_book, .inr (8, [.int (nI 40), .int (nI 3), .ref a_book, .int s_book])), (a_book, .inl (E.2.1, (40 * 3), .inl f_book)), (h_told, .inr (8, [.int (nI 60), .int (nI 1), .ref a_told, .int s_told])), (a_told, .inl (E.2.1, (60 * 1), .inl f_told)), (h_written, .inr (8, [.int (nI 40), .int (nI 2), .ref a_written, .int s_written])), (a_written, .inl (E.2.1, (40 * 2), .inl f_written)), (h_late, .inr (8, [.int (nI 60), .int (nI 1), .ref a_late, .int s_late])), (a_late, .inl (E.2.1, (60 * 1), .inl f_late)), (a_sums, .inl (E.2.1, 14, .inl o_5.1)), (a_asum, .inl (E.2.1, 64, .inl o_5.2)), (h_line, .inr (8, [.int (nI 256), .int (nI 3), .ref a_line, .int s_line])), (a_line, .inl (E.2.1, (256 * 3), .inl f_line)), (h_waits, .inr (8, [.int (nI 256), .int (nI 2), .ref a_waits, .int s_waits])), (a_waits, .inl (E.2.1, (256 * 2), .inl f_waits)), (h_boxes, .inr (8, [.int (nI 192), .int (nI 3), .ref a_boxes, .int s_boxes_3])), (a_boxes, .inl (E.2.1, (192 * 3), .inl f_boxes_4))] H locs := w.sub [0, 8, 9, 7, 10, 11, 12, 13, 14, 15, 16, 17, 18, 19, 1, 2, 3, 4, 5, 6] (by decide) rfl
  cases hf
  exact mx_vret B w ⟨_, _, ok_boxes, rfl, rfl⟩ dX3_deliver_54
noncomputable def F_X3_deliver  (sums : Nat → Int32) (asum : Nat → Int32) (boxes : Rows) (x1 : Int32) (x2 : Int32) (x3 : Int32) : Option ((Nat → Int32) × (Nat → Int32) × Rows) :=
  lt (thowMany boxes 0 x1) (fun o_1 =>
  if (o_1 < 12 : Prop) then
  J_X3_deliver_35 x1 x2 x3 sums asum boxes
  else
  bd (F_X3_firstDelivery boxes x1) (fun o_6 =>
  lt (tremove boxes o_6) (fun o_7 =>
  bd (F_X2_tally sums 9) (fun o_10 =>
  J_X3_deliver_35 x1 x2 x3 o_10 asum o_7))))
set_option maxHeartbeats 4000000 in
set_option maxRecDepth 100000 in
theorem d_X3_deliver (E : mE) (l : Launch) (h : Nat) (h_rules : Nat) (a_vals : Nat) (h_ledger : Nat) (h_book : Nat) (a_book : Nat) (h_told : Nat) (a_told : Nat) (h_written : Nat) (a_written : Nat) (h_late : Nat) (a_late : Nat) (a_sums : Nat) (a_asum : Nat) (h_line : Nat) (a_line : Nat) (h_waits : Nat) (a_waits : Nat) (h_boxes : Nat) (a_boxes : Nat)  (vals : Nat → Int32) (now : Int32) (book : Rows) (told : Rows) (written : Rows) (late : Rows) (sums : Nat → Int32) (asum : Nat → Int32) (line : Rows) (waits : Rows) (boxes : Rows) (s_book : Int32) (f_book : Nat → Int32) (s_told : Int32) (f_told : Nat → Int32) (s_written : Int32) (f_written : Nat → Int32) (s_late : Int32) (f_late : Nat → Int32) (s_line : Int32) (f_line : Nat → Int32) (s_waits : Int32) (f_waits : Nat → Int32) (s_boxes : Int32) (f_boxes : Nat → Int32) (x1 : Int32) (x2 : Int32) (x3 : Int32) (ok_book : tb_ok 40 3 book s_book f_book) (ok_told : tb_ok 60 1 told s_told f_told) (ok_written : tb_ok 40 2 written s_written f_written) (ok_late : tb_ok 60 1 late s_late f_late) (ok_line : tb_ok 256 3 line s_line f_line) (ok_waits : tb_ok 256 2 waits s_waits f_waits) (ok_boxes : tb_ok 192 3 boxes s_boxes f_boxes) (o : (Nat → Int32) × (Nat → Int32) × Rows) (hf : F_X3_deliver sums asum boxes x1 x2 x3 = some o) : MX E l yX3_deliver cX3_deliver 4 none ({ frames := 3, cells := 0, slots := 0, locals := 70 } : Room) [.ref h, .int x1, .int x2, .int x3] [(h, .inr (2, [.ref h_rules, .ref h_ledger, .ref h_line, .ref h_waits, .ref h_boxes])), (h_rules, .inr (4, [.ref a_vals, .int now])), (a_vals, .inl (E.2.1, 8, .inl vals)), (h_ledger, .inr (1, [.ref h_rules, .ref h_book, .ref h_told, .ref h_written, .ref h_late, .ref a_sums, .ref a_asum])), (h_book, .inr (8, [.int (nI 40), .int (nI 3), .ref a_book, .int s_book])), (a_book, .inl (E.2.1, (40 * 3), .inl f_book)), (h_told, .inr (8, [.int (nI 60), .int (nI 1), .ref a_told, .int s_told])), (a_told, .inl (E.2.1, (60 * 1), .inl f_told)), (h_written, .inr (8, [.int (nI 40), .int (nI 2), .ref a_written, .int s_written])), (a_written, .inl (E.2.1, (40 * 2), .inl f_written)), (h_late, .inr (8, [.int (nI 60), .int (nI 1), .ref a_late, .int s_late])), (a_late, .inl (E.2.1, (60 * 1), .inl f_late)), (a_sums, .inl (E.2.1, 14, .inl sums)), (a_asum, .inl (E.2.1, 64, .inl asum)), (h_line, .inr (8, [.int (nI 256), .int (nI 3), .ref a_line, .int s_line])), (a_line, .inl (E.2.1, (256 * 3), .inl f_line)), (h_waits, .inr (8, [.int (nI 256), .int (nI 2), .ref a_waits, .int s_waits])), (a_waits, .inl (E.2.1, (256 * 2), .inl f_waits)), (h_boxes, .inr (8, [.int (nI 192), .int (nI 3), .ref a_boxes, .int s_boxes])), (a_boxes, .inl (E.2.1, (192 * 3), .inl f_boxes))] (po_X3_deliver E h h_rules a_vals h_ledger h_book a_book h_told a_told h_written a_written h_late a_late a_sums a_asum h_line a_line h_waits a_waits h_boxes a_boxes vals now book told written late sums asum line waits boxes s_book f_book s_told f_told s_written f_written s_late f_late s_line f_line s_waits f_waits s_boxes f_boxes o) := by
  refine mx_intro (by decide +kernel) (Nat.le_of_ble_eq_true rfl) ?_
  intro p e s m args below meth c A Q ls B w hl
  obtain ⟨hx, hb, hml, hown, hts⟩ := id B.1
  unfold F_X3_deliver at hf
  have hl : lv_has ls 4 [(0, .ref h), (1, .int x1), (2, .int x2), (3, .int x3)] := hl
  refine lv_aload_n hx hb dX3_deliver_0 rfl (lv_at hl 0 rfl) ?_
  refine mx_get B w 0 fl_X3_31 rfl rfl dX3_deliver_1 ?_
  refine lv_iconst (v := 0) hx hb dX3_deliver_4 (by decide) ?_
  refine lv_iload_n hx hb dX3_deliver_5 rfl (lv_at hl 1 rfl) ?_
  obtain ⟨o_1, ev⟩ : ∃ y, y = thowMany boxes 0 x1 := ⟨_, rfl⟩
  have hf := lt_n ev hf
  refine mx_callV (As := [.int 0, .int x1]) (rest := []) (wr := [(h, .inr (2, [.ref h_rules, .ref h_ledger, .ref h_line, .ref h_waits, .ref h_boxes])), (h_rules, .inr (4, [.ref a_vals, .int now])), (a_vals, .inl (E.2.1, 8, .inl vals)), (h_ledger, .inr (1, [.ref h_rules, .ref h_book, .ref h_told, .ref h_written, .ref h_late, .ref a_sums, .ref a_asum])), (h_book, .inr (8, [.int (nI 40), .int (nI 3), .ref a_book, .int s_book])), (a_book, .inl (E.2.1, (40 * 3), .inl f_book)), (h_told, .inr (8, [.int (nI 60), .int (nI 1), .ref a_told, .int s_told])), (a_told, .inl (E.2.1, (60 * 1), .inl f_told)), (h_written, .inr (8, [.int (nI 40), .int (nI 2), .ref a_written, .int s_written])), (a_written, .inl (E.2.1, (40 * 2), .inl f_written)), (h_late, .inr (8, [.int (nI 60), .int (nI 1), .ref a_late, .int s_late])), (a_late, .inl (E.2.1, (60 * 1), .inl f_late)), (a_sums, .inl (E.2.1, 14, .inl sums)), (a_asum, .inl (E.2.1, 64, .inl asum)), (h_line, .inr (8, [.int (nI 256), .int (nI 3), .ref a_line, .int s_line])), (a_line, .inl (E.2.1, (256 * 3), .inl f_line)), (h_waits, .inr (8, [.int (nI 256), .int (nI 2), .ref a_waits, .int s_waits])), (a_waits, .inl (E.2.1, (256 * 2), .inl f_waits))]) (c_X9_howMany E l h_boxes a_boxes 192 3 boxes s_boxes f_boxes 0 x1 ok_boxes o_1 ev) B w [18, 19] [0, 1, 2, 3, 4, 5, 6, 7, 8, 9, 10, 11, 12, 13, 14, 15, 16, 17] rfl rfl (by decide) (by decide) (by decide) 18 rfl rfl cv_X9_howMany kw_465 2 (by decide +kernel) ⟨Nat.le_of_ble_eq_true rfl, Nat.le_of_ble_eq_true rfl⟩ rfl hl.1 rfl (Nat.le_of_ble_eq_true rfl) dX3_deliver_6 rfl rfl ⟨Nat.zero_le _, Nat.zero_le _⟩ (fun v w' H locs hpo w => ?_)
  clear ev
  obtain ⟨rfl, rfl⟩ := hpo
  have w : mW E A s [(h, .inr (2, [.ref h_rules, .ref h_ledger, .ref h_line, .ref h_waits, .ref h_boxes])), (h_rules, .inr (4, [.ref a_vals, .int now])), (a_vals, .inl (E.2.1, 8, .inl vals)), (h_ledger, .inr (1, [.ref h_rules, .ref h_book, .ref h_told, .ref h_written, .ref h_late, .ref a_sums, .ref a_asum])), (h_book, .inr (8, [.int (nI 40), .int (nI 3), .ref a_book, .int s_book])), (a_book, .inl (E.2.1, (40 * 3), .inl f_book)), (h_told, .inr (8, [.int (nI 60), .int (nI 1), .ref a_told, .int s_told])), (a_told, .inl (E.2.1, (60 * 1), .inl f_told)), (h_written, .inr (8, [.int (nI 40), .int (nI 2), .ref a_written, .int s_written])), (a_written, .inl (E.2.1, (40 * 2), .inl f_written)), (h_late, .inr (8, [.int (nI 60), .int (nI 1), .ref a_late, .int s_late])), (a_late, .inl (E.2.1, (60 * 1), .inl f_late)), (a_sums, .inl (E.2.1, 14, .inl sums)), (a_asum, .inl (E.2.1, 64, .inl asum)), (h_line, .inr (8, [.int (nI 256), .int (nI 3), .ref a_line, .int s_line])), (a_line, .inl (E.2.1, (256 * 3), .inl f_line)), (h_waits, .inr (8, [.int (nI 256), .int (nI 2), .ref a_waits, .int s_waits])), (a_waits, .inl (E.2.1, (256 * 2), .inl f_waits)), (h_boxes, .inr (8, [.int (nI 192), .int (nI 3), .ref a_boxes, .int s_boxes])), (a_boxes, .inl (E.2.1, (192 * 3), .inl f_boxes))] H locs := w
  refine lv_bipush (v := 12) hx hb dX3_deliver_9 (by decide) ?_
  refine lv_icmp_lt (tgt := 35) hx hb dX3_deliver_11 (by decide) (fun hc => ?_) (fun hc => ?_)
  · have hf := it_t hc hf
    exact j_X3_deliver_35 B   hf ok_book ok_told ok_written ok_late ok_line ok_waits ok_boxes w (lv_sub hl [0, 1, 2, 3] rfl)
  · have hf := it_f hc hf
    refine lv_aload_n hx hb dX3_deliver_14 rfl (lv_at hl 0 rfl) ?_
    refine mx_get B w 0 fl_X3_31 rfl rfl dX3_deliver_15 ?_
    refine lv_aload_n hx hb dX3_deliver_18 rfl (lv_at hl 0 rfl) ?_
    refine lv_iload_n hx hb dX3_deliver_19 rfl (lv_at hl 1 rfl) ?_
    obtain ⟨o_6, hq, hf⟩ := bd_e hf
    refine mx_callV (As := [.int x1]) (rest := [.ref h_boxes]) (wr := []) (d_X3_firstDelivery E l  h h_rules a_vals h_ledger h_book a_book h_told a_told h_written a_written h_late a_late a_sums a_asum h_line a_line h_waits a_waits h_boxes a_boxes vals now book told written late sums asum line waits boxes s_book f_book s_told f_told s_written f_written s_late f_late s_line f_line s_waits f_waits s_boxes f_boxes x1 ok_book ok_told ok_written ok_late ok_line ok_waits ok_boxes o_6 hq) B w [0, 1, 2, 3, 4, 5, 6, 7, 8, 9, 10, 11, 12, 13, 14, 15, 16, 17, 18, 19] [] rfl rfl (by decide) (by decide) (by decide) 0 rfl rfl cv_X3_firstDelivery kw_508 1 (by decide +kernel) ⟨Nat.le_of_ble_eq_true rfl, Nat.le_of_ble_eq_true rfl⟩ rfl hl.1 rfl (Nat.le_of_ble_eq_true rfl) dX3_deliver_20 rfl rfl ⟨Nat.zero_le _, Nat.zero_le _⟩ (fun v w' H locs hpo w => ?_)
    clear hq
    obtain ⟨rfl, rfl⟩ := hpo
    have w : mW E A s [(h, .inr (2, [.ref h_rules, .ref h_ledger, .ref h_line, .ref h_waits, .ref h_boxes])), (h_rules, .inr (4, [.ref a_vals, .int now])), (a_vals, .inl (E.2.1, 8, .inl vals)), (h_ledger, .inr (1, [.ref h_rules, .ref h_book, .ref h_told, .ref h_written, .ref h_late, .ref a_sums, .ref a_asum])), (h_book, .inr (8, [.int (nI 40), .int (nI 3), .ref a_book, .int s_book])), (a_book, .inl (E.2.1, (40 * 3), .inl f_book)), (h_told, .inr (8, [.int (nI 60), .int (nI 1), .ref a_told, .int s_told])), (a_told, .inl (E.2.1, (60 * 1), .inl f_told)), (h_written, .inr (8, [.int (nI 40), .int (nI 2), .ref a_written, .int s_written])), (a_written, .inl (E.2.1, (40 * 2), .inl f_written)), (h_late, .inr (8, [.int (nI 60), .int (nI 1), .ref a_late, .int s_late])), (a_late, .inl (E.2.1, (60 * 1), .inl f_late)), (a_sums, .inl (E.2.1, 14, .inl sums)), (a_asum, .inl (E.2.1, 64, .inl asum)), (h_line, .inr (8, [.int (nI 256), .int (nI 3), .ref a_line, .int s_line])), (a_line, .inl (E.2.1, (256 * 3), .inl f_line)), (h_waits, .inr (8, [.int (nI 256), .int (nI 2), .ref a_waits, .int s_waits])), (a_waits, .inl (E.2.1, (256 * 2), .inl f_waits)), (h_boxes, .inr (8, [.int (nI 192), .int (nI 3), .ref a_boxes, .int s_boxes])), (a_boxes, .inl (E.2.1, (192 * 3), .inl f_boxes))] H locs := w
    obtain ⟨o_7, ev⟩ : ∃ y, y = tremove boxes o_6 := ⟨_, rfl⟩
    have hf := lt_n ev hf
    refine mx_callV (As := [.int o_6]) (rest := []) (wr := [(h, .inr (2, [.ref h_rules, .ref h_ledger, .ref h_line, .ref h_waits, .ref h_boxes])), (h_rules, .inr (4, [.ref a_vals, .int now])), (a_vals, .inl (E.2.1, 8, .inl vals)), (h_ledger, .inr (1, [.ref h_rules, .ref h_book, .ref h_told, .ref h_written, .ref h_late, .ref a_sums, .ref a_asum])), (h_book, .inr (8, [.int (nI 40), .int (nI 3), .ref a_book, .int s_book])), (a_book, .inl (E.2.1, (40 * 3), .inl f_book)), (h_told, .inr (8, [.int (nI 60), .int (nI 1), .ref a_told, .int s_told])), (a_told, .inl (E.2.1, (60 * 1), .inl f_told)), (h_written, .inr (8, [.int (nI 40), .int (nI 2), .ref a_written, .int s_written])), (a_written, .inl (E.2.1, (40 * 2), .inl f_written)), (h_late, .inr (8, [.int (nI 60), .int (nI 1), .ref a_late, .int s_late])), (a_late, .inl (E.2.1, (60 * 1), .inl f_late)), (a_sums, .inl (E.2.1, 14, .inl sums)), (a_asum, .inl (E.2.1, 64, .inl asum)), (h_line, .inr (8, [.int (nI 256), .int (nI 3), .ref a_line, .int s_line])), (a_line, .inl (E.2.1, (256 * 3), .inl f_line)), (h_waits, .inr (8, [.int (nI 256), .int (nI 2), .ref a_waits, .int s_waits])), (a_waits, .inl (E.2.1, (256 * 2), .inl f_waits))]) (c_X9_remove E l h_boxes a_boxes 192 3 boxes s_boxes f_boxes o_6 ok_boxes o_7 ev) B w [18, 19] [0, 1, 2, 3, 4, 5, 6, 7, 8, 9, 10, 11, 12, 13, 14, 15, 16, 17] rfl rfl (by decide) (by decide) (by decide) 18 rfl rfl cv_X9_remove kw_516 1 (by decide +kernel) ⟨Nat.le_of_ble_eq_true rfl, Nat.le_of_ble_eq_true rfl⟩ rfl hl.1 rfl (Nat.le_of_ble_eq_true rfl) dX3_deliver_23 rfl rfl ⟨Nat.zero_le _, Nat.zero_le _⟩ (fun v w' H locs hpo w => ?_)
    clear ev
    obtain ⟨s_boxes_8, f_boxes_9, ok_boxes, rfl, rfl⟩ := hpo
    have w : mW E A s [(h, .inr (2, [.ref h_rules, .ref h_ledger, .ref h_line, .ref h_waits, .ref h_boxes])), (h_rules, .inr (4, [.ref a_vals, .int now])), (a_vals, .inl (E.2.1, 8, .inl vals)), (h_ledger, .inr (1, [.ref h_rules, .ref h_book, .ref h_told, .ref h_written, .ref h_late, .ref a_sums, .ref a_asum])), (h_book, .inr (8, [.int (nI 40), .int (nI 3), .ref a_book, .int s_book])), (a_book, .inl (E.2.1, (40 * 3), .inl f_book)), (h_told, .inr (8, [.int (nI 60), .int (nI 1), .ref a_told, .int s_told])), (a_told, .inl (E.2.1, (60 * 1), .inl f_told)), (h_written, .inr (8, [.int (nI 40), .int (nI 2), .ref a_written, .int s_written])), (a_written, .inl (E.2.1, (40 * 2), .inl f_written)), (h_late, .inr (8, [.int (nI 60), .int (nI 1), .ref a_late, .int s_late])), (a_late, .inl (E.2.1, (60 * 1), .inl f_late)), (a_sums, .inl (E.2.1, 14, .inl sums)), (a_asum, .inl (E.2.1, 64, .inl asum)), (h_line, .inr (8, [.int (nI 256), .int (nI 3), .ref a_line, .int s_line])), (a_line, .inl (E.2.1, (256 * 3), .inl f_line)), (h_waits, .inr (8, [.int (nI 256), .int (nI 2), .ref a_waits, .int s_waits])), (a_waits, .inl (E.2.1, (256 * 2), .inl f_waits)), (h_boxes, .inr (8, [.int (nI 192), .int (nI 3), .ref a_boxes, .int s_boxes_8])), (a_boxes, .inl (E.2.1, (192 * 3), .inl f_boxes_9))] H locs := w
    refine lv_aload_n hx hb dX3_deliver_26 rfl (lv_at hl 0 rfl) ?_
    refine mx_get B w 0 fl_X3_15 rfl rfl dX3_deliver_27 ?_
    refine lv_bipush (v := 9) hx hb dX3_deliver_30 (by decide) ?_
    obtain ⟨o_10, hq, hf⟩ := bd_e hf
    refine mx_callV (As := [.int 9]) (rest := []) (wr := [(h, .inr (2, [.ref h_rules, .ref h_ledger, .ref h_line, .ref h_waits, .ref h_boxes])), (h_line, .inr (8, [.int (nI 256), .int (nI 3), .ref a_line, .int s_line])), (a_line, .inl (E.2.1, (256 * 3), .inl f_line)), (h_waits, .inr (8, [.int (nI 256), .int (nI 2), .ref a_waits, .int s_waits])), (a_waits, .inl (E.2.1, (256 * 2), .inl f_waits)), (h_boxes, .inr (8, [.int (nI 192), .int (nI 3), .ref a_boxes, .int s_boxes_8])), (a_boxes, .inl (E.2.1, (192 * 3), .inl f_boxes_9))]) (d_X2_tally E l  h_ledger h_rules a_vals h_book a_book h_told a_told h_written a_written h_late a_late a_sums a_asum vals now book told written late sums asum s_book f_book s_told f_told s_written f_written s_late f_late 9 ok_book ok_told ok_written ok_late o_10 hq) B w [3, 1, 2, 4, 5, 6, 7, 8, 9, 10, 11, 12, 13] [0, 14, 15, 16, 17, 18, 19] rfl rfl (by decide) (by decide) (by decide) 3 rfl rfl cv_X2_tally kw_517 1 (by decide +kernel) ⟨Nat.le_of_ble_eq_true rfl, Nat.le_of_ble_eq_true rfl⟩ rfl hl.1 rfl (Nat.le_of_ble_eq_true rfl) dX3_deliver_32 rfl rfl ⟨Nat.zero_le _, Nat.zero_le _⟩ (fun v w' H locs hpo w => ?_)
    clear hq
    obtain ⟨rfl, rfl⟩ := hpo
    have w : mW E A s [(h, .inr (2, [.ref h_rules, .ref h_ledger, .ref h_line, .ref h_waits, .ref h_boxes])), (h_rules, .inr (4, [.ref a_vals, .int now])), (a_vals, .inl (E.2.1, 8, .inl vals)), (h_ledger, .inr (1, [.ref h_rules, .ref h_book, .ref h_told, .ref h_written, .ref h_late, .ref a_sums, .ref a_asum])), (h_book, .inr (8, [.int (nI 40), .int (nI 3), .ref a_book, .int s_book])), (a_book, .inl (E.2.1, (40 * 3), .inl f_book)), (h_told, .inr (8, [.int (nI 60), .int (nI 1), .ref a_told, .int s_told])), (a_told, .inl (E.2.1, (60 * 1), .inl f_told)), (h_written, .inr (8, [.int (nI 40), .int (nI 2), .ref a_written, .int s_written])), (a_written, .inl (E.2.1, (40 * 2), .inl f_written)), (h_late, .inr (8, [.int (nI 60), .int (nI 1), .ref a_late, .int s_late])), (a_late, .inl (E.2.1, (60 * 1), .inl f_late)), (a_sums, .inl (E.2.1, 14, .inl o_10)), (a_asum, .inl (E.2.1, 64, .inl asum)), (h_line, .inr (8, [.int (nI 256), .int (nI 3), .ref a_line, .int s_line])), (a_line, .inl (E.2.1, (256 * 3), .inl f_line)), (h_waits, .inr (8, [.int (nI 256), .int (nI 2), .ref a_waits, .int s_waits])), (a_waits, .inl (E.2.1, (256 * 2), .inl f_waits)), (h_boxes, .inr (8, [.int (nI 192), .int (nI 3), .ref a_boxes, .int s_boxes_8])), (a_boxes, .inl (E.2.1, (192 * 3), .inl f_boxes_9))] H locs := w.sub [0, 8, 9, 7, 10, 11, 12, 13, 14, 15, 16, 17, 18, 19, 1, 2, 3, 4, 5, 6] (by decide) rfl
    exact j_X3_deliver_35 B   hf ok_book ok_told ok_written ok_late ok_line ok_waits ok_boxes w (lv_sub hl [0, 1, 2, 3] rfl)
-- X3_rowOf
def po_X3_rowOf (E : mE) (h : Nat) (h_rules : Nat) (a_vals : Nat) (h_ledger : Nat) (h_book : Nat) (a_book : Nat) (h_told : Nat) (a_told : Nat) (h_written : Nat) (a_written : Nat) (h_late : Nat) (a_late : Nat) (a_sums : Nat) (a_asum : Nat) (h_line : Nat) (a_line : Nat) (h_waits : Nat) (a_waits : Nat) (h_boxes : Nat) (a_boxes : Nat)  (vals : Nat → Int32) (now : Int32) (book : Rows) (told : Rows) (written : Rows) (late : Rows) (sums : Nat → Int32) (asum : Nat → Int32) (line : Rows) (waits : Rows) (boxes : Rows) (s_book : Int32) (f_book : Nat → Int32) (s_told : Int32) (f_told : Nat → Int32) (s_written : Int32) (f_written : Nat → Int32) (s_late : Int32) (f_late : Nat → Int32) (s_line : Int32) (f_line : Nat → Int32) (s_waits : Int32) (f_waits : Nat → Int32) (s_boxes : Int32) (f_boxes : Nat → Int32) (o : Int32) : Option Value → va_W → Prop := (fun (v : Option Value) (w' : va_W) => v = some (.int o) ∧ w' = [(h, .inr (2, [.ref h_rules, .ref h_ledger, .ref h_line, .ref h_waits, .ref h_boxes])), (h_rules, .inr (4, [.ref a_vals, .int now])), (a_vals, .inl (E.2.1, 8, .inl vals)), (h_ledger, .inr (1, [.ref h_rules, .ref h_book, .ref h_told, .ref h_written, .ref h_late, .ref a_sums, .ref a_asum])), (h_book, .inr (8, [.int (nI 40), .int (nI 3), .ref a_book, .int s_book])), (a_book, .inl (E.2.1, (40 * 3), .inl f_book)), (h_told, .inr (8, [.int (nI 60), .int (nI 1), .ref a_told, .int s_told])), (a_told, .inl (E.2.1, (60 * 1), .inl f_told)), (h_written, .inr (8, [.int (nI 40), .int (nI 2), .ref a_written, .int s_written])), (a_written, .inl (E.2.1, (40 * 2), .inl f_written)), (h_late, .inr (8, [.int (nI 60), .int (nI 1), .ref a_late, .int s_late])), (a_late, .inl (E.2.1, (60 * 1), .inl f_late)), (a_sums, .inl (E.2.1, 14, .inl sums)), (a_asum, .inl (E.2.1, 64, .inl asum)), (h_line, .inr (8, [.int (nI 256), .int (nI 3), .ref a_line, .int s_line])), (a_line, .inl (E.2.1, (256 * 3), .inl f_line)), (h_waits, .inr (8, [.int (nI 256), .int (nI 2), .ref a_waits, .int s_waits])), (a_waits, .inl (E.2.1, (256 * 2), .inl f_waits)), (h_boxes, .inr (8, [.int (nI 192), .int (nI 3), .ref a_boxes, .int s_boxes])), (a_boxes, .inl (E.2.1, (192 * 3), .inl f_boxes))])
noncomputable def F_X3_rowOf  (line : Rows) (x1 : Int32) : Option (Int32) :=
  lt (tfind line 0 x1 0) (fun o_1 =>
  some (o_1))
set_option maxHeartbeats 4000000 in
set_option maxRecDepth 100000 in
theorem d_X3_rowOf (E : mE) (l : Launch) (h : Nat) (h_rules : Nat) (a_vals : Nat) (h_ledger : Nat) (h_book : Nat) (a_book : Nat) (h_told : Nat) (a_told : Nat) (h_written : Nat) (a_written : Nat) (h_late : Nat) (a_late : Nat) (a_sums : Nat) (a_asum : Nat) (h_line : Nat) (a_line : Nat) (h_waits : Nat) (a_waits : Nat) (h_boxes : Nat) (a_boxes : Nat)  (vals : Nat → Int32) (now : Int32) (book : Rows) (told : Rows) (written : Rows) (late : Rows) (sums : Nat → Int32) (asum : Nat → Int32) (line : Rows) (waits : Rows) (boxes : Rows) (s_book : Int32) (f_book : Nat → Int32) (s_told : Int32) (f_told : Nat → Int32) (s_written : Int32) (f_written : Nat → Int32) (s_late : Int32) (f_late : Nat → Int32) (s_line : Int32) (f_line : Nat → Int32) (s_waits : Int32) (f_waits : Nat → Int32) (s_boxes : Int32) (f_boxes : Nat → Int32) (x1 : Int32) (ok_book : tb_ok 40 3 book s_book f_book) (ok_told : tb_ok 60 1 told s_told f_told) (ok_written : tb_ok 40 2 written s_written f_written) (ok_late : tb_ok 60 1 late s_late f_late) (ok_line : tb_ok 256 3 line s_line f_line) (ok_waits : tb_ok 256 2 waits s_waits f_waits) (ok_boxes : tb_ok 192 3 boxes s_boxes f_boxes) (o : Int32) (hf : F_X3_rowOf line x1 = some o) : MX E l yX3_rowOf cX3_rowOf 2 (some .int) ({ frames := 2, cells := 0, slots := 0, locals := 49 } : Room) [.ref h, .int x1] [(h, .inr (2, [.ref h_rules, .ref h_ledger, .ref h_line, .ref h_waits, .ref h_boxes])), (h_rules, .inr (4, [.ref a_vals, .int now])), (a_vals, .inl (E.2.1, 8, .inl vals)), (h_ledger, .inr (1, [.ref h_rules, .ref h_book, .ref h_told, .ref h_written, .ref h_late, .ref a_sums, .ref a_asum])), (h_book, .inr (8, [.int (nI 40), .int (nI 3), .ref a_book, .int s_book])), (a_book, .inl (E.2.1, (40 * 3), .inl f_book)), (h_told, .inr (8, [.int (nI 60), .int (nI 1), .ref a_told, .int s_told])), (a_told, .inl (E.2.1, (60 * 1), .inl f_told)), (h_written, .inr (8, [.int (nI 40), .int (nI 2), .ref a_written, .int s_written])), (a_written, .inl (E.2.1, (40 * 2), .inl f_written)), (h_late, .inr (8, [.int (nI 60), .int (nI 1), .ref a_late, .int s_late])), (a_late, .inl (E.2.1, (60 * 1), .inl f_late)), (a_sums, .inl (E.2.1, 14, .inl sums)), (a_asum, .inl (E.2.1, 64, .inl asum)), (h_line, .inr (8, [.int (nI 256), .int (nI 3), .ref a_line, .int s_line])), (a_line, .inl (E.2.1, (256 * 3), .inl f_line)), (h_waits, .inr (8, [.int (nI 256), .int (nI 2), .ref a_waits, .int s_waits])), (a_waits, .inl (E.2.1, (256 * 2), .inl f_waits)), (h_boxes, .inr (8, [.int (nI 192), .int (nI 3), .ref a_boxes, .int s_boxes])), (a_boxes, .inl (E.2.1, (192 * 3), .inl f_boxes))] (po_X3_rowOf E h h_rules a_vals h_ledger h_book a_book h_told a_told h_written a_written h_late a_late a_sums a_asum h_line a_line h_waits a_waits h_boxes a_boxes vals now book told written late sums asum line waits boxes s_book f_book s_told f_told s_written f_written s_late f_late s_line f_line s_waits f_waits s_boxes f_boxes o) := by
  refine mx_intro (by decide +kernel) (Nat.le_of_ble_eq_true rfl) ?_
  intro p e s m args below meth c A Q ls B w hl
  obtain ⟨hx, hb, hml, hown, hts⟩ := id B.1
  unfold F_X3_rowOf at hf
  have hl : lv_has ls 2 [(0, .ref h), (1, .int x1)] := hl
  refine lv_aload_n hx hb dX3_rowOf_0 rfl (lv_at hl 0 rfl) ?_
  refine mx_get B w 0 fl_X3_24 rfl rfl dX3_rowOf_1 ?_
  refine lv_iconst (v := 0) hx hb dX3_rowOf_4 (by decide) ?_
  refine lv_iload_n hx hb dX3_rowOf_5 rfl (lv_at hl 1 rfl) ?_
  refine lv_iconst (v := 0) hx hb dX3_rowOf_6 (by decide) ?_
  obtain ⟨o_1, ev⟩ : ∃ y, y = tfind line 0 x1 0 := ⟨_, rfl⟩
  have hf := lt_n ev hf
  refine mx_callV (As := [.int 0, .int x1, .int 0]) (rest := []) (wr := [(h, .inr (2, [.ref h_rules, .ref h_ledger, .ref h_line, .ref h_waits, .ref h_boxes])), (h_rules, .inr (4, [.ref a_vals, .int now])), (a_vals, .inl (E.2.1, 8, .inl vals)), (h_ledger, .inr (1, [.ref h_rules, .ref h_book, .ref h_told, .ref h_written, .ref h_late, .ref a_sums, .ref a_asum])), (h_book, .inr (8, [.int (nI 40), .int (nI 3), .ref a_book, .int s_book])), (a_book, .inl (E.2.1, (40 * 3), .inl f_book)), (h_told, .inr (8, [.int (nI 60), .int (nI 1), .ref a_told, .int s_told])), (a_told, .inl (E.2.1, (60 * 1), .inl f_told)), (h_written, .inr (8, [.int (nI 40), .int (nI 2), .ref a_written, .int s_written])), (a_written, .inl (E.2.1, (40 * 2), .inl f_written)), (h_late, .inr (8, [.int (nI 60), .int (nI 1), .ref a_late, .int s_late])), (a_late, .inl (E.2.1, (60 * 1), .inl f_late)), (a_sums, .inl (E.2.1, 14, .inl sums)), (a_asum, .inl (E.2.1, 64, .inl asum)), (h_waits, .inr (8, [.int (nI 256), .int (nI 2), .ref a_waits, .int s_waits])), (a_waits, .inl (E.2.1, (256 * 2), .inl f_waits)), (h_boxes, .inr (8, [.int (nI 192), .int (nI 3), .ref a_boxes, .int s_boxes])), (a_boxes, .inl (E.2.1, (192 * 3), .inl f_boxes))]) (c_X9_find E l h_line a_line 256 3 line s_line f_line 0 x1 0 ok_line o_1 ev) B w [14, 15] [0, 1, 2, 3, 4, 5, 6, 7, 8, 9, 10, 11, 12, 13, 16, 17, 18, 19] rfl rfl (by decide) (by decide) (by decide) 14 rfl rfl cv_X9_find kw_512 3 (by decide +kernel) ⟨Nat.le_of_ble_eq_true rfl, Nat.le_of_ble_eq_true rfl⟩ rfl hl.1 rfl (Nat.le_of_ble_eq_true rfl) dX3_rowOf_7 rfl rfl ⟨Nat.zero_le _, Nat.zero_le _⟩ (fun v w' H locs hpo w => ?_)
  clear ev
  obtain ⟨rfl, rfl⟩ := hpo
  have w : mW E A s [(h, .inr (2, [.ref h_rules, .ref h_ledger, .ref h_line, .ref h_waits, .ref h_boxes])), (h_rules, .inr (4, [.ref a_vals, .int now])), (a_vals, .inl (E.2.1, 8, .inl vals)), (h_ledger, .inr (1, [.ref h_rules, .ref h_book, .ref h_told, .ref h_written, .ref h_late, .ref a_sums, .ref a_asum])), (h_book, .inr (8, [.int (nI 40), .int (nI 3), .ref a_book, .int s_book])), (a_book, .inl (E.2.1, (40 * 3), .inl f_book)), (h_told, .inr (8, [.int (nI 60), .int (nI 1), .ref a_told, .int s_told])), (a_told, .inl (E.2.1, (60 * 1), .inl f_told)), (h_written, .inr (8, [.int (nI 40), .int (nI 2), .ref a_written, .int s_written])), (a_written, .inl (E.2.1, (40 * 2), .inl f_written)), (h_late, .inr (8, [.int (nI 60), .int (nI 1), .ref a_late, .int s_late])), (a_late, .inl (E.2.1, (60 * 1), .inl f_late)), (a_sums, .inl (E.2.1, 14, .inl sums)), (a_asum, .inl (E.2.1, 64, .inl asum)), (h_line, .inr (8, [.int (nI 256), .int (nI 3), .ref a_line, .int s_line])), (a_line, .inl (E.2.1, (256 * 3), .inl f_line)), (h_waits, .inr (8, [.int (nI 256), .int (nI 2), .ref a_waits, .int s_waits])), (a_waits, .inl (E.2.1, (256 * 2), .inl f_waits)), (h_boxes, .inr (8, [.int (nI 192), .int (nI 3), .ref a_boxes, .int s_boxes])), (a_boxes, .inl (E.2.1, (192 * 3), .inl f_boxes))] H locs := w.sub [0, 1, 2, 3, 4, 5, 6, 7, 8, 9, 10, 11, 12, 13, 18, 19, 14, 15, 16, 17] (by decide) rfl
  cases hf
  exact mx_iret B w ⟨rfl, rfl⟩ dX3_rowOf_10
-- X3_end
def po_X3_end (E : mE) (h : Nat) (h_rules : Nat) (a_vals : Nat) (h_ledger : Nat) (h_book : Nat) (a_book : Nat) (h_told : Nat) (a_told : Nat) (h_written : Nat) (a_written : Nat) (h_late : Nat) (a_late : Nat) (a_sums : Nat) (a_asum : Nat) (h_line : Nat) (a_line : Nat) (h_waits : Nat) (a_waits : Nat) (h_boxes : Nat) (a_boxes : Nat)  (vals : Nat → Int32) (now : Int32) (book : Rows) (told : Rows) (written : Rows) (late : Rows) (sums : Nat → Int32) (asum : Nat → Int32) (line : Rows) (waits : Rows) (boxes : Rows) (s_book : Int32) (f_book : Nat → Int32) (s_told : Int32) (f_told : Nat → Int32) (s_written : Int32) (f_written : Nat → Int32) (s_late : Int32) (f_late : Nat → Int32) (s_line : Int32) (f_line : Nat → Int32) (s_waits : Int32) (f_waits : Nat → Int32) (s_boxes : Int32) (f_boxes : Nat → Int32) (o : Int32 × (Nat → Int32) × (Nat → Int32) × Rows × Rows × Rows) : Option Value → va_W → Prop := (fun (v : Option Value) (w' : va_W) => ∃ (s_line' : Int32) (f_line' : Nat → Int32) (s_waits' : Int32) (f_waits' : Nat → Int32) (s_boxes' : Int32) (f_boxes' : Nat → Int32), tb_ok 256 3 o.2.2.2.1 s_line' f_line' ∧ tb_ok 256 2 o.2.2.2.2.1 s_waits' f_waits' ∧ tb_ok 192 3 o.2.2.2.2.2 s_boxes' f_boxes' ∧ v = some (.int o.1) ∧ w' = [(h, .inr (2, [.ref h_rules, .ref h_ledger, .ref h_line, .ref h_waits, .ref h_boxes])), (h_rules, .inr (4, [.ref a_vals, .int now])), (a_vals, .inl (E.2.1, 8, .inl vals)), (h_ledger, .inr (1, [.ref h_rules, .ref h_book, .ref h_told, .ref h_written, .ref h_late, .ref a_sums, .ref a_asum])), (h_book, .inr (8, [.int (nI 40), .int (nI 3), .ref a_book, .int s_book])), (a_book, .inl (E.2.1, (40 * 3), .inl f_book)), (h_told, .inr (8, [.int (nI 60), .int (nI 1), .ref a_told, .int s_told])), (a_told, .inl (E.2.1, (60 * 1), .inl f_told)), (h_written, .inr (8, [.int (nI 40), .int (nI 2), .ref a_written, .int s_written])), (a_written, .inl (E.2.1, (40 * 2), .inl f_written)), (h_late, .inr (8, [.int (nI 60), .int (nI 1), .ref a_late, .int s_late])), (a_late, .inl (E.2.1, (60 * 1), .inl f_late)), (a_sums, .inl (E.2.1, 14, .inl o.2.1)), (a_asum, .inl (E.2.1, 64, .inl o.2.2.1)), (h_line, .inr (8, [.int (nI 256), .int (nI 3), .ref a_line, .int s_line'])), (a_line, .inl (E.2.1, (256 * 3), .inl f_line')), (h_waits, .inr (8, [.int (nI 256), .int (nI 2), .ref a_waits, .int s_waits'])), (a_waits, .inl (E.2.1, (256 * 2), .inl f_waits')), (h_boxes, .inr (8, [.int (nI 192), .int (nI 3), .ref a_boxes, .int s_boxes'])), (a_boxes, .inl (E.2.1, (192 * 3), .inl f_boxes'))])
noncomputable def J_X3_end_50 (N : Nat)  (rec : Int32 → Int32 → (Nat → Int32) → (Nat → Int32) → Rows → (Option (Int32 × (Nat → Int32) × (Nat → Int32) × Rows × Rows × Rows))) (k56 : Int32 → (Nat → Int32) → (Nat → Int32) → Rows → (Option (Int32 × (Nat → Int32) × (Nat → Int32) × Rows × Rows × Rows))) (x1 : Int32) (x2 : Int32) (x3 : Int32) (x4 : Int32) (sums : Nat → Int32) (asum : Nat → Int32) (line : Rows) (waits : Rows) (boxes : Rows) : Option (Int32 × (Nat → Int32) × (Nat → Int32) × Rows × Rows × Rows) :=
  lt (x4 + 1) (fun x4_3 =>
  rec x3 x4_3 sums asum boxes)
set_option maxHeartbeats 4000000 in
set_option maxRecDepth 100000 in
theorem j_X3_end_50 {E : mE} {l : Launch} {p : Program} {e : Env} {s : State} {m : MethodId} {args : Array Value} {below : List Frame} {meth : Method} {c : Code} {A : Nat → Prop} {Q : State → Prop} {N : Nat} {h : Nat} {h_rules : Nat} {a_vals : Nat} {h_ledger : Nat} {h_book : Nat} {a_book : Nat} {h_told : Nat} {a_told : Nat} {h_written : Nat} {a_written : Nat} {h_late : Nat} {a_late : Nat} {a_sums : Nat} {a_asum : Nat} {h_line : Nat} {a_line : Nat} {h_waits : Nat} {a_waits : Nat} {h_boxes : Nat} {a_boxes : Nat}  {vals : Nat → Int32} {now : Int32} {book : Rows} {told : Rows} {written : Rows} {late : Rows} {sums0 : Nat → Int32} {asum0 : Nat → Int32} {line0 : Rows} {waits0 : Rows} {boxes0 : Rows} {s_book : Int32} {f_book : Nat → Int32} {s_told : Int32} {f_told : Nat → Int32} {s_written : Int32} {f_written : Nat → Int32} {s_late : Int32} {f_late : Nat → Int32} {s_line0 : Int32} {f_line0 : Nat → Int32} {s_waits0 : Int32} {f_waits0 : Nat → Int32} {s_boxes0 : Int32} {f_boxes0 : Nat → Int32} {o : Int32 × (Nat → Int32) × (Nat → Int32) × Rows × Rows × Rows} (B : mB E yX3_end cX3_end 5 (some .int) 0 0 (po_X3_end E h h_rules a_vals h_ledger h_book a_book h_told a_told h_written a_written h_late a_late a_sums a_asum h_line a_line h_waits a_waits h_boxes a_boxes vals now book told written late sums0 asum0 line0 waits0 boxes0 s_book f_book s_told f_told s_written f_written s_late f_late s_line0 f_line0 s_waits0 f_waits0 s_boxes0 f_boxes0 o) p s m args below meth c A Q) {x1 : Int32} {x2 : Int32} {x3 : Int32} {x4 : Int32} {sums : Nat → Int32} {asum : Nat → Int32} {line : Rows} {waits : Rows} {boxes : Rows} {s_line : Int32} {f_line : Nat → Int32} {s_waits : Int32} {f_waits : Nat → Int32} {s_boxes : Int32} {f_boxes : Nat → Int32} (rec : Int32 → Int32 → (Nat → Int32) → (Nat → Int32) → Rows → (Option (Int32 × (Nat → Int32) × (Nat → Int32) × Rows × Rows × Rows))) (k56 : Int32 → (Nat → Int32) → (Nat → Int32) → Rows → (Option (Int32 × (Nat → Int32) × (Nat → Int32) × Rows × Rows × Rows))) (hrec : ∀ (x3 : Int32) (x4 : Int32) (sums : Nat → Int32) (asum : Nat → Int32) (boxes : Rows) (s_boxes : Int32) (f_boxes : Nat → Int32) (H : Heap) (locs : List Loc) (ls : Array Slot), rec x3 x4 sums asum boxes = some o → tb_ok 192 3 boxes s_boxes f_boxes → mW E A s [(h, .inr (2, [.ref h_rules, .ref h_ledger, .ref h_line, .ref h_waits, .ref h_boxes])), (h_rules, .inr (4, [.ref a_vals, .int now])), (a_vals, .inl (E.2.1, 8, .inl vals)), (h_ledger, .inr (1, [.ref h_rules, .ref h_book, .ref h_told, .ref h_written, .ref h_late, .ref a_sums, .ref a_asum])), (h_book, .inr (8, [.int (nI 40), .int (nI 3), .ref a_book, .int s_book])), (a_book, .inl (E.2.1, (40 * 3), .inl f_book)), (h_told, .inr (8, [.int (nI 60), .int (nI 1), .ref a_told, .int s_told])), (a_told, .inl (E.2.1, (60 * 1), .inl f_told)), (h_written, .inr (8, [.int (nI 40), .int (nI 2), .ref a_written, .int s_written])), (a_written, .inl (E.2.1, (40 * 2), .inl f_written)), (h_late, .inr (8, [.int (nI 60), .int (nI 1), .ref a_late, .int s_late])), (a_late, .inl (E.2.1, (60 * 1), .inl f_late)), (a_sums, .inl (E.2.1, 14, .inl sums)), (a_asum, .inl (E.2.1, 64, .inl asum)), (h_line, .inr (8, [.int (nI 256), .int (nI 3), .ref a_line, .int s_line])), (a_line, .inl (E.2.1, (256 * 3), .inl f_line)), (h_waits, .inr (8, [.int (nI 256), .int (nI 2), .ref a_waits, .int s_waits])), (a_waits, .inl (E.2.1, (256 * 2), .inl f_waits)), (h_boxes, .inr (8, [.int (nI 192), .int (nI 3), .ref a_boxes, .int s_boxes])), (a_boxes, .inl (E.2.1, (192 * 3), .inl f_boxes))] H locs → lv_has ls 5 [(0, .ref h), (1, .int x1), (2, .int x2), (3, .int x3), (4, .int x4)] → W p l e ({ frames := 4, cells := 0, slots := 0, locals := 93 } : Room) s m args below meth c H locs 0 0 Q (F0 m 5 ls [])) (hk56 : ∀ (x3 : Int32) (sums : Nat → Int32) (asum : Nat → Int32) (boxes : Rows) (s_boxes : Int32) (f_boxes : Nat → Int32) (H : Heap) (locs : List Loc) (ls : Array Slot), k56 x3 sums asum boxes = some o → tb_ok 192 3 boxes s_boxes f_boxes → mW E A s [(h, .inr (2, [.ref h_rules, .ref h_ledger, .ref h_line, .ref h_waits, .ref h_boxes])), (h_rules, .inr (4, [.ref a_vals, .int now])), (a_vals, .inl (E.2.1, 8, .inl vals)), (h_ledger, .inr (1, [.ref h_rules, .ref h_book, .ref h_told, .ref h_written, .ref h_late, .ref a_sums, .ref a_asum])), (h_book, .inr (8, [.int (nI 40), .int (nI 3), .ref a_book, .int s_book])), (a_book, .inl (E.2.1, (40 * 3), .inl f_book)), (h_told, .inr (8, [.int (nI 60), .int (nI 1), .ref a_told, .int s_told])), (a_told, .inl (E.2.1, (60 * 1), .inl f_told)), (h_written, .inr (8, [.int (nI 40), .int (nI 2), .ref a_written, .int s_written])), (a_written, .inl (E.2.1, (40 * 2), .inl f_written)), (h_late, .inr (8, [.int (nI 60), .int (nI 1), .ref a_late, .int s_late])), (a_late, .inl (E.2.1, (60 * 1), .inl f_late)), (a_sums, .inl (E.2.1, 14, .inl sums)), (a_asum, .inl (E.2.1, 64, .inl asum)), (h_line, .inr (8, [.int (nI 256), .int (nI 3), .ref a_line, .int s_line])), (a_line, .inl (E.2.1, (256 * 3), .inl f_line)), (h_waits, .inr (8, [.int (nI 256), .int (nI 2), .ref a_waits, .int s_waits])), (a_waits, .inl (E.2.1, (256 * 2), .inl f_waits)), (h_boxes, .inr (8, [.int (nI 192), .int (nI 3), .ref a_boxes, .int s_boxes])), (a_boxes, .inl (E.2.1, (192 * 3), .inl f_boxes))] H locs → lv_has ls 5 [(0, .ref h), (1, .int x1), (3, .int x3)] → W p l e ({ frames := 4, cells := 0, slots := 0, locals := 93 } : Room) s m args below meth c H locs 0 0 Q (F0 m 56 ls [])) {H : Heap} {locs : List Loc} {ls : Array Slot} (hf : J_X3_end_50 N rec k56 x1 x2 x3 x4 sums asum line waits boxes = some o) (ok_book : tb_ok 40 3 book s_book f_book) (ok_told : tb_ok 60 1 told s_told f_told) (ok_written : tb_ok 40 2 written s_written f_written) (ok_late : tb_ok 60 1 late s_late f_late) (ok_line : tb_ok 256 3 line s_line f_line) (ok_waits : tb_ok 256 2 waits s_waits f_waits) (ok_boxes : tb_ok 192 3 boxes s_boxes f_boxes) (w : mW E A s [(h, .inr (2, [.ref h_rules, .ref h_ledger, .ref h_line, .ref h_waits, .ref h_boxes])), (h_rules, .inr (4, [.ref a_vals, .int now])), (a_vals, .inl (E.2.1, 8, .inl vals)), (h_ledger, .inr (1, [.ref h_rules, .ref h_book, .ref h_told, .ref h_written, .ref h_late, .ref a_sums, .ref a_asum])), (h_book, .inr (8, [.int (nI 40), .int (nI 3), .ref a_book, .int s_book])), (a_book, .inl (E.2.1, (40 * 3), .inl f_book)), (h_told, .inr (8, [.int (nI 60), .int (nI 1), .ref a_told, .int s_told])), (a_told, .inl (E.2.1, (60 * 1), .inl f_told)), (h_written, .inr (8, [.int (nI 40), .int (nI 2), .ref a_written, .int s_written])), (a_written, .inl (E.2.1, (40 * 2), .inl f_written)), (h_late, .inr (8, [.int (nI 60), .int (nI 1), .ref a_late, .int s_late])), (a_late, .inl (E.2.1, (60 * 1), .inl f_late)), (a_sums, .inl (E.2.1, 14, .inl sums)), (a_asum, .inl (E.2.1, 64, .inl asum)), (h_line, .inr (8, [.int (nI 256), .int (nI 3), .ref a_line, .int s_line])), (a_line, .inl (E.2.1, (256 * 3), .inl f_line)), (h_waits, .inr (8, [.int (nI 256), .int (nI 2), .ref a_waits, .int s_waits])), (a_waits, .inl (E.2.1, (256 * 2), .inl f_waits)), (h_boxes, .inr (8, [.int (nI 192), .int (nI 3), .ref a_boxes, .int s_boxes])), (a_boxes, .inl (E.2.1, (192 * 3), .inl f_boxes))] H locs) (hl : lv_has ls 5 [(0, .ref h), (1, .int x1), (2, .int x2), (3, .int x3), (4, .int x4)]) : W p l e ({ frames := 4, cells := 0, slots := 0, locals := 93 } : Room) s m args below meth c H locs 0 0 Q (F0 m 50 ls []) := by
  obtain ⟨hx, hb, hml, hown, hts⟩ := id B.1
  unfold J_X3_end_50 at hf
  obtain ⟨x4_3, ev⟩ : ∃ y : Int32, y = x4 + 1 := ⟨_, rfl⟩
  refine lv_iinc (v := x4_3) (lv' := [(4, .int x4_3), (0, .ref h), (1, .int x1), (2, .int x2), (3, .int x3)]) hx hb dX3_end_50 hl (k := 4) rfl (by rw [ev]; rfl) (by decide) rfl (fun ls hl => ?_)
  have hf := lt_n ev hf; clear ev
  refine lv_goto (tgt := 5) hx hb dX3_end_53 (by decide) ?_
  exact hrec _ _ _ _ _ _ _ _ _ _ hf ok_boxes w (lv_sub hl [1, 2, 3, 4, 0] rfl)
noncomputable def K_X3_end_5 (N : Nat)  (rec : Int32 → Int32 → (Nat → Int32) → (Nat → Int32) → Rows → (Option (Int32 × (Nat → Int32) × (Nat → Int32) × Rows × Rows × Rows))) (k56 : Int32 → (Nat → Int32) → (Nat → Int32) → Rows → (Option (Int32 × (Nat → Int32) × (Nat → Int32) × Rows × Rows × Rows))) (x1 : Int32) (x2 : Int32) (line : Rows) (waits : Rows) (x3 : Int32) (x4 : Int32) (sums : Nat → Int32) (asum : Nat → Int32) (boxes : Rows) : Option (Int32 × (Nat → Int32) × (Nat → Int32) × Rows × Rows × Rows) :=
  lt (tsize waits) (fun o_1 =>
  if (o_1 ≤ x4 : Prop) then
  k56 x3 sums asum boxes
  else
  lt (tget waits x4 0) (fun o_2 =>
  if (o_2 = x1 : Prop) then
  lt (tget waits x4 1) (fun o_4 =>
  bd (F_X3_deliver sums asum boxes o_4 x1 x2) (fun o_5 =>
  lt (x3 + 1) (fun x3_8 =>
  J_X3_end_50 N rec k56 x1 x2 x3_8 x4 o_5.1 o_5.2.1 line waits o_5.2.2)))
  else
  J_X3_end_50 N rec k56 x1 x2 x3 x4 sums asum line waits boxes))
noncomputable def L_X3_end_5 (N : Nat)  (k56 : Int32 → (Nat → Int32) → (Nat → Int32) → Rows → (Option (Int32 × (Nat → Int32) × (Nat → Int32) × Rows × Rows × Rows))) (x1 : Int32) (x2 : Int32) (line : Rows) (waits : Rows) (n : Nat) : Int32 → Int32 → (Nat → Int32) → (Nat → Int32) → Rows → (Option (Int32 × (Nat → Int32) × (Nat → Int32) × Rows × Rows × Rows)) :=
  Nat.rec (motive := fun _ => Int32 → Int32 → (Nat → Int32) → (Nat → Int32) → Rows → (Option (Int32 × (Nat → Int32) × (Nat → Int32) × Rows × Rows × Rows))) (fun _ _ _ _ _ => none) (fun _ rec => K_X3_end_5 N rec k56 x1 x2 line waits) n
set_option maxHeartbeats 4000000 in
set_option maxRecDepth 100000 in
theorem l_X3_end_5 {E : mE} {l : Launch} {p : Program} {e : Env} {s : State} {m : MethodId} {args : Array Value} {below : List Frame} {meth : Method} {c : Code} {A : Nat → Prop} {Q : State → Prop} {N : Nat} {h : Nat} {h_rules : Nat} {a_vals : Nat} {h_ledger : Nat} {h_book : Nat} {a_book : Nat} {h_told : Nat} {a_told : Nat} {h_written : Nat} {a_written : Nat} {h_late : Nat} {a_late : Nat} {a_sums : Nat} {a_asum : Nat} {h_line : Nat} {a_line : Nat} {h_waits : Nat} {a_waits : Nat} {h_boxes : Nat} {a_boxes : Nat}  {vals : Nat → Int32} {now : Int32} {book : Rows} {told : Rows} {written : Rows} {late : Rows} {sums0 : Nat → Int32} {asum0 : Nat → Int32} {line0 : Rows} {waits0 : Rows} {boxes0 : Rows} {s_book : Int32} {f_book : Nat → Int32} {s_told : Int32} {f_told : Nat → Int32} {s_written : Int32} {f_written : Nat → Int32} {s_late : Int32} {f_late : Nat → Int32} {s_line0 : Int32} {f_line0 : Nat → Int32} {s_waits0 : Int32} {f_waits0 : Nat → Int32} {s_boxes0 : Int32} {f_boxes0 : Nat → Int32} {o : Int32 × (Nat → Int32) × (Nat → Int32) × Rows × Rows × Rows} (B : mB E yX3_end cX3_end 5 (some .int) 0 0 (po_X3_end E h h_rules a_vals h_ledger h_book a_book h_told a_told h_written a_written h_late a_late a_sums a_asum h_line a_line h_waits a_waits h_boxes a_boxes vals now book told written late sums0 asum0 line0 waits0 boxes0 s_book f_book s_told f_told s_written f_written s_late f_late s_line0 f_line0 s_waits0 f_waits0 s_boxes0 f_boxes0 o) p s m args below meth c A Q) {line : Rows} {waits : Rows} {s_line : Int32} {f_line : Nat → Int32} {s_waits : Int32} {f_waits : Nat → Int32} {x1 : Int32} {x2 : Int32} (k56 : Int32 → (Nat → Int32) → (Nat → Int32) → Rows → (Option (Int32 × (Nat → Int32) × (Nat → Int32) × Rows × Rows × Rows))) (ok_book : tb_ok 40 3 book s_book f_book) (ok_told : tb_ok 60 1 told s_told f_told) (ok_written : tb_ok 40 2 written s_written f_written) (ok_late : tb_ok 60 1 late s_late f_late) (ok_line : tb_ok 256 3 line s_line f_line) (ok_waits : tb_ok 256 2 waits s_waits f_waits) (hk56 : ∀ (x3 : Int32) (sums : Nat → Int32) (asum : Nat → Int32) (boxes : Rows) (s_boxes : Int32) (f_boxes : Nat → Int32) (H : Heap) (locs : List Loc) (ls : Array Slot), k56 x3 sums asum boxes = some o → tb_ok 192 3 boxes s_boxes f_boxes → mW E A s [(h, .inr (2, [.ref h_rules, .ref h_ledger, .ref h_line, .ref h_waits, .ref h_boxes])), (h_rules, .inr (4, [.ref a_vals, .int now])), (a_vals, .inl (E.2.1, 8, .inl vals)), (h_ledger, .inr (1, [.ref h_rules, .ref h_book, .ref h_told, .ref h_written, .ref h_late, .ref a_sums, .ref a_asum])), (h_book, .inr (8, [.int (nI 40), .int (nI 3), .ref a_book, .int s_book])), (a_book, .inl (E.2.1, (40 * 3), .inl f_book)), (h_told, .inr (8, [.int (nI 60), .int (nI 1), .ref a_told, .int s_told])), (a_told, .inl (E.2.1, (60 * 1), .inl f_told)), (h_written, .inr (8, [.int (nI 40), .int (nI 2), .ref a_written, .int s_written])), (a_written, .inl (E.2.1, (40 * 2), .inl f_written)), (h_late, .inr (8, [.int (nI 60), .int (nI 1), .ref a_late, .int s_late])), (a_late, .inl (E.2.1, (60 * 1), .inl f_late)), (a_sums, .inl (E.2.1, 14, .inl sums)), (a_asum, .inl (E.2.1, 64, .inl asum)), (h_line, .inr (8, [.int (nI 256), .int (nI 3), .ref a_line, .int s_line])), (a_line, .inl (E.2.1, (256 * 3), .inl f_line)), (h_waits, .inr (8, [.int (nI 256), .int (nI 2), .ref a_waits, .int s_waits])), (a_waits, .inl (E.2.1, (256 * 2), .inl f_waits)), (h_boxes, .inr (8, [.int (nI 192), .int (nI 3), .ref a_boxes, .int s_boxes])), (a_boxes, .inl (E.2.1, (192 * 3), .inl f_boxes))] H locs → lv_has ls 5 [(0, .ref h), (1, .int x1), (3, .int x3)] → W p l e ({ frames := 4, cells := 0, slots := 0, locals := 93 } : Room) s m args below meth c H locs 0 0 Q (F0 m 56 ls [])) : ∀ n : Nat, ∀ (x3 : Int32) (x4 : Int32) (sums : Nat → Int32) (asum : Nat → Int32) (boxes : Rows) (s_boxes : Int32) (f_boxes : Nat → Int32) (H : Heap) (locs : List Loc) (ls : Array Slot), L_X3_end_5 N k56 x1 x2 line waits n x3 x4 sums asum boxes = some o → tb_ok 192 3 boxes s_boxes f_boxes → mW E A s [(h, .inr (2, [.ref h_rules, .ref h_ledger, .ref h_line, .ref h_waits, .ref h_boxes])), (h_rules, .inr (4, [.ref a_vals, .int now])), (a_vals, .inl (E.2.1, 8, .inl vals)), (h_ledger, .inr (1, [.ref h_rules, .ref h_book, .ref h_told, .ref h_written, .ref h_late, .ref a_sums, .ref a_asum])), (h_book, .inr (8, [.int (nI 40), .int (nI 3), .ref a_book, .int s_book])), (a_book, .inl (E.2.1, (40 * 3), .inl f_book)), (h_told, .inr (8, [.int (nI 60), .int (nI 1), .ref a_told, .int s_told])), (a_told, .inl (E.2.1, (60 * 1), .inl f_told)), (h_written, .inr (8, [.int (nI 40), .int (nI 2), .ref a_written, .int s_written])), (a_written, .inl (E.2.1, (40 * 2), .inl f_written)), (h_late, .inr (8, [.int (nI 60), .int (nI 1), .ref a_late, .int s_late])), (a_late, .inl (E.2.1, (60 * 1), .inl f_late)), (a_sums, .inl (E.2.1, 14, .inl sums)), (a_asum, .inl (E.2.1, 64, .inl asum)), (h_line, .inr (8, [.int (nI 256), .int (nI 3), .ref a_line, .int s_line])), (a_line, .inl (E.2.1, (256 * 3), .inl f_line)), (h_waits, .inr (8, [.int (nI 256), .int (nI 2), .ref a_waits, .int s_waits])), (a_waits, .inl (E.2.1, (256 * 2), .inl f_waits)), (h_boxes, .inr (8, [.int (nI 192), .int (nI 3), .ref a_boxes, .int s_boxes])), (a_boxes, .inl (E.2.1, (192 * 3), .inl f_boxes))] H locs → lv_has ls 5 [(0, .ref h), (1, .int x1), (2, .int x2), (3, .int x3), (4, .int x4)] → W p l e ({ frames := 4, cells := 0, slots := 0, locals := 93 } : Room) s m args below meth c H locs 0 0 Q (F0 m 5 ls []) := by
  obtain ⟨hx, hb, hml, hown, hts⟩ := id B.1
  intro n
  induction n with
  | zero =>
    intro x3 x4 sums asum boxes s_boxes f_boxes H locs ls hf ok_boxes w hl
    exact nomatch hf
  | succ n hrec =>
    intro x3 x4 sums asum boxes s_boxes f_boxes H locs ls hf ok_boxes w hl
    have hf : K_X3_end_5 N (L_X3_end_5 N k56 x1 x2 line waits n) k56 x1 x2 line waits x3 x4 sums asum boxes = some o := hf
    unfold K_X3_end_5 at hf
    refine lv_iload hx hb dX3_end_5 (lv_at hl 4 rfl) ?_
    refine lv_aload_n hx hb dX3_end_7 rfl (lv_at hl 0 rfl) ?_
    refine mx_get B w 0 fl_X3_28 rfl rfl dX3_end_8 ?_
    obtain ⟨o_1, ev⟩ : ∃ y, y = tsize waits := ⟨_, rfl⟩
    have hf := lt_n ev hf
    refine mx_callV (As := []) (rest := [.int x4]) (wr := [(h, .inr (2, [.ref h_rules, .ref h_ledger, .ref h_line, .ref h_waits, .ref h_boxes])), (h_rules, .inr (4, [.ref a_vals, .int now])), (a_vals, .inl (E.2.1, 8, .inl vals)), (h_ledger, .inr (1, [.ref h_rules, .ref h_book, .ref h_told, .ref h_written, .ref h_late, .ref a_sums, .ref a_asum])), (h_book, .inr (8, [.int (nI 40), .int (nI 3), .ref a_book, .int s_book])), (a_book, .inl (E.2.1, (40 * 3), .inl f_book)), (h_told, .inr (8, [.int (nI 60), .int (nI 1), .ref a_told, .int s_told])), (a_told, .inl (E.2.1, (60 * 1), .inl f_told)), (h_written, .inr (8, [.int (nI 40), .int (nI 2), .ref a_written, .int s_written])), (a_written, .inl (E.2.1, (40 * 2), .inl f_written)), (h_late, .inr (8, [.int (nI 60), .int (nI 1), .ref a_late, .int s_late])), (a_late, .inl (E.2.1, (60 * 1), .inl f_late)), (a_sums, .inl (E.2.1, 14, .inl sums)), (a_asum, .inl (E.2.1, 64, .inl asum)), (h_line, .inr (8, [.int (nI 256), .int (nI 3), .ref a_line, .int s_line])), (a_line, .inl (E.2.1, (256 * 3), .inl f_line)), (h_boxes, .inr (8, [.int (nI 192), .int (nI 3), .ref a_boxes, .int s_boxes])), (a_boxes, .inl (E.2.1, (192 * 3), .inl f_boxes))]) (c_X9_size E l h_waits a_waits 256 2 waits s_waits f_waits  ok_waits o_1 ev) B w [16, 17] [0, 1, 2, 3, 4, 5, 6, 7, 8, 9, 10, 11, 12, 13, 14, 15, 18, 19] rfl rfl (by decide) (by decide) (by decide) 16 rfl rfl cv_X9_size kw_471 0 (by decide +kernel) ⟨Nat.le_of_ble_eq_true rfl, Nat.le_of_ble_eq_true rfl⟩ rfl hl.1 rfl (Nat.le_of_ble_eq_true rfl) dX3_end_11 rfl rfl ⟨Nat.zero_le _, Nat.zero_le _⟩ (fun v w' H locs hpo w => ?_)
    clear ev
    obtain ⟨rfl, rfl⟩ := hpo
    have w : mW E A s [(h, .inr (2, [.ref h_rules, .ref h_ledger, .ref h_line, .ref h_waits, .ref h_boxes])), (h_rules, .inr (4, [.ref a_vals, .int now])), (a_vals, .inl (E.2.1, 8, .inl vals)), (h_ledger, .inr (1, [.ref h_rules, .ref h_book, .ref h_told, .ref h_written, .ref h_late, .ref a_sums, .ref a_asum])), (h_book, .inr (8, [.int (nI 40), .int (nI 3), .ref a_book, .int s_book])), (a_book, .inl (E.2.1, (40 * 3), .inl f_book)), (h_told, .inr (8, [.int (nI 60), .int (nI 1), .ref a_told, .int s_told])), (a_told, .inl (E.2.1, (60 * 1), .inl f_told)), (h_written, .inr (8, [.int (nI 40), .int (nI 2), .ref a_written, .int s_written])), (a_written, .inl (E.2.1, (40 * 2), .inl f_written)), (h_late, .inr (8, [.int (nI 60), .int (nI 1), .ref a_late, .int s_late])), (a_late, .inl (E.2.1, (60 * 1), .inl f_late)), (a_sums, .inl (E.2.1, 14, .inl sums)), (a_asum, .inl (E.2.1, 64, .inl asum)), (h_line, .inr (8, [.int (nI 256), .int (nI 3), .ref a_line, .int s_line])), (a_line, .inl (E.2.1, (256 * 3), .inl f_line)), (h_waits, .inr (8, [.int (nI 256), .int (nI 2), .ref a_waits, .int s_waits])), (a_waits, .inl (E.2.1, (256 * 2), .inl f_waits)), (h_boxes, .inr (8, [.int (nI 192), .int (nI 3), .ref a_boxes, .int s_boxes])), (a_boxes, .inl (E.2.1, (192 * 3), .inl f_boxes))] H locs := w.sub [0, 1, 2, 3, 4, 5, 6, 7, 8, 9, 10, 11, 12, 13, 14, 15, 18, 19, 16, 17] (by decide) rfl
    refine lv_icmp_ge (tgt := 56) hx hb dX3_end_14 (by decide) (fun hc => ?_) (fun hc => ?_)
    · have hf := it_t hc hf
      exact hk56 _ _ _ _ _ _ _ _ _ hf ok_boxes w (lv_sub hl [0, 1, 3] rfl)
    · have hf := it_f hc hf
      refine lv_aload_n hx hb dX3_end_17 rfl (lv_at hl 0 rfl) ?_
      refine mx_get B w 0 fl_X3_28 rfl rfl dX3_end_18 ?_
      refine lv_iload hx hb dX3_end_21 (lv_at hl 4 rfl) ?_
      refine lv_iconst (v := 0) hx hb dX3_end_23 (by decide) ?_
      obtain ⟨o_2, ev⟩ : ∃ y, y = tget waits x4 0 := ⟨_, rfl⟩
      have hf := lt_n ev hf
      refine mx_callV (As := [.int x4, .int 0]) (rest := []) (wr := [(h, .inr (2, [.ref h_rules, .ref h_ledger, .ref h_line, .ref h_waits, .ref h_boxes])), (h_rules, .inr (4, [.ref a_vals, .int now])), (a_vals, .inl (E.2.1, 8, .inl vals)), (h_ledger, .inr (1, [.ref h_rules, .ref h_book, .ref h_told, .ref h_written, .ref h_late, .ref a_sums, .ref a_asum])), (h_book, .inr (8, [.int (nI 40), .int (nI 3), .ref a_book, .int s_book])), (a_book, .inl (E.2.1, (40 * 3), .inl f_book)), (h_told, .inr (8, [.int (nI 60), .int (nI 1), .ref a_told, .int s_told])), (a_told, .inl (E.2.1, (60 * 1), .inl f_told)), (h_written, .inr (8, [.int (nI 40), .int (nI 2), .ref a_written, .int s_written])), (a_written, .inl (E.2.1, (40 * 2), .inl f_written)), (h_late, .inr (8, [.int (nI 60), .int (nI 1), .ref a_late, .int s_late])), (a_late, .inl (E.2.1, (60 * 1), .inl f_late)), (a_sums, .inl (E.2.1, 14, .inl sums)), (a_asum, .inl (E.2.1, 64, .inl asum)), (h_line, .inr (8, [.int (nI 256), .int (nI 3), .ref a_line, .int s_line])), (a_line, .inl (E.2.1, (256 * 3), .inl f_line)), (h_boxes, .inr (8, [.int (nI 192), .int (nI 3), .ref a_boxes, .int s_boxes])), (a_boxes, .inl (E.2.1, (192 * 3), .inl f_boxes))]) (c_X9_get E l h_waits a_waits 256 2 waits s_waits f_waits x4 0 ok_waits o_2 ev) B w [16, 17] [0, 1, 2, 3, 4, 5, 6, 7, 8, 9, 10, 11, 12, 13, 14, 15, 18, 19] rfl rfl (by decide) (by decide) (by decide) 16 rfl rfl cv_X9_get kw_474 2 (by decide +kernel) ⟨Nat.le_of_ble_eq_true rfl, Nat.le_of_ble_eq_true rfl⟩ rfl hl.1 rfl (Nat.le_of_ble_eq_true rfl) dX3_end_24 rfl rfl ⟨Nat.zero_le _, Nat.zero_le _⟩ (fun v w' H locs hpo w => ?_)
      clear ev
      obtain ⟨rfl, rfl⟩ := hpo
      have w : mW E A s [(h, .inr (2, [.ref h_rules, .ref h_ledger, .ref h_line, .ref h_waits, .ref h_boxes])), (h_rules, .inr (4, [.ref a_vals, .int now])), (a_vals, .inl (E.2.1, 8, .inl vals)), (h_ledger, .inr (1, [.ref h_rules, .ref h_book, .ref h_told, .ref h_written, .ref h_late, .ref a_sums, .ref a_asum])), (h_book, .inr (8, [.int (nI 40), .int (nI 3), .ref a_book, .int s_book])), (a_book, .inl (E.2.1, (40 * 3), .inl f_book)), (h_told, .inr (8, [.int (nI 60), .int (nI 1), .ref a_told, .int s_told])), (a_told, .inl (E.2.1, (60 * 1), .inl f_told)), (h_written, .inr (8, [.int (nI 40), .int (nI 2), .ref a_written, .int s_written])), (a_written, .inl (E.2.1, (40 * 2), .inl f_written)), (h_late, .inr (8, [.int (nI 60), .int (nI 1), .ref a_late, .int s_late])), (a_late, .inl (E.2.1, (60 * 1), .inl f_late)), (a_sums, .inl (E.2.1, 14, .inl sums)), (a_asum, .inl (E.2.1, 64, .inl asum)), (h_line, .inr (8, [.int (nI 256), .int (nI 3), .ref a_line, .int s_line])), (a_line, .inl (E.2.1, (256 * 3), .inl f_line)), (h_waits, .inr (8, [.int (nI 256), .int (nI 2), .ref a_waits, .int s_waits])), (a_waits, .inl (E.2.1, (256 * 2), .inl f_waits)), (h_boxes, .inr (8, [.int (nI 192), .int (nI 3), .ref a_boxes, .int s_boxes])), (a_boxes, .inl (E.2.1, (192 * 3), .inl f_boxes))] H locs := w.sub [0, 1, 2, 3, 4, 5, 6, 7, 8, 9, 10, 11, 12, 13, 14, 15, 18, 19, 16, 17] (by decide) rfl
      refine lv_iload_n hx hb dX3_end_27 rfl (lv_at hl 1 rfl) ?_
      refine lv_icmp_ne (tgt := 50) hx hb dX3_end_28 (by decide) (fun hc => ?_) (fun hc => ?_)
      · have hf := it_f hc hf
        exact j_X3_end_50 B _ _ hrec hk56 hf ok_book ok_told ok_written ok_late ok_line ok_waits ok_boxes w (lv_sub hl [0, 1, 2, 3, 4] rfl)
      · have hf := it_t hc hf
        refine lv_aload_n hx hb dX3_end_31 rfl (lv_at hl 0 rfl) ?_
        refine lv_aload_n hx hb dX3_end_32 rfl (lv_at hl 0 rfl) ?_
        refine mx_get B w 0 fl_X3_28 rfl rfl dX3_end_33 ?_
        refine lv_iload hx hb dX3_end_36 (lv_at hl 4 rfl) ?_
        refine lv_iconst (v := 1) hx hb dX3_end_38 (by decide) ?_
        obtain ⟨o_4, ev⟩ : ∃ y, y = tget waits x4 1 := ⟨_, rfl⟩
        have hf := lt_n ev hf
        refine mx_callV (As := [.int x4, .int 1]) (rest := [.ref h]) (wr := [(h, .inr (2, [.ref h_rules, .ref h_ledger, .ref h_line, .ref h_waits, .ref h_boxes])), (h_rules, .inr (4, [.ref a_vals, .int now])), (a_vals, .inl (E.2.1, 8, .inl vals)), (h_ledger, .inr (1, [.ref h_rules, .ref h_book, .ref h_told, .ref h_written, .ref h_late, .ref a_sums, .ref a_asum])), (h_book, .inr (8, [.int (nI 40), .int (nI 3), .ref a_book, .int s_book])), (a_book, .inl (E.2.1, (40 * 3), .inl f_book)), (h_told, .inr (8, [.int (nI 60), .int (nI 1), .ref a_told, .int s_told])), (a_told, .inl (E.2.1, (60 * 1), .inl f_told)), (h_written, .inr (8, [.int (nI 40), .int (nI 2), .ref a_written, .int s_written])), (a_written, .inl (E.2.1, (40 * 2), .inl f_written)), (h_late, .inr (8, [.int (nI 60), .int (nI 1), .ref a_late, .int s_late])), (a_late, .inl (E.2.1, (60 * 1), .inl f_late)), (a_sums, .inl (E.2.1, 14, .inl sums)), (a_asum, .inl (E.2.1, 64, .inl asum)), (h_line, .inr (8, [.int (nI 256), .int (nI 3), .ref a_line, .int s_line])), (a_line, .inl (E.2.1, (256 * 3), .inl f_line)), (h_boxes, .inr (8, [.int (nI 192), .int (nI 3), .ref a_boxes, .int s_boxes])), (a_boxes, .inl (E.2.1, (192 * 3), .inl f_boxes))]) (c_X9_get E l h_waits a_waits 256 2 waits s_waits f_waits x4 1 ok_waits o_4 ev) B w [16, 17] [0, 1, 2, 3, 4, 5, 6, 7, 8, 9, 10, 11, 12, 13, 14, 15, 18, 19] rfl rfl (by decide) (by decide) (by decide) 16 rfl rfl cv_X9_get kw_474 2 (by decide +kernel) ⟨Nat.le_of_ble_eq_true rfl, Nat.le_of_ble_eq_true rfl⟩ rfl hl.1 rfl (Nat.le_of_ble_eq_true rfl) dX3_end_39 rfl rfl ⟨Nat.zero_le _, Nat.zero_le _⟩ (fun v w' H locs hpo w => ?_)
        clear ev
        obtain ⟨rfl, rfl⟩ := hpo
        have w : mW E A s [(h, .inr (2, [.ref h_rules, .ref h_ledger, .ref h_line, .ref h_waits, .ref h_boxes])), (h_rules, .inr (4, [.ref a_vals, .int now])), (a_vals, .inl (E.2.1, 8, .inl vals)), (h_ledger, .inr (1, [.ref h_rules, .ref h_book, .ref h_told, .ref h_written, .ref h_late, .ref a_sums, .ref a_asum])), (h_book, .inr (8, [.int (nI 40), .int (nI 3), .ref a_book, .int s_book])), (a_book, .inl (E.2.1, (40 * 3), .inl f_book)), (h_told, .inr (8, [.int (nI 60), .int (nI 1), .ref a_told, .int s_told])), (a_told, .inl (E.2.1, (60 * 1), .inl f_told)), (h_written, .inr (8, [.int (nI 40), .int (nI 2), .ref a_written, .int s_written])), (a_written, .inl (E.2.1, (40 * 2), .inl f_written)), (h_late, .inr (8, [.int (nI 60), .int (nI 1), .ref a_late, .int s_late])), (a_late, .inl (E.2.1, (60 * 1), .inl f_late)), (a_sums, .inl (E.2.1, 14, .inl sums)), (a_asum, .inl (E.2.1, 64, .inl asum)), (h_line, .inr (8, [.int (nI 256), .int (nI 3), .ref a_line, .int s_line])), (a_line, .inl (E.2.1, (256 * 3), .inl f_line)), (h_waits, .inr (8, [.int (nI 256), .int (nI 2), .ref a_waits, .int s_waits])), (a_waits, .inl (E.2.1, (256 * 2), .inl f_waits)), (h_boxes, .inr (8, [.int (nI 192), .int (nI 3), .ref a_boxes, .int s_boxes])), (a_boxes, .inl (E.2.1, (192 * 3), .inl f_boxes))] H locs := w.sub [0, 1, 2, 3, 4, 5, 6, 7, 8, 9, 10, 11, 12, 13, 14, 15, 18, 19, 16, 17] (by decide) rfl
        refine lv_iload_n hx hb dX3_end_42 rfl (lv_at hl 1 rfl) ?_
        refine lv_iload_n hx hb dX3_end_43 rfl (lv_at hl 2 rfl) ?_
        obtain ⟨o_5, hq, hf⟩ := bd_e hf
        refine mx_callV (As := [.int o_4, .int x1, .int x2]) (rest := []) (wr := []) (d_X3_deliver E l  h h_rules a_vals h_ledger h_book a_book h_told a_told h_written a_written h_late a_late a_sums a_asum h_line a_line h_waits a_waits h_boxes a_boxes vals now book told written late sums asum line waits boxes s_book f_book s_told f_told s_written f_written s_late f_late s_line f_line s_waits f_waits s_boxes f_boxes o_4 x1 x2 ok_book ok_told ok_written ok_late ok_line ok_waits ok_boxes o_5 hq) B w [0, 1, 2, 3, 4, 5, 6, 7, 8, 9, 10, 11, 12, 13, 14, 15, 16, 17, 18, 19] [] rfl rfl (by decide) (by decide) (by decide) 0 rfl rfl cv_X3_deliver kw_504 3 (by decide +kernel) ⟨Nat.le_of_ble_eq_true rfl, Nat.le_of_ble_eq_true rfl⟩ rfl hl.1 rfl (Nat.le_of_ble_eq_true rfl) dX3_end_44 rfl rfl ⟨Nat.zero_le _, Nat.zero_le _⟩ (fun v w' H locs hpo w => ?_)
        clear hq
        obtain ⟨s_boxes_6, f_boxes_7, ok_boxes, rfl, rfl⟩ := hpo
        have w : mW E A s [(h, .inr (2, [.ref h_rules, .ref h_ledger, .ref h_line, .ref h_waits, .ref h_boxes])), (h_rules, .inr (4, [.ref a_vals, .int now])), (a_vals, .inl (E.2.1, 8, .inl vals)), (h_ledger, .inr (1, [.ref h_rules, .ref h_book, .ref h_told, .ref h_written, .ref h_late, .ref a_sums, .ref a_asum])), (h_book, .inr (8, [.int (nI 40), .int (nI 3), .ref a_book, .int s_book])), (a_book, .inl (E.2.1, (40 * 3), .inl f_book)), (h_told, .inr (8, [.int (nI 60), .int (nI 1), .ref a_told, .int s_told])), (a_told, .inl (E.2.1, (60 * 1), .inl f_told)), (h_written, .inr (8, [.int (nI 40), .int (nI 2), .ref a_written, .int s_written])), (a_written, .inl (E.2.1, (40 * 2), .inl f_written)), (h_late, .inr (8, [.int (nI 60), .int (nI 1), .ref a_late, .int s_late])), (a_late, .inl (E.2.1, (60 * 1), .inl f_late)), (a_sums, .inl (E.2.1, 14, .inl o_5.1)), (a_asum, .inl (E.2.1, 64, .inl o_5.2.1)), (h_line, .inr (8, [.int (nI 256), .int (nI 3), .ref a_line, .int s_line])), (a_line, .inl (E.2.1, (256 * 3), .inl f_line)), (h_waits, .inr (8, [.int (nI 256), .int (nI 2), .ref a_waits, .int s_waits])), (a_waits, .inl (E.2.1, (256 * 2), .inl f_waits)), (h_boxes, .inr (8, [.int (nI 192), .int (nI 3), .ref a_boxes, .int s_boxes_6])), (a_boxes, .inl (E.2.1, (192 * 3), .inl f_boxes_7))] H locs := w
        obtain ⟨x3_8, ev⟩ : ∃ y : Int32, y = x3 + 1 := ⟨_, rfl⟩
        refine lv_iinc (v := x3_8) (lv' := [(3, .int x3_8), (0, .ref h), (1, .int x1), (2, .int x2), (4, .int x4)]) hx hb dX3_end_47 hl (k := 3) rfl (by rw [ev]; rfl) (by decide) rfl (fun ls hl => ?_)
        have hf := lt_n ev hf; clear ev
        exact j_X3_end_50 B _ _ hrec hk56 hf ok_book ok_told ok_written ok_late ok_line ok_waits ok_boxes w (lv_sub hl [1, 2, 3, 0, 4] rfl)
noncomputable def F_X3_end (N : Nat)  (sums : Nat → Int32) (asum : Nat → Int32) (line : Rows) (waits : Rows) (boxes : Rows) (x1 : Int32) (x2 : Int32) : Option (Int32 × (Nat → Int32) × (Nat → Int32) × Rows × Rows × Rows) :=
  L_X3_end_5 N (fun x3 sums asum boxes => lt (tremoveAll waits 0 x1) (fun o_9 =>
  bd (F_X3_rowOf line x1) (fun o_12 =>
  lt (tremove line o_12) (fun o_13 =>
  some (x3, sums, asum, o_13, o_9, boxes))))) x1 x2 line waits N 0 0 sums asum boxes
set_option maxHeartbeats 4000000 in
set_option maxRecDepth 100000 in
theorem d_X3_end (E : mE) (l : Launch) (N : Nat) (h : Nat) (h_rules : Nat) (a_vals : Nat) (h_ledger : Nat) (h_book : Nat) (a_book : Nat) (h_told : Nat) (a_told : Nat) (h_written : Nat) (a_written : Nat) (h_late : Nat) (a_late : Nat) (a_sums : Nat) (a_asum : Nat) (h_line : Nat) (a_line : Nat) (h_waits : Nat) (a_waits : Nat) (h_boxes : Nat) (a_boxes : Nat)  (vals : Nat → Int32) (now : Int32) (book : Rows) (told : Rows) (written : Rows) (late : Rows) (sums : Nat → Int32) (asum : Nat → Int32) (line : Rows) (waits : Rows) (boxes : Rows) (s_book : Int32) (f_book : Nat → Int32) (s_told : Int32) (f_told : Nat → Int32) (s_written : Int32) (f_written : Nat → Int32) (s_late : Int32) (f_late : Nat → Int32) (s_line : Int32) (f_line : Nat → Int32) (s_waits : Int32) (f_waits : Nat → Int32) (s_boxes : Int32) (f_boxes : Nat → Int32) (x1 : Int32) (x2 : Int32) (ok_book : tb_ok 40 3 book s_book f_book) (ok_told : tb_ok 60 1 told s_told f_told) (ok_written : tb_ok 40 2 written s_written f_written) (ok_late : tb_ok 60 1 late s_late f_late) (ok_line : tb_ok 256 3 line s_line f_line) (ok_waits : tb_ok 256 2 waits s_waits f_waits) (ok_boxes : tb_ok 192 3 boxes s_boxes f_boxes) (o : Int32 × (Nat → Int32) × (Nat → Int32) × Rows × Rows × Rows) (hf : F_X3_end N sums asum line waits boxes x1 x2 = some o) : MX E l yX3_end cX3_end 5 (some .int) ({ frames := 4, cells := 0, slots := 0, locals := 93 } : Room) [.ref h, .int x1, .int x2] [(h, .inr (2, [.ref h_rules, .ref h_ledger, .ref h_line, .ref h_waits, .ref h_boxes])), (h_rules, .inr (4, [.ref a_vals, .int now])), (a_vals, .inl (E.2.1, 8, .inl vals)), (h_ledger, .inr (1, [.ref h_rules, .ref h_book, .ref h_told, .ref h_written, .ref h_late, .ref a_sums, .ref a_asum])), (h_book, .inr (8, [.int (nI 40), .int (nI 3), .ref a_book, .int s_book])), (a_book, .inl (E.2.1, (40 * 3), .inl f_book)), (h_told, .inr (8, [.int (nI 60), .int (nI 1), .ref a_told, .int s_told])), (a_told, .inl (E.2.1, (60 * 1), .inl f_told)), (h_written, .inr (8, [.int (nI 40), .int (nI 2), .ref a_written, .int s_written])), (a_written, .inl (E.2.1, (40 * 2), .inl f_written)), (h_late, .inr (8, [.int (nI 60), .int (nI 1), .ref a_late, .int s_late])), (a_late, .inl (E.2.1, (60 * 1), .inl f_late)), (a_sums, .inl (E.2.1, 14, .inl sums)), (a_asum, .inl (E.2.1, 64, .inl asum)), (h_line, .inr (8, [.int (nI 256), .int (nI 3), .ref a_line, .int s_line])), (a_line, .inl (E.2.1, (256 * 3), .inl f_line)), (h_waits, .inr (8, [.int (nI 256), .int (nI 2), .ref a_waits, .int s_waits])), (a_waits, .inl (E.2.1, (256 * 2), .inl f_waits)), (h_boxes, .inr (8, [.int (nI 192), .int (nI 3), .ref a_boxes, .int s_boxes])), (a_boxes, .inl (E.2.1, (192 * 3), .inl f_boxes))] (po_X3_end E h h_rules a_vals h_ledger h_book a_book h_told a_told h_written a_written h_late a_late a_sums a_asum h_line a_line h_waits a_waits h_boxes a_boxes vals now book told written late sums asum line waits boxes s_book f_book s_told f_told s_written f_written s_late f_late s_line f_line s_waits f_waits s_boxes f_boxes o) := by
  refine mx_intro (by decide +kernel) (Nat.le_of_ble_eq_true rfl) ?_
  intro p e s m args below meth c A Q ls B w hl
  obtain ⟨hx, hb, hml, hown, hts⟩ := id B.1
  unfold F_X3_end at hf
  have hl : lv_has ls 5 [(0, .ref h), (1, .int x1), (2, .int x2)] := hl
  refine lv_iconst (v := 0) hx hb dX3_end_0 (by decide) ?_
  refine lv_istore_n (lv' := [(3, .int 0), (0, .ref h), (1, .int x1), (2, .int x2)]) hx hb dX3_end_1 rfl hl (by decide) rfl (fun ls hl => ?_)
  refine lv_iconst (v := 0) hx hb dX3_end_2 (by decide) ?_
  refine lv_istore (lv' := [(4, .int 0), (3, .int 0), (0, .ref h), (1, .int x1), (2, .int x2)]) hx hb dX3_end_3 hl (by decide) rfl (fun ls hl => ?_)
  refine l_X3_end_5 B _ ok_book ok_told ok_written ok_late ok_line ok_waits ?_ N _ _ _ _ _ _ _ _ _ _ hf ok_boxes w (lv_sub hl [2, 3, 4, 1, 0] rfl)
  · intro x3 sums asum boxes s_boxes f_boxes H locs ls hf ok_boxes w hl
    refine lv_aload_n hx hb dX3_end_56 rfl (lv_at hl 0 rfl) ?_
    refine mx_get B w 0 fl_X3_28 rfl rfl dX3_end_57 ?_
    refine lv_iconst (v := 0) hx hb dX3_end_60 (by decide) ?_
    refine lv_iload_n hx hb dX3_end_61 rfl (lv_at hl 1 rfl) ?_
    obtain ⟨o_9, ev⟩ : ∃ y, y = tremoveAll waits 0 x1 := ⟨_, rfl⟩
    have hf := lt_n ev hf
    refine mx_callV (As := [.int 0, .int x1]) (rest := []) (wr := [(h, .inr (2, [.ref h_rules, .ref h_ledger, .ref h_line, .ref h_waits, .ref h_boxes])), (h_rules, .inr (4, [.ref a_vals, .int now])), (a_vals, .inl (E.2.1, 8, .inl vals)), (h_ledger, .inr (1, [.ref h_rules, .ref h_book, .ref h_told, .ref h_written, .ref h_late, .ref a_sums, .ref a_asum])), (h_book, .inr (8, [.int (nI 40), .int (nI 3), .ref a_book, .int s_book])), (a_book, .inl (E.2.1, (40 * 3), .inl f_book)), (h_told, .inr (8, [.int (nI 60), .int (nI 1), .ref a_told, .int s_told])), (a_told, .inl (E.2.1, (60 * 1), .inl f_told)), (h_written, .inr (8, [.int (nI 40), .int (nI 2), .ref a_written, .int s_written])), (a_written, .inl (E.2.1, (40 * 2), .inl f_written)), (h_late, .inr (8, [.int (nI 60), .int (nI 1), .ref a_late, .int s_late])), (a_late, .inl (E.2.1, (60 * 1), .inl f_late)), (a_sums, .inl (E.2.1, 14, .inl sums)), (a_asum, .inl (E.2.1, 64, .inl asum)), (h_line, .inr (8, [.int (nI 256), .int (nI 3), .ref a_line, .int s_line])), (a_line, .inl (E.2.1, (256 * 3), .inl f_line)), (h_boxes, .inr (8, [.int (nI 192), .int (nI 3), .ref a_boxes, .int s_boxes])), (a_boxes, .inl (E.2.1, (192 * 3), .inl f_boxes))]) (c_X9_removeAll E l h_waits a_waits 256 2 waits s_waits f_waits 0 x1 ok_waits o_9 ev) B w [16, 17] [0, 1, 2, 3, 4, 5, 6, 7, 8, 9, 10, 11, 12, 13, 14, 15, 18, 19] rfl rfl (by decide) (by decide) (by decide) 16 rfl rfl cv_X9_removeAll kw_527 2 (by decide +kernel) ⟨Nat.le_of_ble_eq_true rfl, Nat.le_of_ble_eq_true rfl⟩ rfl hl.1 rfl (Nat.le_of_ble_eq_true rfl) dX3_end_62 rfl rfl ⟨Nat.zero_le _, Nat.zero_le _⟩ (fun v w' H locs hpo w => ?_)
    clear ev
    obtain ⟨s_waits_10, f_waits_11, ok_waits, rfl, rfl⟩ := hpo
    have w : mW E A s [(h, .inr (2, [.ref h_rules, .ref h_ledger, .ref h_line, .ref h_waits, .ref h_boxes])), (h_rules, .inr (4, [.ref a_vals, .int now])), (a_vals, .inl (E.2.1, 8, .inl vals)), (h_ledger, .inr (1, [.ref h_rules, .ref h_book, .ref h_told, .ref h_written, .ref h_late, .ref a_sums, .ref a_asum])), (h_book, .inr (8, [.int (nI 40), .int (nI 3), .ref a_book, .int s_book])), (a_book, .inl (E.2.1, (40 * 3), .inl f_book)), (h_told, .inr (8, [.int (nI 60), .int (nI 1), .ref a_told, .int s_told])), (a_told, .inl (E.2.1, (60 * 1), .inl f_told)), (h_written, .inr (8, [.int (nI 40), .int (nI 2), .ref a_written, .int s_written])), (a_written, .inl (E.2.1, (40 * 2), .inl f_written)), (h_late, .inr (8, [.int (nI 60), .int (nI 1), .ref a_late, .int s_late])), (a_late, .inl (E.2.1, (60 * 1), .inl f_late)), (a_sums, .inl (E.2.1, 14, .inl sums)), (a_asum, .inl (E.2.1, 64, .inl asum)), (h_line, .inr (8, [.int (nI 256), .int (nI 3), .ref a_line, .int s_line])), (a_line, .inl (E.2.1, (256 * 3), .inl f_line)), (h_waits, .inr (8, [.int (nI 256), .int (nI 2), .ref a_waits, .int s_waits_10])), (a_waits, .inl (E.2.1, (256 * 2), .inl f_waits_11)), (h_boxes, .inr (8, [.int (nI 192), .int (nI 3), .ref a_boxes, .int s_boxes])), (a_boxes, .inl (E.2.1, (192 * 3), .inl f_boxes))] H locs := w.sub [0, 1, 2, 3, 4, 5, 6, 7, 8, 9, 10, 11, 12, 13, 14, 15, 18, 19, 16, 17] (by decide) rfl
    refine lv_aload_n hx hb dX3_end_65 rfl (lv_at hl 0 rfl) ?_
    refine mx_get B w 0 fl_X3_24 rfl rfl dX3_end_66 ?_
    refine lv_aload_n hx hb dX3_end_69 rfl (lv_at hl 0 rfl) ?_
    refine lv_iload_n hx hb dX3_end_70 rfl (lv_at hl 1 rfl) ?_
    obtain ⟨o_12, hq, hf⟩ := bd_e hf
    refine mx_callV (As := [.int x1]) (rest := [.ref h_line]) (wr := []) (d_X3_rowOf E l  h h_rules a_vals h_ledger h_book a_book h_told a_told h_written a_written h_late a_late a_sums a_asum h_line a_line h_waits a_waits h_boxes a_boxes vals now book told written late sums asum line o_9 boxes s_book f_book s_told f_told s_written f_written s_late f_late s_line f_line s_waits_10 f_waits_11 s_boxes f_boxes x1 ok_book ok_told ok_written ok_late ok_line ok_waits ok_boxes o_12 hq) B w [0, 1, 2, 3, 4, 5, 6, 7, 8, 9, 10, 11, 12, 13, 14, 15, 16, 17, 18, 19] [] rfl rfl (by decide) (by decide) (by decide) 0 rfl rfl cv_X3_rowOf kw_532 1 (by decide +kernel) ⟨Nat.le_of_ble_eq_true rfl, Nat.le_of_ble_eq_true rfl⟩ rfl hl.1 rfl (Nat.le_of_ble_eq_true rfl) dX3_end_71 rfl rfl ⟨Nat.zero_le _, Nat.zero_le _⟩ (fun v w' H locs hpo w => ?_)
    clear hq
    obtain ⟨rfl, rfl⟩ := hpo
    have w : mW E A s [(h, .inr (2, [.ref h_rules, .ref h_ledger, .ref h_line, .ref h_waits, .ref h_boxes])), (h_rules, .inr (4, [.ref a_vals, .int now])), (a_vals, .inl (E.2.1, 8, .inl vals)), (h_ledger, .inr (1, [.ref h_rules, .ref h_book, .ref h_told, .ref h_written, .ref h_late, .ref a_sums, .ref a_asum])), (h_book, .inr (8, [.int (nI 40), .int (nI 3), .ref a_book, .int s_book])), (a_book, .inl (E.2.1, (40 * 3), .inl f_book)), (h_told, .inr (8, [.int (nI 60), .int (nI 1), .ref a_told, .int s_told])), (a_told, .inl (E.2.1, (60 * 1), .inl f_told)), (h_written, .inr (8, [.int (nI 40), .int (nI 2), .ref a_written, .int s_written])), (a_written, .inl (E.2.1, (40 * 2), .inl f_written)), (h_late, .inr (8, [.int (nI 60), .int (nI 1), .ref a_late, .int s_late])), (a_late, .inl (E.2.1, (60 * 1), .inl f_late)), (a_sums, .inl (E.2.1, 14, .inl sums)), (a_asum, .inl (E.2.1, 64, .inl asum)), (h_line, .inr (8, [.int (nI 256), .int (nI 3), .ref a_line, .int s_line])), (a_line, .inl (E.2.1, (256 * 3), .inl f_line)), (h_waits, .inr (8, [.int (nI 256), .int (nI 2), .ref a_waits, .int s_waits_10])), (a_waits, .inl (E.2.1, (256 * 2), .inl f_waits_11)), (h_boxes, .inr (8, [.int (nI 192), .int (nI 3), .ref a_boxes, .int s_boxes])), (a_boxes, .inl (E.2.1, (192 * 3), .inl f_boxes))] H locs := w
    obtain ⟨o_13, ev⟩ : ∃ y, y = tremove line o_12 := ⟨_, rfl⟩
    have hf := lt_n ev hf
    refine mx_callV (As := [.int o_12]) (rest := []) (wr := [(h, .inr (2, [.ref h_rules, .ref h_ledger, .ref h_line, .ref h_waits, .ref h_boxes])), (h_rules, .inr (4, [.ref a_vals, .int now])), (a_vals, .inl (E.2.1, 8, .inl vals)), (h_ledger, .inr (1, [.ref h_rules, .ref h_book, .ref h_told, .ref h_written, .ref h_late, .ref a_sums, .ref a_asum])), (h_book, .inr (8, [.int (nI 40), .int (nI 3), .ref a_book, .int s_book])), (a_book, .inl (E.2.1, (40 * 3), .inl f_book)), (h_told, .inr (8, [.int (nI 60), .int (nI 1), .ref a_told, .int s_told])), (a_told, .inl (E.2.1, (60 * 1), .inl f_told)), (h_written, .inr (8, [.int (nI 40), .int (nI 2), .ref a_written, .int s_written])), (a_written, .inl (E.2.1, (40 * 2), .inl f_written)), (h_late, .inr (8, [.int (nI 60), .int (nI 1), .ref a_late, .int s_late])), (a_late, .inl (E.2.1, (60 * 1), .inl f_late)), (a_sums, .inl (E.2.1, 14, .inl sums)), (a_asum, .inl (E.2.1, 64, .inl asum)), (h_waits, .inr (8, [.int (nI 256), .int (nI 2), .ref a_waits, .int s_waits_10])), (a_waits, .inl (E.2.1, (256 * 2), .inl f_waits_11)), (h_boxes, .inr (8, [.int (nI 192), .int (nI 3), .ref a_boxes, .int s_boxes])), (a_boxes, .inl (E.2.1, (192 * 3), .inl f_boxes))]) (c_X9_remove E l h_line a_line 256 3 line s_line f_line o_12 ok_line o_13 ev) B w [14, 15] [0, 1, 2, 3, 4, 5, 6, 7, 8, 9, 10, 11, 12, 13, 16, 17, 18, 19] rfl rfl (by decide) (by decide) (by decide) 14 rfl rfl cv_X9_remove kw_516 1 (by decide +kernel) ⟨Nat.le_of_ble_eq_true rfl, Nat.le_of_ble_eq_true rfl⟩ rfl hl.1 rfl (Nat.le_of_ble_eq_true rfl) dX3_end_74 rfl rfl ⟨Nat.zero_le _, Nat.zero_le _⟩ (fun v w' H locs hpo w => ?_)
    clear ev
    obtain ⟨s_line_14, f_line_15, ok_line, rfl, rfl⟩ := hpo
    have w : mW E A s [(h, .inr (2, [.ref h_rules, .ref h_ledger, .ref h_line, .ref h_waits, .ref h_boxes])), (h_rules, .inr (4, [.ref a_vals, .int now])), (a_vals, .inl (E.2.1, 8, .inl vals)), (h_ledger, .inr (1, [.ref h_rules, .ref h_book, .ref h_told, .ref h_written, .ref h_late, .ref a_sums, .ref a_asum])), (h_book, .inr (8, [.int (nI 40), .int (nI 3), .ref a_book, .int s_book])), (a_book, .inl (E.2.1, (40 * 3), .inl f_book)), (h_told, .inr (8, [.int (nI 60), .int (nI 1), .ref a_told, .int s_told])), (a_told, .inl (E.2.1, (60 * 1), .inl f_told)), (h_written, .inr (8, [.int (nI 40), .int (nI 2), .ref a_written, .int s_written])), (a_written, .inl (E.2.1, (40 * 2), .inl f_written)), (h_late, .inr (8, [.int (nI 60), .int (nI 1), .ref a_late, .int s_late])), (a_late, .inl (E.2.1, (60 * 1), .inl f_late)), (a_sums, .inl (E.2.1, 14, .inl sums)), (a_asum, .inl (E.2.1, 64, .inl asum)), (h_line, .inr (8, [.int (nI 256), .int (nI 3), .ref a_line, .int s_line_14])), (a_line, .inl (E.2.1, (256 * 3), .inl f_line_15)), (h_waits, .inr (8, [.int (nI 256), .int (nI 2), .ref a_waits, .int s_waits_10])), (a_waits, .inl (E.2.1, (256 * 2), .inl f_waits_11)), (h_boxes, .inr (8, [.int (nI 192), .int (nI 3), .ref a_boxes, .int s_boxes])), (a_boxes, .inl (E.2.1, (192 * 3), .inl f_boxes))] H locs := w.sub [0, 1, 2, 3, 4, 5, 6, 7, 8, 9, 10, 11, 12, 13, 18, 19, 14, 15, 16, 17] (by decide) rfl
    refine lv_iload_n hx hb dX3_end_77 rfl (lv_at hl 2 rfl) ?_
    cases hf
    exact mx_iret B w ⟨_, _, _, _, _, _, ok_line, ok_waits, ok_boxes, rfl, rfl⟩ dX3_end_78
-- X3_fail
def po_X3_fail (E : mE) (h : Nat) (h_rules : Nat) (a_vals : Nat) (h_ledger : Nat) (h_book : Nat) (a_book : Nat) (h_told : Nat) (a_told : Nat) (h_written : Nat) (a_written : Nat) (h_late : Nat) (a_late : Nat) (a_sums : Nat) (a_asum : Nat) (h_line : Nat) (a_line : Nat) (h_waits : Nat) (a_waits : Nat) (h_boxes : Nat) (a_boxes : Nat)  (vals : Nat → Int32) (now : Int32) (book : Rows) (told : Rows) (written : Rows) (late : Rows) (sums : Nat → Int32) (asum : Nat → Int32) (line : Rows) (waits : Rows) (boxes : Rows) (s_book : Int32) (f_book : Nat → Int32) (s_told : Int32) (f_told : Nat → Int32) (s_written : Int32) (f_written : Nat → Int32) (s_late : Int32) (f_late : Nat → Int32) (s_line : Int32) (f_line : Nat → Int32) (s_waits : Int32) (f_waits : Nat → Int32) (s_boxes : Int32) (f_boxes : Nat → Int32) (o : Int32 × Rows × Rows × (Nat → Int32) × (Nat → Int32) × Rows × Rows × Rows) : Option Value → va_W → Prop := (fun (v : Option Value) (w' : va_W) => ∃ (s_book' : Int32) (f_book' : Nat → Int32) (s_told' : Int32) (f_told' : Nat → Int32) (s_line' : Int32) (f_line' : Nat → Int32) (s_waits' : Int32) (f_waits' : Nat → Int32) (s_boxes' : Int32) (f_boxes' : Nat → Int32), tb_ok 40 3 o.2.1 s_book' f_book' ∧ tb_ok 60 1 o.2.2.1 s_told' f_told' ∧ tb_ok 256 3 o.2.2.2.2.2.1 s_line' f_line' ∧ tb_ok 256 2 o.2.2.2.2.2.2.1 s_waits' f_waits' ∧ tb_ok 192 3 o.2.2.2.2.2.2.2 s_boxes' f_boxes' ∧ v = some (.int o.1) ∧ w' = [(h, .inr (2, [.ref h_rules, .ref h_ledger, .ref h_line, .ref h_waits, .ref h_boxes])), (h_rules, .inr (4, [.ref a_vals, .int now])), (a_vals, .inl (E.2.1, 8, .inl vals)), (h_ledger, .inr (1, [.ref h_rules, .ref h_book, .ref h_told, .ref h_written, .ref h_late, .ref a_sums, .ref a_asum])), (h_book, .inr (8, [.int (nI 40), .int (nI 3), .ref a_book, .int s_book'])), (a_book, .inl (E.2.1, (40 * 3), .inl f_book')), (h_told, .inr (8, [.int (nI 60), .int (nI 1), .ref a_told, .int s_told'])), (a_told, .inl (E.2.1, (60 * 1), .inl f_told')), (h_written, .inr (8, [.int (nI 40), .int (nI 2), .ref a_written, .int s_written])), (a_written, .inl (E.2.1, (40 * 2), .inl f_written)), (h_late, .inr (8, [.int (nI 60), .int (nI 1), .ref a_late, .int s_late])), (a_late, .inl (E.2.1, (60 * 1), .inl f_late)), (a_sums, .inl (E.2.1, 14, .inl o.2.2.2.1)), (a_asum, .inl (E.2.1, 64, .inl o.2.2.2.2.1)), (h_line, .inr (8, [.int (nI 256), .int (nI 3), .ref a_line, .int s_line'])), (a_line, .inl (E.2.1, (256 * 3), .inl f_line')), (h_waits, .inr (8, [.int (nI 256), .int (nI 2), .ref a_waits, .int s_waits'])), (a_waits, .inl (E.2.1, (256 * 2), .inl f_waits')), (h_boxes, .inr (8, [.int (nI 192), .int (nI 3), .ref a_boxes, .int s_boxes'])), (a_boxes, .inl (E.2.1, (192 * 3), .inl f_boxes'))])
noncomputable def F_X3_fail (N : Nat)  (vals : Nat → Int32) (now : Int32) (book : Rows) (told : Rows) (sums : Nat → Int32) (asum : Nat → Int32) (line : Rows) (waits : Rows) (boxes : Rows) (x1 : Int32) (x2 : Int32) : Option (Int32 × Rows × Rows × (Nat → Int32) × (Nat → Int32) × Rows × Rows × Rows) :=
  bd (F_X2_note N now book sums 6 x1) (fun o_1 =>
  bd (F_X3_end N o_1.2 asum line waits boxes x1 (-x2)) (fun o_4 =>
  bd (F_X3_runWhatMay N vals now o_1.1 told o_4.2.1 o_4.2.2.2.1) (fun o_11 =>
  some (o_4.1, o_11.1, o_11.2.1, o_11.2.2.1, o_4.2.2.1, o_11.2.2.2, o_4.2.2.2.2.1, o_4.2.2.2.2.2))))
set_option maxHeartbeats 4000000 in
set_option maxRecDepth 100000 in
theorem d_X3_fail (E : mE) (l : Launch) (N : Nat) (h : Nat) (h_rules : Nat) (a_vals : Nat) (h_ledger : Nat) (h_book : Nat) (a_book : Nat) (h_told : Nat) (a_told : Nat) (h_written : Nat) (a_written : Nat) (h_late : Nat) (a_late : Nat) (a_sums : Nat) (a_asum : Nat) (h_line : Nat) (a_line : Nat) (h_waits : Nat) (a_waits : Nat) (h_boxes : Nat) (a_boxes : Nat)  (vals : Nat → Int32) (now : Int32) (book : Rows) (told : Rows) (written : Rows) (late : Rows) (sums : Nat → Int32) (asum : Nat → Int32) (line : Rows) (waits : Rows) (boxes : Rows) (s_book : Int32) (f_book : Nat → Int32) (s_told : Int32) (f_told : Nat → Int32) (s_written : Int32) (f_written : Nat → Int32) (s_late : Int32) (f_late : Nat → Int32) (s_line : Int32) (f_line : Nat → Int32) (s_waits : Int32) (f_waits : Nat → Int32) (s_boxes : Int32) (f_boxes : Nat → Int32) (x1 : Int32) (x2 : Int32) (ok_book : tb_ok 40 3 book s_book f_book) (ok_told : tb_ok 60 1 told s_told f_told) (ok_written : tb_ok 40 2 written s_written f_written) (ok_late : tb_ok 60 1 late s_late f_late) (ok_line : tb_ok 256 3 line s_line f_line) (ok_waits : tb_ok 256 2 waits s_waits f_waits) (ok_boxes : tb_ok 192 3 boxes s_boxes f_boxes) (o : Int32 × Rows × Rows × (Nat → Int32) × (Nat → Int32) × Rows × Rows × Rows) (hf : F_X3_fail N vals now book told sums asum line waits boxes x1 x2 = some o) : MX E l yX3_fail cX3_fail 4 (some .int) ({ frames := 5, cells := 0, slots := 0, locals := 117 } : Room) [.ref h, .int x1, .int x2] [(h, .inr (2, [.ref h_rules, .ref h_ledger, .ref h_line, .ref h_waits, .ref h_boxes])), (h_rules, .inr (4, [.ref a_vals, .int now])), (a_vals, .inl (E.2.1, 8, .inl vals)), (h_ledger, .inr (1, [.ref h_rules, .ref h_book, .ref h_told, .ref h_written, .ref h_late, .ref a_sums, .ref a_asum])), (h_book, .inr (8, [.int (nI 40), .int (nI 3), .ref a_book, .int s_book])), (a_book, .inl (E.2.1, (40 * 3), .inl f_book)), (h_told, .inr (8, [.int (nI 60), .int (nI 1), .ref a_told, .int s_told])), (a_told, .inl (E.2.1, (60 * 1), .inl f_told)), (h_written, .inr (8, [.int (nI 40), .int (nI 2), .ref a_written, .int s_written])), (a_written, .inl (E.2.1, (40 * 2), .inl f_written)), (h_late, .inr (8, [.int (nI 60), .int (nI 1), .ref a_late, .int s_late])), (a_late, .inl (E.2.1, (60 * 1), .inl f_late)), (a_sums, .inl (E.2.1, 14, .inl sums)), (a_asum, .inl (E.2.1, 64, .inl asum)), (h_line, .inr (8, [.int (nI 256), .int (nI 3), .ref a_line, .int s_line])), (a_line, .inl (E.2.1, (256 * 3), .inl f_line)), (h_waits, .inr (8, [.int (nI 256), .int (nI 2), .ref a_waits, .int s_waits])), (a_waits, .inl (E.2.1, (256 * 2), .inl f_waits)), (h_boxes, .inr (8, [.int (nI 192), .int (nI 3), .ref a_boxes, .int s_boxes])), (a_boxes, .inl (E.2.1, (192 * 3), .inl f_boxes))] (po_X3_fail E h h_rules a_vals h_ledger h_book a_book h_told a_told h_written a_written h_late a_late a_sums a_asum h_line a_line h_waits a_waits h_boxes a_boxes vals now book told written late sums asum line waits boxes s_book f_book s_told f_told s_written f_written s_late f_late s_line f_line s_waits f_waits s_boxes f_boxes o) := by
  refine mx_intro (by decide +kernel) (Nat.le_of_ble_eq_true rfl) ?_
  intro p e s m args below meth c A Q ls B w hl
  obtain ⟨hx, hb, hml, hown, hts⟩ := id B.1
  unfold F_X3_fail at hf
  have hl : lv_has ls 4 [(0, .ref h), (1, .int x1), (2, .int x2)] := hl
  refine lv_aload_n hx hb dX3_fail_0 rfl (lv_at hl 0 rfl) ?_
  refine mx_get B w 0 fl_X3_15 rfl rfl dX3_fail_1 ?_
  refine lv_bipush (v := 6) hx hb dX3_fail_4 (by decide) ?_
  refine lv_iload_n hx hb dX3_fail_6 rfl (lv_at hl 1 rfl) ?_
  obtain ⟨o_1, hq, hf⟩ := bd_e hf
  refine mx_callV (As := [.int 6, .int x1]) (rest := []) (wr := [(h, .inr (2, [.ref h_rules, .ref h_ledger, .ref h_line, .ref h_waits, .ref h_boxes])), (h_line, .inr (8, [.int (nI 256), .int (nI 3), .ref a_line, .int s_line])), (a_line, .inl (E.2.1, (256 * 3), .inl f_line)), (h_waits, .inr (8, [.int (nI 256), .int (nI 2), .ref a_waits, .int s_waits])), (a_waits, .inl (E.2.1, (256 * 2), .inl f_waits)), (h_boxes, .inr (8, [.int (nI 192), .int (nI 3), .ref a_boxes, .int s_boxes])), (a_boxes, .inl (E.2.1, (192 * 3), .inl f_boxes))]) (d_X2_note E l N h_ledger h_rules a_vals h_book a_book h_told a_told h_written a_written h_late a_late a_sums a_asum vals now book told written late sums asum s_book f_book s_told f_told s_written f_written s_late f_late 6 x1 ok_book ok_told ok_written ok_late o_1 hq) B w [3, 1, 2, 4, 5, 6, 7, 8, 9, 10, 11, 12, 13] [0, 14, 15, 16, 17, 18, 19] rfl rfl (by decide) (by decide) (by decide) 3 rfl rfl cv_X2_note kw_495 2 (by decide +kernel) ⟨Nat.le_of_ble_eq_true rfl, Nat.le_of_ble_eq_true rfl⟩ rfl hl.1 rfl (Nat.le_of_ble_eq_true rfl) dX3_fail_7 rfl rfl ⟨Nat.zero_le _, Nat.zero_le _⟩ (fun v w' H locs hpo w => ?_)
  clear hq
  obtain ⟨s_book_2, f_book_3, ok_book, rfl, rfl⟩ := hpo
  have w : mW E A s [(h, .inr (2, [.ref h_rules, .ref h_ledger, .ref h_line, .ref h_waits, .ref h_boxes])), (h_rules, .inr (4, [.ref a_vals, .int now])), (a_vals, .inl (E.2.1, 8, .inl vals)), (h_ledger, .inr (1, [.ref h_rules, .ref h_book, .ref h_told, .ref h_written, .ref h_late, .ref a_sums, .ref a_asum])), (h_book, .inr (8, [.int (nI 40), .int (nI 3), .ref a_book, .int s_book_2])), (a_book, .inl (E.2.1, (40 * 3), .inl f_book_3)), (h_told, .inr (8, [.int (nI 60), .int (nI 1), .ref a_told, .int s_told])), (a_told, .inl (E.2.1, (60 * 1), .inl f_told)), (h_written, .inr (8, [.int (nI 40), .int (nI 2), .ref a_written, .int s_written])), (a_written, .inl (E.2.1, (40 * 2), .inl f_written)), (h_late, .inr (8, [.int (nI 60), .int (nI 1), .ref a_late, .int s_late])), (a_late, .inl (E.2.1, (60 * 1), .inl f_late)), (a_sums, .inl (E.2.1, 14, .inl o_1.2)), (a_asum, .inl (E.2.1, 64, .inl asum)), (h_line, .inr (8, [.int (nI 256), .int (nI 3), .ref a_line, .int s_line])), (a_line, .inl (E.2.1, (256 * 3), .inl f_line)), (h_waits, .inr (8, [.int (nI 256), .int (nI 2), .ref a_waits, .int s_waits])), (a_waits, .inl (E.2.1, (256 * 2), .inl f_waits)), (h_boxes, .inr (8, [.int (nI 192), .int (nI 3), .ref a_boxes, .int s_boxes])), (a_boxes, .inl (E.2.1, (192 * 3), .inl f_boxes))] H locs := w.sub [0, 8, 9, 7, 10, 11, 12, 13, 14, 15, 16, 17, 18, 19, 1, 2, 3, 4, 5, 6] (by decide) rfl
  refine lv_aload_n hx hb dX3_fail_10 rfl (lv_at hl 0 rfl) ?_
  refine lv_iload_n hx hb dX3_fail_11 rfl (lv_at hl 1 rfl) ?_
  refine lv_iload_n hx hb dX3_fail_12 rfl (lv_at hl 2 rfl) ?_
  refine lv_ineg hx hb dX3_fail_13 ?_
  obtain ⟨o_4, hq, hf⟩ := bd_e hf
  refine mx_callV (As := [.int x1, .int (-x2)]) (rest := []) (wr := []) (d_X3_end E l N h h_rules a_vals h_ledger h_book a_book h_told a_told h_written a_written h_late a_late a_sums a_asum h_line a_line h_waits a_waits h_boxes a_boxes vals now o_1.1 told written late o_1.2 asum line waits boxes s_book_2 f_book_3 s_told f_told s_written f_written s_late f_late s_line f_line s_waits f_waits s_boxes f_boxes x1 (-x2) ok_book ok_told ok_written ok_late ok_line ok_waits ok_boxes o_4 hq) B w [0, 1, 2, 3, 4, 5, 6, 7, 8, 9, 10, 11, 12, 13, 14, 15, 16, 17, 18, 19] [] rfl rfl (by decide) (by decide) (by decide) 0 rfl rfl cv_X3_end kw_500 2 (by decide +kernel) ⟨Nat.le_of_ble_eq_true rfl, Nat.le_of_ble_eq_true rfl⟩ rfl hl.1 rfl (Nat.le_of_ble_eq_true rfl) dX3_fail_14 rfl rfl ⟨Nat.zero_le _, Nat.zero_le _⟩ (fun v w' H locs hpo w => ?_)
  clear hq
  obtain ⟨s_line_5, f_line_6, s_waits_7, f_waits_8, s_boxes_9, f_boxes_10, ok_line, ok_waits, ok_boxes, rfl, rfl⟩ := hpo
  have w : mW E A s [(h, .inr (2, [.ref h_rules, .ref h_ledger, .ref h_line, .ref h_waits, .ref h_boxes])), (h_rules, .inr (4, [.ref a_vals, .int now])), (a_vals, .inl (E.2.1, 8, .inl vals)), (h_ledger, .inr (1, [.ref h_rules, .ref h_book, .ref h_told, .ref h_written, .ref h_late, .ref a_sums, .ref a_asum])), (h_book, .inr (8, [.int (nI 40), .int (nI 3), .ref a_book, .int s_book_2])), (a_book, .inl (E.2.1, (40 * 3), .inl f_book_3)), (h_told, .inr (8, [.int (nI 60), .int (nI 1), .ref a_told, .int s_told])), (a_told, .inl (E.2.1, (60 * 1), .inl f_told)), (h_written, .inr (8, [.int (nI 40), .int (nI 2), .ref a_written, .int s_written])), (a_written, .inl (E.2.1, (40 * 2), .inl f_written)), (h_late, .inr (8, [.int (nI 60), .int (nI 1), .ref a_late, .int s_late])), (a_late, .inl (E.2.1, (60 * 1), .inl f_late)), (a_sums, .inl (E.2.1, 14, .inl o_4.2.1)), (a_asum, .inl (E.2.1, 64, .inl o_4.2.2.1)), (h_line, .inr (8, [.int (nI 256), .int (nI 3), .ref a_line, .int s_line_5])), (a_line, .inl (E.2.1, (256 * 3), .inl f_line_6)), (h_waits, .inr (8, [.int (nI 256), .int (nI 2), .ref a_waits, .int s_waits_7])), (a_waits, .inl (E.2.1, (256 * 2), .inl f_waits_8)), (h_boxes, .inr (8, [.int (nI 192), .int (nI 3), .ref a_boxes, .int s_boxes_9])), (a_boxes, .inl (E.2.1, (192 * 3), .inl f_boxes_10))] H locs := w
  refine lv_istore_n (lv' := [(3, .int o_4.1), (0, .ref h), (1, .int x1), (2, .int x2)]) hx hb dX3_fail_17 rfl hl (by decide) rfl (fun ls hl => ?_)
  refine lv_aload_n hx hb dX3_fail_18 rfl (lv_at hl 1 rfl) ?_
  obtain ⟨o_11, hq, hf⟩ := bd_e hf
  refine mx_callV (As := []) (rest := []) (wr := []) (d_X3_runWhatMay E l N h h_rules a_vals h_ledger h_book a_book h_told a_told h_written a_written h_late a_late a_sums a_asum h_line a_line h_waits a_waits h_boxes a_boxes vals now o_1.1 told written late o_4.2.1 o_4.2.2.1 o_4.2.2.2.1 o_4.2.2.2.2.1 o_4.2.2.2.2.2 s_book_2 f_book_3 s_told f_told s_written f_written s_late f_late s_line_5 f_line_6 s_waits_7 f_waits_8 s_boxes_9 f_boxes_10  ok_book ok_told ok_written ok_late ok_line ok_waits ok_boxes o_11 hq) B w [0, 1, 2, 3, 4, 5, 6, 7, 8, 9, 10, 11, 12, 13, 14, 15, 16, 17, 18, 19] [] rfl rfl (by decide) (by decide) (by decide) 0 rfl rfl cv_X3_runWhatMay kw_536 0 (by decide +kernel) ⟨Nat.le_of_ble_eq_true rfl, Nat.le_of_ble_eq_true rfl⟩ rfl hl.1 rfl (Nat.le_of_ble_eq_true rfl) dX3_fail_19 rfl rfl ⟨Nat.zero_le _, Nat.zero_le _⟩ (fun v w' H locs hpo w => ?_)
  clear hq
  obtain ⟨s_book_12, f_book_13, s_told_14, f_told_15, s_line_16, f_line_17, ok_book, ok_told, ok_line, rfl, rfl⟩ := hpo
  have w : mW E A s [(h, .inr (2, [.ref h_rules, .ref h_ledger, .ref h_line, .ref h_waits, .ref h_boxes])), (h_rules, .inr (4, [.ref a_vals, .int now])), (a_vals, .inl (E.2.1, 8, .inl vals)), (h_ledger, .inr (1, [.ref h_rules, .ref h_book, .ref h_told, .ref h_written, .ref h_late, .ref a_sums, .ref a_asum])), (h_book, .inr (8, [.int (nI 40), .int (nI 3), .ref a_book, .int s_book_12])), (a_book, .inl (E.2.1, (40 * 3), .inl f_book_13)), (h_told, .inr (8, [.int (nI 60), .int (nI 1), .ref a_told, .int s_told_14])), (a_told, .inl (E.2.1, (60 * 1), .inl f_told_15)), (h_written, .inr (8, [.int (nI 40), .int (nI 2), .ref a_written, .int s_written])), (a_written, .inl (E.2.1, (40 * 2), .inl f_written)), (h_late, .inr (8, [.int (nI 60), .int (nI 1), .ref a_late, .int s_late])), (a_late, .inl (E.2.1, (60 * 1), .inl f_late)), (a_sums, .inl (E.2.1, 14, .inl o_11.2.2.1)), (a_asum, .inl (E.2.1, 64, .inl o_4.2.2.1)), (h_line, .inr (8, [.int (nI 256), .int (nI 3), .ref a_line, .int s_line_16])), (a_line, .inl (E.2.1, (256 * 3), .inl f_line_17)), (h_waits, .inr (8, [.int (nI 256), .int (nI 2), .ref a_waits, .int s_waits_7])), (a_waits, .inl (E.2.1, (256 * 2), .inl f_waits_8)), (h_boxes, .inr (8, [.int (nI 192), .int (nI 3), .ref a_boxes, .int s_boxes_9])), (a_boxes, .inl (E.2.1, (192 * 3), .inl f_boxes_10))] H locs := w
  refine lv_iload_n hx hb dX3_fail_22 rfl (lv_at hl 0 rfl) ?_
  cases hf
  exact mx_iret B w ⟨_, _, _, _, _, _, _, _, _, _, ok_book, ok_told, ok_line, ok_waits, ok_boxes, rfl, rfl⟩ dX3_fail_23
-- X3_endLeases
def po_X3_endLeases (E : mE) (h : Nat) (h_rules : Nat) (a_vals : Nat) (h_ledger : Nat) (h_book : Nat) (a_book : Nat) (h_told : Nat) (a_told : Nat) (h_written : Nat) (a_written : Nat) (h_late : Nat) (a_late : Nat) (a_sums : Nat) (a_asum : Nat) (h_line : Nat) (a_line : Nat) (h_waits : Nat) (a_waits : Nat) (h_boxes : Nat) (a_boxes : Nat)  (vals : Nat → Int32) (now : Int32) (book : Rows) (told : Rows) (written : Rows) (late : Rows) (sums : Nat → Int32) (asum : Nat → Int32) (line : Rows) (waits : Rows) (boxes : Rows) (s_book : Int32) (f_book : Nat → Int32) (s_told : Int32) (f_told : Nat → Int32) (s_written : Int32) (f_written : Nat → Int32) (s_late : Int32) (f_late : Nat → Int32) (s_line : Int32) (f_line : Nat → Int32) (s_waits : Int32) (f_waits : Nat → Int32) (s_boxes : Int32) (f_boxes : Nat → Int32) (o : Rows × Rows × (Nat → Int32) × (Nat → Int32) × Rows × Rows × Rows) : Option Value → va_W → Prop := (fun (v : Option Value) (w' : va_W) => ∃ (s_book' : Int32) (f_book' : Nat → Int32) (s_told' : Int32) (f_told' : Nat → Int32) (s_line' : Int32) (f_line' : Nat → Int32) (s_waits' : Int32) (f_waits' : Nat → Int32) (s_boxes' : Int32) (f_boxes' : Nat → Int32), tb_ok 40 3 o.1 s_book' f_book' ∧ tb_ok 60 1 o.2.1 s_told' f_told' ∧ tb_ok 256 3 o.2.2.2.2.1 s_line' f_line' ∧ tb_ok 256 2 o.2.2.2.2.2.1 s_waits' f_waits' ∧ tb_ok 192 3 o.2.2.2.2.2.2 s_boxes' f_boxes' ∧ v = none ∧ w' = [(h, .inr (2, [.ref h_rules, .ref h_ledger, .ref h_line, .ref h_waits, .ref h_boxes])), (h_rules, .inr (4, [.ref a_vals, .int now])), (a_vals, .inl (E.2.1, 8, .inl vals)), (h_ledger, .inr (1, [.ref h_rules, .ref h_book, .ref h_told, .ref h_written, .ref h_late, .ref a_sums, .ref a_asum])), (h_book, .inr (8, [.int (nI 40), .int (nI 3), .ref a_book, .int s_book'])), (a_book, .inl (E.2.1, (40 * 3), .inl f_book')), (h_told, .inr (8, [.int (nI 60), .int (nI 1), .ref a_told, .int s_told'])), (a_told, .inl (E.2.1, (60 * 1), .inl f_told')), (h_written, .inr (8, [.int (nI 40), .int (nI 2), .ref a_written, .int s_written])), (a_written, .inl (E.2.1, (40 * 2), .inl f_written)), (h_late, .inr (8, [.int (nI 60), .int (nI 1), .ref a_late, .int s_late])), (a_late, .inl (E.2.1, (60 * 1), .inl f_late)), (a_sums, .inl (E.2.1, 14, .inl o.2.2.1)), (a_asum, .inl (E.2.1, 64, .inl o.2.2.2.1)), (h_line, .inr (8, [.int (nI 256), .int (nI 3), .ref a_line, .int s_line'])), (a_line, .inl (E.2.1, (256 * 3), .inl f_line')), (h_waits, .inr (8, [.int (nI 256), .int (nI 2), .ref a_waits, .int s_waits'])), (a_waits, .inl (E.2.1, (256 * 2), .inl f_waits')), (h_boxes, .inr (8, [.int (nI 192), .int (nI 3), .ref a_boxes, .int s_boxes'])), (a_boxes, .inl (E.2.1, (192 * 3), .inl f_boxes'))])
noncomputable def K_X3_endLeases_5 (N : Nat)  (rec : Int32 → Rows → Rows → (Nat → Int32) → (Nat → Int32) → Rows → Rows → Rows → (Option (Rows × Rows × (Nat → Int32) × (Nat → Int32) × Rows × Rows × Rows))) (k64 : Rows → Rows → (Nat → Int32) → (Nat → Int32) → Rows → Rows → Rows → (Option (Rows × Rows × (Nat → Int32) × (Nat → Int32) × Rows × Rows × Rows)))  (vals : Nat → Int32) (now : Int32) (x1 : Int32) (book : Rows) (told : Rows) (sums : Nat → Int32) (asum : Nat → Int32) (line : Rows) (waits : Rows) (boxes : Rows) : Option (Rows × Rows × (Nat → Int32) × (Nat → Int32) × Rows × Rows × Rows) :=
  if (x1 ≤ 0 : Prop) then
  k64 book told sums asum line waits boxes
  else
  lt (tget line 0 2) (fun o_2 =>
  bd (F_X5_hasPassed vals now 7 o_2) (fun o_3 =>
  if (o_3 = 0 : Prop) then
  k64 book told sums asum line waits boxes
  else
  lt (tget line 0 0) (fun o_4 =>
  bd (F_X2_note N now book sums 13 o_4) (fun o_5 =>
  bd (F_X3_fail N vals now o_5.1 told o_5.2 asum line waits boxes o_4 99) (fun o_8 =>
  lt (x1 + (-1)) (fun x1_19 =>
  rec x1_19 o_8.2.1 o_8.2.2.1 o_8.2.2.2.1 o_8.2.2.2.2.1 o_8.2.2.2.2.2.1 o_8.2.2.2.2.2.2.1 o_8.2.2.2.2.2.2.2))))))
noncomputable def L_X3_endLeases_5 (N : Nat)  (k64 : Rows → Rows → (Nat → Int32) → (Nat → Int32) → Rows → Rows → Rows → (Option (Rows × Rows × (Nat → Int32) × (Nat → Int32) × Rows × Rows × Rows)))  (vals : Nat → Int32) (now : Int32) (n : Nat) : Int32 → Rows → Rows → (Nat → Int32) → (Nat → Int32) → Rows → Rows → Rows → (Option (Rows × Rows × (Nat → Int32) × (Nat → Int32) × Rows × Rows × Rows)) :=
  Nat.rec (motive := fun _ => Int32 → Rows → Rows → (Nat → Int32) → (Nat → Int32) → Rows → Rows → Rows → (Option (Rows × Rows × (Nat → Int32) × (Nat → Int32) × Rows × Rows × Rows))) (fun _ _ _ _ _ _ _ _ => none) (fun _ rec => K_X3_endLeases_5 N rec k64 vals now) n
set_option maxHeartbeats 4000000 in
set_option maxRecDepth 100000 in
theorem l_X3_endLeases_5 {E : mE} {l : Launch} {p : Program} {e : Env} {s : State} {m : MethodId} {args : Array Value} {below : List Frame} {meth : Method} {c : Code} {A : Nat → Prop} {Q : State → Prop} {N : Nat} {h : Nat} {h_rules : Nat} {a_vals : Nat} {h_ledger : Nat} {h_book : Nat} {a_book : Nat} {h_told : Nat} {a_told : Nat} {h_written : Nat} {a_written : Nat} {h_late : Nat} {a_late : Nat} {a_sums : Nat} {a_asum : Nat} {h_line : Nat} {a_line : Nat} {h_waits : Nat} {a_waits : Nat} {h_boxes : Nat} {a_boxes : Nat}  {vals : Nat → Int32} {now : Int32} {book0 : Rows} {told0 : Rows} {written : Rows} {late : Rows} {sums0 : Nat → Int32} {asum0 : Nat → Int32} {line0 : Rows} {waits0 : Rows} {boxes0 : Rows} {s_book0 : Int32} {f_book0 : Nat → Int32} {s_told0 : Int32} {f_told0 : Nat → Int32} {s_written : Int32} {f_written : Nat → Int32} {s_late : Int32} {f_late : Nat → Int32} {s_line0 : Int32} {f_line0 : Nat → Int32} {s_waits0 : Int32} {f_waits0 : Nat → Int32} {s_boxes0 : Int32} {f_boxes0 : Nat → Int32} {o : Rows × Rows × (Nat → Int32) × (Nat → Int32) × Rows × Rows × Rows} (B : mB E yX3_endLeases cX3_endLeases 3 none 0 0 (po_X3_endLeases E h h_rules a_vals h_ledger h_book a_book h_told a_told h_written a_written h_late a_late a_sums a_asum h_line a_line h_waits a_waits h_boxes a_boxes vals now book0 told0 written late sums0 asum0 line0 waits0 boxes0 s_book0 f_book0 s_told0 f_told0 s_written f_written s_late f_late s_line0 f_line0 s_waits0 f_waits0 s_boxes0 f_boxes0 o) p s m args below meth c A Q)    (k64 : Rows → Rows → (Nat → Int32) → (Nat → Int32) → Rows → Rows → Rows → (Option (Rows × Rows × (Nat → Int32) × (Nat → Int32) × Rows × Rows × Rows))) (ok_written : tb_ok 40 2 written s_written f_written) (ok_late : tb_ok 60 1 late s_late f_late) (hk64 : ∀  (book : Rows) (told : Rows) (sums : Nat → Int32) (asum : Nat → Int32) (line : Rows) (waits : Rows) (boxes : Rows) (s_book : Int32) (f_book : Nat → Int32) (s_told : Int32) (f_told : Nat → Int32) (s_line : Int32) (f_line : Nat → Int32) (s_waits : Int32) (f_waits : Nat → Int32) (s_boxes : Int32) (f_boxes : Nat → Int32) (H : Heap) (locs : List Loc) (ls : Array Slot), k64 book told sums asum line waits boxes = some o → tb_ok 40 3 book s_book f_book → tb_ok 60 1 told s_told f_told → tb_ok 256 3 line s_line f_line → tb_ok 256 2 waits s_waits f_waits → tb_ok 192 3 boxes s_boxes f_boxes → mW E A s [(h, .inr (2, [.ref h_rules, .ref h_ledger, .ref h_line, .ref h_waits, .ref h_boxes])), (h_rules, .inr (4, [.ref a_vals, .int now])), (a_vals, .inl (E.2.1, 8, .inl vals)), (h_ledger, .inr (1, [.ref h_rules, .ref h_book, .ref h_told, .ref h_written, .ref h_late, .ref a_sums, .ref a_asum])), (h_book, .inr (8, [.int (nI 40), .int (nI 3), .ref a_book, .int s_book])), (a_book, .inl (E.2.1, (40 * 3), .inl f_book)), (h_told, .inr (8, [.int (nI 60), .int (nI 1), .ref a_told, .int s_told])), (a_told, .inl (E.2.1, (60 * 1), .inl f_told)), (h_written, .inr (8, [.int (nI 40), .int (nI 2), .ref a_written, .int s_written])), (a_written, .inl (E.2.1, (40 * 2), .inl f_written)), (h_late, .inr (8, [.int (nI 60), .int (nI 1), .ref a_late, .int s_late])), (a_late, .inl (E.2.1, (60 * 1), .inl f_late)), (a_sums, .inl (E.2.1, 14, .inl sums)), (a_asum, .inl (E.2.1, 64, .inl asum)), (h_line, .inr (8, [.int (nI 256), .int (nI 3), .ref a_line, .int s_line])), (a_line, .inl (E.2.1, (256 * 3), .inl f_line)), (h_waits, .inr (8, [.int (nI 256), .int (nI 2), .ref a_waits, .int s_waits])), (a_waits, .inl (E.2.1, (256 * 2), .inl f_waits)), (h_boxes, .inr (8, [.int (nI 192), .int (nI 3), .ref a_boxes, .int s_boxes])), (a_boxes, .inl (E.2.1, (192 * 3), .inl f_boxes))] H locs → lv_has ls 3 [] → W p l e ({ frames := 6, cells := 0, slots := 0, locals := 140 } : Room) s m args below meth c H locs 0 0 Q (F0 m 64 ls [])) : ∀ n : Nat, ∀ (x1 : Int32) (book : Rows) (told : Rows) (sums : Nat → Int32) (asum : Nat → Int32) (line : Rows) (waits : Rows) (boxes : Rows) (s_book : Int32) (f_book : Nat → Int32) (s_told : Int32) (f_told : Nat → Int32) (s_line : Int32) (f_line : Nat → Int32) (s_waits : Int32) (f_waits : Nat → Int32) (s_boxes : Int32) (f_boxes : Nat → Int32) (H : Heap) (locs : List Loc) (ls : Array Slot), L_X3_endLeases_5 N k64 vals now n x1 book told sums asum line waits boxes = some o → tb_ok 40 3 book s_book f_book → tb_ok 60 1 told s_told f_told → tb_ok 256 3 line s_line f_line → tb_ok 256 2 waits s_waits f_waits → tb_ok 192 3 boxes s_boxes f_boxes → mW E A s [(h, .inr (2, [.ref h_rules, .ref h_ledger, .ref h_line, .ref h_waits, .ref h_boxes])), (h_rules, .inr (4, [.ref a_vals, .int now])), (a_vals, .inl (E.2.1, 8, .inl vals)), (h_ledger, .inr (1, [.ref h_rules, .ref h_book, .ref h_told, .ref h_written, .ref h_late, .ref a_sums, .ref a_asum])), (h_book, .inr (8, [.int (nI 40), .int (nI 3), .ref a_book, .int s_book])), (a_book, .inl (E.2.1, (40 * 3), .inl f_book)), (h_told, .inr (8, [.int (nI 60), .int (nI 1), .ref a_told, .int s_told])), (a_told, .inl (E.2.1, (60 * 1), .inl f_told)), (h_written, .inr (8, [.int (nI 40), .int (nI 2), .ref a_written, .int s_written])), (a_written, .inl (E.2.1, (40 * 2), .inl f_written)), (h_late, .inr (8, [.int (nI 60), .int (nI 1), .ref a_late, .int s_late])), (a_late, .inl (E.2.1, (60 * 1), .inl f_late)), (a_sums, .inl (E.2.1, 14, .inl sums)), (a_asum, .inl (E.2.1, 64, .inl asum)), (h_line, .inr (8, [.int (nI 256), .int (nI 3), .ref a_line, .int s_line])), (a_line, .inl (E.2.1, (256 * 3), .inl f_line)), (h_waits, .inr (8, [.int (nI 256), .int (nI 2), .ref a_waits, .int s_waits])), (a_waits, .inl (E.2.1, (256 * 2), .inl f_waits)), (h_boxes, .inr (8, [.int (nI 192), .int (nI 3), .ref a_boxes, .int s_boxes])), (a_boxes, .inl (E.2.1, (192 * 3), .inl f_boxes))] H locs → lv_has ls 3 [(0, .ref h), (1, .int x1)] → W p l e ({ frames := 6, cells := 0, slots := 0, locals := 140 } : Room) s m args below meth c H locs 0 0 Q (F0 m 5 ls []) := by
  obtain ⟨hx, hb, hml, hown, hts⟩ := id B.1
  intro n
  induction n with
  | zero =>
    intro x1 book told sums asum line waits boxes s_book f_book s_told f_told s_line f_line s_waits f_waits s_boxes f_boxes H locs ls hf ok_book ok_told ok_line ok_waits ok_boxes w hl
    exact nomatch hf
  | succ n hrec =>
    intro x1 book told sums asum line waits boxes s_book f_book s_told f_told s_line f_line s_waits f_waits s_boxes f_boxes H locs ls hf ok_book ok_told ok_line ok_waits ok_boxes w hl
    have hf : K_X3_endLeases_5 N (L_X3_endLeases_5 N k64 vals now n) k64 vals now x1 book told sums asum line waits boxes = some o := hf
    unfold K_X3_endLeases_5 at hf
    refine lv_iload_n hx hb dX3_endLeases_5 rfl (lv_at hl 1 rfl) ?_
    refine lv_if_le (tgt := 64) hx hb dX3_endLeases_6 (by decide) (fun hc => ?_) (fun hc => ?_)
    · have hf := it_t hc hf
      exact hk64 _ _ _ _ _ _ _ _ _ _ _ _ _ _ _ _ _ _ _ _ hf ok_book ok_told ok_line ok_waits ok_boxes w (lv_sub hl [] rfl)
    · have hf := it_f hc hf
      refine lv_aload_n hx hb dX3_endLeases_9 rfl (lv_at hl 0 rfl) ?_
      refine mx_get B w 0 fl_X3_9 rfl rfl dX3_endLeases_10 ?_
      refine lv_bipush (v := 7) hx hb dX3_endLeases_13 (by decide) ?_
      refine lv_aload_n hx hb dX3_endLeases_15 rfl (lv_at hl 0 rfl) ?_
      refine mx_get B w 0 fl_X3_24 rfl rfl dX3_endLeases_16 ?_
      refine lv_iconst (v := 0) hx hb dX3_endLeases_19 (by decide) ?_
      refine lv_iconst (v := 2) hx hb dX3_endLeases_20 (by decide) ?_
      obtain ⟨o_2, ev⟩ : ∃ y, y = tget line 0 2 := ⟨_, rfl⟩
      have hf := lt_n ev hf
      refine mx_callV (As := [.int 0, .int 2]) (rest := [.int 7, .ref h_rules]) (wr := [(h, .inr (2, [.ref h_rules, .ref h_ledger, .ref h_line, .ref h_waits, .ref h_boxes])), (h_rules, .inr (4, [.ref a_vals, .int now])), (a_vals, .inl (E.2.1, 8, .inl vals)), (h_ledger, .inr (1, [.ref h_rules, .ref h_book, .ref h_told, .ref h_written, .ref h_late, .ref a_sums, .ref a_asum])), (h_book, .inr (8, [.int (nI 40), .int (nI 3), .ref a_book, .int s_book])), (a_book, .inl (E.2.1, (40 * 3), .inl f_book)), (h_told, .inr (8, [.int (nI 60), .int (nI 1), .ref a_told, .int s_told])), (a_told, .inl (E.2.1, (60 * 1), .inl f_told)), (h_written, .inr (8, [.int (nI 40), .int (nI 2), .ref a_written, .int s_written])), (a_written, .inl (E.2.1, (40 * 2), .inl f_written)), (h_late, .inr (8, [.int (nI 60), .int (nI 1), .ref a_late, .int s_late])), (a_late, .inl (E.2.1, (60 * 1), .inl f_late)), (a_sums, .inl (E.2.1, 14, .inl sums)), (a_asum, .inl (E.2.1, 64, .inl asum)), (h_waits, .inr (8, [.int (nI 256), .int (nI 2), .ref a_waits, .int s_waits])), (a_waits, .inl (E.2.1, (256 * 2), .inl f_waits)), (h_boxes, .inr (8, [.int (nI 192), .int (nI 3), .ref a_boxes, .int s_boxes])), (a_boxes, .inl (E.2.1, (192 * 3), .inl f_boxes))]) (c_X9_get E l h_line a_line 256 3 line s_line f_line 0 2 ok_line o_2 ev) B w [14, 15] [0, 1, 2, 3, 4, 5, 6, 7, 8, 9, 10, 11, 12, 13, 16, 17, 18, 19] rfl rfl (by decide) (by decide) (by decide) 14 rfl rfl cv_X9_get kw_474 2 (by decide +kernel) ⟨Nat.le_of_ble_eq_true rfl, Nat.le_of_ble_eq_true rfl⟩ rfl hl.1 rfl (Nat.le_of_ble_eq_true rfl) dX3_endLeases_21 rfl rfl ⟨Nat.zero_le _, Nat.zero_le _⟩ (fun v w' H locs hpo w => ?_)
      clear ev
      obtain ⟨rfl, rfl⟩ := hpo
      have w : mW E A s [(h, .inr (2, [.ref h_rules, .ref h_ledger, .ref h_line, .ref h_waits, .ref h_boxes])), (h_rules, .inr (4, [.ref a_vals, .int now])), (a_vals, .inl (E.2.1, 8, .inl vals)), (h_ledger, .inr (1, [.ref h_rules, .ref h_book, .ref h_told, .ref h_written, .ref h_late, .ref a_sums, .ref a_asum])), (h_book, .inr (8, [.int (nI 40), .int (nI 3), .ref a_book, .int s_book])), (a_book, .inl (E.2.1, (40 * 3), .inl f_book)), (h_told, .inr (8, [.int (nI 60), .int (nI 1), .ref a_told, .int s_told])), (a_told, .inl (E.2.1, (60 * 1), .inl f_told)), (h_written, .inr (8, [.int (nI 40), .int (nI 2), .ref a_written, .int s_written])), (a_written, .inl (E.2.1, (40 * 2), .inl f_written)), (h_late, .inr (8, [.int (nI 60), .int (nI 1), .ref a_late, .int s_late])), (a_late, .inl (E.2.1, (60 * 1), .inl f_late)), (a_sums, .inl (E.2.1, 14, .inl sums)), (a_asum, .inl (E.2.1, 64, .inl asum)), (h_line, .inr (8, [.int (nI 256), .int (nI 3), .ref a_line, .int s_line])), (a_line, .inl (E.2.1, (256 * 3), .inl f_line)), (h_waits, .inr (8, [.int (nI 256), .int (nI 2), .ref a_waits, .int s_waits])), (a_waits, .inl (E.2.1, (256 * 2), .inl f_waits)), (h_boxes, .inr (8, [.int (nI 192), .int (nI 3), .ref a_boxes, .int s_boxes])), (a_boxes, .inl (E.2.1, (192 * 3), .inl f_boxes))] H locs := w.sub [0, 1, 2, 3, 4, 5, 6, 7, 8, 9, 10, 11, 12, 13, 18, 19, 14, 15, 16, 17] (by decide) rfl
      obtain ⟨o_3, hq, hf⟩ := bd_e hf
      refine mx_callV (As := [.int 7, .int o_2]) (rest := []) (wr := [(h, .inr (2, [.ref h_rules, .ref h_ledger, .ref h_line, .ref h_waits, .ref h_boxes])), (h_ledger, .inr (1, [.ref h_rules, .ref h_book, .ref h_told, .ref h_written, .ref h_late, .ref a_sums, .ref a_asum])), (h_book, .inr (8, [.int (nI 40), .int (nI 3), .ref a_book, .int s_book])), (a_book, .inl (E.2.1, (40 * 3), .inl f_book)), (h_told, .inr (8, [.int (nI 60), .int (nI 1), .ref a_told, .int s_told])), (a_told, .inl (E.2.1, (60 * 1), .inl f_told)), (h_written, .inr (8, [.int (nI 40), .int (nI 2), .ref a_written, .int s_written])), (a_written, .inl (E.2.1, (40 * 2), .inl f_written)), (h_late, .inr (8, [.int (nI 60), .int (nI 1), .ref a_late, .int s_late])), (a_late, .inl (E.2.1, (60 * 1), .inl f_late)), (a_sums, .inl (E.2.1, 14, .inl sums)), (a_asum, .inl (E.2.1, 64, .inl asum)), (h_line, .inr (8, [.int (nI 256), .int (nI 3), .ref a_line, .int s_line])), (a_line, .inl (E.2.1, (256 * 3), .inl f_line)), (h_waits, .inr (8, [.int (nI 256), .int (nI 2), .ref a_waits, .int s_waits])), (a_waits, .inl (E.2.1, (256 * 2), .inl f_waits)), (h_boxes, .inr (8, [.int (nI 192), .int (nI 3), .ref a_boxes, .int s_boxes])), (a_boxes, .inl (E.2.1, (192 * 3), .inl f_boxes))]) (d_X5_hasPassed E l  h_rules a_vals vals now 7 o_2  o_3 hq) B w [1, 2] [0, 3, 4, 5, 6, 7, 8, 9, 10, 11, 12, 13, 14, 15, 16, 17, 18, 19] rfl rfl (by decide) (by decide) (by decide) 1 rfl rfl cv_X5_hasPassed kw_494 2 (by decide +kernel) ⟨Nat.le_of_ble_eq_true rfl, Nat.le_of_ble_eq_true rfl⟩ rfl hl.1 rfl (Nat.le_of_ble_eq_true rfl) dX3_endLeases_24 rfl rfl ⟨Nat.zero_le _, Nat.zero_le _⟩ (fun v w' H locs hpo w => ?_)
      clear hq
      obtain ⟨rfl, rfl⟩ := hpo
      have w : mW E A s [(h, .inr (2, [.ref h_rules, .ref h_ledger, .ref h_line, .ref h_waits, .ref h_boxes])), (h_rules, .inr (4, [.ref a_vals, .int now])), (a_vals, .inl (E.2.1, 8, .inl vals)), (h_ledger, .inr (1, [.ref h_rules, .ref h_book, .ref h_told, .ref h_written, .ref h_late, .ref a_sums, .ref a_asum])), (h_book, .inr (8, [.int (nI 40), .int (nI 3), .ref a_book, .int s_book])), (a_book, .inl (E.2.1, (40 * 3), .inl f_book)), (h_told, .inr (8, [.int (nI 60), .int (nI 1), .ref a_told, .int s_told])), (a_told, .inl (E.2.1, (60 * 1), .inl f_told)), (h_written, .inr (8, [.int (nI 40), .int (nI 2), .ref a_written, .int s_written])), (a_written, .inl (E.2.1, (40 * 2), .inl f_written)), (h_late, .inr (8, [.int (nI 60), .int (nI 1), .ref a_late, .int s_late])), (a_late, .inl (E.2.1, (60 * 1), .inl f_late)), (a_sums, .inl (E.2.1, 14, .inl sums)), (a_asum, .inl (E.2.1, 64, .inl asum)), (h_line, .inr (8, [.int (nI 256), .int (nI 3), .ref a_line, .int s_line])), (a_line, .inl (E.2.1, (256 * 3), .inl f_line)), (h_waits, .inr (8, [.int (nI 256), .int (nI 2), .ref a_waits, .int s_waits])), (a_waits, .inl (E.2.1, (256 * 2), .inl f_waits)), (h_boxes, .inr (8, [.int (nI 192), .int (nI 3), .ref a_boxes, .int s_boxes])), (a_boxes, .inl (E.2.1, (192 * 3), .inl f_boxes))] H locs := w.sub [0, 18, 19, 1, 2, 3, 4, 5, 6, 7, 8, 9, 10, 11, 12, 13, 14, 15, 16, 17] (by decide) rfl
      refine lv_if_eq (tgt := 64) hx hb dX3_endLeases_27 (by decide) (fun hc => ?_) (fun hc => ?_)
      · have hf := it_t hc hf
        exact hk64 _ _ _ _ _ _ _ _ _ _ _ _ _ _ _ _ _ _ _ _ hf ok_book ok_told ok_line ok_waits ok_boxes w (lv_sub hl [] rfl)
      · have hf := it_f hc hf
        refine lv_aload_n hx hb dX3_endLeases_30 rfl (lv_at hl 0 rfl) ?_
        refine mx_get B w 0 fl_X3_24 rfl rfl dX3_endLeases_31 ?_
        refine lv_iconst (v := 0) hx hb dX3_endLeases_34 (by decide) ?_
        refine lv_iconst (v := 0) hx hb dX3_endLeases_35 (by decide) ?_
        obtain ⟨o_4, ev⟩ : ∃ y, y = tget line 0 0 := ⟨_, rfl⟩
        have hf := lt_n ev hf
        refine mx_callV (As := [.int 0, .int 0]) (rest := []) (wr := [(h, .inr (2, [.ref h_rules, .ref h_ledger, .ref h_line, .ref h_waits, .ref h_boxes])), (h_rules, .inr (4, [.ref a_vals, .int now])), (a_vals, .inl (E.2.1, 8, .inl vals)), (h_ledger, .inr (1, [.ref h_rules, .ref h_book, .ref h_told, .ref h_written, .ref h_late, .ref a_sums, .ref a_asum])), (h_book, .inr (8, [.int (nI 40), .int (nI 3), .ref a_book, .int s_book])), (a_book, .inl (E.2.1, (40 * 3), .inl f_book)), (h_told, .inr (8, [.int (nI 60), .int (nI 1), .ref a_told, .int s_told])), (a_told, .inl (E.2.1, (60 * 1), .inl f_told)), (h_written, .inr (8, [.int (nI 40), .int (nI 2), .ref a_written, .int s_written])), (a_written, .inl (E.2.1, (40 * 2), .inl f_written)), (h_late, .inr (8, [.int (nI 60), .int (nI 1), .ref a_late, .int s_late])), (a_late, .inl (E.2.1, (60 * 1), .inl f_late)), (a_sums, .inl (E.2.1, 14, .inl sums)), (a_asum, .inl (E.2.1, 64, .inl asum)), (h_waits, .inr (8, [.int (nI 256), .int (nI 2), .ref a_waits, .int s_waits])), (a_waits, .inl (E.2.1, (256 * 2), .inl f_waits)), (h_boxes, .inr (8, [.int (nI 192), .int (nI 3), .ref a_boxes, .int s_boxes])), (a_boxes, .inl (E.2.1, (192 * 3), .inl f_boxes))]) (c_X9_get E l h_line a_line 256 3 line s_line f_line 0 0 ok_line o_4 ev) B w [14, 15] [0, 1, 2, 3, 4, 5, 6, 7, 8, 9, 10, 11, 12, 13, 16, 17, 18, 19] rfl rfl (by decide) (by decide) (by decide) 14 rfl rfl cv_X9_get kw_474 2 (by decide +kernel) ⟨Nat.le_of_ble_eq_true rfl, Nat.le_of_ble_eq_true rfl⟩ rfl hl.1 rfl (Nat.le_of_ble_eq_true rfl) dX3_endLeases_36 rfl rfl ⟨Nat.zero_le _, Nat.zero_le _⟩ (fun v w' H locs hpo w => ?_)
        clear ev
        obtain ⟨rfl, rfl⟩ := hpo
        have w : mW E A s [(h, .inr (2, [.ref h_rules, .ref h_ledger, .ref h_line, .ref h_waits, .ref h_boxes])), (h_rules, .inr (4, [.ref a_vals, .int now])), (a_vals, .inl (E.2.1, 8, .inl vals)), (h_ledger, .inr (1, [.ref h_rules, .ref h_book, .ref h_told, .ref h_written, .ref h_late, .ref a_sums, .ref a_asum])), (h_book, .inr (8, [.int (nI 40), .int (nI 3), .ref a_book, .int s_book])), (a_book, .inl (E.2.1, (40 * 3), .inl f_book)), (h_told, .inr (8, [.int (nI 60), .int (nI 1), .ref a_told, .int s_told])), (a_told, .inl (E.2.1, (60 * 1), .inl f_told)), (h_written, .inr (8, [.int (nI 40), .int (nI 2), .ref a_written, .int s_written])), (a_written, .inl (E.2.1, (40 * 2), .inl f_written)), (h_late, .inr (8, [.int (nI 60), .int (nI 1), .ref a_late, .int s_late])), (a_late, .inl (E.2.1, (60 * 1), .inl f_late)), (a_sums, .inl (E.2.1, 14, .inl sums)), (a_asum, .inl (E.2.1, 64, .inl asum)), (h_line, .inr (8, [.int (nI 256), .int (nI 3), .ref a_line, .int s_line])), (a_line, .inl (E.2.1, (256 * 3), .inl f_line)), (h_waits, .inr (8, [.int (nI 256), .int (nI 2), .ref a_waits, .int s_waits])), (a_waits, .inl (E.2.1, (256 * 2), .inl f_waits)), (h_boxes, .inr (8, [.int (nI 192), .int (nI 3), .ref a_boxes, .int s_boxes])), (a_boxes, .inl (E.2.1, (192 * 3), .inl f_boxes))] H locs := w.sub [0, 1, 2, 3, 4, 5, 6, 7, 8, 9, 10, 11, 12, 13, 18, 19, 14, 15, 16, 17] (by decide) rfl
        refine lv_istore_n (lv' := [(2, .int o_4), (0, .ref h), (1, .int x1)]) hx hb dX3_endLeases_39 rfl hl (by decide) rfl (fun ls hl => ?_)
        refine lv_aload_n hx hb dX3_endLeases_40 rfl (lv_at hl 1 rfl) ?_
        refine mx_get B w 0 fl_X3_15 rfl rfl dX3_endLeases_41 ?_
        refine lv_bipush (v := 13) hx hb dX3_endLeases_44 (by decide) ?_
        refine lv_iload_n hx hb dX3_endLeases_46 rfl (lv_at hl 0 rfl) ?_
        obtain ⟨o_5, hq, hf⟩ := bd_e hf
        refine mx_callV (As := [.int 13, .int o_4]) (rest := []) (wr := [(h, .inr (2, [.ref h_rules, .ref h_ledger, .ref h_line, .ref h_waits, .ref h_boxes])), (h_line, .inr (8, [.int (nI 256), .int (nI 3), .ref a_line, .int s_line])), (a_line, .inl (E.2.1, (256 * 3), .inl f_line)), (h_waits, .inr (8, [.int (nI 256), .int (nI 2), .ref a_waits, .int s_waits])), (a_waits, .inl (E.2.1, (256 * 2), .inl f_waits)), (h_boxes, .inr (8, [.int (nI 192), .int (nI 3), .ref a_boxes, .int s_boxes])), (a_boxes, .inl (E.2.1, (192 * 3), .inl f_boxes))]) (d_X2_note E l N h_ledger h_rules a_vals h_book a_book h_told a_told h_written a_written h_late a_late a_sums a_asum vals now book told written late sums asum s_book f_book s_told f_told s_written f_written s_late f_late 13 o_4 ok_book ok_told ok_written ok_late o_5 hq) B w [3, 1, 2, 4, 5, 6, 7, 8, 9, 10, 11, 12, 13] [0, 14, 15, 16, 17, 18, 19] rfl rfl (by decide) (by decide) (by decide) 3 rfl rfl cv_X2_note kw_495 2 (by decide +kernel) ⟨Nat.le_of_ble_eq_true rfl, Nat.le_of_ble_eq_true rfl⟩ rfl hl.1 rfl (Nat.le_of_ble_eq_true rfl) dX3_endLeases_47 rfl rfl ⟨Nat.zero_le _, Nat.zero_le _⟩ (fun v w' H locs hpo w => ?_)
        clear hq
        obtain ⟨s_book_6, f_book_7, ok_book, rfl, rfl⟩ := hpo
        have w : mW E A s [(h, .inr (2, [.ref h_rules, .ref h_ledger, .ref h_line, .ref h_waits, .ref h_boxes])), (h_rules, .inr (4, [.ref a_vals, .int now])), (a_vals, .inl (E.2.1, 8, .inl vals)), (h_ledger, .inr (1, [.ref h_rules, .ref h_book, .ref h_told, .ref h_written, .ref h_late, .ref a_sums, .ref a_asum])), (h_book, .inr (8, [.int (nI 40), .int (nI 3), .ref a_book, .int s_book_6])), (a_book, .inl (E.2.1, (40 * 3), .inl f_book_7)), (h_told, .inr (8, [.int (nI 60), .int (nI 1), .ref a_told, .int s_told])), (a_told, .inl (E.2.1, (60 * 1), .inl f_told)), (h_written, .inr (8, [.int (nI 40), .int (nI 2), .ref a_written, .int s_written])), (a_written, .inl (E.2.1, (40 * 2), .inl f_written)), (h_late, .inr (8, [.int (nI 60), .int (nI 1), .ref a_late, .int s_late])), (a_late, .inl (E.2.1, (60 * 1), .inl f_late)), (a_sums, .inl (E.2.1, 14, .inl o_5.2)), (a_asum, .inl (E.2.1, 64, .inl asum)), (h_line, .inr (8, [.int (nI 256), .int (nI 3), .ref a_line, .int s_line])), (a_line, .inl (E.2.1, (256 * 3), .inl f_line)), (h_waits, .inr (8, [.int (nI 256), .int (nI 2), .ref a_waits, .int s_waits])), (a_waits, .inl (E.2.1, (256 * 2), .inl f_waits)), (h_boxes, .inr (8, [.int (nI 192), .int (nI 3), .ref a_boxes, .int s_boxes])), (a_boxes, .inl (E.2.1, (192 * 3), .inl f_boxes))] H locs := w.sub [0, 8, 9, 7, 10, 11, 12, 13, 14, 15, 16, 17, 18, 19, 1, 2, 3, 4, 5, 6] (by decide) rfl
        refine lv_aload_n hx hb dX3_endLeases_50 rfl (lv_at hl 1 rfl) ?_
        refine lv_iload_n hx hb dX3_endLeases_51 rfl (lv_at hl 0 rfl) ?_
        refine lv_bipush (v := 99) hx hb dX3_endLeases_52 (by decide) ?_
        obtain ⟨o_8, hq, hf⟩ := bd_e hf
        refine mx_callV (As := [.int o_4, .int 99]) (rest := []) (wr := []) (d_X3_fail E l N h h_rules a_vals h_ledger h_book a_book h_told a_told h_written a_written h_late a_late a_sums a_asum h_line a_line h_waits a_waits h_boxes a_boxes vals now o_5.1 told written late o_5.2 asum line waits boxes s_book_6 f_book_7 s_told f_told s_written f_written s_late f_late s_line f_line s_waits f_waits s_boxes f_boxes o_4 99 ok_book ok_told ok_written ok_late ok_line ok_waits ok_boxes o_8 hq) B w [0, 1, 2, 3, 4, 5, 6, 7, 8, 9, 10, 11, 12, 13, 14, 15, 16, 17, 18, 19] [] rfl rfl (by decide) (by decide) (by decide) 0 rfl rfl cv_X3_fail kw_496 2 (by decide +kernel) ⟨Nat.le_of_ble_eq_true rfl, Nat.le_of_ble_eq_true rfl⟩ rfl hl.1 rfl (Nat.le_of_ble_eq_true rfl) dX3_endLeases_54 rfl rfl ⟨Nat.zero_le _, Nat.zero_le _⟩ (fun v w' H locs hpo w => ?_)
        clear hq
        obtain ⟨s_book_9, f_book_10, s_told_11, f_told_12, s_line_13, f_line_14, s_waits_15, f_waits_16, s_boxes_17, f_boxes_18, ok_book, ok_told, ok_line, ok_waits, ok_boxes, rfl, rfl⟩ := hpo
        have w : mW E A s [(h, .inr (2, [.ref h_rules, .ref h_ledger, .ref h_line, .ref h_waits, .ref h_boxes])), (h_rules, .inr (4, [.ref a_vals, .int now])), (a_vals, .inl (E.2.1, 8, .inl vals)), (h_ledger, .inr (1, [.ref h_rules, .ref h_book, .ref h_told, .ref h_written, .ref h_late, .ref a_sums, .ref a_asum])), (h_book, .inr (8, [.int (nI 40), .int (nI 3), .ref a_book, .int s_book_9])), (a_book, .inl (E.2.1, (40 * 3), .inl f_book_10)), (h_told, .inr (8, [.int (nI 60), .int (nI 1), .ref a_told, .int s_told_11])), (a_told, .inl (E.2.1, (60 * 1), .inl f_told_12)), (h_written, .inr (8, [.int (nI 40), .int (nI 2), .ref a_written, .int s_written])), (a_written, .inl (E.2.1, (40 * 2), .inl f_written)), (h_late, .inr (8, [.int (nI 60), .int (nI 1), .ref a_late, .int s_late])), (a_late, .inl (E.2.1, (60 * 1), .inl f_late)), (a_sums, .inl (E.2.1, 14, .inl o_8.2.2.2.1)), (a_asum, .inl (E.2.1, 64, .inl o_8.2.2.2.2.1)), (h_line, .inr (8, [.int (nI 256), .int (nI 3), .ref a_line, .int s_line_13])), (a_line, .inl (E.2.1, (256 * 3), .inl f_line_14)), (h_waits, .inr (8, [.int (nI 256), .int (nI 2), .ref a_waits, .int s_waits_15])), (a_waits, .inl (E.2.1, (256 * 2), .inl f_waits_16)), (h_boxes, .inr (8, [.int (nI 192), .int (nI 3), .ref a_boxes, .int s_boxes_17])), (a_boxes, .inl (E.2.1, (192 * 3), .inl f_boxes_18))] H locs := w
        refine lv_pop hx hb dX3_endLeases_57 rfl ?_
        obtain ⟨x1_19, ev⟩ : ∃ y : Int32, y = x1 + (-1) := ⟨_, rfl⟩
        refine lv_iinc (v := x1_19) (lv' := [(1, .int x1_19), (2, .int o_4), (0, .ref h)]) hx hb dX3_endLeases_58 hl (k := 2) rfl (by rw [ev]; rfl) (by decide) rfl (fun ls hl => ?_)
        have hf := lt_n ev hf; clear ev
        refine lv_goto (tgt := 5) hx hb dX3_endLeases_61 (by decide) ?_
        exact hrec _ _ _ _ _ _ _ _ _ _ _ _ _ _ _ _ _ _ _ _ _ hf ok_book ok_told ok_line ok_waits ok_boxes w (lv_sub hl [2, 0] rfl)
noncomputable def F_X3_endLeases (N : Nat)  (vals : Nat → Int32) (now : Int32) (book : Rows) (told : Rows) (sums : Nat → Int32) (asum : Nat → Int32) (line : Rows) (waits : Rows) (boxes : Rows)  : Option (Rows × Rows × (Nat → Int32) × (Nat → Int32) × Rows × Rows × Rows) :=
  bd (F_X3_running line) (fun o_1 =>
  L_X3_endLeases_5 N (fun book told sums asum line waits boxes => some (book, told, sums, asum, line, waits, boxes)) vals now N o_1 book told sums asum line waits boxes)
set_option maxHeartbeats 4000000 in
set_option maxRecDepth 100000 in
theorem d_X3_endLeases (E : mE) (l : Launch) (N : Nat) (h : Nat) (h_rules : Nat) (a_vals : Nat) (h_ledger : Nat) (h_book : Nat) (a_book : Nat) (h_told : Nat) (a_told : Nat) (h_written : Nat) (a_written : Nat) (h_late : Nat) (a_late : Nat) (a_sums : Nat) (a_asum : Nat) (h_line : Nat) (a_line : Nat) (h_waits : Nat) (a_waits : Nat) (h_boxes : Nat) (a_boxes : Nat)  (vals : Nat → Int32) (now : Int32) (book : Rows) (told : Rows) (written : Rows) (late : Rows) (sums : Nat → Int32) (asum : Nat → Int32) (line : Rows) (waits : Rows) (boxes : Rows) (s_book : Int32) (f_book : Nat → Int32) (s_told : Int32) (f_told : Nat → Int32) (s_written : Int32) (f_written : Nat → Int32) (s_late : Int32) (f_late : Nat → Int32) (s_line : Int32) (f_line : Nat → Int32) (s_waits : Int32) (f_waits : Nat → Int32) (s_boxes : Int32) (f_boxes : Nat → Int32)  (ok_book : tb_ok 40 3 book s_book f_book) (ok_told : tb_ok 60 1 told s_told f_told) (ok_written : tb_ok 40 2 written s_written f_written) (ok_late : tb_ok 60 1 late s_late f_late) (ok_line : tb_ok 256 3 line s_line f_line) (ok_waits : tb_ok 256 2 waits s_waits f_waits) (ok_boxes : tb_ok 192 3 boxes s_boxes f_boxes) (o : Rows × Rows × (Nat → Int32) × (Nat → Int32) × Rows × Rows × Rows) (hf : F_X3_endLeases N vals now book told sums asum line waits boxes = some o) : MX E l yX3_endLeases cX3_endLeases 3 none ({ frames := 6, cells := 0, slots := 0, locals := 140 } : Room) [.ref h] [(h, .inr (2, [.ref h_rules, .ref h_ledger, .ref h_line, .ref h_waits, .ref h_boxes])), (h_rules, .inr (4, [.ref a_vals, .int now])), (a_vals, .inl (E.2.1, 8, .inl vals)), (h_ledger, .inr (1, [.ref h_rules, .ref h_book, .ref h_told, .ref h_written, .ref h_late, .ref a_sums, .ref a_asum])), (h_book, .inr (8, [.int (nI 40), .int (nI 3), .ref a_book, .int s_book])), (a_book, .inl (E.2.1, (40 * 3), .inl f_book)), (h_told, .inr (8, [.int (nI 60), .int (nI 1), .ref a_told, .int s_told])), (a_told, .inl (E.2.1, (60 * 1), .inl f_told)), (h_written, .inr (8, [.int (nI 40), .int (nI 2), .ref a_written, .int s_written])), (a_written, .inl (E.2.1, (40 * 2), .inl f_written)), (h_late, .inr (8, [.int (nI 60), .int (nI 1), .ref a_late, .int s_late])), (a_late, .inl (E.2.1, (60 * 1), .inl f_late)), (a_sums, .inl (E.2.1, 14, .inl sums)), (a_asum, .inl (E.2.1, 64, .inl asum)), (h_line, .inr (8, [.int (nI 256), .int (nI 3), .ref a_line, .int s_line])), (a_line, .inl (E.2.1, (256 * 3), .inl f_line)), (h_waits, .inr (8, [.int (nI 256), .int (nI 2), .ref a_waits, .int s_waits])), (a_waits, .inl (E.2.1, (256 * 2), .inl f_waits)), (h_boxes, .inr (8, [.int (nI 192), .int (nI 3), .ref a_boxes, .int s_boxes])), (a_boxes, .inl (E.2.1, (192 * 3), .inl f_boxes))] (po_X3_endLeases E h h_rules a_vals h_ledger h_book a_book h_told a_told h_written a_written h_late a_late a_sums a_asum h_line a_line h_waits a_waits h_boxes a_boxes vals now book told written late sums asum line waits boxes s_book f_book s_told f_told s_written f_written s_late f_late s_line f_line s_waits f_waits s_boxes f_boxes o) := by
  refine mx_intro (by decide +kernel) (Nat.le_of_ble_eq_true rfl) ?_
  intro p e s m args below meth c A Q ls B w hl
  obtain ⟨hx, hb, hml, hown, hts⟩ := id B.1
  unfold F_X3_endLeases at hf
  have hl : lv_has ls 3 [(0, .ref h)] := hl
  refine lv_aload_n hx hb dX3_endLeases_0 rfl (lv_at hl 0 rfl) ?_
  obtain ⟨o_1, hq, hf⟩ := bd_e hf
  refine mx_callV (As := []) (rest := []) (wr := []) (d_X3_running E l  h h_rules a_vals h_ledger h_book a_book h_told a_told h_written a_written h_late a_late a_sums a_asum h_line a_line h_waits a_waits h_boxes a_boxes vals now book told written late sums asum line waits boxes s_book f_book s_told f_told s_written f_written s_late f_late s_line f_line s_waits f_waits s_boxes f_boxes  ok_book ok_told ok_written ok_late ok_line ok_waits ok_boxes o_1 hq) B w [0, 1, 2, 3, 4, 5, 6, 7, 8, 9, 10, 11, 12, 13, 14, 15, 16, 17, 18, 19] [] rfl rfl (by decide) (by decide) (by decide) 0 rfl rfl cv_X3_running kw_461 0 (by decide +kernel) ⟨Nat.le_of_ble_eq_true rfl, Nat.le_of_ble_eq_true rfl⟩ rfl hl.1 rfl (Nat.le_of_ble_eq_true rfl) dX3_endLeases_1 rfl rfl ⟨Nat.zero_le _, Nat.zero_le _⟩ (fun v w' H locs hpo w => ?_)
  clear hq
  obtain ⟨rfl, rfl⟩ := hpo
  have w : mW E A s [(h, .inr (2, [.ref h_rules, .ref h_ledger, .ref h_line, .ref h_waits, .ref h_boxes])), (h_rules, .inr (4, [.ref a_vals, .int now])), (a_vals, .inl (E.2.1, 8, .inl vals)), (h_ledger, .inr (1, [.ref h_rules, .ref h_book, .ref h_told, .ref h_written, .ref h_late, .ref a_sums, .ref a_asum])), (h_book, .inr (8, [.int (nI 40), .int (nI 3), .ref a_book, .int s_book])), (a_book, .inl (E.2.1, (40 * 3), .inl f_book)), (h_told, .inr (8, [.int (nI 60), .int (nI 1), .ref a_told, .int s_told])), (a_told, .inl (E.2.1, (60 * 1), .inl f_told)), (h_written, .inr (8, [.int (nI 40), .int (nI 2), .ref a_written, .int s_written])), (a_written, .inl (E.2.1, (40 * 2), .inl f_written)), (h_late, .inr (8, [.int (nI 60), .int (nI 1), .ref a_late, .int s_late])), (a_late, .inl (E.2.1, (60 * 1), .inl f_late)), (a_sums, .inl (E.2.1, 14, .inl sums)), (a_asum, .inl (E.2.1, 64, .inl asum)), (h_line, .inr (8, [.int (nI 256), .int (nI 3), .ref a_line, .int s_line])), (a_line, .inl (E.2.1, (256 * 3), .inl f_line)), (h_waits, .inr (8, [.int (nI 256), .int (nI 2), .ref a_waits, .int s_waits])), (a_waits, .inl (E.2.1, (256 * 2), .inl f_waits)), (h_boxes, .inr (8, [.int (nI 192), .int (nI 3), .ref a_boxes, .int s_boxes])), (a_boxes, .inl (E.2.1, (192 * 3), .inl f_boxes))] H locs := w
  refine lv_istore_n (lv' := [(1, .int o_1), (0, .ref h)]) hx hb dX3_endLeases_4 rfl hl (by decide) rfl (fun ls hl => ?_)
  refine l_X3_endLeases_5 B _ ok_written ok_late ?_ N _ _ _ _ _ _ _ _ _ _ _ _ _ _ _ _ _ _ _ _ _ hf ok_book ok_told ok_line ok_waits ok_boxes w (lv_sub hl [1, 0] rfl)
  · intro book told sums asum line waits boxes s_book f_book s_told f_told s_line f_line s_waits f_waits s_boxes f_boxes H locs ls hf ok_book ok_told ok_line ok_waits ok_boxes w hl
    cases hf
    exact mx_vret B w ⟨_, _, _, _, _, _, _, _, _, _, ok_book, ok_told, ok_line, ok_waits, ok_boxes, rfl, rfl⟩ dX3_endLeases_64
-- X11_step
def po_X11_step (E : mE) (h : Nat) (h_tape : Nat) (a_tby : Nat) (h_rowOfKeys : Nat) (a_rowOfKeys : Nat) (h_replays : Nat) (h_places : Nat) (a_places : Nat) (h_rules : Nat) (a_vals : Nat) (h_ledger : Nat) (h_book : Nat) (a_book : Nat) (h_told : Nat) (a_told : Nat) (h_written : Nat) (a_written : Nat) (h_late : Nat) (a_late : Nat) (a_sums : Nat) (a_asum : Nat) (h_shelf : Nat) (h_entries : Nat) (h_ents : Nat) (a_ents : Nat) (h_cold : Nat) (h_colds : Nat) (a_colds : Nat) (h_sketch : Nat) (a_cnt : Nat) (h_loads : Nat) (h_line : Nat) (a_line : Nat) (h_waits : Nat) (a_waits : Nat) (h_boxes : Nat) (a_boxes : Nat) (h_at : Nat) (kv : Value) (tby : Nat → Int32) (tsz : Int32) (rowOfKeys : Rows) (places : Rows) (vals : Nat → Int32) (now : Int32) (book : Rows) (told : Rows) (written : Rows) (late : Rows) (sums : Nat → Int32) (asum : Nat → Int32) (ents : Rows) (colds : Rows) (cnt : Nat → Int32) (uses : Int32) (usesInWindow : Int32) (entriesSoFar : Int32) (dirtySoFar : Int32) (line : Rows) (waits : Rows) (boxes : Rows) (s_rowOfKeys : Int32) (f_rowOfKeys : Nat → Int32) (s_places : Int32) (f_places : Nat → Int32) (s_book : Int32) (f_book : Nat → Int32) (s_told : Int32) (f_told : Nat → Int32) (s_written : Int32) (f_written : Nat → Int32) (s_late : Int32) (f_late : Nat → Int32) (s_ents : Int32) (f_ents : Nat → Int32) (s_colds : Int32) (f_colds : Nat → Int32) (s_line : Int32) (f_line : Nat → Int32) (s_waits : Int32) (f_waits : Nat → Int32) (s_boxes : Int32) (f_boxes : Nat → Int32) (o : Int32 × Int32 × Rows × Rows × (Nat → Int32) × (Nat → Int32) × Rows × Rows × Rows) : Option Value → va_W → Prop := (fun (v : Option Value) (w' : va_W) => ∃ (s_book' : Int32) (f_book' : Nat → Int32) (s_told' : Int32) (f_told' : Nat → Int32) (s_line' : Int32) (f_line' : Nat → Int32) (s_waits' : Int32) (f_waits' : Nat → Int32) (s_boxes' : Int32) (f_boxes' : Nat → Int32), tb_ok 40 3 o.2.2.1 s_book' f_book' ∧ tb_ok 60 1 o.2.2.2.1 s_told' f_told' ∧ tb_ok 256 3 o.2.2.2.2.2.2.1 s_line' f_line' ∧ tb_ok 256 2 o.2.2.2.2.2.2.2.1 s_waits' f_waits' ∧ tb_ok 192 3 o.2.2.2.2.2.2.2.2 s_boxes' f_boxes' ∧ v = some (.int o.1) ∧ w' = [(h, .inr (10, [.ref h_tape, .ref h_rowOfKeys, .ref h_replays, .ref h_at, .ref h_rules, .ref h_ledger, .ref h_shelf, .ref h_loads, kv])), (h_tape, .inr (9, [.ref a_tby, .int tsz])), (a_tby, .inl (E.2.1, 60, .inl tby)), (h_rowOfKeys, .inr (8, [.int (nI 30), .int (nI 1), .ref a_rowOfKeys, .int s_rowOfKeys])), (a_rowOfKeys, .inl (E.2.1, (30 * 1), .inl f_rowOfKeys)), (h_replays, .inr (3, [.ref h_places])), (h_places, .inr (8, [.int (nI 12), .int (nI 3), .ref a_places, .int s_places])), (a_places, .inl (E.2.1, (12 * 3), .inl f_places)), (h_rules, .inr (4, [.ref a_vals, .int o.2.1])), (a_vals, .inl (E.2.1, 8, .inl vals)), (h_ledger, .inr (1, [.ref h_rules, .ref h_book, .ref h_told, .ref h_written, .ref h_late, .ref a_sums, .ref a_asum])), (h_book, .inr (8, [.int (nI 40), .int (nI 3), .ref a_book, .int s_book'])), (a_book, .inl (E.2.1, (40 * 3), .inl f_book')), (h_told, .inr (8, [.int (nI 60), .int (nI 1), .ref a_told, .int s_told'])), (a_told, .inl (E.2.1, (60 * 1), .inl f_told')), (h_written, .inr (8, [.int (nI 40), .int (nI 2), .ref a_written, .int s_written])), (a_written, .inl (E.2.1, (40 * 2), .inl f_written)), (h_late, .inr (8, [.int (nI 60), .int (nI 1), .ref a_late, .int s_late])), (a_late, .inl (E.2.1, (60 * 1), .inl f_late)), (a_sums, .inl (E.2.1, 14, .inl o.2.2.2.2.1)), (a_asum, .inl (E.2.1, 64, .inl o.2.2.2.2.2.1)), (h_shelf, .inr (5, [.ref h_rules, .ref h_ledger, .ref h_entries, .ref h_cold, .ref h_sketch, .int uses, .int usesInWindow, .int entriesSoFar, .int dirtySoFar])), (h_entries, .inr (0, [.ref h_rules, .ref h_ents])), (h_ents, .inr (8, [.int (nI 200), .int (nI 9), .ref a_ents, .int s_ents])), (a_ents, .inl (E.2.1, (200 * 9), .inl f_ents)), (h_cold, .inr (0, [.ref h_rules, .ref h_colds])), (h_colds, .inr (8, [.int (nI 20), .int (nI 9), .ref a_colds, .int s_colds])), (a_colds, .inl (E.2.1, (20 * 9), .inl f_colds)), (h_sketch, .inr (6, [.ref a_cnt])), (a_cnt, .inl (E.2.1, 64, .inl cnt)), (h_loads, .inr (2, [.ref h_rules, .ref h_ledger, .ref h_line, .ref h_waits, .ref h_boxes])), (h_line, .inr (8, [.int (nI 256), .int (nI 3), .ref a_line, .int s_line'])), (a_line, .inl (E.2.1, (256 * 3), .inl f_line')), (h_waits, .inr (8, [.int (nI 256), .int (nI 2), .ref a_waits, .int s_waits'])), (a_waits, .inl (E.2.1, (256 * 2), .inl f_waits')), (h_boxes, .inr (8, [.int (nI 192), .int (nI 3), .ref a_boxes, .int s_boxes'])), (a_boxes, .inl (E.2.1, (192 * 3), .inl f_boxes'))])
noncomputable def F_X11_step (N : Nat)  (vals : Nat → Int32) (now : Int32) (book : Rows) (told : Rows) (sums : Nat → Int32) (asum : Nat → Int32) (line : Rows) (waits : Rows) (boxes : Rows) (x1 : Int32) : Option (Int32 × Int32 × Rows × Rows × (Nat → Int32) × (Nat → Int32) × Rows × Rows × Rows) :=
  if (x1 < 1 : Prop) then
  some ((-1001), now, book, told, sums, asum, line, waits, boxes)
  else
  if (x1 ≤ 1000 : Prop) then
  bd (F_X5_now now) (fun o_1 =>
  if ((o_1 + x1) ≤ 99999 : Prop) then
  bd (F_X5_pass now x1) (fun o_2 =>
  bd (F_X3_endLeases N vals o_2 book told sums asum line waits boxes) (fun o_3 =>
  bd (F_X5_now o_2) (fun o_14 =>
  some (o_14, o_2, o_3.1, o_3.2.1, o_3.2.2.1, o_3.2.2.2.1, o_3.2.2.2.2.1, o_3.2.2.2.2.2.1, o_3.2.2.2.2.2.2))))
  else
  some ((-1004), now, book, told, sums, asum, line, waits, boxes))
  else
  some ((-1001), now, book, told, sums, asum, line, waits, boxes)
set_option maxHeartbeats 4000000 in
set_option maxRecDepth 100000 in
theorem d_X11_step (E : mE) (l : Launch) (N : Nat) (h : Nat) (h_tape : Nat) (a_tby : Nat) (h_rowOfKeys : Nat) (a_rowOfKeys : Nat) (h_replays : Nat) (h_places : Nat) (a_places : Nat) (h_rules : Nat) (a_vals : Nat) (h_ledger : Nat) (h_book : Nat) (a_book : Nat) (h_told : Nat) (a_told : Nat) (h_written : Nat) (a_written : Nat) (h_late : Nat) (a_late : Nat) (a_sums : Nat) (a_asum : Nat) (h_shelf : Nat) (h_entries : Nat) (h_ents : Nat) (a_ents : Nat) (h_cold : Nat) (h_colds : Nat) (a_colds : Nat) (h_sketch : Nat) (a_cnt : Nat) (h_loads : Nat) (h_line : Nat) (a_line : Nat) (h_waits : Nat) (a_waits : Nat) (h_boxes : Nat) (a_boxes : Nat) (h_at : Nat) (kv : Value) (tby : Nat → Int32) (tsz : Int32) (rowOfKeys : Rows) (places : Rows) (vals : Nat → Int32) (now : Int32) (book : Rows) (told : Rows) (written : Rows) (late : Rows) (sums : Nat → Int32) (asum : Nat → Int32) (ents : Rows) (colds : Rows) (cnt : Nat → Int32) (uses : Int32) (usesInWindow : Int32) (entriesSoFar : Int32) (dirtySoFar : Int32) (line : Rows) (waits : Rows) (boxes : Rows) (s_rowOfKeys : Int32) (f_rowOfKeys : Nat → Int32) (s_places : Int32) (f_places : Nat → Int32) (s_book : Int32) (f_book : Nat → Int32) (s_told : Int32) (f_told : Nat → Int32) (s_written : Int32) (f_written : Nat → Int32) (s_late : Int32) (f_late : Nat → Int32) (s_ents : Int32) (f_ents : Nat → Int32) (s_colds : Int32) (f_colds : Nat → Int32) (s_line : Int32) (f_line : Nat → Int32) (s_waits : Int32) (f_waits : Nat → Int32) (s_boxes : Int32) (f_boxes : Nat → Int32) (x1 : Int32) (ok_rowOfKeys : tb_ok 30 1 rowOfKeys s_rowOfKeys f_rowOfKeys) (ok_places : tb_ok 12 3 places s_places f_places) (ok_book : tb_ok 40 3 book s_book f_book) (ok_told : tb_ok 60 1 told s_told f_told) (ok_written : tb_ok 40 2 written s_written f_written) (ok_late : tb_ok 60 1 late s_late f_late) (ok_ents : tb_ok 200 9 ents s_ents f_ents) (ok_colds : tb_ok 20 9 colds s_colds f_colds) (ok_line : tb_ok 256 3 line s_line f_line) (ok_waits : tb_ok 256 2 waits s_waits f_waits) (ok_boxes : tb_ok 192 3 boxes s_boxes f_boxes) (o : Int32 × Int32 × Rows × Rows × (Nat → Int32) × (Nat → Int32) × Rows × Rows × Rows) (hf : F_X11_step N vals now book told sums asum line waits boxes x1 = some o) : MX E l yX11_step cX11_step 2 (some .int) ({ frames := 7, cells := 0, slots := 0, locals := 162 } : Room) [.ref h, .int x1] [(h, .inr (10, [.ref h_tape, .ref h_rowOfKeys, .ref h_replays, .ref h_at, .ref h_rules, .ref h_ledger, .ref h_shelf, .ref h_loads, kv])), (h_tape, .inr (9, [.ref a_tby, .int tsz])), (a_tby, .inl (E.2.1, 60, .inl tby)), (h_rowOfKeys, .inr (8, [.int (nI 30), .int (nI 1), .ref a_rowOfKeys, .int s_rowOfKeys])), (a_rowOfKeys, .inl (E.2.1, (30 * 1), .inl f_rowOfKeys)), (h_replays, .inr (3, [.ref h_places])), (h_places, .inr (8, [.int (nI 12), .int (nI 3), .ref a_places, .int s_places])), (a_places, .inl (E.2.1, (12 * 3), .inl f_places)), (h_rules, .inr (4, [.ref a_vals, .int now])), (a_vals, .inl (E.2.1, 8, .inl vals)), (h_ledger, .inr (1, [.ref h_rules, .ref h_book, .ref h_told, .ref h_written, .ref h_late, .ref a_sums, .ref a_asum])), (h_book, .inr (8, [.int (nI 40), .int (nI 3), .ref a_book, .int s_book])), (a_book, .inl (E.2.1, (40 * 3), .inl f_book)), (h_told, .inr (8, [.int (nI 60), .int (nI 1), .ref a_told, .int s_told])), (a_told, .inl (E.2.1, (60 * 1), .inl f_told)), (h_written, .inr (8, [.int (nI 40), .int (nI 2), .ref a_written, .int s_written])), (a_written, .inl (E.2.1, (40 * 2), .inl f_written)), (h_late, .inr (8, [.int (nI 60), .int (nI 1), .ref a_late, .int s_late])), (a_late, .inl (E.2.1, (60 * 1), .inl f_late)), (a_sums, .inl (E.2.1, 14, .inl sums)), (a_asum, .inl (E.2.1, 64, .inl asum)), (h_shelf, .inr (5, [.ref h_rules, .ref h_ledger, .ref h_entries, .ref h_cold, .ref h_sketch, .int uses, .int usesInWindow, .int entriesSoFar, .int dirtySoFar])), (h_entries, .inr (0, [.ref h_rules, .ref h_ents])), (h_ents, .inr (8, [.int (nI 200), .int (nI 9), .ref a_ents, .int s_ents])), (a_ents, .inl (E.2.1, (200 * 9), .inl f_ents)), (h_cold, .inr (0, [.ref h_rules, .ref h_colds])), (h_colds, .inr (8, [.int (nI 20), .int (nI 9), .ref a_colds, .int s_colds])), (a_colds, .inl (E.2.1, (20 * 9), .inl f_colds)), (h_sketch, .inr (6, [.ref a_cnt])), (a_cnt, .inl (E.2.1, 64, .inl cnt)), (h_loads, .inr (2, [.ref h_rules, .ref h_ledger, .ref h_line, .ref h_waits, .ref h_boxes])), (h_line, .inr (8, [.int (nI 256), .int (nI 3), .ref a_line, .int s_line])), (a_line, .inl (E.2.1, (256 * 3), .inl f_line)), (h_waits, .inr (8, [.int (nI 256), .int (nI 2), .ref a_waits, .int s_waits])), (a_waits, .inl (E.2.1, (256 * 2), .inl f_waits)), (h_boxes, .inr (8, [.int (nI 192), .int (nI 3), .ref a_boxes, .int s_boxes])), (a_boxes, .inl (E.2.1, (192 * 3), .inl f_boxes))] (po_X11_step E h h_tape a_tby h_rowOfKeys a_rowOfKeys h_replays h_places a_places h_rules a_vals h_ledger h_book a_book h_told a_told h_written a_written h_late a_late a_sums a_asum h_shelf h_entries h_ents a_ents h_cold h_colds a_colds h_sketch a_cnt h_loads h_line a_line h_waits a_waits h_boxes a_boxes h_at kv tby tsz rowOfKeys places vals now book told written late sums asum ents colds cnt uses usesInWindow entriesSoFar dirtySoFar line waits boxes s_rowOfKeys f_rowOfKeys s_places f_places s_book f_book s_told f_told s_written f_written s_late f_late s_ents f_ents s_colds f_colds s_line f_line s_waits f_waits s_boxes f_boxes o) := by
  refine mx_intro (by decide +kernel) (Nat.le_of_ble_eq_true rfl) ?_
  intro p e s m args below meth c A Q ls B w hl
  obtain ⟨hx, hb, hml, hown, hts⟩ := id B.1
  unfold F_X11_step at hf
  have hl : lv_has ls 2 [(0, .ref h), (1, .int x1)] := hl
  refine lv_iload_n hx hb dX11_step_0 rfl (lv_at hl 1 rfl) ?_
  refine lv_iconst (v := 1) hx hb dX11_step_1 (by decide) ?_
  refine lv_icmp_lt (tgt := 12) hx hb dX11_step_2 (by decide) (fun hc => ?_) (fun hc => ?_)
  · have hf := it_t hc hf
    refine lv_sipush (v := (-1001)) hx hb dX11_step_12 (by decide) ?_
    cases hf
    exact mx_iret B w ⟨_, _, _, _, _, _, _, _, _, _, ok_book, ok_told, ok_line, ok_waits, ok_boxes, rfl, rfl⟩ dX11_step_15
  · have hf := it_f hc hf
    refine lv_iload_n hx hb dX11_step_5 rfl (lv_at hl 1 rfl) ?_
    refine lv_sipush (v := 1000) hx hb dX11_step_6 (by decide) ?_
    refine lv_icmp_le (tgt := 16) hx hb dX11_step_9 (by decide) (fun hc => ?_) (fun hc => ?_)
    · have hf := it_t hc hf
      refine lv_aload_n hx hb dX11_step_16 rfl (lv_at hl 0 rfl) ?_
      refine mx_get B w 0 fl_X11_43 rfl rfl dX11_step_17 ?_
      obtain ⟨o_1, hq, hf⟩ := bd_e hf
      refine mx_callV (As := []) (rest := []) (wr := [(h, .inr (10, [.ref h_tape, .ref h_rowOfKeys, .ref h_replays, .ref h_at, .ref h_rules, .ref h_ledger, .ref h_shelf, .ref h_loads, kv])), (h_tape, .inr (9, [.ref a_tby, .int tsz])), (a_tby, .inl (E.2.1, 60, .inl tby)), (h_rowOfKeys, .inr (8, [.int (nI 30), .int (nI 1), .ref a_rowOfKeys, .int s_rowOfKeys])), (a_rowOfKeys, .inl (E.2.1, (30 * 1), .inl f_rowOfKeys)), (h_replays, .inr (3, [.ref h_places])), (h_places, .inr (8, [.int (nI 12), .int (nI 3), .ref a_places, .int s_places])), (a_places, .inl (E.2.1, (12 * 3), .inl f_places)), (h_ledger, .inr (1, [.ref h_rules, .ref h_book, .ref h_told, .ref h_written, .ref h_late, .ref a_sums, .ref a_asum])), (h_book, .inr (8, [.int (nI 40), .int (nI 3), .ref a_book, .int s_book])), (a_book, .inl (E.2.1, (40 * 3), .inl f_book)), (h_told, .inr (8, [.int (nI 60), .int (nI 1), .ref a_told, .int s_told])), (a_told, .inl (E.2.1, (60 * 1), .inl f_told)), (h_written, .inr (8, [.int (nI 40), .int (nI 2), .ref a_written, .int s_written])), (a_written, .inl (E.2.1, (40 * 2), .inl f_written)), (h_late, .inr (8, [.int (nI 60), .int (nI 1), .ref a_late, .int s_late])), (a_late, .inl (E.2.1, (60 * 1), .inl f_late)), (a_sums, .inl (E.2.1, 14, .inl sums)), (a_asum, .inl (E.2.1, 64, .inl asum)), (h_shelf, .inr (5, [.ref h_rules, .ref h_ledger, .ref h_entries, .ref h_cold, .ref h_sketch, .int uses, .int usesInWindow, .int entriesSoFar, .int dirtySoFar])), (h_entries, .inr (0, [.ref h_rules, .ref h_ents])), (h_ents, .inr (8, [.int (nI 200), .int (nI 9), .ref a_ents, .int s_ents])), (a_ents, .inl (E.2.1, (200 * 9), .inl f_ents)), (h_cold, .inr (0, [.ref h_rules, .ref h_colds])), (h_colds, .inr (8, [.int (nI 20), .int (nI 9), .ref a_colds, .int s_colds])), (a_colds, .inl (E.2.1, (20 * 9), .inl f_colds)), (h_sketch, .inr (6, [.ref a_cnt])), (a_cnt, .inl (E.2.1, 64, .inl cnt)), (h_loads, .inr (2, [.ref h_rules, .ref h_ledger, .ref h_line, .ref h_waits, .ref h_boxes])), (h_line, .inr (8, [.int (nI 256), .int (nI 3), .ref a_line, .int s_line])), (a_line, .inl (E.2.1, (256 * 3), .inl f_line)), (h_waits, .inr (8, [.int (nI 256), .int (nI 2), .ref a_waits, .int s_waits])), (a_waits, .inl (E.2.1, (256 * 2), .inl f_waits)), (h_boxes, .inr (8, [.int (nI 192), .int (nI 3), .ref a_boxes, .int s_boxes])), (a_boxes, .inl (E.2.1, (192 * 3), .inl f_boxes))]) (d_X5_now E l  h_rules a_vals vals now   o_1 hq) B w [8, 9] [0, 1, 2, 3, 4, 5, 6, 7, 10, 11, 12, 13, 14, 15, 16, 17, 18, 19, 20, 21, 22, 23, 24, 25, 26, 27, 28, 29, 30, 31, 32, 33, 34, 35, 36] rfl rfl (by decide) (by decide) (by decide) 8 rfl rfl cv_X5_now kw_484 0 (by decide +kernel) ⟨Nat.le_of_ble_eq_true rfl, Nat.le_of_ble_eq_true rfl⟩ rfl hl.1 rfl (Nat.le_of_ble_eq_true rfl) dX11_step_20 rfl rfl ⟨Nat.zero_le _, Nat.zero_le _⟩ (fun v w' H locs hpo w => ?_)
      clear hq
      obtain ⟨rfl, rfl⟩ := hpo
      have w : mW E A s [(h, .inr (10, [.ref h_tape, .ref h_rowOfKeys, .ref h_replays, .ref h_at, .ref h_rules, .ref h_ledger, .ref h_shelf, .ref h_loads, kv])), (h_tape, .inr (9, [.ref a_tby, .int tsz])), (a_tby, .inl (E.2.1, 60, .inl tby)), (h_rowOfKeys, .inr (8, [.int (nI 30), .int (nI 1), .ref a_rowOfKeys, .int s_rowOfKeys])), (a_rowOfKeys, .inl (E.2.1, (30 * 1), .inl f_rowOfKeys)), (h_replays, .inr (3, [.ref h_places])), (h_places, .inr (8, [.int (nI 12), .int (nI 3), .ref a_places, .int s_places])), (a_places, .inl (E.2.1, (12 * 3), .inl f_places)), (h_rules, .inr (4, [.ref a_vals, .int now])), (a_vals, .inl (E.2.1, 8, .inl vals)), (h_ledger, .inr (1, [.ref h_rules, .ref h_book, .ref h_told, .ref h_written, .ref h_late, .ref a_sums, .ref a_asum])), (h_book, .inr (8, [.int (nI 40), .int (nI 3), .ref a_book, .int s_book])), (a_book, .inl (E.2.1, (40 * 3), .inl f_book)), (h_told, .inr (8, [.int (nI 60), .int (nI 1), .ref a_told, .int s_told])), (a_told, .inl (E.2.1, (60 * 1), .inl f_told)), (h_written, .inr (8, [.int (nI 40), .int (nI 2), .ref a_written, .int s_written])), (a_written, .inl (E.2.1, (40 * 2), .inl f_written)), (h_late, .inr (8, [.int (nI 60), .int (nI 1), .ref a_late, .int s_late])), (a_late, .inl (E.2.1, (60 * 1), .inl f_late)), (a_sums, .inl (E.2.1, 14, .inl sums)), (a_asum, .inl (E.2.1, 64, .inl asum)), (h_shelf, .inr (5, [.ref h_rules, .ref h_ledger, .ref h_entries, .ref h_cold, .ref h_sketch, .int uses, .int usesInWindow, .int entriesSoFar, .int dirtySoFar])), (h_entries, .inr (0, [.ref h_rules, .ref h_ents])), (h_ents, .inr (8, [.int (nI 200), .int (nI 9), .ref a_ents, .int s_ents])), (a_ents, .inl (E.2.1, (200 * 9), .inl f_ents)), (h_cold, .inr (0, [.ref h_rules, .ref h_colds])), (h_colds, .inr (8, [.int (nI 20), .int (nI 9), .ref a_colds, .int s_colds])), (a_colds, .inl (E.2.1, (20 * 9), .inl f_colds)), (h_sketch, .inr (6, [.ref a_cnt])), (a_cnt, .inl (E.2.1, 64, .inl cnt)), (h_loads, .inr (2, [.ref h_rules, .ref h_ledger, .ref h_line, .ref h_waits, .ref h_boxes])), (h_line, .inr (8, [.int (nI 256), .int (nI 3), .ref a_line, .int s_line])), (a_line, .inl (E.2.1, (256 * 3), .inl f_line)), (h_waits, .inr (8, [.int (nI 256), .int (nI 2), .ref a_waits, .int s_waits])), (a_waits, .inl (E.2.1, (256 * 2), .inl f_waits)), (h_boxes, .inr (8, [.int (nI 192), .int (nI 3), .ref a_boxes, .int s_boxes])), (a_boxes, .inl (E.2.1, (192 * 3), .inl f_boxes))] H locs := w.sub [0, 1, 2, 3, 4, 5, 6, 7, 35, 36, 8, 9, 10, 11, 12, 13, 14, 15, 16, 17, 18, 19, 20, 21, 22, 23, 24, 25, 26, 27, 28, 29, 30, 31, 32, 33, 34] (by decide) rfl
      refine lv_iload_n hx hb dX11_step_23 rfl (lv_at hl 1 rfl) ?_
      refine lv_iadd hx hb dX11_step_24 ?_
      refine lv_ldc hx hb hown (hts _ kw_485) dX11_step_25 ?_
      refine lv_icmp_le (tgt := 34) hx hb dX11_step_27 (by decide) (fun hc => ?_) (fun hc => ?_)
      · have hf := it_t hc hf
        refine lv_aload_n hx hb dX11_step_34 rfl (lv_at hl 0 rfl) ?_
        refine mx_get B w 0 fl_X11_43 rfl rfl dX11_step_35 ?_
        refine lv_iload_n hx hb dX11_step_38 rfl (lv_at hl 1 rfl) ?_
        obtain ⟨o_2, hq, hf⟩ := bd_e hf
        refine mx_callV (As := [.int x1]) (rest := []) (wr := [(h, .inr (10, [.ref h_tape, .ref h_rowOfKeys, .ref h_replays, .ref h_at, .ref h_rules, .ref h_ledger, .ref h_shelf, .ref h_loads, kv])), (h_tape, .inr (9, [.ref a_tby, .int tsz])), (a_tby, .inl (E.2.1, 60, .inl tby)), (h_rowOfKeys, .inr (8, [.int (nI 30), .int (nI 1), .ref a_rowOfKeys, .int s_rowOfKeys])), (a_rowOfKeys, .inl (E.2.1, (30 * 1), .inl f_rowOfKeys)), (h_replays, .inr (3, [.ref h_places])), (h_places, .inr (8, [.int (nI 12), .int (nI 3), .ref a_places, .int s_places])), (a_places, .inl (E.2.1, (12 * 3), .inl f_places)), (h_ledger, .inr (1, [.ref h_rules, .ref h_book, .ref h_told, .ref h_written, .ref h_late, .ref a_sums, .ref a_asum])), (h_book, .inr (8, [.int (nI 40), .int (nI 3), .ref a_book, .int s_book])), (a_book, .inl (E.2.1, (40 * 3), .inl f_book)), (h_told, .inr (8, [.int (nI 60), .int (nI 1), .ref a_told, .int s_told])), (a_told, .inl (E.2.1, (60 * 1), .inl f_told)), (h_written, .inr (8, [.int (nI 40), .int (nI 2), .ref a_written, .int s_written])), (a_written, .inl (E.2.1, (40 * 2), .inl f_written)), (h_late, .inr (8, [.int (nI 60), .int (nI 1), .ref a_late, .int s_late])), (a_late, .inl (E.2.1, (60 * 1), .inl f_late)), (a_sums, .inl (E.2.1, 14, .inl sums)), (a_asum, .inl (E.2.1, 64, .inl asum)), (h_shelf, .inr (5, [.ref h_rules, .ref h_ledger, .ref h_entries, .ref h_cold, .ref h_sketch, .int uses, .int usesInWindow, .int entriesSoFar, .int dirtySoFar])), (h_entries, .inr (0, [.ref h_rules, .ref h_ents])), (h_ents, .inr (8, [.int (nI 200), .int (nI 9), .ref a_ents, .int s_ents])), (a_ents, .inl (E.2.1, (200 * 9), .inl f_ents)), (h_cold, .inr (0, [.ref h_rules, .ref h_colds])), (h_colds, .inr (8, [.int (nI 20), .int (nI 9), .ref a_colds, .int s_colds])), (a_colds, .inl (E.2.1, (20 * 9), .inl f_colds)), (h_sketch, .inr (6, [.ref a_cnt])), (a_cnt, .inl (E.2.1, 64, .inl cnt)), (h_loads, .inr (2, [.ref h_rules, .ref h_ledger, .ref h_line, .ref h_waits, .ref h_boxes])), (h_line, .inr (8, [.int (nI 256), .int (nI 3), .ref a_line, .int s_line])), (a_line, .inl (E.2.1, (256 * 3), .inl f_line)), (h_waits, .inr (8, [.int (nI 256), .int (nI 2), .ref a_waits, .int s_waits])), (a_waits, .inl (E.2.1, (256 * 2), .inl f_waits)), (h_boxes, .inr (8, [.int (nI 192), .int (nI 3), .ref a_boxes, .int s_boxes])), (a_boxes, .inl (E.2.1, (192 * 3), .inl f_boxes))]) (d_X5_pass E l  h_rules a_vals vals now x1  o_2 hq) B w [8, 9] [0, 1, 2, 3, 4, 5, 6, 7, 10, 11, 12, 13, 14, 15, 16, 17, 18, 19, 20, 21, 22, 23, 24, 25, 26, 27, 28, 29, 30, 31, 32, 33, 34, 35, 36] rfl rfl (by decide) (by decide) (by decide) 8 rfl rfl cv_X5_pass kw_486 1 (by decide +kernel) ⟨Nat.le_of_ble_eq_true rfl, Nat.le_of_ble_eq_true rfl⟩ rfl hl.1 rfl (Nat.le_of_ble_eq_true rfl) dX11_step_39 rfl rfl ⟨Nat.zero_le _, Nat.zero_le _⟩ (fun v w' H locs hpo w => ?_)
        clear hq
        obtain ⟨rfl, rfl⟩ := hpo
        have w : mW E A s [(h, .inr (10, [.ref h_tape, .ref h_rowOfKeys, .ref h_replays, .ref h_at, .ref h_rules, .ref h_ledger, .ref h_shelf, .ref h_loads, kv])), (h_tape, .inr (9, [.ref a_tby, .int tsz])), (a_tby, .inl (E.2.1, 60, .inl tby)), (h_rowOfKeys, .inr (8, [.int (nI 30), .int (nI 1), .ref a_rowOfKeys, .int s_rowOfKeys])), (a_rowOfKeys, .inl (E.2.1, (30 * 1), .inl f_rowOfKeys)), (h_replays, .inr (3, [.ref h_places])), (h_places, .inr (8, [.int (nI 12), .int (nI 3), .ref a_places, .int s_places])), (a_places, .inl (E.2.1, (12 * 3), .inl f_places)), (h_rules, .inr (4, [.ref a_vals, .int o_2])), (a_vals, .inl (E.2.1, 8, .inl vals)), (h_ledger, .inr (1, [.ref h_rules, .ref h_book, .ref h_told, .ref h_written, .ref h_late, .ref a_sums, .ref a_asum])), (h_book, .inr (8, [.int (nI 40), .int (nI 3), .ref a_book, .int s_book])), (a_book, .inl (E.2.1, (40 * 3), .inl f_book)), (h_told, .inr (8, [.int (nI 60), .int (nI 1), .ref a_told, .int s_told])), (a_told, .inl (E.2.1, (60 * 1), .inl f_told)), (h_written, .inr (8, [.int (nI 40), .int (nI 2), .ref a_written, .int s_written])), (a_written, .inl (E.2.1, (40 * 2), .inl f_written)), (h_late, .inr (8, [.int (nI 60), .int (nI 1), .ref a_late, .int s_late])), (a_late, .inl (E.2.1, (60 * 1), .inl f_late)), (a_sums, .inl (E.2.1, 14, .inl sums)), (a_asum, .inl (E.2.1, 64, .inl asum)), (h_shelf, .inr (5, [.ref h_rules, .ref h_ledger, .ref h_entries, .ref h_cold, .ref h_sketch, .int uses, .int usesInWindow, .int entriesSoFar, .int dirtySoFar])), (h_entries, .inr (0, [.ref h_rules, .ref h_ents])), (h_ents, .inr (8, [.int (nI 200), .int (nI 9), .ref a_ents, .int s_ents])), (a_ents, .inl (E.2.1, (200 * 9), .inl f_ents)), (h_cold, .inr (0, [.ref h_rules, .ref h_colds])), (h_colds, .inr (8, [.int (nI 20), .int (nI 9), .ref a_colds, .int s_colds])), (a_colds, .inl (E.2.1, (20 * 9), .inl f_colds)), (h_sketch, .inr (6, [.ref a_cnt])), (a_cnt, .inl (E.2.1, 64, .inl cnt)), (h_loads, .inr (2, [.ref h_rules, .ref h_ledger, .ref h_line, .ref h_waits, .ref h_boxes])), (h_line, .inr (8, [.int (nI 256), .int (nI 3), .ref a_line, .int s_line])), (a_line, .inl (E.2.1, (256 * 3), .inl f_line)), (h_waits, .inr (8, [.int (nI 256), .int (nI 2), .ref a_waits, .int s_waits])), (a_waits, .inl (E.2.1, (256 * 2), .inl f_waits)), (h_boxes, .inr (8, [.int (nI 192), .int (nI 3), .ref a_boxes, .int s_boxes])), (a_boxes, .inl (E.2.1, (192 * 3), .inl f_boxes))] H locs := w.sub [0, 1, 2, 3, 4, 5, 6, 7, 35, 36, 8, 9, 10, 11, 12, 13, 14, 15, 16, 17, 18, 19, 20, 21, 22, 23, 24, 25, 26, 27, 28, 29, 30, 31, 32, 33, 34] (by decide) rfl
        refine lv_aload_n hx hb dX11_step_42 rfl (lv_at hl 0 rfl) ?_
        refine mx_get B w 0 fl_X11_58 rfl rfl dX11_step_43 ?_
        obtain ⟨o_3, hq, hf⟩ := bd_e hf
        refine mx_callV (As := []) (rest := []) (wr := [(h, .inr (10, [.ref h_tape, .ref h_rowOfKeys, .ref h_replays, .ref h_at, .ref h_rules, .ref h_ledger, .ref h_shelf, .ref h_loads, kv])), (h_tape, .inr (9, [.ref a_tby, .int tsz])), (a_tby, .inl (E.2.1, 60, .inl tby)), (h_rowOfKeys, .inr (8, [.int (nI 30), .int (nI 1), .ref a_rowOfKeys, .int s_rowOfKeys])), (a_rowOfKeys, .inl (E.2.1, (30 * 1), .inl f_rowOfKeys)), (h_replays, .inr (3, [.ref h_places])), (h_places, .inr (8, [.int (nI 12), .int (nI 3), .ref a_places, .int s_places])), (a_places, .inl (E.2.1, (12 * 3), .inl f_places)), (h_shelf, .inr (5, [.ref h_rules, .ref h_ledger, .ref h_entries, .ref h_cold, .ref h_sketch, .int uses, .int usesInWindow, .int entriesSoFar, .int dirtySoFar])), (h_entries, .inr (0, [.ref h_rules, .ref h_ents])), (h_ents, .inr (8, [.int (nI 200), .int (nI 9), .ref a_ents, .int s_ents])), (a_ents, .inl (E.2.1, (200 * 9), .inl f_ents)), (h_cold, .inr (0, [.ref h_rules, .ref h_colds])), (h_colds, .inr (8, [.int (nI 20), .int (nI 9), .ref a_colds, .int s_colds])), (a_colds, .inl (E.2.1, (20 * 9), .inl f_colds)), (h_sketch, .inr (6, [.ref a_cnt])), (a_cnt, .inl (E.2.1, 64, .inl cnt))]) (d_X3_endLeases E l N h_loads h_rules a_vals h_ledger h_book a_book h_told a_told h_written a_written h_late a_late a_sums a_asum h_line a_line h_waits a_waits h_boxes a_boxes vals o_2 book told written late sums asum line waits boxes s_book f_book s_told f_told s_written f_written s_late f_late s_line f_line s_waits f_waits s_boxes f_boxes  ok_book ok_told ok_written ok_late ok_line ok_waits ok_boxes o_3 hq) B w [30, 8, 9, 10, 11, 12, 13, 14, 15, 16, 17, 18, 19, 20, 31, 32, 33, 34, 35, 36] [0, 1, 2, 3, 4, 5, 6, 7, 21, 22, 23, 24, 25, 26, 27, 28, 29] rfl rfl (by decide) (by decide) (by decide) 30 rfl rfl cv_X3_endLeases kw_490 0 (by decide +kernel) ⟨Nat.le_of_ble_eq_true rfl, Nat.le_of_ble_eq_true rfl⟩ rfl hl.1 rfl (Nat.le_of_ble_eq_true rfl) dX11_step_46 rfl rfl ⟨Nat.zero_le _, Nat.zero_le _⟩ (fun v w' H locs hpo w => ?_)
        clear hq
        obtain ⟨s_book_4, f_book_5, s_told_6, f_told_7, s_line_8, f_line_9, s_waits_10, f_waits_11, s_boxes_12, f_boxes_13, ok_book, ok_told, ok_line, ok_waits, ok_boxes, rfl, rfl⟩ := hpo
        have w : mW E A s [(h, .inr (10, [.ref h_tape, .ref h_rowOfKeys, .ref h_replays, .ref h_at, .ref h_rules, .ref h_ledger, .ref h_shelf, .ref h_loads, kv])), (h_tape, .inr (9, [.ref a_tby, .int tsz])), (a_tby, .inl (E.2.1, 60, .inl tby)), (h_rowOfKeys, .inr (8, [.int (nI 30), .int (nI 1), .ref a_rowOfKeys, .int s_rowOfKeys])), (a_rowOfKeys, .inl (E.2.1, (30 * 1), .inl f_rowOfKeys)), (h_replays, .inr (3, [.ref h_places])), (h_places, .inr (8, [.int (nI 12), .int (nI 3), .ref a_places, .int s_places])), (a_places, .inl (E.2.1, (12 * 3), .inl f_places)), (h_rules, .inr (4, [.ref a_vals, .int o_2])), (a_vals, .inl (E.2.1, 8, .inl vals)), (h_ledger, .inr (1, [.ref h_rules, .ref h_book, .ref h_told, .ref h_written, .ref h_late, .ref a_sums, .ref a_asum])), (h_book, .inr (8, [.int (nI 40), .int (nI 3), .ref a_book, .int s_book_4])), (a_book, .inl (E.2.1, (40 * 3), .inl f_book_5)), (h_told, .inr (8, [.int (nI 60), .int (nI 1), .ref a_told, .int s_told_6])), (a_told, .inl (E.2.1, (60 * 1), .inl f_told_7)), (h_written, .inr (8, [.int (nI 40), .int (nI 2), .ref a_written, .int s_written])), (a_written, .inl (E.2.1, (40 * 2), .inl f_written)), (h_late, .inr (8, [.int (nI 60), .int (nI 1), .ref a_late, .int s_late])), (a_late, .inl (E.2.1, (60 * 1), .inl f_late)), (a_sums, .inl (E.2.1, 14, .inl o_3.2.2.1)), (a_asum, .inl (E.2.1, 64, .inl o_3.2.2.2.1)), (h_shelf, .inr (5, [.ref h_rules, .ref h_ledger, .ref h_entries, .ref h_cold, .ref h_sketch, .int uses, .int usesInWindow, .int entriesSoFar, .int dirtySoFar])), (h_entries, .inr (0, [.ref h_rules, .ref h_ents])), (h_ents, .inr (8, [.int (nI 200), .int (nI 9), .ref a_ents, .int s_ents])), (a_ents, .inl (E.2.1, (200 * 9), .inl f_ents)), (h_cold, .inr (0, [.ref h_rules, .ref h_colds])), (h_colds, .inr (8, [.int (nI 20), .int (nI 9), .ref a_colds, .int s_colds])), (a_colds, .inl (E.2.1, (20 * 9), .inl f_colds)), (h_sketch, .inr (6, [.ref a_cnt])), (a_cnt, .inl (E.2.1, 64, .inl cnt)), (h_loads, .inr (2, [.ref h_rules, .ref h_ledger, .ref h_line, .ref h_waits, .ref h_boxes])), (h_line, .inr (8, [.int (nI 256), .int (nI 3), .ref a_line, .int s_line_8])), (a_line, .inl (E.2.1, (256 * 3), .inl f_line_9)), (h_waits, .inr (8, [.int (nI 256), .int (nI 2), .ref a_waits, .int s_waits_10])), (a_waits, .inl (E.2.1, (256 * 2), .inl f_waits_11)), (h_boxes, .inr (8, [.int (nI 192), .int (nI 3), .ref a_boxes, .int s_boxes_12])), (a_boxes, .inl (E.2.1, (192 * 3), .inl f_boxes_13))] H locs := w.sub [0, 1, 2, 3, 4, 5, 6, 7, 18, 19, 20, 21, 22, 23, 24, 25, 26, 27, 28, 29, 30, 8, 9, 10, 11, 12, 13, 14, 15, 16, 17, 31, 32, 33, 34, 35, 36] (by decide) rfl
        refine lv_aload_n hx hb dX11_step_49 rfl (lv_at hl 0 rfl) ?_
        refine mx_get B w 0 fl_X11_43 rfl rfl dX11_step_50 ?_
        obtain ⟨o_14, hq, hf⟩ := bd_e hf
        refine mx_callV (As := []) (rest := []) (wr := [(h, .inr (10, [.ref h_tape, .ref h_rowOfKeys, .ref h_replays, .ref h_at, .ref h_rules, .ref h_ledger, .ref h_shelf, .ref h_loads, kv])), (h_tape, .inr (9, [.ref a_tby, .int tsz])), (a_tby, .inl (E.2.1, 60, .inl tby)), (h_rowOfKeys, .inr (8, [.int (nI 30), .int (nI 1), .ref a_rowOfKeys, .int s_rowOfKeys])), (a_rowOfKeys, .inl (E.2.1, (30 * 1), .inl f_rowOfKeys)), (h_replays, .inr (3, [.ref h_places])), (h_places, .inr (8, [.int (nI 12), .int (nI 3), .ref a_places, .int s_places])), (a_places, .inl (E.2.1, (12 * 3), .inl f_places)), (h_ledger, .inr (1, [.ref h_rules, .ref h_book, .ref h_told, .ref h_written, .ref h_late, .ref a_sums, .ref a_asum])), (h_book, .inr (8, [.int (nI 40), .int (nI 3), .ref a_book, .int s_book_4])), (a_book, .inl (E.2.1, (40 * 3), .inl f_book_5)), (h_told, .inr (8, [.int (nI 60), .int (nI 1), .ref a_told, .int s_told_6])), (a_told, .inl (E.2.1, (60 * 1), .inl f_told_7)), (h_written, .inr (8, [.int (nI 40), .int (nI 2), .ref a_written, .int s_written])), (a_written, .inl (E.2.1, (40 * 2), .inl f_written)), (h_late, .inr (8, [.int (nI 60), .int (nI 1), .ref a_late, .int s_late])), (a_late, .inl (E.2.1, (60 * 1), .inl f_late)), (a_sums, .inl (E.2.1, 14, .inl o_3.2.2.1)), (a_asum, .inl (E.2.1, 64, .inl o_3.2.2.2.1)), (h_shelf, .inr (5, [.ref h_rules, .ref h_ledger, .ref h_entries, .ref h_cold, .ref h_sketch, .int uses, .int usesInWindow, .int entriesSoFar, .int dirtySoFar])), (h_entries, .inr (0, [.ref h_rules, .ref h_ents])), (h_ents, .inr (8, [.int (nI 200), .int (nI 9), .ref a_ents, .int s_ents])), (a_ents, .inl (E.2.1, (200 * 9), .inl f_ents)), (h_cold, .inr (0, [.ref h_rules, .ref h_colds])), (h_colds, .inr (8, [.int (nI 20), .int (nI 9), .ref a_colds, .int s_colds])), (a_colds, .inl (E.2.1, (20 * 9), .inl f_colds)), (h_sketch, .inr (6, [.ref a_cnt])), (a_cnt, .inl (E.2.1, 64, .inl cnt)), (h_loads, .inr (2, [.ref h_rules, .ref h_ledger, .ref h_line, .ref h_waits, .ref h_boxes])), (h_line, .inr (8, [.int (nI 256), .int (nI 3), .ref a_line, .int s_line_8])), (a_line, .inl (E.2.1, (256 * 3), .inl f_line_9)), (h_waits, .inr (8, [.int (nI 256), .int (nI 2), .ref a_waits, .int s_waits_10])), (a_waits, .inl (E.2.1, (256 * 2), .inl f_waits_11)), (h_boxes, .inr (8, [.int (nI 192), .int (nI 3), .ref a_boxes, .int s_boxes_12])), (a_boxes, .inl (E.2.1, (192 * 3), .inl f_boxes_13))]) (d_X5_now E l  h_rules a_vals vals o_2   o_14 hq) B w [8, 9] [0, 1, 2, 3, 4, 5, 6, 7, 10, 11, 12, 13, 14, 15, 16, 17, 18, 19, 20, 21, 22, 23, 24, 25, 26, 27, 28, 29, 30, 31, 32, 33, 34, 35, 36] rfl rfl (by decide) (by decide) (by decide) 8 rfl rfl cv_X5_now kw_484 0 (by decide +kernel) ⟨Nat.le_of_ble_eq_true rfl, Nat.le_of_ble_eq_true rfl⟩ rfl hl.1 rfl (Nat.le_of_ble_eq_true rfl) dX11_step_53 rfl rfl ⟨Nat.zero_le _, Nat.zero_le _⟩ (fun v w' H locs hpo w => ?_)
        clear hq
        obtain ⟨rfl, rfl⟩ := hpo
        have w : mW E A s [(h, .inr (10, [.ref h_tape, .ref h_rowOfKeys, .ref h_replays, .ref h_at, .ref h_rules, .ref h_ledger, .ref h_shelf, .ref h_loads, kv])), (h_tape, .inr (9, [.ref a_tby, .int tsz])), (a_tby, .inl (E.2.1, 60, .inl tby)), (h_rowOfKeys, .inr (8, [.int (nI 30), .int (nI 1), .ref a_rowOfKeys, .int s_rowOfKeys])), (a_rowOfKeys, .inl (E.2.1, (30 * 1), .inl f_rowOfKeys)), (h_replays, .inr (3, [.ref h_places])), (h_places, .inr (8, [.int (nI 12), .int (nI 3), .ref a_places, .int s_places])), (a_places, .inl (E.2.1, (12 * 3), .inl f_places)), (h_rules, .inr (4, [.ref a_vals, .int o_2])), (a_vals, .inl (E.2.1, 8, .inl vals)), (h_ledger, .inr (1, [.ref h_rules, .ref h_book, .ref h_told, .ref h_written, .ref h_late, .ref a_sums, .ref a_asum])), (h_book, .inr (8, [.int (nI 40), .int (nI 3), .ref a_book, .int s_book_4])), (a_book, .inl (E.2.1, (40 * 3), .inl f_book_5)), (h_told, .inr (8, [.int (nI 60), .int (nI 1), .ref a_told, .int s_told_6])), (a_told, .inl (E.2.1, (60 * 1), .inl f_told_7)), (h_written, .inr (8, [.int (nI 40), .int (nI 2), .ref a_written, .int s_written])), (a_written, .inl (E.2.1, (40 * 2), .inl f_written)), (h_late, .inr (8, [.int (nI 60), .int (nI 1), .ref a_late, .int s_late])), (a_late, .inl (E.2.1, (60 * 1), .inl f_late)), (a_sums, .inl (E.2.1, 14, .inl o_3.2.2.1)), (a_asum, .inl (E.2.1, 64, .inl o_3.2.2.2.1)), (h_shelf, .inr (5, [.ref h_rules, .ref h_ledger, .ref h_entries, .ref h_cold, .ref h_sketch, .int uses, .int usesInWindow, .int entriesSoFar, .int dirtySoFar])), (h_entries, .inr (0, [.ref h_rules, .ref h_ents])), (h_ents, .inr (8, [.int (nI 200), .int (nI 9), .ref a_ents, .int s_ents])), (a_ents, .inl (E.2.1, (200 * 9), .inl f_ents)), (h_cold, .inr (0, [.ref h_rules, .ref h_colds])), (h_colds, .inr (8, [.int (nI 20), .int (nI 9), .ref a_colds, .int s_colds])), (a_colds, .inl (E.2.1, (20 * 9), .inl f_colds)), (h_sketch, .inr (6, [.ref a_cnt])), (a_cnt, .inl (E.2.1, 64, .inl cnt)), (h_loads, .inr (2, [.ref h_rules, .ref h_ledger, .ref h_line, .ref h_waits, .ref h_boxes])), (h_line, .inr (8, [.int (nI 256), .int (nI 3), .ref a_line, .int s_line_8])), (a_line, .inl (E.2.1, (256 * 3), .inl f_line_9)), (h_waits, .inr (8, [.int (nI 256), .int (nI 2), .ref a_waits, .int s_waits_10])), (a_waits, .inl (E.2.1, (256 * 2), .inl f_waits_11)), (h_boxes, .inr (8, [.int (nI 192), .int (nI 3), .ref a_boxes, .int s_boxes_12])), (a_boxes, .inl (E.2.1, (192 * 3), .inl f_boxes_13))] H locs := w.sub [0, 1, 2, 3, 4, 5, 6, 7, 35, 36, 8, 9, 10, 11, 12, 13, 14, 15, 16, 17, 18, 19, 20, 21, 22, 23, 24, 25, 26, 27, 28, 29, 30, 31, 32, 33, 34] (by decide) rfl
        cases hf
        exact mx_iret B w ⟨_, _, _, _, _, _, _, _, _, _, ok_book, ok_told, ok_line, ok_waits, ok_boxes, rfl, rfl⟩ dX11_step_56
      · have hf := it_f hc hf
        refine lv_sipush (v := (-1004)) hx hb dX11_step_30 (by decide) ?_
        cases hf
        exact mx_iret B w ⟨_, _, _, _, _, _, _, _, _, _, ok_book, ok_told, ok_line, ok_waits, ok_boxes, rfl, rfl⟩ dX11_step_33
    · have hf := it_f hc hf
      refine lv_sipush (v := (-1001)) hx hb dX11_step_12 (by decide) ?_
      cases hf
      exact mx_iret B w ⟨_, _, _, _, _, _, _, _, _, _, ok_book, ok_told, ok_line, ok_waits, ok_boxes, rfl, rfl⟩ dX11_step_15
-- X1_isLetter
def po_X1_isLetter (E : mE)     (o : Int32) : Option Value → va_W → Prop := (fun (v : Option Value) (w' : va_W) => v = some (.int o) ∧ w' = [])
noncomputable def F_X1_isLetter   (x0 : Int32) : Option (Int32) :=
  if (x0 < 97 : Prop) then
  some (0)
  else
  if (122 < x0 : Prop) then
  some (0)
  else
  some (1)
set_option maxHeartbeats 4000000 in
set_option maxRecDepth 100000 in
theorem d_X1_isLetter (E : mE) (l : Launch)     (x0 : Int32)  (o : Int32) (hf : F_X1_isLetter x0 = some o) : MX E l yX1_isLetter cX1_isLetter 1 (some .boolean) ({ frames := 0, cells := 0, slots := 0, locals := 0 } : Room) [.int x0] [] (po_X1_isLetter E o) := by
  refine mx_intro (by decide +kernel) (Nat.le_of_ble_eq_true rfl) ?_
  intro p e s m args below meth c A Q ls B w hl
  obtain ⟨hx, hb, hml, hown, hts⟩ := id B.1
  unfold F_X1_isLetter at hf
  have hl : lv_has ls 1 [(0, .int x0)] := hl
  refine lv_iload_n hx hb dX1_isLetter_0 rfl (lv_at hl 0 rfl) ?_
  refine lv_bipush (v := 97) hx hb dX1_isLetter_1 (by decide) ?_
  refine lv_icmp_lt (tgt := 16) hx hb dX1_isLetter_3 (by decide) (fun hc => ?_) (fun hc => ?_)
  · have hf := it_t hc hf
    refine lv_iconst (v := 0) hx hb dX1_isLetter_16 (by decide) ?_
    cases hf
    exact mx_zret B w rfl ⟨rfl, rfl⟩ dX1_isLetter_17
  · have hf := it_f hc hf
    refine lv_iload_n hx hb dX1_isLetter_6 rfl (lv_at hl 0 rfl) ?_
    refine lv_bipush (v := 122) hx hb dX1_isLetter_7 (by decide) ?_
    refine lv_icmp_gt (tgt := 16) hx hb dX1_isLetter_9 (by decide) (fun hc => ?_) (fun hc => ?_)
    · have hf := it_t hc hf
      refine lv_iconst (v := 0) hx hb dX1_isLetter_16 (by decide) ?_
      cases hf
      exact mx_zret B w rfl ⟨rfl, rfl⟩ dX1_isLetter_17
    · have hf := it_f hc hf
      refine lv_iconst (v := 1) hx hb dX1_isLetter_12 (by decide) ?_
      refine lv_goto (tgt := 17) hx hb dX1_isLetter_13 (by decide) ?_
      cases hf
      exact mx_zret B w rfl ⟨rfl, rfl⟩ dX1_isLetter_17
-- X10_add
def po_X10_add (E : mE) (h : Nat) (a_tby : Nat)  (tby : Nat → Int32) (tsz : Int32)  (o : Int32 × (Nat → Int32) × Int32) : Option Value → va_W → Prop := (fun (v : Option Value) (w' : va_W) => v = some (.int o.1) ∧ w' = [(h, .inr (9, [.ref a_tby, .int o.2.2])), (a_tby, .inl (E.2.1, 60, .inl o.2.1))])
noncomputable def F_X10_add  (tby : Nat → Int32) (tsz : Int32) (x1 : Int32) : Option (Int32 × (Nat → Int32) × Int32) :=
  if (tsz < 0 : Prop) then
  some (0, tby, tsz)
  else
  if (tsz < (nI 60) : Prop) then
  sto tby 60 tsz x1 (fun tby_1 =>
  lt ((tsz + 1)) (fun tsz_2 =>
  some (1, tby_1, tsz_2)))
  else
  some (0, tby, tsz)
set_option maxHeartbeats 4000000 in
set_option maxRecDepth 100000 in
theorem d_X10_add (E : mE) (l : Launch) (h : Nat) (a_tby : Nat)  (tby : Nat → Int32) (tsz : Int32)  (x1 : Int32)  (o : Int32 × (Nat → Int32) × Int32) (hf : F_X10_add tby tsz x1 = some o) : MX E l yX10_add cX10_add 2 (some .boolean) ({ frames := 0, cells := 0, slots := 0, locals := 0 } : Room) [.ref h, .int x1] [(h, .inr (9, [.ref a_tby, .int tsz])), (a_tby, .inl (E.2.1, 60, .inl tby))] (po_X10_add E h a_tby tby tsz o) := by
  refine mx_intro (by decide +kernel) (Nat.le_of_ble_eq_true rfl) ?_
  intro p e s m args below meth c A Q ls B w hl
  obtain ⟨hx, hb, hml, hown, hts⟩ := id B.1
  unfold F_X10_add at hf
  have hl : lv_has ls 2 [(0, .ref h), (1, .int x1)] := hl
  refine lv_aload_n hx hb dX10_add_0 rfl (lv_at hl 0 rfl) ?_
  refine mx_get B w 0 fl_X10_15 rfl rfl dX10_add_1 ?_
  refine lv_if_lt (tgt := 19) hx hb dX10_add_4 (by decide) (fun hc => ?_) (fun hc => ?_)
  · have hf := it_t hc hf
    refine lv_iconst (v := 0) hx hb dX10_add_19 (by decide) ?_
    cases hf
    exact mx_zret B w rfl ⟨rfl, rfl⟩ dX10_add_20
  · have hf := it_f hc hf
    refine lv_aload_n hx hb dX10_add_7 rfl (lv_at hl 0 rfl) ?_
    refine mx_get B w 0 fl_X10_15 rfl rfl dX10_add_8 ?_
    refine lv_aload_n hx hb dX10_add_11 rfl (lv_at hl 0 rfl) ?_
    refine mx_get B w 0 fl_X10_11 rfl rfl dX10_add_12 ?_
    refine mx_alen B w 1 rfl dX10_add_15 ?_
    refine lv_icmp_lt (tgt := 21) hx hb dX10_add_16 (by decide) (fun hc => ?_) (fun hc => ?_)
    · have hf := it_t hc hf
      refine lv_aload_n hx hb dX10_add_21 rfl (lv_at hl 0 rfl) ?_
      refine mx_get B w 0 fl_X10_11 rfl rfl dX10_add_22 ?_
      refine lv_aload_n hx hb dX10_add_25 rfl (lv_at hl 0 rfl) ?_
      refine mx_get B w 0 fl_X10_15 rfl rfl dX10_add_26 ?_
      refine lv_iload_n hx hb dX10_add_29 rfl (lv_at hl 1 rfl) ?_
      obtain ⟨hin, hf⟩ := sto_e hf
      refine mx_iast B w 1 rfl hin dX10_add_30 (fun tby_1 H locs ev w => ?_)
      have hf := hf _ ev; clear ev
      have w : mW E A s [(h, .inr (9, [.ref a_tby, .int tsz])), (a_tby, .inl (E.2.1, 60, .inl tby_1))] H locs := w
      refine lv_aload_n hx hb dX10_add_31 rfl (lv_at hl 0 rfl) ?_
      refine lv_dup hx hb dX10_add_32 rfl ?_
      refine mx_get B w 0 fl_X10_15 rfl rfl dX10_add_33 ?_
      refine lv_iconst (v := 1) hx hb dX10_add_36 (by decide) ?_
      refine lv_iadd hx hb dX10_add_37 ?_
      refine mx_puti B w 0 fl_X10_15 fi_X10_1 rfl (Nat.le_of_ble_eq_true rfl) dX10_add_38 (fun tsz_2 H locs ev w => ?_)
      have hf := lt_n ev hf; clear ev
      have w : mW E A s [(h, .inr (9, [.ref a_tby, .int tsz_2])), (a_tby, .inl (E.2.1, 60, .inl tby_1))] H locs := w
      refine lv_iconst (v := 1) hx hb dX10_add_41 (by decide) ?_
      cases hf
      exact mx_zret B w rfl ⟨rfl, rfl⟩ dX10_add_42
    · have hf := it_f hc hf
      refine lv_iconst (v := 0) hx hb dX10_add_19 (by decide) ?_
      cases hf
      exact mx_zret B w rfl ⟨rfl, rfl⟩ dX10_add_20
