abbrev cX10_size : ByteArray := prog_12_method_2_code
def yX10_size : MethodName := ⟨RX10, "size", "()I"⟩
theorem dX10_size_0 : decode cX10_size 0 = .ok (.aload_n 0, 1) := by decide +kernel
theorem dX10_size_1 : decode cX10_size 1 = .ok (.getfield 15, 3) := by decide +kernel
theorem dX10_size_4 : decode cX10_size 4 = .ok (.ireturn, 1) := by decide +kernel
abbrev cX11_feed : ByteArray := prog_1_method_4_code
def yX11_feed : MethodName := ⟨RX11, "feed", "(I)I"⟩
theorem dX11_feed_0 : decode cX11_feed 0 = .ok (.iload_n 1, 1) := by decide +kernel
theorem dX11_feed_1 : decode cX11_feed 1 = .ok (.invokestatic 103, 3) := by decide +kernel
theorem dX11_feed_4 : decode cX11_feed 4 = .ok (.ifCond .ne 13, 3) := by decide +kernel
theorem dX11_feed_7 : decode cX11_feed 7 = .ok (.iload_n 1, 1) := by decide +kernel
theorem dX11_feed_8 : decode cX11_feed 8 = .ok (.bipush 32, 2) := by decide +kernel
theorem dX11_feed_10 : decode cX11_feed 10 = .ok (.if_icmp .eq 7, 3) := by decide +kernel
theorem dX11_feed_13 : decode cX11_feed 13 = .ok (.sipush (-1001), 3) := by decide +kernel
theorem dX11_feed_16 : decode cX11_feed 16 = .ok (.ireturn, 1) := by decide +kernel
theorem dX11_feed_17 : decode cX11_feed 17 = .ok (.aload_n 0, 1) := by decide +kernel
theorem dX11_feed_18 : decode cX11_feed 18 = .ok (.getfield 10, 3) := by decide +kernel
theorem dX11_feed_21 : decode cX11_feed 21 = .ok (.iload_n 1, 1) := by decide +kernel
theorem dX11_feed_22 : decode cX11_feed 22 = .ok (.invokevirtual 109, 3) := by decide +kernel
theorem dX11_feed_25 : decode cX11_feed 25 = .ok (.ifCond .eq 13, 3) := by decide +kernel
theorem dX11_feed_28 : decode cX11_feed 28 = .ok (.aload_n 0, 1) := by decide +kernel
theorem dX11_feed_29 : decode cX11_feed 29 = .ok (.getfield 10, 3) := by decide +kernel
theorem dX11_feed_32 : decode cX11_feed 32 = .ok (.invokevirtual 112, 3) := by decide +kernel
theorem dX11_feed_35 : decode cX11_feed 35 = .ok (.goto 6, 3) := by decide +kernel
theorem dX11_feed_38 : decode cX11_feed 38 = .ok (.sipush (-1004), 3) := by decide +kernel
theorem dX11_feed_41 : decode cX11_feed 41 = .ok (.ireturn, 1) := by decide +kernel
theorem kw_541 : Cond.methodLink "FrequencyShelf" 103 yX1_isLetter ∈ TB := tb_at 541 (by decide +kernel) (by decide +kernel)
theorem kw_543 : Cond.code yX1_isLetter cX1_isLetter 1 (some .boolean) ∈ TB := tb_at 543 (by decide +kernel) (by decide +kernel)
theorem kw_542 : Cond.static yX1_isLetter ∈ TB := tb_at 542 (by decide +kernel) (by decide +kernel)
theorem cs_X1_isLetter : Cond.code yX1_isLetter cX1_isLetter 1 (some .boolean) ∈ TB ∧ Cond.static yX1_isLetter ∈ TB ∧ Cond.initialized "FrequencyShelf$Key" ∈ TB := ⟨kw_543, kw_542, kw_76⟩
theorem kw_301 : Cond.fieldLink "FrequencyShelf" 10 "FrequencyShelf" "tape" "LFrequencyShelf$Tape;" ∈ TB := tb_at 301 (by decide +kernel) (by decide +kernel)
theorem fl_X11_10 : mF RX11 10 10 0 := ⟨RX11, TX11, 9, tyX11, rfl, by decide, in_X11, kw_301, tyX11_ok, nmX11⟩
theorem kw_544 : Cond.methodLink "FrequencyShelf" 109 yX10_add ∈ TB := tb_at 544 (by decide +kernel) (by decide +kernel)
theorem kw_547 : Cond.code yX10_add cX10_add 2 (some .boolean) ∈ TB := tb_at 547 (by decide +kernel) (by decide +kernel)
theorem kw_545 : Cond.instanceMethod yX10_add ∈ TB := tb_at 545 (by decide +kernel) (by decide +kernel)
theorem kw_546 : Cond.selects "FrequencyShelf$Tape" yX10_add yX10_add ∈ TB := tb_at 546 (by decide +kernel) (by decide +kernel)
theorem kw_64 : Cond.initialized "FrequencyShelf$Tape" ∈ TB := tb_at 64 (by decide +kernel) (by decide +kernel)
theorem cv_X10_add : Cond.code yX10_add cX10_add 2 (some .boolean) ∈ TB ∧ Cond.instanceMethod yX10_add ∈ TB ∧ Cond.selects "FrequencyShelf$Tape" yX10_add yX10_add ∈ TB ∧ Cond.initialized "FrequencyShelf$Tape" ∈ TB := ⟨kw_547, kw_545, kw_546, kw_64⟩
theorem kw_548 : Cond.methodLink "FrequencyShelf" 112 yX10_size ∈ TB := tb_at 548 (by decide +kernel) (by decide +kernel)
theorem kw_551 : Cond.code yX10_size cX10_size 1 (some .int) ∈ TB := tb_at 551 (by decide +kernel) (by decide +kernel)
theorem kw_549 : Cond.instanceMethod yX10_size ∈ TB := tb_at 549 (by decide +kernel) (by decide +kernel)
theorem kw_550 : Cond.selects "FrequencyShelf$Tape" yX10_size yX10_size ∈ TB := tb_at 550 (by decide +kernel) (by decide +kernel)
theorem cv_X10_size : Cond.code yX10_size cX10_size 1 (some .int) ∈ TB ∧ Cond.instanceMethod yX10_size ∈ TB ∧ Cond.selects "FrequencyShelf$Tape" yX10_size yX10_size ∈ TB ∧ Cond.initialized "FrequencyShelf$Tape" ∈ TB := ⟨kw_551, kw_549, kw_550, kw_64⟩
abbrev cX11_isAsker : ByteArray := prog_1_method_39_code
def yX11_isAsker : MethodName := ⟨RX11, "isAske\x72", "(I)Z"⟩
theorem dX11_isAsker_0 : decode cX11_isAsker 0 = .ok (.iload_n 0, 1) := by decide +kernel
theorem dX11_isAsker_1 : decode cX11_isAsker 1 = .ok (.ifCond .lt 13, 3) := by decide +kernel
theorem dX11_isAsker_4 : decode cX11_isAsker 4 = .ok (.iload_n 0, 1) := by decide +kernel
theorem dX11_isAsker_5 : decode cX11_isAsker 5 = .ok (.bipush 16, 2) := by decide +kernel
theorem dX11_isAsker_7 : decode cX11_isAsker 7 = .ok (.if_icmp .ge 7, 3) := by decide +kernel
theorem dX11_isAsker_10 : decode cX11_isAsker 10 = .ok (.iconst 1, 1) := by decide +kernel
theorem dX11_isAsker_11 : decode cX11_isAsker 11 = .ok (.goto 4, 3) := by decide +kernel
theorem dX11_isAsker_14 : decode cX11_isAsker 14 = .ok (.iconst 0, 1) := by decide +kernel
theorem dX11_isAsker_15 : decode cX11_isAsker 15 = .ok (.ireturn, 1) := by decide +kernel
abbrev cX1_with : ByteArray := prog_3_method_3_code
def yX1_with : MethodName := ⟨RX1, "with", "(II)I"⟩
theorem dX1_with_0 : decode cX1_with 0 = .ok (.iload_n 0, 1) := by decide +kernel
theorem dX1_with_1 : decode cX1_with 1 = .ok (.iconst 5, 1) := by decide +kernel
theorem dX1_with_2 : decode cX1_with 2 = .ok (.ishl, 1) := by decide +kernel
theorem dX1_with_3 : decode cX1_with 3 = .ok (.iload_n 1, 1) := by decide +kernel
theorem dX1_with_4 : decode cX1_with 4 = .ok (.bipush 96, 2) := by decide +kernel
theorem dX1_with_6 : decode cX1_with 6 = .ok (.isub, 1) := by decide +kernel
theorem dX1_with_7 : decode cX1_with 7 = .ok (.bipush 31, 2) := by decide +kernel
theorem dX1_with_9 : decode cX1_with 9 = .ok (.iand, 1) := by decide +kernel
theorem dX1_with_10 : decode cX1_with 10 = .ok (.ior, 1) := by decide +kernel
theorem dX1_with_11 : decode cX1_with 11 = .ok (.ireturn, 1) := by decide +kernel
abbrev cX10_takeKey : ByteArray := prog_12_method_4_code
def yX10_takeKey : MethodName := ⟨RX10, "takeKey", "()I"⟩
theorem dX10_takeKey_0 : decode cX10_takeKey 0 = .ok (.aload_n 0, 1) := by decide +kernel
theorem dX10_takeKey_1 : decode cX10_takeKey 1 = .ok (.getfield 15, 3) := by decide +kernel
theorem dX10_takeKey_4 : decode cX10_takeKey 4 = .ok (.istore_n 1, 1) := by decide +kernel
theorem dX10_takeKey_5 : decode cX10_takeKey 5 = .ok (.aload_n 0, 1) := by decide +kernel
theorem dX10_takeKey_6 : decode cX10_takeKey 6 = .ok (.iconst 0, 1) := by decide +kernel
theorem dX10_takeKey_7 : decode cX10_takeKey 7 = .ok (.putfield 15, 3) := by decide +kernel
theorem dX10_takeKey_10 : decode cX10_takeKey 10 = .ok (.iload_n 1, 1) := by decide +kernel
theorem dX10_takeKey_11 : decode cX10_takeKey 11 = .ok (.bipush 6, 2) := by decide +kernel
theorem dX10_takeKey_13 : decode cX10_takeKey 13 = .ok (.if_icmp .le 5, 3) := by decide +kernel
theorem dX10_takeKey_16 : decode cX10_takeKey 16 = .ok (.iconst 0, 1) := by decide +kernel
theorem dX10_takeKey_17 : decode cX10_takeKey 17 = .ok (.ireturn, 1) := by decide +kernel
theorem dX10_takeKey_18 : decode cX10_takeKey 18 = .ok (.iconst 0, 1) := by decide +kernel
theorem dX10_takeKey_19 : decode cX10_takeKey 19 = .ok (.istore_n 2, 1) := by decide +kernel
theorem dX10_takeKey_20 : decode cX10_takeKey 20 = .ok (.iconst 0, 1) := by decide +kernel
theorem dX10_takeKey_21 : decode cX10_takeKey 21 = .ok (.istore_n 3, 1) := by decide +kernel
theorem dX10_takeKey_22 : decode cX10_takeKey 22 = .ok (.iload_n 3, 1) := by decide +kernel
theorem dX10_takeKey_23 : decode cX10_takeKey 23 = .ok (.iload_n 1, 1) := by decide +kernel
theorem dX10_takeKey_24 : decode cX10_takeKey 24 = .ok (.if_icmp .ge 42, 3) := by decide +kernel
theorem dX10_takeKey_27 : decode cX10_takeKey 27 = .ok (.iload_n 3, 1) := by decide +kernel
theorem dX10_takeKey_28 : decode cX10_takeKey 28 = .ok (.aload_n 0, 1) := by decide +kernel
theorem dX10_takeKey_29 : decode cX10_takeKey 29 = .ok (.getfield 11, 3) := by decide +kernel
theorem dX10_takeKey_32 : decode cX10_takeKey 32 = .ok (.arraylength, 1) := by decide +kernel
theorem dX10_takeKey_33 : decode cX10_takeKey 33 = .ok (.if_icmp .ge 33, 3) := by decide +kernel
theorem dX10_takeKey_36 : decode cX10_takeKey 36 = .ok (.aload_n 0, 1) := by decide +kernel
theorem dX10_takeKey_37 : decode cX10_takeKey 37 = .ok (.getfield 11, 3) := by decide +kernel
theorem dX10_takeKey_40 : decode cX10_takeKey 40 = .ok (.iload_n 3, 1) := by decide +kernel
theorem dX10_takeKey_41 : decode cX10_takeKey 41 = .ok (.iaload, 1) := by decide +kernel
theorem dX10_takeKey_42 : decode cX10_takeKey 42 = .ok (.bipush 32, 2) := by decide +kernel
theorem dX10_takeKey_44 : decode cX10_takeKey 44 = .ok (.if_icmp .ne 5, 3) := by decide +kernel
theorem dX10_takeKey_47 : decode cX10_takeKey 47 = .ok (.iconst 0, 1) := by decide +kernel
theorem dX10_takeKey_48 : decode cX10_takeKey 48 = .ok (.ireturn, 1) := by decide +kernel
theorem dX10_takeKey_49 : decode cX10_takeKey 49 = .ok (.iload_n 2, 1) := by decide +kernel
theorem dX10_takeKey_50 : decode cX10_takeKey 50 = .ok (.aload_n 0, 1) := by decide +kernel
theorem dX10_takeKey_51 : decode cX10_takeKey 51 = .ok (.getfield 11, 3) := by decide +kernel
theorem dX10_takeKey_54 : decode cX10_takeKey 54 = .ok (.iload_n 3, 1) := by decide +kernel
theorem dX10_takeKey_55 : decode cX10_takeKey 55 = .ok (.iaload, 1) := by decide +kernel
theorem dX10_takeKey_56 : decode cX10_takeKey 56 = .ok (.invokestatic 21, 3) := by decide +kernel
theorem dX10_takeKey_59 : decode cX10_takeKey 59 = .ok (.istore_n 2, 1) := by decide +kernel
theorem dX10_takeKey_60 : decode cX10_takeKey 60 = .ok (.iinc 3 1, 3) := by decide +kernel
theorem dX10_takeKey_63 : decode cX10_takeKey 63 = .ok (.goto (-41), 3) := by decide +kernel
theorem dX10_takeKey_66 : decode cX10_takeKey 66 = .ok (.iload_n 2, 1) := by decide +kernel
theorem dX10_takeKey_67 : decode cX10_takeKey 67 = .ok (.ireturn, 1) := by decide +kernel
theorem kw_563 : Cond.methodLink "FrequencyShelf$Tape" 21 yX1_with ∈ TB := tb_at 563 (by decide +kernel) (by decide +kernel)
theorem kw_565 : Cond.code yX1_with cX1_with 2 (some .int) ∈ TB := tb_at 565 (by decide +kernel) (by decide +kernel)
theorem kw_564 : Cond.static yX1_with ∈ TB := tb_at 564 (by decide +kernel) (by decide +kernel)
theorem cs_X1_with : Cond.code yX1_with cX1_with 2 (some .int) ∈ TB ∧ Cond.static yX1_with ∈ TB ∧ Cond.initialized "FrequencyShelf$Key" ∈ TB := ⟨kw_565, kw_564, kw_76⟩
abbrev cX2_noteUse : ByteArray := prog_4_method_7_code
def yX2_noteUse : MethodName := ⟨RX2, "noteUse", "(II)V"⟩
theorem dX2_noteUse_0 : decode cX2_noteUse 0 = .ok (.aload_n 0, 1) := by decide +kernel
theorem dX2_noteUse_1 : decode cX2_noteUse 1 = .ok (.getfield 30, 3) := by decide +kernel
theorem dX2_noteUse_4 : decode cX2_noteUse 4 = .ok (.iload_n 2, 1) := by decide +kernel
theorem dX2_noteUse_5 : decode cX2_noteUse 5 = .ok (.iconst 0, 1) := by decide +kernel
theorem dX2_noteUse_6 : decode cX2_noteUse 6 = .ok (.iconst 0, 1) := by decide +kernel
theorem dX2_noteUse_7 : decode cX2_noteUse 7 = .ok (.invokevirtual 52, 3) := by decide +kernel
theorem dX2_noteUse_10 : decode cX2_noteUse 10 = .ok (.pop, 1) := by decide +kernel
theorem dX2_noteUse_11 : decode cX2_noteUse 11 = .ok (.aload_n 0, 1) := by decide +kernel
theorem dX2_noteUse_12 : decode cX2_noteUse 12 = .ok (.iconst 0, 1) := by decide +kernel
theorem dX2_noteUse_13 : decode cX2_noteUse 13 = .ok (.invokevirtual 59, 3) := by decide +kernel
theorem dX2_noteUse_16 : decode cX2_noteUse 16 = .ok (.aload_n 0, 1) := by decide +kernel
theorem dX2_noteUse_17 : decode cX2_noteUse 17 = .ok (.iload_n 1, 1) := by decide +kernel
theorem dX2_noteUse_18 : decode cX2_noteUse 18 = .ok (.iconst 0, 1) := by decide +kernel
theorem dX2_noteUse_19 : decode cX2_noteUse 19 = .ok (.invokevirtual 63, 3) := by decide +kernel
theorem dX2_noteUse_22 : decode cX2_noteUse 22 = .ok (.return_, 1) := by decide +kernel
theorem kw_177 : Cond.fieldLink "FrequencyShelf$Ledge\x72" 30 "FrequencyShelf$Ledge\x72" "late" "LFrequencyShelf$Table;" ∈ TB := tb_at 177 (by decide +kernel) (by decide +kernel)
theorem fl_X2_30 : mF RX2 30 1 4 := ⟨RX2, TX2, 7, tyX2, rfl, by decide, in_X2, kw_177, tyX2_ok, nmX2⟩
abbrev cX7_placeOf : ByteArray := prog_9_method_2_code
def yX7_placeOf : MethodName := ⟨RX7, "placeOf", "(II)I"⟩
theorem dX7_placeOf_0 : decode cX7_placeOf 0 = .ok (.iload_n 1, 1) := by decide +kernel
theorem dX7_placeOf_1 : decode cX7_placeOf 1 = .ok (.bipush 16, 2) := by decide +kernel
theorem dX7_placeOf_3 : decode cX7_placeOf 3 = .ok (.imul, 1) := by decide +kernel
theorem dX7_placeOf_4 : decode cX7_placeOf 4 = .ok (.iload_n 0, 1) := by decide +kernel
theorem dX7_placeOf_5 : decode cX7_placeOf 5 = .ok (.iconst 2, 1) := by decide +kernel
theorem dX7_placeOf_6 : decode cX7_placeOf 6 = .ok (.iload_n 1, 1) := by decide +kernel
theorem dX7_placeOf_7 : decode cX7_placeOf 7 = .ok (.imul, 1) := by decide +kernel
theorem dX7_placeOf_8 : decode cX7_placeOf 8 = .ok (.iconst 1, 1) := by decide +kernel
theorem dX7_placeOf_9 : decode cX7_placeOf 9 = .ok (.iadd, 1) := by decide +kernel
theorem dX7_placeOf_10 : decode cX7_placeOf 10 = .ok (.imul, 1) := by decide +kernel
theorem dX7_placeOf_11 : decode cX7_placeOf 11 = .ok (.iconst 3, 1) := by decide +kernel
theorem dX7_placeOf_12 : decode cX7_placeOf 12 = .ok (.iconst 5, 1) := by decide +kernel
theorem dX7_placeOf_13 : decode cX7_placeOf 13 = .ok (.iload_n 1, 1) := by decide +kernel
theorem dX7_placeOf_14 : decode cX7_placeOf 14 = .ok (.imul, 1) := by decide +kernel
theorem dX7_placeOf_15 : decode cX7_placeOf 15 = .ok (.iadd, 1) := by decide +kernel
theorem dX7_placeOf_16 : decode cX7_placeOf 16 = .ok (.iushr, 1) := by decide +kernel
theorem dX7_placeOf_17 : decode cX7_placeOf 17 = .ok (.bipush 16, 2) := by decide +kernel
theorem dX7_placeOf_19 : decode cX7_placeOf 19 = .ok (.irem, 1) := by decide +kernel
theorem dX7_placeOf_20 : decode cX7_placeOf 20 = .ok (.iadd, 1) := by decide +kernel
theorem dX7_placeOf_21 : decode cX7_placeOf 21 = .ok (.ireturn, 1) := by decide +kernel
abbrev cX7_add : ByteArray := prog_9_method_3_code
def yX7_add : MethodName := ⟨RX7, "add", "(I)V"⟩
theorem dX7_add_0 : decode cX7_add 0 = .ok (.iload_n 1, 1) := by decide +kernel
theorem dX7_add_1 : decode cX7_add 1 = .ok (.invokestatic 13, 3) := by decide +kernel
theorem dX7_add_4 : decode cX7_add 4 = .ok (.istore_n 2, 1) := by decide +kernel
theorem dX7_add_5 : decode cX7_add 5 = .ok (.iconst 0, 1) := by decide +kernel
theorem dX7_add_6 : decode cX7_add 6 = .ok (.istore_n 3, 1) := by decide +kernel
theorem dX7_add_7 : decode cX7_add 7 = .ok (.iload_n 3, 1) := by decide +kernel
theorem dX7_add_8 : decode cX7_add 8 = .ok (.iconst 4, 1) := by decide +kernel
theorem dX7_add_9 : decode cX7_add 9 = .ok (.if_icmp .ge 54, 3) := by decide +kernel
theorem dX7_add_12 : decode cX7_add 12 = .ok (.iload_n 2, 1) := by decide +kernel
theorem dX7_add_13 : decode cX7_add 13 = .ok (.iload_n 3, 1) := by decide +kernel
theorem dX7_add_14 : decode cX7_add 14 = .ok (.invokestatic 19, 3) := by decide +kernel
theorem dX7_add_17 : decode cX7_add 17 = .ok (.istore 4, 2) := by decide +kernel
theorem dX7_add_19 : decode cX7_add 19 = .ok (.iload 4, 2) := by decide +kernel
theorem dX7_add_21 : decode cX7_add 21 = .ok (.ifCond .lt 36, 3) := by decide +kernel
theorem dX7_add_24 : decode cX7_add 24 = .ok (.iload 4, 2) := by decide +kernel
theorem dX7_add_26 : decode cX7_add 26 = .ok (.aload_n 0, 1) := by decide +kernel
theorem dX7_add_27 : decode cX7_add 27 = .ok (.getfield 9, 3) := by decide +kernel
theorem dX7_add_30 : decode cX7_add 30 = .ok (.arraylength, 1) := by decide +kernel
theorem dX7_add_31 : decode cX7_add 31 = .ok (.if_icmp .ge 26, 3) := by decide +kernel
theorem dX7_add_34 : decode cX7_add 34 = .ok (.aload_n 0, 1) := by decide +kernel
theorem dX7_add_35 : decode cX7_add 35 = .ok (.getfield 9, 3) := by decide +kernel
theorem dX7_add_38 : decode cX7_add 38 = .ok (.iload 4, 2) := by decide +kernel
theorem dX7_add_40 : decode cX7_add 40 = .ok (.iaload, 1) := by decide +kernel
theorem dX7_add_41 : decode cX7_add 41 = .ok (.bipush 15, 2) := by decide +kernel
theorem dX7_add_43 : decode cX7_add 43 = .ok (.if_icmp .ge 14, 3) := by decide +kernel
theorem dX7_add_46 : decode cX7_add 46 = .ok (.aload_n 0, 1) := by decide +kernel
theorem dX7_add_47 : decode cX7_add 47 = .ok (.getfield 9, 3) := by decide +kernel
theorem dX7_add_50 : decode cX7_add 50 = .ok (.iload 4, 2) := by decide +kernel
theorem dX7_add_52 : decode cX7_add 52 = .ok (.dup2, 1) := by decide +kernel
theorem dX7_add_53 : decode cX7_add 53 = .ok (.iaload, 1) := by decide +kernel
theorem dX7_add_54 : decode cX7_add 54 = .ok (.iconst 1, 1) := by decide +kernel
theorem dX7_add_55 : decode cX7_add 55 = .ok (.iadd, 1) := by decide +kernel
theorem dX7_add_56 : decode cX7_add 56 = .ok (.iastore, 1) := by decide +kernel
theorem dX7_add_57 : decode cX7_add 57 = .ok (.iinc 3 1, 3) := by decide +kernel
theorem dX7_add_60 : decode cX7_add 60 = .ok (.goto (-53), 3) := by decide +kernel
theorem dX7_add_63 : decode cX7_add 63 = .ok (.return_, 1) := by decide +kernel
theorem kw_578 : Cond.methodLink "FrequencyShelf$Sketch" 13 yX1_number ∈ TB := tb_at 578 (by decide +kernel) (by decide +kernel)
theorem kw_579 : Cond.methodLink "FrequencyShelf$Sketch" 19 yX7_placeOf ∈ TB := tb_at 579 (by decide +kernel) (by decide +kernel)
theorem kw_581 : Cond.code yX7_placeOf cX7_placeOf 2 (some .int) ∈ TB := tb_at 581 (by decide +kernel) (by decide +kernel)
theorem kw_580 : Cond.static yX7_placeOf ∈ TB := tb_at 580 (by decide +kernel) (by decide +kernel)
theorem kw_73 : Cond.initialized "FrequencyShelf$Sketch" ∈ TB := tb_at 73 (by decide +kernel) (by decide +kernel)
theorem cs_X7_placeOf : Cond.code yX7_placeOf cX7_placeOf 2 (some .int) ∈ TB ∧ Cond.static yX7_placeOf ∈ TB ∧ Cond.initialized "FrequencyShelf$Sketch" ∈ TB := ⟨kw_581, kw_580, kw_73⟩
theorem kw_223 : Cond.fieldLink "FrequencyShelf$Sketch" 9 "FrequencyShelf$Sketch" "counts" "[I" ∈ TB := tb_at 223 (by decide +kernel) (by decide +kernel)
theorem in_X7 : ∀ w ∈ u_ws RX7 TX7 1, w ∈ TB := by decide +kernel
theorem fl_X7_9 : mF RX7 9 6 0 := ⟨RX7, TX7, 1, tyX7, rfl, by decide, in_X7, kw_223, tyX7_ok, nmX7⟩
abbrev cX0_rowOf : ByteArray := prog_2_method_5_code
def yX0_rowOf : MethodName := ⟨RX0, "rowOf", "(I)I"⟩
theorem dX0_rowOf_0 : decode cX0_rowOf 0 = .ok (.aload_n 0, 1) := by decide +kernel
theorem dX0_rowOf_1 : decode cX0_rowOf 1 = .ok (.getfield 20, 3) := by decide +kernel
theorem dX0_rowOf_4 : decode cX0_rowOf 4 = .ok (.bipush 7, 2) := by decide +kernel
theorem dX0_rowOf_6 : decode cX0_rowOf 6 = .ok (.iload_n 1, 1) := by decide +kernel
theorem dX0_rowOf_7 : decode cX0_rowOf 7 = .ok (.iconst 0, 1) := by decide +kernel
theorem dX0_rowOf_8 : decode cX0_rowOf 8 = .ok (.invokevirtual 36, 3) := by decide +kernel
theorem dX0_rowOf_11 : decode cX0_rowOf 11 = .ok (.ireturn, 1) := by decide +kernel
theorem kw_586 : Cond.methodLink "FrequencyShelf$Entries" 36 yX9_find ∈ TB := tb_at 586 (by decide +kernel) (by decide +kernel)
abbrev cX6_beginUse : ByteArray := prog_8_method_3_code
def yX6_beginUse : MethodName := ⟨RX6, "beginUse", "(I)V"⟩
theorem dX6_beginUse_0 : decode cX6_beginUse 0 = .ok (.aload_n 0, 1) := by decide +kernel
theorem dX6_beginUse_1 : decode cX6_beginUse 1 = .ok (.dup, 1) := by decide +kernel
theorem dX6_beginUse_2 : decode cX6_beginUse 2 = .ok (.getfield 38, 3) := by decide +kernel
theorem dX6_beginUse_5 : decode cX6_beginUse 5 = .ok (.iconst 1, 1) := by decide +kernel
theorem dX6_beginUse_6 : decode cX6_beginUse 6 = .ok (.iadd, 1) := by decide +kernel
theorem dX6_beginUse_7 : decode cX6_beginUse 7 = .ok (.putfield 38, 3) := by decide +kernel
theorem dX6_beginUse_10 : decode cX6_beginUse 10 = .ok (.aload_n 0, 1) := by decide +kernel
theorem dX6_beginUse_11 : decode cX6_beginUse 11 = .ok (.dup, 1) := by decide +kernel
theorem dX6_beginUse_12 : decode cX6_beginUse 12 = .ok (.getfield 42, 3) := by decide +kernel
theorem dX6_beginUse_15 : decode cX6_beginUse 15 = .ok (.iconst 1, 1) := by decide +kernel
theorem dX6_beginUse_16 : decode cX6_beginUse 16 = .ok (.iadd, 1) := by decide +kernel
theorem dX6_beginUse_17 : decode cX6_beginUse 17 = .ok (.putfield 42, 3) := by decide +kernel
theorem dX6_beginUse_20 : decode cX6_beginUse 20 = .ok (.aload_n 0, 1) := by decide +kernel
theorem dX6_beginUse_21 : decode cX6_beginUse 21 = .ok (.getfield 34, 3) := by decide +kernel
theorem dX6_beginUse_24 : decode cX6_beginUse 24 = .ok (.iload_n 1, 1) := by decide +kernel
theorem dX6_beginUse_25 : decode cX6_beginUse 25 = .ok (.invokevirtual 51, 3) := by decide +kernel
theorem dX6_beginUse_28 : decode cX6_beginUse 28 = .ok (.aload_n 0, 1) := by decide +kernel
theorem dX6_beginUse_29 : decode cX6_beginUse 29 = .ok (.getfield 24, 3) := by decide +kernel
theorem dX6_beginUse_32 : decode cX6_beginUse 32 = .ok (.iload_n 1, 1) := by decide +kernel
theorem dX6_beginUse_33 : decode cX6_beginUse 33 = .ok (.invokevirtual 55, 3) := by decide +kernel
theorem dX6_beginUse_36 : decode cX6_beginUse 36 = .ok (.istore_n 2, 1) := by decide +kernel
theorem dX6_beginUse_37 : decode cX6_beginUse 37 = .ok (.iload_n 2, 1) := by decide +kernel
theorem dX6_beginUse_38 : decode cX6_beginUse 38 = .ok (.iconst (-1), 1) := by decide +kernel
theorem dX6_beginUse_39 : decode cX6_beginUse 39 = .ok (.if_icmp .eq 21, 3) := by decide +kernel
theorem dX6_beginUse_42 : decode cX6_beginUse 42 = .ok (.aload_n 0, 1) := by decide +kernel
theorem dX6_beginUse_43 : decode cX6_beginUse 43 = .ok (.getfield 24, 3) := by decide +kernel
theorem dX6_beginUse_46 : decode cX6_beginUse 46 = .ok (.iload_n 2, 1) := by decide +kernel
theorem dX6_beginUse_47 : decode cX6_beginUse 47 = .ok (.invokevirtual 59, 3) := by decide +kernel
theorem dX6_beginUse_50 : decode cX6_beginUse 50 = .ok (.ifCond .eq 10, 3) := by decide +kernel
theorem dX6_beginUse_53 : decode cX6_beginUse 53 = .ok (.aload_n 0, 1) := by decide +kernel
theorem dX6_beginUse_54 : decode cX6_beginUse 54 = .ok (.iload_n 2, 1) := by decide +kernel
theorem dX6_beginUse_55 : decode cX6_beginUse 55 = .ok (.bipush 8, 2) := by decide +kernel
theorem dX6_beginUse_57 : decode cX6_beginUse 57 = .ok (.invokevirtual 65, 3) := by decide +kernel
theorem dX6_beginUse_60 : decode cX6_beginUse 60 = .ok (.aload_n 0, 1) := by decide +kernel
theorem dX6_beginUse_61 : decode cX6_beginUse 61 = .ok (.getfield 28, 3) := by decide +kernel
theorem dX6_beginUse_64 : decode cX6_beginUse 64 = .ok (.iload_n 1, 1) := by decide +kernel
theorem dX6_beginUse_65 : decode cX6_beginUse 65 = .ok (.invokevirtual 55, 3) := by decide +kernel
theorem dX6_beginUse_68 : decode cX6_beginUse 68 = .ok (.istore_n 3, 1) := by decide +kernel
theorem dX6_beginUse_69 : decode cX6_beginUse 69 = .ok (.iload_n 3, 1) := by decide +kernel
theorem dX6_beginUse_70 : decode cX6_beginUse 70 = .ok (.iconst (-1), 1) := by decide +kernel
theorem dX6_beginUse_71 : decode cX6_beginUse 71 = .ok (.if_icmp .eq 22, 3) := by decide +kernel
theorem dX6_beginUse_74 : decode cX6_beginUse 74 = .ok (.aload_n 0, 1) := by decide +kernel
theorem dX6_beginUse_75 : decode cX6_beginUse 75 = .ok (.getfield 28, 3) := by decide +kernel
theorem dX6_beginUse_78 : decode cX6_beginUse 78 = .ok (.iload_n 3, 1) := by decide +kernel
theorem dX6_beginUse_79 : decode cX6_beginUse 79 = .ok (.invokevirtual 59, 3) := by decide +kernel
theorem dX6_beginUse_82 : decode cX6_beginUse 82 = .ok (.ifCond .eq 11, 3) := by decide +kernel
theorem dX6_beginUse_85 : decode cX6_beginUse 85 = .ok (.aload_n 0, 1) := by decide +kernel
theorem dX6_beginUse_86 : decode cX6_beginUse 86 = .ok (.getfield 28, 3) := by decide +kernel
theorem dX6_beginUse_89 : decode cX6_beginUse 89 = .ok (.iload_n 3, 1) := by decide +kernel
theorem dX6_beginUse_90 : decode cX6_beginUse 90 = .ok (.invokevirtual 69, 3) := by decide +kernel
theorem dX6_beginUse_93 : decode cX6_beginUse 93 = .ok (.return_, 1) := by decide +kernel
theorem kw_235 : Cond.fieldLink "FrequencyShelf$Shelf" 38 "FrequencyShelf$Shelf" "uses" "I" ∈ TB := tb_at 235 (by decide +kernel) (by decide +kernel)
theorem fl_X6_38 : mF RX6 38 5 5 := ⟨RX6, TX6, 9, tyX6, rfl, by decide, in_X6, kw_235, tyX6_ok, nmX6⟩
theorem fi_X6_5 : mFi 5 5 := fun _ _ _ h => by cases h; exact ⟨rfl, by decide +kernel⟩
theorem kw_233 : Cond.fieldLink "FrequencyShelf$Shelf" 34 "FrequencyShelf$Shelf" "sketch" "LFrequencyShelf$Sketch;" ∈ TB := tb_at 233 (by decide +kernel) (by decide +kernel)
theorem fl_X6_34 : mF RX6 34 5 4 := ⟨RX6, TX6, 9, tyX6, rfl, by decide, in_X6, kw_233, tyX6_ok, nmX6⟩
theorem kw_574 : Cond.methodLink "FrequencyShelf$Shelf" 51 yX7_add ∈ TB := tb_at 574 (by decide +kernel) (by decide +kernel)
theorem kw_577 : Cond.code yX7_add cX7_add 5 none ∈ TB := tb_at 577 (by decide +kernel) (by decide +kernel)
theorem kw_575 : Cond.instanceMethod yX7_add ∈ TB := tb_at 575 (by decide +kernel) (by decide +kernel)
theorem kw_576 : Cond.selects "FrequencyShelf$Sketch" yX7_add yX7_add ∈ TB := tb_at 576 (by decide +kernel) (by decide +kernel)
theorem cv_X7_add : Cond.code yX7_add cX7_add 5 none ∈ TB ∧ Cond.instanceMethod yX7_add ∈ TB ∧ Cond.selects "FrequencyShelf$Sketch" yX7_add yX7_add ∈ TB ∧ Cond.initialized "FrequencyShelf$Sketch" ∈ TB := ⟨kw_577, kw_575, kw_576, kw_73⟩
theorem kw_582 : Cond.methodLink "FrequencyShelf$Shelf" 55 yX0_rowOf ∈ TB := tb_at 582 (by decide +kernel) (by decide +kernel)
theorem kw_585 : Cond.code yX0_rowOf cX0_rowOf 2 (some .int) ∈ TB := tb_at 585 (by decide +kernel) (by decide +kernel)
theorem kw_583 : Cond.instanceMethod yX0_rowOf ∈ TB := tb_at 583 (by decide +kernel) (by decide +kernel)
theorem kw_584 : Cond.selects "FrequencyShelf$Entries" yX0_rowOf yX0_rowOf ∈ TB := tb_at 584 (by decide +kernel) (by decide +kernel)
theorem cv_X0_rowOf : Cond.code yX0_rowOf cX0_rowOf 2 (some .int) ∈ TB ∧ Cond.instanceMethod yX0_rowOf ∈ TB ∧ Cond.selects "FrequencyShelf$Entries" yX0_rowOf yX0_rowOf ∈ TB ∧ Cond.initialized "FrequencyShelf$Entries" ∈ TB := ⟨kw_585, kw_583, kw_584, kw_72⟩
abbrev cX0_has : ByteArray := prog_2_method_6_code
def yX0_has : MethodName := ⟨RX0, "has", "(I)Z"⟩
theorem dX0_has_0 : decode cX0_has 0 = .ok (.aload_n 0, 1) := by decide +kernel
theorem dX0_has_1 : decode cX0_has 1 = .ok (.iload_n 1, 1) := by decide +kernel
theorem dX0_has_2 : decode cX0_has 2 = .ok (.invokevirtual 40, 3) := by decide +kernel
theorem dX0_has_5 : decode cX0_has 5 = .ok (.iconst (-1), 1) := by decide +kernel
theorem dX0_has_6 : decode cX0_has 6 = .ok (.if_icmp .eq 7, 3) := by decide +kernel
theorem dX0_has_9 : decode cX0_has 9 = .ok (.iconst 1, 1) := by decide +kernel
theorem dX0_has_10 : decode cX0_has 10 = .ok (.goto 4, 3) := by decide +kernel
theorem dX0_has_13 : decode cX0_has 13 = .ok (.iconst 0, 1) := by decide +kernel
theorem dX0_has_14 : decode cX0_has 14 = .ok (.ireturn, 1) := by decide +kernel
theorem kw_591 : Cond.methodLink "FrequencyShelf$Entries" 40 yX0_rowOf ∈ TB := tb_at 591 (by decide +kernel) (by decide +kernel)
abbrev cX0_countUse : ByteArray := prog_2_method_12_code
def yX0_countUse : MethodName := ⟨RX0, "countUse", "(II)V"⟩
theorem dX0_countUse_0 : decode cX0_countUse 0 = .ok (.aload_n 0, 1) := by decide +kernel
theorem dX0_countUse_1 : decode cX0_countUse 1 = .ok (.getfield 20, 3) := by decide +kernel
theorem dX0_countUse_4 : decode cX0_countUse 4 = .ok (.iload_n 1, 1) := by decide +kernel
theorem dX0_countUse_5 : decode cX0_countUse 5 = .ok (.iconst 3, 1) := by decide +kernel
theorem dX0_countUse_6 : decode cX0_countUse 6 = .ok (.sipush 999, 3) := by decide +kernel
theorem dX0_countUse_9 : decode cX0_countUse 9 = .ok (.aload_n 0, 1) := by decide +kernel
theorem dX0_countUse_10 : decode cX0_countUse 10 = .ok (.getfield 20, 3) := by decide +kernel
theorem dX0_countUse_13 : decode cX0_countUse 13 = .ok (.iload_n 1, 1) := by decide +kernel
theorem dX0_countUse_14 : decode cX0_countUse 14 = .ok (.iconst 3, 1) := by decide +kernel
theorem dX0_countUse_15 : decode cX0_countUse 15 = .ok (.invokevirtual 28, 3) := by decide +kernel
theorem dX0_countUse_18 : decode cX0_countUse 18 = .ok (.iconst 1, 1) := by decide +kernel
theorem dX0_countUse_19 : decode cX0_countUse 19 = .ok (.iadd, 1) := by decide +kernel
theorem dX0_countUse_20 : decode cX0_countUse 20 = .ok (.invokestatic 61, 3) := by decide +kernel
theorem dX0_countUse_23 : decode cX0_countUse 23 = .ok (.invokevirtual 32, 3) := by decide +kernel
theorem dX0_countUse_26 : decode cX0_countUse 26 = .ok (.aload_n 0, 1) := by decide +kernel
theorem dX0_countUse_27 : decode cX0_countUse 27 = .ok (.getfield 20, 3) := by decide +kernel
theorem dX0_countUse_30 : decode cX0_countUse 30 = .ok (.iload_n 1, 1) := by decide +kernel
theorem dX0_countUse_31 : decode cX0_countUse 31 = .ok (.iconst 4, 1) := by decide +kernel
theorem dX0_countUse_32 : decode cX0_countUse 32 = .ok (.iload_n 2, 1) := by decide +kernel
theorem dX0_countUse_33 : decode cX0_countUse 33 = .ok (.invokevirtual 32, 3) := by decide +kernel
theorem dX0_countUse_36 : decode cX0_countUse 36 = .ok (.return_, 1) := by decide +kernel
theorem kl_min_X0 : Cond.methodLink RX0 61 Lib.Math.min.name ∈ TB := tb_at 604 (by decide +kernel) (by decide +kernel)
abbrev cX6_hit : ByteArray := prog_8_method_5_code
def yX6_hit : MethodName := ⟨RX6, "hit", "(I)I"⟩
theorem dX6_hit_0 : decode cX6_hit 0 = .ok (.aload_n 0, 1) := by decide +kernel
theorem dX6_hit_1 : decode cX6_hit 1 = .ok (.getfield 24, 3) := by decide +kernel
theorem dX6_hit_4 : decode cX6_hit 4 = .ok (.iload_n 1, 1) := by decide +kernel
theorem dX6_hit_5 : decode cX6_hit 5 = .ok (.invokevirtual 55, 3) := by decide +kernel
theorem dX6_hit_8 : decode cX6_hit 8 = .ok (.istore_n 2, 1) := by decide +kernel
theorem dX6_hit_9 : decode cX6_hit 9 = .ok (.aload_n 0, 1) := by decide +kernel
theorem dX6_hit_10 : decode cX6_hit 10 = .ok (.getfield 24, 3) := by decide +kernel
theorem dX6_hit_13 : decode cX6_hit 13 = .ok (.iload_n 2, 1) := by decide +kernel
theorem dX6_hit_14 : decode cX6_hit 14 = .ok (.aload_n 0, 1) := by decide +kernel
theorem dX6_hit_15 : decode cX6_hit 15 = .ok (.getfield 38, 3) := by decide +kernel
theorem dX6_hit_18 : decode cX6_hit 18 = .ok (.invokevirtual 86, 3) := by decide +kernel
theorem dX6_hit_21 : decode cX6_hit 21 = .ok (.iload_n 2, 1) := by decide +kernel
theorem dX6_hit_22 : decode cX6_hit 22 = .ok (.ireturn, 1) := by decide +kernel
theorem kw_600 : Cond.methodLink "FrequencyShelf$Shelf" 86 yX0_countUse ∈ TB := tb_at 600 (by decide +kernel) (by decide +kernel)
theorem kw_603 : Cond.code yX0_countUse cX0_countUse 3 none ∈ TB := tb_at 603 (by decide +kernel) (by decide +kernel)
theorem kw_601 : Cond.instanceMethod yX0_countUse ∈ TB := tb_at 601 (by decide +kernel) (by decide +kernel)
theorem kw_602 : Cond.selects "FrequencyShelf$Entries" yX0_countUse yX0_countUse ∈ TB := tb_at 602 (by decide +kernel) (by decide +kernel)
theorem cv_X0_countUse : Cond.code yX0_countUse cX0_countUse 3 none ∈ TB ∧ Cond.instanceMethod yX0_countUse ∈ TB ∧ Cond.selects "FrequencyShelf$Entries" yX0_countUse yX0_countUse ∈ TB ∧ Cond.initialized "FrequencyShelf$Entries" ∈ TB := ⟨kw_603, kw_601, kw_602, kw_72⟩
abbrev cX2_noteHit : ByteArray := prog_4_method_8_code
def yX2_noteHit : MethodName := ⟨RX2, "noteHit", "(II)V"⟩
theorem dX2_noteHit_0 : decode cX2_noteHit 0 = .ok (.aload_n 0, 1) := by decide +kernel
theorem dX2_noteHit_1 : decode cX2_noteHit 1 = .ok (.iconst 0, 1) := by decide +kernel
theorem dX2_noteHit_2 : decode cX2_noteHit 2 = .ok (.iload_n 2, 1) := by decide +kernel
theorem dX2_noteHit_3 : decode cX2_noteHit 3 = .ok (.invokevirtual 66, 3) := by decide +kernel
theorem dX2_noteHit_6 : decode cX2_noteHit 6 = .ok (.aload_n 0, 1) := by decide +kernel
theorem dX2_noteHit_7 : decode cX2_noteHit 7 = .ok (.iload_n 1, 1) := by decide +kernel
theorem dX2_noteHit_8 : decode cX2_noteHit 8 = .ok (.iconst 1, 1) := by decide +kernel
theorem dX2_noteHit_9 : decode cX2_noteHit 9 = .ok (.invokevirtual 63, 3) := by decide +kernel
theorem dX2_noteHit_12 : decode cX2_noteHit 12 = .ok (.return_, 1) := by decide +kernel
abbrev cX0_isDue : ByteArray := prog_2_method_10_code
def yX0_isDue : MethodName := ⟨RX0, "isDue", "(I)Z"⟩
theorem dX0_isDue_0 : decode cX0_isDue 0 = .ok (.aload_n 0, 1) := by decide +kernel
theorem dX0_isDue_1 : decode cX0_isDue 1 = .ok (.iload_n 1, 1) := by decide +kernel
theorem dX0_isDue_2 : decode cX0_isDue 2 = .ok (.invokevirtual 57, 3) := by decide +kernel
theorem dX0_isDue_5 : decode cX0_isDue 5 = .ok (.ifCond .ne 28, 3) := by decide +kernel
theorem dX0_isDue_8 : decode cX0_isDue 8 = .ok (.aload_n 0, 1) := by decide +kernel
theorem dX0_isDue_9 : decode cX0_isDue 9 = .ok (.getfield 9, 3) := by decide +kernel
theorem dX0_isDue_12 : decode cX0_isDue 12 = .ok (.iconst 3, 1) := by decide +kernel
theorem dX0_isDue_13 : decode cX0_isDue 13 = .ok (.aload_n 0, 1) := by decide +kernel
theorem dX0_isDue_14 : decode cX0_isDue 14 = .ok (.getfield 20, 3) := by decide +kernel
theorem dX0_isDue_17 : decode cX0_isDue 17 = .ok (.iload_n 1, 1) := by decide +kernel
theorem dX0_isDue_18 : decode cX0_isDue 18 = .ok (.bipush 6, 2) := by decide +kernel
theorem dX0_isDue_20 : decode cX0_isDue 20 = .ok (.invokevirtual 28, 3) := by decide +kernel
theorem dX0_isDue_23 : decode cX0_isDue 23 = .ok (.invokevirtual 53, 3) := by decide +kernel
theorem dX0_isDue_26 : decode cX0_isDue 26 = .ok (.ifCond .eq 7, 3) := by decide +kernel
theorem dX0_isDue_29 : decode cX0_isDue 29 = .ok (.iconst 1, 1) := by decide +kernel
theorem dX0_isDue_30 : decode cX0_isDue 30 = .ok (.goto 4, 3) := by decide +kernel
theorem dX0_isDue_33 : decode cX0_isDue 33 = .ok (.iconst 0, 1) := by decide +kernel
theorem dX0_isDue_34 : decode cX0_isDue 34 = .ok (.ireturn, 1) := by decide +kernel
abbrev cX3_lineUp : ByteArray := prog_5_method_6_code
def yX3_lineUp : MethodName := ⟨RX3, "lineUp", "(I)V"⟩
theorem dX3_lineUp_0 : decode cX3_lineUp 0 = .ok (.aload_n 0, 1) := by decide +kernel
theorem dX3_lineUp_1 : decode cX3_lineUp 1 = .ok (.getfield 24, 3) := by decide +kernel
theorem dX3_lineUp_4 : decode cX3_lineUp 4 = .ok (.iload_n 1, 1) := by decide +kernel
theorem dX3_lineUp_5 : decode cX3_lineUp 5 = .ok (.iconst 0, 1) := by decide +kernel
theorem dX3_lineUp_6 : decode cX3_lineUp 6 = .ok (.iconst 0, 1) := by decide +kernel
theorem dX3_lineUp_7 : decode cX3_lineUp 7 = .ok (.invokevirtual 49, 3) := by decide +kernel
theorem dX3_lineUp_10 : decode cX3_lineUp 10 = .ok (.pop, 1) := by decide +kernel
theorem dX3_lineUp_11 : decode cX3_lineUp 11 = .ok (.aload_n 0, 1) := by decide +kernel
theorem dX3_lineUp_12 : decode cX3_lineUp 12 = .ok (.getfield 15, 3) := by decide +kernel
theorem dX3_lineUp_15 : decode cX3_lineUp 15 = .ok (.iconst 1, 1) := by decide +kernel
theorem dX3_lineUp_16 : decode cX3_lineUp 16 = .ok (.iload_n 1, 1) := by decide +kernel
theorem dX3_lineUp_17 : decode cX3_lineUp 17 = .ok (.invokevirtual 54, 3) := by decide +kernel
theorem dX3_lineUp_20 : decode cX3_lineUp 20 = .ok (.aload_n 0, 1) := by decide +kernel
theorem dX3_lineUp_21 : decode cX3_lineUp 21 = .ok (.invokevirtual 57, 3) := by decide +kernel
theorem dX3_lineUp_24 : decode cX3_lineUp 24 = .ok (.return_, 1) := by decide +kernel
abbrev cX11_hit : ByteArray := prog_1_method_6_code
def yX11_hit : MethodName := ⟨RX11, "hit", "(II)I"⟩
theorem dX11_hit_0 : decode cX11_hit 0 = .ok (.aload_n 0, 1) := by decide +kernel
theorem dX11_hit_1 : decode cX11_hit 1 = .ok (.getfield 53, 3) := by decide +kernel
theorem dX11_hit_4 : decode cX11_hit 4 = .ok (.iload_n 2, 1) := by decide +kernel
theorem dX11_hit_5 : decode cX11_hit 5 = .ok (.invokevirtual 154, 3) := by decide +kernel
theorem dX11_hit_8 : decode cX11_hit 8 = .ok (.istore_n 3, 1) := by decide +kernel
theorem dX11_hit_9 : decode cX11_hit 9 = .ok (.aload_n 0, 1) := by decide +kernel
theorem dX11_hit_10 : decode cX11_hit 10 = .ok (.getfield 48, 3) := by decide +kernel
theorem dX11_hit_13 : decode cX11_hit 13 = .ok (.iload_n 1, 1) := by decide +kernel
theorem dX11_hit_14 : decode cX11_hit 14 = .ok (.iload_n 2, 1) := by decide +kernel
theorem dX11_hit_15 : decode cX11_hit 15 = .ok (.invokevirtual 156, 3) := by decide +kernel
theorem dX11_hit_18 : decode cX11_hit 18 = .ok (.aload_n 0, 1) := by decide +kernel
theorem dX11_hit_19 : decode cX11_hit 19 = .ok (.getfield 53, 3) := by decide +kernel
theorem dX11_hit_22 : decode cX11_hit 22 = .ok (.getfield 129, 3) := by decide +kernel
theorem dX11_hit_25 : decode cX11_hit 25 = .ok (.iload_n 3, 1) := by decide +kernel
theorem dX11_hit_26 : decode cX11_hit 26 = .ok (.invokevirtual 159, 3) := by decide +kernel
theorem dX11_hit_29 : decode cX11_hit 29 = .ok (.ifCond .eq 23, 3) := by decide +kernel
theorem dX11_hit_32 : decode cX11_hit 32 = .ok (.aload_n 0, 1) := by decide +kernel
theorem dX11_hit_33 : decode cX11_hit 33 = .ok (.getfield 58, 3) := by decide +kernel
theorem dX11_hit_36 : decode cX11_hit 36 = .ok (.iload_n 2, 1) := by decide +kernel
theorem dX11_hit_37 : decode cX11_hit 37 = .ok (.invokevirtual 162, 3) := by decide +kernel
theorem dX11_hit_40 : decode cX11_hit 40 = .ok (.iconst (-1), 1) := by decide +kernel
theorem dX11_hit_41 : decode cX11_hit 41 = .ok (.if_icmp .ne 11, 3) := by decide +kernel
theorem dX11_hit_44 : decode cX11_hit 44 = .ok (.aload_n 0, 1) := by decide +kernel
theorem dX11_hit_45 : decode cX11_hit 45 = .ok (.getfield 58, 3) := by decide +kernel
theorem dX11_hit_48 : decode cX11_hit 48 = .ok (.iload_n 2, 1) := by decide +kernel
theorem dX11_hit_49 : decode cX11_hit 49 = .ok (.invokevirtual 165, 3) := by decide +kernel
theorem dX11_hit_52 : decode cX11_hit 52 = .ok (.aload_n 0, 1) := by decide +kernel
theorem dX11_hit_53 : decode cX11_hit 53 = .ok (.getfield 53, 3) := by decide +kernel
theorem dX11_hit_56 : decode cX11_hit 56 = .ok (.getfield 129, 3) := by decide +kernel
theorem dX11_hit_59 : decode cX11_hit 59 = .ok (.iload_n 3, 1) := by decide +kernel
theorem dX11_hit_60 : decode cX11_hit 60 = .ok (.iconst 0, 1) := by decide +kernel
theorem dX11_hit_61 : decode cX11_hit 61 = .ok (.invokevirtual 168, 3) := by decide +kernel
theorem dX11_hit_64 : decode cX11_hit 64 = .ok (.ireturn, 1) := by decide +kernel
theorem kw_596 : Cond.methodLink "FrequencyShelf" 154 yX6_hit ∈ TB := tb_at 596 (by decide +kernel) (by decide +kernel)
theorem kw_599 : Cond.code yX6_hit cX6_hit 3 (some .int) ∈ TB := tb_at 599 (by decide +kernel) (by decide +kernel)
theorem kw_597 : Cond.instanceMethod yX6_hit ∈ TB := tb_at 597 (by decide +kernel) (by decide +kernel)
theorem kw_598 : Cond.selects "FrequencyShelf$Shelf" yX6_hit yX6_hit ∈ TB := tb_at 598 (by decide +kernel) (by decide +kernel)
theorem cv_X6_hit : Cond.code yX6_hit cX6_hit 3 (some .int) ∈ TB ∧ Cond.instanceMethod yX6_hit ∈ TB ∧ Cond.selects "FrequencyShelf$Shelf" yX6_hit yX6_hit ∈ TB ∧ Cond.initialized "FrequencyShelf$Shelf" ∈ TB := ⟨kw_599, kw_597, kw_598, kw_71⟩
theorem kw_306 : Cond.fieldLink "FrequencyShelf" 48 "FrequencyShelf" "ledge\x72" "LFrequencyShelf$Ledger;" ∈ TB := tb_at 306 (by decide +kernel) (by decide +kernel)
theorem fl_X11_48 : mF RX11 48 10 5 := ⟨RX11, TX11, 9, tyX11, rfl, by decide, in_X11, kw_306, tyX11_ok, nmX11⟩
theorem kw_607 : Cond.methodLink "FrequencyShelf" 156 yX2_noteHit ∈ TB := tb_at 607 (by decide +kernel) (by decide +kernel)
theorem kw_610 : Cond.code yX2_noteHit cX2_noteHit 3 none ∈ TB := tb_at 610 (by decide +kernel) (by decide +kernel)
theorem kw_608 : Cond.instanceMethod yX2_noteHit ∈ TB := tb_at 608 (by decide +kernel) (by decide +kernel)
theorem kw_609 : Cond.selects "FrequencyShelf$Ledge\x72" yX2_noteHit yX2_noteHit ∈ TB := tb_at 609 (by decide +kernel) (by decide +kernel)
theorem cv_X2_noteHit : Cond.code yX2_noteHit cX2_noteHit 3 none ∈ TB ∧ Cond.instanceMethod yX2_noteHit ∈ TB ∧ Cond.selects "FrequencyShelf$Ledge\x72" yX2_noteHit yX2_noteHit ∈ TB ∧ Cond.initialized "FrequencyShelf$Ledge\x72" ∈ TB := ⟨kw_610, kw_608, kw_609, kw_70⟩
theorem fl_X11_129 : mFN RX11 129 5 2 := ⟨RX6, TX6, 9, tyX6, rfl, by decide, in_X6, ⟨rfl, by decide⟩, tyX6_ok, nmX6⟩
theorem kw_611 : Cond.methodLink "FrequencyShelf" 159 yX0_isDue ∈ TB := tb_at 611 (by decide +kernel) (by decide +kernel)
theorem kw_614 : Cond.code yX0_isDue cX0_isDue 2 (some .boolean) ∈ TB := tb_at 614 (by decide +kernel) (by decide +kernel)
theorem kw_612 : Cond.instanceMethod yX0_isDue ∈ TB := tb_at 612 (by decide +kernel) (by decide +kernel)
theorem kw_613 : Cond.selects "FrequencyShelf$Entries" yX0_isDue yX0_isDue ∈ TB := tb_at 613 (by decide +kernel) (by decide +kernel)
theorem cv_X0_isDue : Cond.code yX0_isDue cX0_isDue 2 (some .boolean) ∈ TB ∧ Cond.instanceMethod yX0_isDue ∈ TB ∧ Cond.selects "FrequencyShelf$Entries" yX0_isDue yX0_isDue ∈ TB ∧ Cond.initialized "FrequencyShelf$Entries" ∈ TB := ⟨kw_614, kw_612, kw_613, kw_72⟩
theorem kw_620 : Cond.methodLink "FrequencyShelf" 168 yX0_get ∈ TB := tb_at 620 (by decide +kernel) (by decide +kernel)
theorem kw_615 : Cond.methodLink "FrequencyShelf" 162 yX3_rowOf ∈ TB := tb_at 615 (by decide +kernel) (by decide +kernel)
theorem kw_616 : Cond.methodLink "FrequencyShelf" 165 yX3_lineUp ∈ TB := tb_at 616 (by decide +kernel) (by decide +kernel)
theorem kw_619 : Cond.code yX3_lineUp cX3_lineUp 2 none ∈ TB := tb_at 619 (by decide +kernel) (by decide +kernel)
theorem kw_617 : Cond.instanceMethod yX3_lineUp ∈ TB := tb_at 617 (by decide +kernel) (by decide +kernel)
theorem kw_618 : Cond.selects "FrequencyShelf$Loads" yX3_lineUp yX3_lineUp ∈ TB := tb_at 618 (by decide +kernel) (by decide +kernel)
theorem cv_X3_lineUp : Cond.code yX3_lineUp cX3_lineUp 2 none ∈ TB ∧ Cond.instanceMethod yX3_lineUp ∈ TB ∧ Cond.selects "FrequencyShelf$Loads" yX3_lineUp yX3_lineUp ∈ TB ∧ Cond.initialized "FrequencyShelf$Loads" ∈ TB := ⟨kw_619, kw_617, kw_618, kw_74⟩
abbrev cX7_least : ByteArray := prog_9_method_4_code
def yX7_least : MethodName := ⟨RX7, "least", "(I)I"⟩
theorem dX7_least_0 : decode cX7_least 0 = .ok (.iload_n 1, 1) := by decide +kernel
theorem dX7_least_1 : decode cX7_least 1 = .ok (.invokestatic 13, 3) := by decide +kernel
theorem dX7_least_4 : decode cX7_least 4 = .ok (.istore_n 2, 1) := by decide +kernel
theorem dX7_least_5 : decode cX7_least 5 = .ok (.bipush 15, 2) := by decide +kernel
theorem dX7_least_7 : decode cX7_least 7 = .ok (.istore_n 3, 1) := by decide +kernel
theorem dX7_least_8 : decode cX7_least 8 = .ok (.iconst 0, 1) := by decide +kernel
theorem dX7_least_9 : decode cX7_least 9 = .ok (.istore 4, 2) := by decide +kernel
theorem dX7_least_11 : decode cX7_least 11 = .ok (.iload 4, 2) := by decide +kernel
theorem dX7_least_13 : decode cX7_least 13 = .ok (.iconst 4, 1) := by decide +kernel
theorem dX7_least_14 : decode cX7_least 14 = .ok (.if_icmp .ge 51, 3) := by decide +kernel
theorem dX7_least_17 : decode cX7_least 17 = .ok (.iload_n 2, 1) := by decide +kernel
theorem dX7_least_18 : decode cX7_least 18 = .ok (.iload 4, 2) := by decide +kernel
theorem dX7_least_20 : decode cX7_least 20 = .ok (.invokestatic 19, 3) := by decide +kernel
theorem dX7_least_23 : decode cX7_least 23 = .ok (.istore 5, 2) := by decide +kernel
theorem dX7_least_25 : decode cX7_least 25 = .ok (.iload 5, 2) := by decide +kernel
theorem dX7_least_27 : decode cX7_least 27 = .ok (.ifCond .lt 32, 3) := by decide +kernel
theorem dX7_least_30 : decode cX7_least 30 = .ok (.iload 5, 2) := by decide +kernel
theorem dX7_least_32 : decode cX7_least 32 = .ok (.aload_n 0, 1) := by decide +kernel
theorem dX7_least_33 : decode cX7_least 33 = .ok (.getfield 9, 3) := by decide +kernel
theorem dX7_least_36 : decode cX7_least 36 = .ok (.arraylength, 1) := by decide +kernel
theorem dX7_least_37 : decode cX7_least 37 = .ok (.if_icmp .ge 22, 3) := by decide +kernel
theorem dX7_least_40 : decode cX7_least 40 = .ok (.aload_n 0, 1) := by decide +kernel
theorem dX7_least_41 : decode cX7_least 41 = .ok (.getfield 9, 3) := by decide +kernel
theorem dX7_least_44 : decode cX7_least 44 = .ok (.iload 5, 2) := by decide +kernel
theorem dX7_least_46 : decode cX7_least 46 = .ok (.iaload, 1) := by decide +kernel
theorem dX7_least_47 : decode cX7_least 47 = .ok (.iload_n 3, 1) := by decide +kernel
theorem dX7_least_48 : decode cX7_least 48 = .ok (.if_icmp .ge 11, 3) := by decide +kernel
theorem dX7_least_51 : decode cX7_least 51 = .ok (.aload_n 0, 1) := by decide +kernel
theorem dX7_least_52 : decode cX7_least 52 = .ok (.getfield 9, 3) := by decide +kernel
theorem dX7_least_55 : decode cX7_least 55 = .ok (.iload 5, 2) := by decide +kernel
theorem dX7_least_57 : decode cX7_least 57 = .ok (.iaload, 1) := by decide +kernel
theorem dX7_least_58 : decode cX7_least 58 = .ok (.istore_n 3, 1) := by decide +kernel
theorem dX7_least_59 : decode cX7_least 59 = .ok (.iinc 4 1, 3) := by decide +kernel
theorem dX7_least_62 : decode cX7_least 62 = .ok (.goto (-51), 3) := by decide +kernel
theorem dX7_least_65 : decode cX7_least 65 = .ok (.iload_n 3, 1) := by decide +kernel
theorem dX7_least_66 : decode cX7_least 66 = .ok (.ireturn, 1) := by decide +kernel
abbrev cX6_mayComeIn : ByteArray := prog_8_method_10_code
def yX6_mayComeIn : MethodName := ⟨RX6, "mayComeIn", "(II)Z"⟩
theorem dX6_mayComeIn_0 : decode cX6_mayComeIn 0 = .ok (.aload_n 0, 1) := by decide +kernel
theorem dX6_mayComeIn_1 : decode cX6_mayComeIn 1 = .ok (.getfield 9, 3) := by decide +kernel
theorem dX6_mayComeIn_4 : decode cX6_mayComeIn 4 = .ok (.iconst 0, 1) := by decide +kernel
theorem dX6_mayComeIn_5 : decode cX6_mayComeIn 5 = .ok (.invokevirtual 74, 3) := by decide +kernel
theorem dX6_mayComeIn_8 : decode cX6_mayComeIn 8 = .ok (.istore_n 3, 1) := by decide +kernel
theorem dX6_mayComeIn_9 : decode cX6_mayComeIn 9 = .ok (.iload_n 2, 1) := by decide +kernel
theorem dX6_mayComeIn_10 : decode cX6_mayComeIn 10 = .ok (.iload_n 3, 1) := by decide +kernel
theorem dX6_mayComeIn_11 : decode cX6_mayComeIn 11 = .ok (.if_icmp .le 5, 3) := by decide +kernel
theorem dX6_mayComeIn_14 : decode cX6_mayComeIn 14 = .ok (.iconst 0, 1) := by decide +kernel
theorem dX6_mayComeIn_15 : decode cX6_mayComeIn 15 = .ok (.ireturn, 1) := by decide +kernel
theorem dX6_mayComeIn_16 : decode cX6_mayComeIn 16 = .ok (.aload_n 0, 1) := by decide +kernel
theorem dX6_mayComeIn_17 : decode cX6_mayComeIn 17 = .ok (.getfield 9, 3) := by decide +kernel
theorem dX6_mayComeIn_20 : decode cX6_mayComeIn 20 = .ok (.iconst 5, 1) := by decide +kernel
theorem dX6_mayComeIn_21 : decode cX6_mayComeIn 21 = .ok (.invokevirtual 74, 3) := by decide +kernel
theorem dX6_mayComeIn_24 : decode cX6_mayComeIn 24 = .ok (.ifCond .eq 16, 3) := by decide +kernel
theorem dX6_mayComeIn_27 : decode cX6_mayComeIn 27 = .ok (.aload_n 0, 1) := by decide +kernel
theorem dX6_mayComeIn_28 : decode cX6_mayComeIn 28 = .ok (.getfield 24, 3) := by decide +kernel
theorem dX6_mayComeIn_31 : decode cX6_mayComeIn 31 = .ok (.invokevirtual 131, 3) := by decide +kernel
theorem dX6_mayComeIn_34 : decode cX6_mayComeIn 34 = .ok (.iload_n 2, 1) := by decide +kernel
theorem dX6_mayComeIn_35 : decode cX6_mayComeIn 35 = .ok (.iadd, 1) := by decide +kernel
theorem dX6_mayComeIn_36 : decode cX6_mayComeIn 36 = .ok (.iload_n 3, 1) := by decide +kernel
theorem dX6_mayComeIn_37 : decode cX6_mayComeIn 37 = .ok (.if_icmp .gt 5, 3) := by decide +kernel
theorem dX6_mayComeIn_40 : decode cX6_mayComeIn 40 = .ok (.iconst 1, 1) := by decide +kernel
theorem dX6_mayComeIn_41 : decode cX6_mayComeIn 41 = .ok (.ireturn, 1) := by decide +kernel
theorem dX6_mayComeIn_42 : decode cX6_mayComeIn 42 = .ok (.aload_n 0, 1) := by decide +kernel
theorem dX6_mayComeIn_43 : decode cX6_mayComeIn 43 = .ok (.getfield 24, 3) := by decide +kernel
theorem dX6_mayComeIn_46 : decode cX6_mayComeIn 46 = .ok (.iconst (-1), 1) := by decide +kernel
theorem dX6_mayComeIn_47 : decode cX6_mayComeIn 47 = .ok (.iconst 0, 1) := by decide +kernel
theorem dX6_mayComeIn_48 : decode cX6_mayComeIn 48 = .ok (.invokevirtual 134, 3) := by decide +kernel
theorem dX6_mayComeIn_51 : decode cX6_mayComeIn 51 = .ok (.istore 4, 2) := by decide +kernel
theorem dX6_mayComeIn_53 : decode cX6_mayComeIn 53 = .ok (.aload_n 0, 1) := by decide +kernel
theorem dX6_mayComeIn_54 : decode cX6_mayComeIn 54 = .ok (.getfield 24, 3) := by decide +kernel
theorem dX6_mayComeIn_57 : decode cX6_mayComeIn 57 = .ok (.iload 4, 2) := by decide +kernel
theorem dX6_mayComeIn_59 : decode cX6_mayComeIn 59 = .ok (.invokevirtual 59, 3) := by decide +kernel
theorem dX6_mayComeIn_62 : decode cX6_mayComeIn 62 = .ok (.ifCond .ne 24, 3) := by decide +kernel
theorem dX6_mayComeIn_65 : decode cX6_mayComeIn 65 = .ok (.aload_n 0, 1) := by decide +kernel
theorem dX6_mayComeIn_66 : decode cX6_mayComeIn 66 = .ok (.getfield 24, 3) := by decide +kernel
theorem dX6_mayComeIn_69 : decode cX6_mayComeIn 69 = .ok (.iload 4, 2) := by decide +kernel
theorem dX6_mayComeIn_71 : decode cX6_mayComeIn 71 = .ok (.iconst 3, 1) := by decide +kernel
theorem dX6_mayComeIn_72 : decode cX6_mayComeIn 72 = .ok (.invokevirtual 89, 3) := by decide +kernel
theorem dX6_mayComeIn_75 : decode cX6_mayComeIn 75 = .ok (.aload_n 0, 1) := by decide +kernel
theorem dX6_mayComeIn_76 : decode cX6_mayComeIn 76 = .ok (.getfield 34, 3) := by decide +kernel
theorem dX6_mayComeIn_79 : decode cX6_mayComeIn 79 = .ok (.iload_n 1, 1) := by decide +kernel
theorem dX6_mayComeIn_80 : decode cX6_mayComeIn 80 = .ok (.invokevirtual 128, 3) := by decide +kernel
theorem dX6_mayComeIn_83 : decode cX6_mayComeIn 83 = .ok (.if_icmp .ge 7, 3) := by decide +kernel
theorem dX6_mayComeIn_86 : decode cX6_mayComeIn 86 = .ok (.iconst 1, 1) := by decide +kernel
theorem dX6_mayComeIn_87 : decode cX6_mayComeIn 87 = .ok (.goto 4, 3) := by decide +kernel
theorem dX6_mayComeIn_90 : decode cX6_mayComeIn 90 = .ok (.iconst 0, 1) := by decide +kernel
theorem dX6_mayComeIn_91 : decode cX6_mayComeIn 91 = .ok (.ireturn, 1) := by decide +kernel
theorem kw_633 : Cond.methodLink "FrequencyShelf$Shelf" 128 yX7_least ∈ TB := tb_at 633 (by decide +kernel) (by decide +kernel)
theorem kw_636 : Cond.code yX7_least cX7_least 6 (some .int) ∈ TB := tb_at 636 (by decide +kernel) (by decide +kernel)
theorem kw_634 : Cond.instanceMethod yX7_least ∈ TB := tb_at 634 (by decide +kernel) (by decide +kernel)
theorem kw_635 : Cond.selects "FrequencyShelf$Sketch" yX7_least yX7_least ∈ TB := tb_at 635 (by decide +kernel) (by decide +kernel)
theorem cv_X7_least : Cond.code yX7_least cX7_least 6 (some .int) ∈ TB ∧ Cond.instanceMethod yX7_least ∈ TB ∧ Cond.selects "FrequencyShelf$Sketch" yX7_least yX7_least ∈ TB ∧ Cond.initialized "FrequencyShelf$Sketch" ∈ TB := ⟨kw_636, kw_634, kw_635, kw_73⟩
abbrev cX0_set : ByteArray := prog_2_method_4_code
def yX0_set : MethodName := ⟨RX0, "set", "(III)V"⟩
theorem dX0_set_0 : decode cX0_set 0 = .ok (.aload_n 0, 1) := by decide +kernel
theorem dX0_set_1 : decode cX0_set 1 = .ok (.getfield 20, 3) := by decide +kernel
theorem dX0_set_4 : decode cX0_set 4 = .ok (.iload_n 1, 1) := by decide +kernel
theorem dX0_set_5 : decode cX0_set 5 = .ok (.iload_n 2, 1) := by decide +kernel
theorem dX0_set_6 : decode cX0_set 6 = .ok (.iload_n 3, 1) := by decide +kernel
theorem dX0_set_7 : decode cX0_set 7 = .ok (.invokevirtual 32, 3) := by decide +kernel
theorem dX0_set_10 : decode cX0_set 10 = .ok (.return_, 1) := by decide +kernel
-- X10_size
def po_X10_size (E : mE) (h : Nat) (a_tby : Nat)  (tby : Nat → Int32) (tsz : Int32)  (o : Int32) : Option Value → va_W → Prop := (fun (v : Option Value) (w' : va_W) => v = some (.int o) ∧ w' = [(h, .inr (9, [.ref a_tby, .int tsz])), (a_tby, .inl (E.2.1, 60, .inl tby))])
noncomputable def F_X10_size  (tsz : Int32)  : Option (Int32) :=
  some (tsz)
set_option maxHeartbeats 4000000 in
set_option maxRecDepth 100000 in
theorem d_X10_size (E : mE) (l : Launch) (h : Nat) (a_tby : Nat)  (tby : Nat → Int32) (tsz : Int32)    (o : Int32) (hf : F_X10_size tsz = some o) : MX E l yX10_size cX10_size 1 (some .int) ({ frames := 0, cells := 0, slots := 0, locals := 0 } : Room) [.ref h] [(h, .inr (9, [.ref a_tby, .int tsz])), (a_tby, .inl (E.2.1, 60, .inl tby))] (po_X10_size E h a_tby tby tsz o) := by
  refine mx_intro (by decide +kernel) (Nat.le_of_ble_eq_true rfl) ?_
  intro p e s m args below meth c A Q ls B w hl
  obtain ⟨hx, hb, hml, hown, hts⟩ := id B.1
  unfold F_X10_size at hf
  have hl : lv_has ls 1 [(0, .ref h)] := hl
  refine lv_aload_n hx hb dX10_size_0 rfl (lv_at hl 0 rfl) ?_
  refine mx_get B w 0 fl_X10_15 rfl rfl dX10_size_1 ?_
  cases hf
  exact mx_iret B w ⟨rfl, rfl⟩ dX10_size_4
-- X11_feed
def po_X11_feed (E : mE) (h : Nat) (h_tape : Nat) (a_tby : Nat) (h_rowOfKeys : Nat) (a_rowOfKeys : Nat) (h_replays : Nat) (h_places : Nat) (a_places : Nat) (h_rules : Nat) (a_vals : Nat) (h_ledger : Nat) (h_book : Nat) (a_book : Nat) (h_told : Nat) (a_told : Nat) (h_written : Nat) (a_written : Nat) (h_late : Nat) (a_late : Nat) (a_sums : Nat) (a_asum : Nat) (h_shelf : Nat) (h_entries : Nat) (h_ents : Nat) (a_ents : Nat) (h_cold : Nat) (h_colds : Nat) (a_colds : Nat) (h_sketch : Nat) (a_cnt : Nat) (h_loads : Nat) (h_line : Nat) (a_line : Nat) (h_waits : Nat) (a_waits : Nat) (h_boxes : Nat) (a_boxes : Nat) (h_at : Nat) (kv : Value) (tby : Nat → Int32) (tsz : Int32) (rowOfKeys : Rows) (places : Rows) (vals : Nat → Int32) (now : Int32) (book : Rows) (told : Rows) (written : Rows) (late : Rows) (sums : Nat → Int32) (asum : Nat → Int32) (ents : Rows) (colds : Rows) (cnt : Nat → Int32) (uses : Int32) (usesInWindow : Int32) (entriesSoFar : Int32) (dirtySoFar : Int32) (line : Rows) (waits : Rows) (boxes : Rows) (s_rowOfKeys : Int32) (f_rowOfKeys : Nat → Int32) (s_places : Int32) (f_places : Nat → Int32) (s_book : Int32) (f_book : Nat → Int32) (s_told : Int32) (f_told : Nat → Int32) (s_written : Int32) (f_written : Nat → Int32) (s_late : Int32) (f_late : Nat → Int32) (s_ents : Int32) (f_ents : Nat → Int32) (s_colds : Int32) (f_colds : Nat → Int32) (s_line : Int32) (f_line : Nat → Int32) (s_waits : Int32) (f_waits : Nat → Int32) (s_boxes : Int32) (f_boxes : Nat → Int32) (o : Int32 × (Nat → Int32) × Int32) : Option Value → va_W → Prop := (fun (v : Option Value) (w' : va_W) => v = some (.int o.1) ∧ w' = [(h, .inr (10, [.ref h_tape, .ref h_rowOfKeys, .ref h_replays, .ref h_at, .ref h_rules, .ref h_ledger, .ref h_shelf, .ref h_loads, kv])), (h_tape, .inr (9, [.ref a_tby, .int o.2.2])), (a_tby, .inl (E.2.1, 60, .inl o.2.1)), (h_rowOfKeys, .inr (8, [.int (nI 30), .int (nI 1), .ref a_rowOfKeys, .int s_rowOfKeys])), (a_rowOfKeys, .inl (E.2.1, (30 * 1), .inl f_rowOfKeys)), (h_replays, .inr (3, [.ref h_places])), (h_places, .inr (8, [.int (nI 12), .int (nI 3), .ref a_places, .int s_places])), (a_places, .inl (E.2.1, (12 * 3), .inl f_places)), (h_rules, .inr (4, [.ref a_vals, .int now])), (a_vals, .inl (E.2.1, 8, .inl vals)), (h_ledger, .inr (1, [.ref h_rules, .ref h_book, .ref h_told, .ref h_written, .ref h_late, .ref a_sums, .ref a_asum])), (h_book, .inr (8, [.int (nI 40), .int (nI 3), .ref a_book, .int s_book])), (a_book, .inl (E.2.1, (40 * 3), .inl f_book)), (h_told, .inr (8, [.int (nI 60), .int (nI 1), .ref a_told, .int s_told])), (a_told, .inl (E.2.1, (60 * 1), .inl f_told)), (h_written, .inr (8, [.int (nI 40), .int (nI 2), .ref a_written, .int s_written])), (a_written, .inl (E.2.1, (40 * 2), .inl f_written)), (h_late, .inr (8, [.int (nI 60), .int (nI 1), .ref a_late, .int s_late])), (a_late, .inl (E.2.1, (60 * 1), .inl f_late)), (a_sums, .inl (E.2.1, 14, .inl sums)), (a_asum, .inl (E.2.1, 64, .inl asum)), (h_shelf, .inr (5, [.ref h_rules, .ref h_ledger, .ref h_entries, .ref h_cold, .ref h_sketch, .int uses, .int usesInWindow, .int entriesSoFar, .int dirtySoFar])), (h_entries, .inr (0, [.ref h_rules, .ref h_ents])), (h_ents, .inr (8, [.int (nI 200), .int (nI 9), .ref a_ents, .int s_ents])), (a_ents, .inl (E.2.1, (200 * 9), .inl f_ents)), (h_cold, .inr (0, [.ref h_rules, .ref h_colds])), (h_colds, .inr (8, [.int (nI 20), .int (nI 9), .ref a_colds, .int s_colds])), (a_colds, .inl (E.2.1, (20 * 9), .inl f_colds)), (h_sketch, .inr (6, [.ref a_cnt])), (a_cnt, .inl (E.2.1, 64, .inl cnt)), (h_loads, .inr (2, [.ref h_rules, .ref h_ledger, .ref h_line, .ref h_waits, .ref h_boxes])), (h_line, .inr (8, [.int (nI 256), .int (nI 3), .ref a_line, .int s_line])), (a_line, .inl (E.2.1, (256 * 3), .inl f_line)), (h_waits, .inr (8, [.int (nI 256), .int (nI 2), .ref a_waits, .int s_waits])), (a_waits, .inl (E.2.1, (256 * 2), .inl f_waits)), (h_boxes, .inr (8, [.int (nI 192), .int (nI 3), .ref a_boxes, .int s_boxes])), (a_boxes, .inl (E.2.1, (192 * 3), .inl f_boxes))])
noncomputable def J_X11_feed_17   (x1 : Int32) (tby : Nat → Int32) (tsz : Int32) : Option (Int32 × (Nat → Int32) × Int32) :=
  bd (F_X10_add tby tsz x1) (fun o_2 =>
  if (o_2.1 = 0 : Prop) then
  some ((-1004), o_2.2.1, o_2.2.2)
  else
  bd (F_X10_size o_2.2.2) (fun o_3 =>
  some (o_3, o_2.2.1, o_2.2.2)))
set_option maxHeartbeats 4000000 in
set_option maxRecDepth 100000 in
theorem j_X11_feed_17 {E : mE} {l : Launch} {p : Program} {e : Env} {s : State} {m : MethodId} {args : Array Value} {below : List Frame} {meth : Method} {c : Code} {A : Nat → Prop} {Q : State → Prop} {h : Nat} {h_tape : Nat} {a_tby : Nat} {h_rowOfKeys : Nat} {a_rowOfKeys : Nat} {h_replays : Nat} {h_places : Nat} {a_places : Nat} {h_rules : Nat} {a_vals : Nat} {h_ledger : Nat} {h_book : Nat} {a_book : Nat} {h_told : Nat} {a_told : Nat} {h_written : Nat} {a_written : Nat} {h_late : Nat} {a_late : Nat} {a_sums : Nat} {a_asum : Nat} {h_shelf : Nat} {h_entries : Nat} {h_ents : Nat} {a_ents : Nat} {h_cold : Nat} {h_colds : Nat} {a_colds : Nat} {h_sketch : Nat} {a_cnt : Nat} {h_loads : Nat} {h_line : Nat} {a_line : Nat} {h_waits : Nat} {a_waits : Nat} {h_boxes : Nat} {a_boxes : Nat} {h_at : Nat} {kv : Value} {tby0 : Nat → Int32} {tsz0 : Int32} {rowOfKeys : Rows} {places : Rows} {vals : Nat → Int32} {now : Int32} {book : Rows} {told : Rows} {written : Rows} {late : Rows} {sums : Nat → Int32} {asum : Nat → Int32} {ents : Rows} {colds : Rows} {cnt : Nat → Int32} {uses : Int32} {usesInWindow : Int32} {entriesSoFar : Int32} {dirtySoFar : Int32} {line : Rows} {waits : Rows} {boxes : Rows} {s_rowOfKeys : Int32} {f_rowOfKeys : Nat → Int32} {s_places : Int32} {f_places : Nat → Int32} {s_book : Int32} {f_book : Nat → Int32} {s_told : Int32} {f_told : Nat → Int32} {s_written : Int32} {f_written : Nat → Int32} {s_late : Int32} {f_late : Nat → Int32} {s_ents : Int32} {f_ents : Nat → Int32} {s_colds : Int32} {f_colds : Nat → Int32} {s_line : Int32} {f_line : Nat → Int32} {s_waits : Int32} {f_waits : Nat → Int32} {s_boxes : Int32} {f_boxes : Nat → Int32} {o : Int32 × (Nat → Int32) × Int32} (B : mB E yX11_feed cX11_feed 2 (some .int) 0 0 (po_X11_feed E h h_tape a_tby h_rowOfKeys a_rowOfKeys h_replays h_places a_places h_rules a_vals h_ledger h_book a_book h_told a_told h_written a_written h_late a_late a_sums a_asum h_shelf h_entries h_ents a_ents h_cold h_colds a_colds h_sketch a_cnt h_loads h_line a_line h_waits a_waits h_boxes a_boxes h_at kv tby0 tsz0 rowOfKeys places vals now book told written late sums asum ents colds cnt uses usesInWindow entriesSoFar dirtySoFar line waits boxes s_rowOfKeys f_rowOfKeys s_places f_places s_book f_book s_told f_told s_written f_written s_late f_late s_ents f_ents s_colds f_colds s_line f_line s_waits f_waits s_boxes f_boxes o) p s m args below meth c A Q) {x1 : Int32} {tby : Nat → Int32} {tsz : Int32}    {H : Heap} {locs : List Loc} {ls : Array Slot} (hf : J_X11_feed_17 x1 tby tsz = some o) (ok_rowOfKeys : tb_ok 30 1 rowOfKeys s_rowOfKeys f_rowOfKeys) (ok_places : tb_ok 12 3 places s_places f_places) (ok_book : tb_ok 40 3 book s_book f_book) (ok_told : tb_ok 60 1 told s_told f_told) (ok_written : tb_ok 40 2 written s_written f_written) (ok_late : tb_ok 60 1 late s_late f_late) (ok_ents : tb_ok 200 9 ents s_ents f_ents) (ok_colds : tb_ok 20 9 colds s_colds f_colds) (ok_line : tb_ok 256 3 line s_line f_line) (ok_waits : tb_ok 256 2 waits s_waits f_waits) (ok_boxes : tb_ok 192 3 boxes s_boxes f_boxes) (w : mW E A s [(h, .inr (10, [.ref h_tape, .ref h_rowOfKeys, .ref h_replays, .ref h_at, .ref h_rules, .ref h_ledger, .ref h_shelf, .ref h_loads, kv])), (h_tape, .inr (9, [.ref a_tby, .int tsz])), (a_tby, .inl (E.2.1, 60, .inl tby)), (h_rowOfKeys, .inr (8, [.int (nI 30), .int (nI 1), .ref a_rowOfKeys, .int s_rowOfKeys])), (a_rowOfKeys, .inl (E.2.1, (30 * 1), .inl f_rowOfKeys)), (h_replays, .inr (3, [.ref h_places])), (h_places, .inr (8, [.int (nI 12), .int (nI 3), .ref a_places, .int s_places])), (a_places, .inl (E.2.1, (12 * 3), .inl f_places)), (h_rules, .inr (4, [.ref a_vals, .int now])), (a_vals, .inl (E.2.1, 8, .inl vals)), (h_ledger, .inr (1, [.ref h_rules, .ref h_book, .ref h_told, .ref h_written, .ref h_late, .ref a_sums, .ref a_asum])), (h_book, .inr (8, [.int (nI 40), .int (nI 3), .ref a_book, .int s_book])), (a_book, .inl (E.2.1, (40 * 3), .inl f_book)), (h_told, .inr (8, [.int (nI 60), .int (nI 1), .ref a_told, .int s_told])), (a_told, .inl (E.2.1, (60 * 1), .inl f_told)), (h_written, .inr (8, [.int (nI 40), .int (nI 2), .ref a_written, .int s_written])), (a_written, .inl (E.2.1, (40 * 2), .inl f_written)), (h_late, .inr (8, [.int (nI 60), .int (nI 1), .ref a_late, .int s_late])), (a_late, .inl (E.2.1, (60 * 1), .inl f_late)), (a_sums, .inl (E.2.1, 14, .inl sums)), (a_asum, .inl (E.2.1, 64, .inl asum)), (h_shelf, .inr (5, [.ref h_rules, .ref h_ledger, .ref h_entries, .ref h_cold, .ref h_sketch, .int uses, .int usesInWindow, .int entriesSoFar, .int dirtySoFar])), (h_entries, .inr (0, [.ref h_rules, .ref h_ents])), (h_ents, .inr (8, [.int (nI 200), .int (nI 9), .ref a_ents, .int s_ents])), (a_ents, .inl (E.2.1, (200 * 9), .inl f_ents)), (h_cold, .inr (0, [.ref h_rules, .ref h_colds])), (h_colds, .inr (8, [.int (nI 20), .int (nI 9), .ref a_colds, .int s_colds])), (a_colds, .inl (E.2.1, (20 * 9), .inl f_colds)), (h_sketch, .inr (6, [.ref a_cnt])), (a_cnt, .inl (E.2.1, 64, .inl cnt)), (h_loads, .inr (2, [.ref h_rules, .ref h_ledger, .ref h_line, .ref h_waits, .ref h_boxes])), (h_line, .inr (8, [.int (nI 256), .int (nI 3), .ref a_line, .int s_line])), (a_line, .inl (E.2.1, (256 * 3), .inl f_line)), (h_waits, .inr (8, [.int (nI 256), .int (nI 2), .ref a_waits, .int s_waits])), (a_waits, .inl (E.2.1, (256 * 2), .inl f_waits)), (h_boxes, .inr (8, [.int (nI 192), .int (nI 3), .ref a_boxes, .int s_boxes])), (a_boxes, .inl (E.2.1, (192 * 3), .inl f_boxes))] H locs) (hl : lv_has ls 2 [(0, .ref h), (1, .int x1)]) : W p l e ({ frames := 1, cells := 0, slots := 0, locals := 21 } : Room) s m args below meth c H locs 0 0 Q (F0 m 17 ls []) := by
  obtain ⟨hx, hb, hml, hown, hts⟩ := id B.1
  unfold J_X11_feed_17 at hf
  refine lv_aload_n hx hb dX11_feed_17 rfl (lv_at hl 0 rfl) ?_
  refine mx_get B w 0 fl_X11_10 rfl rfl dX11_feed_18 ?_
  refine lv_iload_n hx hb dX11_feed_21 rfl (lv_at hl 1 rfl) ?_
  obtain ⟨o_2, hq, hf⟩ := bd_e hf
  refine mx_callV (As := [.int x1]) (rest := []) (wr := [(h, .inr (10, [.ref h_tape, .ref h_rowOfKeys, .ref h_replays, .ref h_at, .ref h_rules, .ref h_ledger, .ref h_shelf, .ref h_loads, kv])), (h_rowOfKeys, .inr (8, [.int (nI 30), .int (nI 1), .ref a_rowOfKeys, .int s_rowOfKeys])), (a_rowOfKeys, .inl (E.2.1, (30 * 1), .inl f_rowOfKeys)), (h_replays, .inr (3, [.ref h_places])), (h_places, .inr (8, [.int (nI 12), .int (nI 3), .ref a_places, .int s_places])), (a_places, .inl (E.2.1, (12 * 3), .inl f_places)), (h_rules, .inr (4, [.ref a_vals, .int now])), (a_vals, .inl (E.2.1, 8, .inl vals)), (h_ledger, .inr (1, [.ref h_rules, .ref h_book, .ref h_told, .ref h_written, .ref h_late, .ref a_sums, .ref a_asum])), (h_book, .inr (8, [.int (nI 40), .int (nI 3), .ref a_book, .int s_book])), (a_book, .inl (E.2.1, (40 * 3), .inl f_book)), (h_told, .inr (8, [.int (nI 60), .int (nI 1), .ref a_told, .int s_told])), (a_told, .inl (E.2.1, (60 * 1), .inl f_told)), (h_written, .inr (8, [.int (nI 40), .int (nI 2), .ref a_written, .int s_written])), (a_written, .inl (E.2.1, (40 * 2), .inl f_written)), (h_late, .inr (8, [.int (nI 60), .int (nI 1), .ref a_late, .int s_late])), (a_late, .inl (E.2.1, (60 * 1), .inl f_late)), (a_sums, .inl (E.2.1, 14, .inl sums)), (a_asum, .inl (E.2.1, 64, .inl asum)), (h_shelf, .inr (5, [.ref h_rules, .ref h_ledger, .ref h_entries, .ref h_cold, .ref h_sketch, .int uses, .int usesInWindow, .int entriesSoFar, .int dirtySoFar])), (h_entries, .inr (0, [.ref h_rules, .ref h_ents])), (h_ents, .inr (8, [.int (nI 200), .int (nI 9), .ref a_ents, .int s_ents])), (a_ents, .inl (E.2.1, (200 * 9), .inl f_ents)), (h_cold, .inr (0, [.ref h_rules, .ref h_colds])), (h_colds, .inr (8, [.int (nI 20), .int (nI 9), .ref a_colds, .int s_colds])), (a_colds, .inl (E.2.1, (20 * 9), .inl f_colds)), (h_sketch, .inr (6, [.ref a_cnt])), (a_cnt, .inl (E.2.1, 64, .inl cnt)), (h_loads, .inr (2, [.ref h_rules, .ref h_ledger, .ref h_line, .ref h_waits, .ref h_boxes])), (h_line, .inr (8, [.int (nI 256), .int (nI 3), .ref a_line, .int s_line])), (a_line, .inl (E.2.1, (256 * 3), .inl f_line)), (h_waits, .inr (8, [.int (nI 256), .int (nI 2), .ref a_waits, .int s_waits])), (a_waits, .inl (E.2.1, (256 * 2), .inl f_waits)), (h_boxes, .inr (8, [.int (nI 192), .int (nI 3), .ref a_boxes, .int s_boxes])), (a_boxes, .inl (E.2.1, (192 * 3), .inl f_boxes))]) (d_X10_add E l  h_tape a_tby tby tsz x1  o_2 hq) B w [1, 2] [0, 3, 4, 5, 6, 7, 8, 9, 10, 11, 12, 13, 14, 15, 16, 17, 18, 19, 20, 21, 22, 23, 24, 25, 26, 27, 28, 29, 30, 31, 32, 33, 34, 35, 36] rfl rfl (by decide) (by decide) (by decide) 1 rfl rfl cv_X10_add kw_544 1 (by decide +kernel) ⟨Nat.le_of_ble_eq_true rfl, Nat.le_of_ble_eq_true rfl⟩ rfl hl.1 rfl (Nat.le_of_ble_eq_true rfl) dX11_feed_22 rfl rfl ⟨Nat.zero_le _, Nat.zero_le _⟩ (fun v w' H locs hpo w => ?_)
  clear hq
  obtain ⟨rfl, rfl⟩ := hpo
  have w : mW E A s [(h, .inr (10, [.ref h_tape, .ref h_rowOfKeys, .ref h_replays, .ref h_at, .ref h_rules, .ref h_ledger, .ref h_shelf, .ref h_loads, kv])), (h_tape, .inr (9, [.ref a_tby, .int o_2.2.2])), (a_tby, .inl (E.2.1, 60, .inl o_2.2.1)), (h_rowOfKeys, .inr (8, [.int (nI 30), .int (nI 1), .ref a_rowOfKeys, .int s_rowOfKeys])), (a_rowOfKeys, .inl (E.2.1, (30 * 1), .inl f_rowOfKeys)), (h_replays, .inr (3, [.ref h_places])), (h_places, .inr (8, [.int (nI 12), .int (nI 3), .ref a_places, .int s_places])), (a_places, .inl (E.2.1, (12 * 3), .inl f_places)), (h_rules, .inr (4, [.ref a_vals, .int now])), (a_vals, .inl (E.2.1, 8, .inl vals)), (h_ledger, .inr (1, [.ref h_rules, .ref h_book, .ref h_told, .ref h_written, .ref h_late, .ref a_sums, .ref a_asum])), (h_book, .inr (8, [.int (nI 40), .int (nI 3), .ref a_book, .int s_book])), (a_book, .inl (E.2.1, (40 * 3), .inl f_book)), (h_told, .inr (8, [.int (nI 60), .int (nI 1), .ref a_told, .int s_told])), (a_told, .inl (E.2.1, (60 * 1), .inl f_told)), (h_written, .inr (8, [.int (nI 40), .int (nI 2), .ref a_written, .int s_written])), (a_written, .inl (E.2.1, (40 * 2), .inl f_written)), (h_late, .inr (8, [.int (nI 60), .int (nI 1), .ref a_late, .int s_late])), (a_late, .inl (E.2.1, (60 * 1), .inl f_late)), (a_sums, .inl (E.2.1, 14, .inl sums)), (a_asum, .inl (E.2.1, 64, .inl asum)), (h_shelf, .inr (5, [.ref h_rules, .ref h_ledger, .ref h_entries, .ref h_cold, .ref h_sketch, .int uses, .int usesInWindow, .int entriesSoFar, .int dirtySoFar])), (h_entries, .inr (0, [.ref h_rules, .ref h_ents])), (h_ents, .inr (8, [.int (nI 200), .int (nI 9), .ref a_ents, .int s_ents])), (a_ents, .inl (E.2.1, (200 * 9), .inl f_ents)), (h_cold, .inr (0, [.ref h_rules, .ref h_colds])), (h_colds, .inr (8, [.int (nI 20), .int (nI 9), .ref a_colds, .int s_colds])), (a_colds, .inl (E.2.1, (20 * 9), .inl f_colds)), (h_sketch, .inr (6, [.ref a_cnt])), (a_cnt, .inl (E.2.1, 64, .inl cnt)), (h_loads, .inr (2, [.ref h_rules, .ref h_ledger, .ref h_line, .ref h_waits, .ref h_boxes])), (h_line, .inr (8, [.int (nI 256), .int (nI 3), .ref a_line, .int s_line])), (a_line, .inl (E.2.1, (256 * 3), .inl f_line)), (h_waits, .inr (8, [.int (nI 256), .int (nI 2), .ref a_waits, .int s_waits])), (a_waits, .inl (E.2.1, (256 * 2), .inl f_waits)), (h_boxes, .inr (8, [.int (nI 192), .int (nI 3), .ref a_boxes, .int s_boxes])), (a_boxes, .inl (E.2.1, (192 * 3), .inl f_boxes))] H locs := w.sub [0, 35, 36, 1, 2, 3, 4, 5, 6, 7, 8, 9, 10, 11, 12, 13, 14, 15, 16, 17, 18, 19, 20, 21, 22, 23, 24, 25, 26, 27, 28, 29, 30, 31, 32, 33, 34] (by decide) rfl
  refine lv_if_eq (tgt := 38) hx hb dX11_feed_25 (by decide) (fun hc => ?_) (fun hc => ?_)
  · have hf := it_t hc hf
    refine lv_sipush (v := (-1004)) hx hb dX11_feed_38 (by decide) ?_
    cases hf
    exact mx_iret B w ⟨rfl, rfl⟩ dX11_feed_41
  · have hf := it_f hc hf
    refine lv_aload_n hx hb dX11_feed_28 rfl (lv_at hl 0 rfl) ?_
    refine mx_get B w 0 fl_X11_10 rfl rfl dX11_feed_29 ?_
    obtain ⟨o_3, hq, hf⟩ := bd_e hf
    refine mx_callV (As := []) (rest := []) (wr := [(h, .inr (10, [.ref h_tape, .ref h_rowOfKeys, .ref h_replays, .ref h_at, .ref h_rules, .ref h_ledger, .ref h_shelf, .ref h_loads, kv])), (h_rowOfKeys, .inr (8, [.int (nI 30), .int (nI 1), .ref a_rowOfKeys, .int s_rowOfKeys])), (a_rowOfKeys, .inl (E.2.1, (30 * 1), .inl f_rowOfKeys)), (h_replays, .inr (3, [.ref h_places])), (h_places, .inr (8, [.int (nI 12), .int (nI 3), .ref a_places, .int s_places])), (a_places, .inl (E.2.1, (12 * 3), .inl f_places)), (h_rules, .inr (4, [.ref a_vals, .int now])), (a_vals, .inl (E.2.1, 8, .inl vals)), (h_ledger, .inr (1, [.ref h_rules, .ref h_book, .ref h_told, .ref h_written, .ref h_late, .ref a_sums, .ref a_asum])), (h_book, .inr (8, [.int (nI 40), .int (nI 3), .ref a_book, .int s_book])), (a_book, .inl (E.2.1, (40 * 3), .inl f_book)), (h_told, .inr (8, [.int (nI 60), .int (nI 1), .ref a_told, .int s_told])), (a_told, .inl (E.2.1, (60 * 1), .inl f_told)), (h_written, .inr (8, [.int (nI 40), .int (nI 2), .ref a_written, .int s_written])), (a_written, .inl (E.2.1, (40 * 2), .inl f_written)), (h_late, .inr (8, [.int (nI 60), .int (nI 1), .ref a_late, .int s_late])), (a_late, .inl (E.2.1, (60 * 1), .inl f_late)), (a_sums, .inl (E.2.1, 14, .inl sums)), (a_asum, .inl (E.2.1, 64, .inl asum)), (h_shelf, .inr (5, [.ref h_rules, .ref h_ledger, .ref h_entries, .ref h_cold, .ref h_sketch, .int uses, .int usesInWindow, .int entriesSoFar, .int dirtySoFar])), (h_entries, .inr (0, [.ref h_rules, .ref h_ents])), (h_ents, .inr (8, [.int (nI 200), .int (nI 9), .ref a_ents, .int s_ents])), (a_ents, .inl (E.2.1, (200 * 9), .inl f_ents)), (h_cold, .inr (0, [.ref h_rules, .ref h_colds])), (h_colds, .inr (8, [.int (nI 20), .int (nI 9), .ref a_colds, .int s_colds])), (a_colds, .inl (E.2.1, (20 * 9), .inl f_colds)), (h_sketch, .inr (6, [.ref a_cnt])), (a_cnt, .inl (E.2.1, 64, .inl cnt)), (h_loads, .inr (2, [.ref h_rules, .ref h_ledger, .ref h_line, .ref h_waits, .ref h_boxes])), (h_line, .inr (8, [.int (nI 256), .int (nI 3), .ref a_line, .int s_line])), (a_line, .inl (E.2.1, (256 * 3), .inl f_line)), (h_waits, .inr (8, [.int (nI 256), .int (nI 2), .ref a_waits, .int s_waits])), (a_waits, .inl (E.2.1, (256 * 2), .inl f_waits)), (h_boxes, .inr (8, [.int (nI 192), .int (nI 3), .ref a_boxes, .int s_boxes])), (a_boxes, .inl (E.2.1, (192 * 3), .inl f_boxes))]) (d_X10_size E l  h_tape a_tby o_2.2.1 o_2.2.2   o_3 hq) B w [1, 2] [0, 3, 4, 5, 6, 7, 8, 9, 10, 11, 12, 13, 14, 15, 16, 17, 18, 19, 20, 21, 22, 23, 24, 25, 26, 27, 28, 29, 30, 31, 32, 33, 34, 35, 36] rfl rfl (by decide) (by decide) (by decide) 1 rfl rfl cv_X10_size kw_548 0 (by decide +kernel) ⟨Nat.le_of_ble_eq_true rfl, Nat.le_of_ble_eq_true rfl⟩ rfl hl.1 rfl (Nat.le_of_ble_eq_true rfl) dX11_feed_32 rfl rfl ⟨Nat.zero_le _, Nat.zero_le _⟩ (fun v w' H locs hpo w => ?_)
    clear hq
    obtain ⟨rfl, rfl⟩ := hpo
    have w : mW E A s [(h, .inr (10, [.ref h_tape, .ref h_rowOfKeys, .ref h_replays, .ref h_at, .ref h_rules, .ref h_ledger, .ref h_shelf, .ref h_loads, kv])), (h_tape, .inr (9, [.ref a_tby, .int o_2.2.2])), (a_tby, .inl (E.2.1, 60, .inl o_2.2.1)), (h_rowOfKeys, .inr (8, [.int (nI 30), .int (nI 1), .ref a_rowOfKeys, .int s_rowOfKeys])), (a_rowOfKeys, .inl (E.2.1, (30 * 1), .inl f_rowOfKeys)), (h_replays, .inr (3, [.ref h_places])), (h_places, .inr (8, [.int (nI 12), .int (nI 3), .ref a_places, .int s_places])), (a_places, .inl (E.2.1, (12 * 3), .inl f_places)), (h_rules, .inr (4, [.ref a_vals, .int now])), (a_vals, .inl (E.2.1, 8, .inl vals)), (h_ledger, .inr (1, [.ref h_rules, .ref h_book, .ref h_told, .ref h_written, .ref h_late, .ref a_sums, .ref a_asum])), (h_book, .inr (8, [.int (nI 40), .int (nI 3), .ref a_book, .int s_book])), (a_book, .inl (E.2.1, (40 * 3), .inl f_book)), (h_told, .inr (8, [.int (nI 60), .int (nI 1), .ref a_told, .int s_told])), (a_told, .inl (E.2.1, (60 * 1), .inl f_told)), (h_written, .inr (8, [.int (nI 40), .int (nI 2), .ref a_written, .int s_written])), (a_written, .inl (E.2.1, (40 * 2), .inl f_written)), (h_late, .inr (8, [.int (nI 60), .int (nI 1), .ref a_late, .int s_late])), (a_late, .inl (E.2.1, (60 * 1), .inl f_late)), (a_sums, .inl (E.2.1, 14, .inl sums)), (a_asum, .inl (E.2.1, 64, .inl asum)), (h_shelf, .inr (5, [.ref h_rules, .ref h_ledger, .ref h_entries, .ref h_cold, .ref h_sketch, .int uses, .int usesInWindow, .int entriesSoFar, .int dirtySoFar])), (h_entries, .inr (0, [.ref h_rules, .ref h_ents])), (h_ents, .inr (8, [.int (nI 200), .int (nI 9), .ref a_ents, .int s_ents])), (a_ents, .inl (E.2.1, (200 * 9), .inl f_ents)), (h_cold, .inr (0, [.ref h_rules, .ref h_colds])), (h_colds, .inr (8, [.int (nI 20), .int (nI 9), .ref a_colds, .int s_colds])), (a_colds, .inl (E.2.1, (20 * 9), .inl f_colds)), (h_sketch, .inr (6, [.ref a_cnt])), (a_cnt, .inl (E.2.1, 64, .inl cnt)), (h_loads, .inr (2, [.ref h_rules, .ref h_ledger, .ref h_line, .ref h_waits, .ref h_boxes])), (h_line, .inr (8, [.int (nI 256), .int (nI 3), .ref a_line, .int s_line])), (a_line, .inl (E.2.1, (256 * 3), .inl f_line)), (h_waits, .inr (8, [.int (nI 256), .int (nI 2), .ref a_waits, .int s_waits])), (a_waits, .inl (E.2.1, (256 * 2), .inl f_waits)), (h_boxes, .inr (8, [.int (nI 192), .int (nI 3), .ref a_boxes, .int s_boxes])), (a_boxes, .inl (E.2.1, (192 * 3), .inl f_boxes))] H locs := w.sub [0, 35, 36, 1, 2, 3, 4, 5, 6, 7, 8, 9, 10, 11, 12, 13, 14, 15, 16, 17, 18, 19, 20, 21, 22, 23, 24, 25, 26, 27, 28, 29, 30, 31, 32, 33, 34] (by decide) rfl
    refine lv_goto (tgt := 41) hx hb dX11_feed_35 (by decide) ?_
    cases hf
    exact mx_iret B w ⟨rfl, rfl⟩ dX11_feed_41
noncomputable def F_X11_feed  (tby : Nat → Int32) (tsz : Int32) (x1 : Int32) : Option (Int32 × (Nat → Int32) × Int32) :=
  bd (F_X1_isLetter x1) (fun o_1 =>
  if (o_1 = 0 : Prop) then
  if (x1 = 32 : Prop) then
  J_X11_feed_17 x1 tby tsz
  else
  some ((-1001), tby, tsz)
  else
  J_X11_feed_17 x1 tby tsz)
set_option maxHeartbeats 4000000 in
set_option maxRecDepth 100000 in
theorem d_X11_feed (E : mE) (l : Launch) (h : Nat) (h_tape : Nat) (a_tby : Nat) (h_rowOfKeys : Nat) (a_rowOfKeys : Nat) (h_replays : Nat) (h_places : Nat) (a_places : Nat) (h_rules : Nat) (a_vals : Nat) (h_ledger : Nat) (h_book : Nat) (a_book : Nat) (h_told : Nat) (a_told : Nat) (h_written : Nat) (a_written : Nat) (h_late : Nat) (a_late : Nat) (a_sums : Nat) (a_asum : Nat) (h_shelf : Nat) (h_entries : Nat) (h_ents : Nat) (a_ents : Nat) (h_cold : Nat) (h_colds : Nat) (a_colds : Nat) (h_sketch : Nat) (a_cnt : Nat) (h_loads : Nat) (h_line : Nat) (a_line : Nat) (h_waits : Nat) (a_waits : Nat) (h_boxes : Nat) (a_boxes : Nat) (h_at : Nat) (kv : Value) (tby : Nat → Int32) (tsz : Int32) (rowOfKeys : Rows) (places : Rows) (vals : Nat → Int32) (now : Int32) (book : Rows) (told : Rows) (written : Rows) (late : Rows) (sums : Nat → Int32) (asum : Nat → Int32) (ents : Rows) (colds : Rows) (cnt : Nat → Int32) (uses : Int32) (usesInWindow : Int32) (entriesSoFar : Int32) (dirtySoFar : Int32) (line : Rows) (waits : Rows) (boxes : Rows) (s_rowOfKeys : Int32) (f_rowOfKeys : Nat → Int32) (s_places : Int32) (f_places : Nat → Int32) (s_book : Int32) (f_book : Nat → Int32) (s_told : Int32) (f_told : Nat → Int32) (s_written : Int32) (f_written : Nat → Int32) (s_late : Int32) (f_late : Nat → Int32) (s_ents : Int32) (f_ents : Nat → Int32) (s_colds : Int32) (f_colds : Nat → Int32) (s_line : Int32) (f_line : Nat → Int32) (s_waits : Int32) (f_waits : Nat → Int32) (s_boxes : Int32) (f_boxes : Nat → Int32) (x1 : Int32) (ok_rowOfKeys : tb_ok 30 1 rowOfKeys s_rowOfKeys f_rowOfKeys) (ok_places : tb_ok 12 3 places s_places f_places) (ok_book : tb_ok 40 3 book s_book f_book) (ok_told : tb_ok 60 1 told s_told f_told) (ok_written : tb_ok 40 2 written s_written f_written) (ok_late : tb_ok 60 1 late s_late f_late) (ok_ents : tb_ok 200 9 ents s_ents f_ents) (ok_colds : tb_ok 20 9 colds s_colds f_colds) (ok_line : tb_ok 256 3 line s_line f_line) (ok_waits : tb_ok 256 2 waits s_waits f_waits) (ok_boxes : tb_ok 192 3 boxes s_boxes f_boxes) (o : Int32 × (Nat → Int32) × Int32) (hf : F_X11_feed tby tsz x1 = some o) : MX E l yX11_feed cX11_feed 2 (some .int) ({ frames := 1, cells := 0, slots := 0, locals := 21 } : Room) [.ref h, .int x1] [(h, .inr (10, [.ref h_tape, .ref h_rowOfKeys, .ref h_replays, .ref h_at, .ref h_rules, .ref h_ledger, .ref h_shelf, .ref h_loads, kv])), (h_tape, .inr (9, [.ref a_tby, .int tsz])), (a_tby, .inl (E.2.1, 60, .inl tby)), (h_rowOfKeys, .inr (8, [.int (nI 30), .int (nI 1), .ref a_rowOfKeys, .int s_rowOfKeys])), (a_rowOfKeys, .inl (E.2.1, (30 * 1), .inl f_rowOfKeys)), (h_replays, .inr (3, [.ref h_places])), (h_places, .inr (8, [.int (nI 12), .int (nI 3), .ref a_places, .int s_places])), (a_places, .inl (E.2.1, (12 * 3), .inl f_places)), (h_rules, .inr (4, [.ref a_vals, .int now])), (a_vals, .inl (E.2.1, 8, .inl vals)), (h_ledger, .inr (1, [.ref h_rules, .ref h_book, .ref h_told, .ref h_written, .ref h_late, .ref a_sums, .ref a_asum])), (h_book, .inr (8, [.int (nI 40), .int (nI 3), .ref a_book, .int s_book])), (a_book, .inl (E.2.1, (40 * 3), .inl f_book)), (h_told, .inr (8, [.int (nI 60), .int (nI 1), .ref a_told, .int s_told])), (a_told, .inl (E.2.1, (60 * 1), .inl f_told)), (h_written, .inr (8, [.int (nI 40), .int (nI 2), .ref a_written, .int s_written])), (a_written, .inl (E.2.1, (40 * 2), .inl f_written)), (h_late, .inr (8, [.int (nI 60), .int (nI 1), .ref a_late, .int s_late])), (a_late, .inl (E.2.1, (60 * 1), .inl f_late)), (a_sums, .inl (E.2.1, 14, .inl sums)), (a_asum, .inl (E.2.1, 64, .inl asum)), (h_shelf, .inr (5, [.ref h_rules, .ref h_ledger, .ref h_entries, .ref h_cold, .ref h_sketch, .int uses, .int usesInWindow, .int entriesSoFar, .int dirtySoFar])), (h_entries, .inr (0, [.ref h_rules, .ref h_ents])), (h_ents, .inr (8, [.int (nI 200), .int (nI 9), .ref a_ents, .int s_ents])), (a_ents, .inl (E.2.1, (200 * 9), .inl f_ents)), (h_cold, .inr (0, [.ref h_rules, .ref h_colds])), (h_colds, .inr (8, [.int (nI 20), .int (nI 9), .ref a_colds, .int s_colds])), (a_colds, .inl (E.2.1, (20 * 9), .inl f_colds)), (h_sketch, .inr (6, [.ref a_cnt])), (a_cnt, .inl (E.2.1, 64, .inl cnt)), (h_loads, .inr (2, [.ref h_rules, .ref h_ledger, .ref h_line, .ref h_waits, .ref h_boxes])), (h_line, .inr (8, [.int (nI 256), .int (nI 3), .ref a_line, .int s_line])), (a_line, .inl (E.2.1, (256 * 3), .inl f_line)), (h_waits, .inr (8, [.int (nI 256), .int (nI 2), .ref a_waits, .int s_waits])), (a_waits, .inl (E.2.1, (256 * 2), .inl f_waits)), (h_boxes, .inr (8, [.int (nI 192), .int (nI 3), .ref a_boxes, .int s_boxes])), (a_boxes, .inl (E.2.1, (192 * 3), .inl f_boxes))] (po_X11_feed E h h_tape a_tby h_rowOfKeys a_rowOfKeys h_replays h_places a_places h_rules a_vals h_ledger h_book a_book h_told a_told h_written a_written h_late a_late a_sums a_asum h_shelf h_entries h_ents a_ents h_cold h_colds a_colds h_sketch a_cnt h_loads h_line a_line h_waits a_waits h_boxes a_boxes h_at kv tby tsz rowOfKeys places vals now book told written late sums asum ents colds cnt uses usesInWindow entriesSoFar dirtySoFar line waits boxes s_rowOfKeys f_rowOfKeys s_places f_places s_book f_book s_told f_told s_written f_written s_late f_late s_ents f_ents s_colds f_colds s_line f_line s_waits f_waits s_boxes f_boxes o) := by
  refine mx_intro (by decide +kernel) (Nat.le_of_ble_eq_true rfl) ?_
  intro p e s m args below meth c A Q ls B w hl
  obtain ⟨hx, hb, hml, hown, hts⟩ := id B.1
  unfold F_X11_feed at hf
  have hl : lv_has ls 2 [(0, .ref h), (1, .int x1)] := hl
  refine lv_iload_n hx hb dX11_feed_0 rfl (lv_at hl 1 rfl) ?_
  obtain ⟨o_1, hq, hf⟩ := bd_e hf
  refine mx_callS (As := [.int x1]) (rest := []) (wr := [(h, .inr (10, [.ref h_tape, .ref h_rowOfKeys, .ref h_replays, .ref h_at, .ref h_rules, .ref h_ledger, .ref h_shelf, .ref h_loads, kv])), (h_tape, .inr (9, [.ref a_tby, .int tsz])), (a_tby, .inl (E.2.1, 60, .inl tby)), (h_rowOfKeys, .inr (8, [.int (nI 30), .int (nI 1), .ref a_rowOfKeys, .int s_rowOfKeys])), (a_rowOfKeys, .inl (E.2.1, (30 * 1), .inl f_rowOfKeys)), (h_replays, .inr (3, [.ref h_places])), (h_places, .inr (8, [.int (nI 12), .int (nI 3), .ref a_places, .int s_places])), (a_places, .inl (E.2.1, (12 * 3), .inl f_places)), (h_rules, .inr (4, [.ref a_vals, .int now])), (a_vals, .inl (E.2.1, 8, .inl vals)), (h_ledger, .inr (1, [.ref h_rules, .ref h_book, .ref h_told, .ref h_written, .ref h_late, .ref a_sums, .ref a_asum])), (h_book, .inr (8, [.int (nI 40), .int (nI 3), .ref a_book, .int s_book])), (a_book, .inl (E.2.1, (40 * 3), .inl f_book)), (h_told, .inr (8, [.int (nI 60), .int (nI 1), .ref a_told, .int s_told])), (a_told, .inl (E.2.1, (60 * 1), .inl f_told)), (h_written, .inr (8, [.int (nI 40), .int (nI 2), .ref a_written, .int s_written])), (a_written, .inl (E.2.1, (40 * 2), .inl f_written)), (h_late, .inr (8, [.int (nI 60), .int (nI 1), .ref a_late, .int s_late])), (a_late, .inl (E.2.1, (60 * 1), .inl f_late)), (a_sums, .inl (E.2.1, 14, .inl sums)), (a_asum, .inl (E.2.1, 64, .inl asum)), (h_shelf, .inr (5, [.ref h_rules, .ref h_ledger, .ref h_entries, .ref h_cold, .ref h_sketch, .int uses, .int usesInWindow, .int entriesSoFar, .int dirtySoFar])), (h_entries, .inr (0, [.ref h_rules, .ref h_ents])), (h_ents, .inr (8, [.int (nI 200), .int (nI 9), .ref a_ents, .int s_ents])), (a_ents, .inl (E.2.1, (200 * 9), .inl f_ents)), (h_cold, .inr (0, [.ref h_rules, .ref h_colds])), (h_colds, .inr (8, [.int (nI 20), .int (nI 9), .ref a_colds, .int s_colds])), (a_colds, .inl (E.2.1, (20 * 9), .inl f_colds)), (h_sketch, .inr (6, [.ref a_cnt])), (a_cnt, .inl (E.2.1, 64, .inl cnt)), (h_loads, .inr (2, [.ref h_rules, .ref h_ledger, .ref h_line, .ref h_waits, .ref h_boxes])), (h_line, .inr (8, [.int (nI 256), .int (nI 3), .ref a_line, .int s_line])), (a_line, .inl (E.2.1, (256 * 3), .inl f_line)), (h_waits, .inr (8, [.int (nI 256), .int (nI 2), .ref a_waits, .int s_waits])), (a_waits, .inl (E.2.1, (256 * 2), .inl f_waits)), (h_boxes, .inr (8, [.int (nI 192), .int (nI 3), .ref a_boxes, .int s_boxes])), (a_boxes, .inl (E.2.1, (192 * 3), .inl f_boxes))]) (d_X1_isLetter E l   x1  o_1 hq) B w [] [0, 1, 2, 3, 4, 5, 6, 7, 8, 9, 10, 11, 12, 13, 14, 15, 16, 17, 18, 19, 20, 21, 22, 23, 24, 25, 26, 27, 28, 29, 30, 31, 32, 33, 34, 35, 36] rfl rfl (by decide) (by decide) (by decide) cs_X1_isLetter kw_541 1 (by decide +kernel) ⟨Nat.le_of_ble_eq_true rfl, Nat.le_of_ble_eq_true rfl⟩ rfl hl.1 rfl (Nat.le_of_ble_eq_true rfl) dX11_feed_1 rfl rfl ⟨Nat.zero_le _, Nat.zero_le _⟩ (fun v w' H locs hpo w => ?_)
  clear hq
  obtain ⟨rfl, rfl⟩ := hpo
  have w : mW E A s [(h, .inr (10, [.ref h_tape, .ref h_rowOfKeys, .ref h_replays, .ref h_at, .ref h_rules, .ref h_ledger, .ref h_shelf, .ref h_loads, kv])), (h_tape, .inr (9, [.ref a_tby, .int tsz])), (a_tby, .inl (E.2.1, 60, .inl tby)), (h_rowOfKeys, .inr (8, [.int (nI 30), .int (nI 1), .ref a_rowOfKeys, .int s_rowOfKeys])), (a_rowOfKeys, .inl (E.2.1, (30 * 1), .inl f_rowOfKeys)), (h_replays, .inr (3, [.ref h_places])), (h_places, .inr (8, [.int (nI 12), .int (nI 3), .ref a_places, .int s_places])), (a_places, .inl (E.2.1, (12 * 3), .inl f_places)), (h_rules, .inr (4, [.ref a_vals, .int now])), (a_vals, .inl (E.2.1, 8, .inl vals)), (h_ledger, .inr (1, [.ref h_rules, .ref h_book, .ref h_told, .ref h_written, .ref h_late, .ref a_sums, .ref a_asum])), (h_book, .inr (8, [.int (nI 40), .int (nI 3), .ref a_book, .int s_book])), (a_book, .inl (E.2.1, (40 * 3), .inl f_book)), (h_told, .inr (8, [.int (nI 60), .int (nI 1), .ref a_told, .int s_told])), (a_told, .inl (E.2.1, (60 * 1), .inl f_told)), (h_written, .inr (8, [.int (nI 40), .int (nI 2), .ref a_written, .int s_written])), (a_written, .inl (E.2.1, (40 * 2), .inl f_written)), (h_late, .inr (8, [.int (nI 60), .int (nI 1), .ref a_late, .int s_late])), (a_late, .inl (E.2.1, (60 * 1), .inl f_late)), (a_sums, .inl (E.2.1, 14, .inl sums)), (a_asum, .inl (E.2.1, 64, .inl asum)), (h_shelf, .inr (5, [.ref h_rules, .ref h_ledger, .ref h_entries, .ref h_cold, .ref h_sketch, .int uses, .int usesInWindow, .int entriesSoFar, .int dirtySoFar])), (h_entries, .inr (0, [.ref h_rules, .ref h_ents])), (h_ents, .inr (8, [.int (nI 200), .int (nI 9), .ref a_ents, .int s_ents])), (a_ents, .inl (E.2.1, (200 * 9), .inl f_ents)), (h_cold, .inr (0, [.ref h_rules, .ref h_colds])), (h_colds, .inr (8, [.int (nI 20), .int (nI 9), .ref a_colds, .int s_colds])), (a_colds, .inl (E.2.1, (20 * 9), .inl f_colds)), (h_sketch, .inr (6, [.ref a_cnt])), (a_cnt, .inl (E.2.1, 64, .inl cnt)), (h_loads, .inr (2, [.ref h_rules, .ref h_ledger, .ref h_line, .ref h_waits, .ref h_boxes])), (h_line, .inr (8, [.int (nI 256), .int (nI 3), .ref a_line, .int s_line])), (a_line, .inl (E.2.1, (256 * 3), .inl f_line)), (h_waits, .inr (8, [.int (nI 256), .int (nI 2), .ref a_waits, .int s_waits])), (a_waits, .inl (E.2.1, (256 * 2), .inl f_waits)), (h_boxes, .inr (8, [.int (nI 192), .int (nI 3), .ref a_boxes, .int s_boxes])), (a_boxes, .inl (E.2.1, (192 * 3), .inl f_boxes))] H locs := w
  refine lv_if_ne (tgt := 17) hx hb dX11_feed_4 (by decide) (fun hc => ?_) (fun hc => ?_)
  · have hf := it_f hc hf
    exact j_X11_feed_17 B   hf ok_rowOfKeys ok_places ok_book ok_told ok_written ok_late ok_ents ok_colds ok_line ok_waits ok_boxes w (lv_sub hl [0, 1] rfl)
  · have hf := it_t hc hf
    refine lv_iload_n hx hb dX11_feed_7 rfl (lv_at hl 1 rfl) ?_
    refine lv_bipush (v := 32) hx hb dX11_feed_8 (by decide) ?_
    refine lv_icmp_eq (tgt := 17) hx hb dX11_feed_10 (by decide) (fun hc => ?_) (fun hc => ?_)
    · have hf := it_t hc hf
      exact j_X11_feed_17 B   hf ok_rowOfKeys ok_places ok_book ok_told ok_written ok_late ok_ents ok_colds ok_line ok_waits ok_boxes w (lv_sub hl [0, 1] rfl)
    · have hf := it_f hc hf
      refine lv_sipush (v := (-1001)) hx hb dX11_feed_13 (by decide) ?_
      cases hf
      exact mx_iret B w ⟨rfl, rfl⟩ dX11_feed_16
-- X11_isAsker
def po_X11_isAsker (E : mE)     (o : Int32) : Option Value → va_W → Prop := (fun (v : Option Value) (w' : va_W) => v = some (.int o) ∧ w' = [])
noncomputable def F_X11_isAsker   (x0 : Int32) : Option (Int32) :=
  if (x0 < 0 : Prop) then
  some (0)
  else
  if (16 ≤ x0 : Prop) then
  some (0)
  else
  some (1)
set_option maxHeartbeats 4000000 in
set_option maxRecDepth 100000 in
theorem d_X11_isAsker (E : mE) (l : Launch)     (x0 : Int32)  (o : Int32) (hf : F_X11_isAsker x0 = some o) : MX E l yX11_isAsker cX11_isAsker 1 (some .boolean) ({ frames := 0, cells := 0, slots := 0, locals := 0 } : Room) [.int x0] [] (po_X11_isAsker E o) := by
  refine mx_intro (by decide +kernel) (Nat.le_of_ble_eq_true rfl) ?_
  intro p e s m args below meth c A Q ls B w hl
  obtain ⟨hx, hb, hml, hown, hts⟩ := id B.1
  unfold F_X11_isAsker at hf
  have hl : lv_has ls 1 [(0, .int x0)] := hl
  refine lv_iload_n hx hb dX11_isAsker_0 rfl (lv_at hl 0 rfl) ?_
  refine lv_if_lt (tgt := 14) hx hb dX11_isAsker_1 (by decide) (fun hc => ?_) (fun hc => ?_)
  · have hf := it_t hc hf
    refine lv_iconst (v := 0) hx hb dX11_isAsker_14 (by decide) ?_
    cases hf
    exact mx_zret B w rfl ⟨rfl, rfl⟩ dX11_isAsker_15
  · have hf := it_f hc hf
    refine lv_iload_n hx hb dX11_isAsker_4 rfl (lv_at hl 0 rfl) ?_
    refine lv_bipush (v := 16) hx hb dX11_isAsker_5 (by decide) ?_
    refine lv_icmp_ge (tgt := 14) hx hb dX11_isAsker_7 (by decide) (fun hc => ?_) (fun hc => ?_)
    · have hf := it_t hc hf
      refine lv_iconst (v := 0) hx hb dX11_isAsker_14 (by decide) ?_
      cases hf
      exact mx_zret B w rfl ⟨rfl, rfl⟩ dX11_isAsker_15
    · have hf := it_f hc hf
      refine lv_iconst (v := 1) hx hb dX11_isAsker_10 (by decide) ?_
      refine lv_goto (tgt := 15) hx hb dX11_isAsker_11 (by decide) ?_
      cases hf
      exact mx_zret B w rfl ⟨rfl, rfl⟩ dX11_isAsker_15
-- X1_with
def po_X1_with (E : mE)     (o : Int32) : Option Value → va_W → Prop := (fun (v : Option Value) (w' : va_W) => v = some (.int o) ∧ w' = [])
noncomputable def F_X1_with   (x0 : Int32) (x1 : Int32) : Option (Int32) :=
  some ((x0 <<< (5 &&& 31)) ||| ((x1 - 96) &&& 31))
set_option maxHeartbeats 4000000 in
set_option maxRecDepth 100000 in
theorem d_X1_with (E : mE) (l : Launch)     (x0 : Int32) (x1 : Int32)  (o : Int32) (hf : F_X1_with x0 x1 = some o) : MX E l yX1_with cX1_with 2 (some .int) ({ frames := 0, cells := 0, slots := 0, locals := 0 } : Room) [.int x0, .int x1] [] (po_X1_with E o) := by
  refine mx_intro (by decide +kernel) (Nat.le_of_ble_eq_true rfl) ?_
  intro p e s m args below meth c A Q ls B w hl
  obtain ⟨hx, hb, hml, hown, hts⟩ := id B.1
  unfold F_X1_with at hf
  have hl : lv_has ls 2 [(0, .int x0), (1, .int x1)] := hl
  refine lv_iload_n hx hb dX1_with_0 rfl (lv_at hl 0 rfl) ?_
  refine lv_iconst (v := 5) hx hb dX1_with_1 (by decide) ?_
  refine lv_ishl hx hb dX1_with_2 ?_
  refine lv_iload_n hx hb dX1_with_3 rfl (lv_at hl 1 rfl) ?_
  refine lv_bipush (v := 96) hx hb dX1_with_4 (by decide) ?_
  refine lv_isub hx hb dX1_with_6 ?_
  refine lv_bipush (v := 31) hx hb dX1_with_7 (by decide) ?_
  refine lv_iand hx hb dX1_with_9 ?_
  refine lv_ior hx hb dX1_with_10 ?_
  cases hf
  exact mx_iret B w ⟨rfl, rfl⟩ dX1_with_11
-- X10_takeKey
def po_X10_takeKey (E : mE) (h : Nat) (a_tby : Nat)  (tby : Nat → Int32) (tsz : Int32)  (o : Int32 × Int32) : Option Value → va_W → Prop := (fun (v : Option Value) (w' : va_W) => v = some (.int o.1) ∧ w' = [(h, .inr (9, [.ref a_tby, .int o.2])), (a_tby, .inl (E.2.1, 60, .inl tby))])
noncomputable def K_X10_takeKey_22 (N : Nat)  (rec : Int32 → Int32 → Option (Int32 × Int32)) (k66 : Int32 → Option (Int32 × Int32)) (k47 : Unit → Option (Int32 × Int32)) (x1 : Int32) (tby : Nat → Int32) (tsz : Int32) (x2 : Int32) (x3 : Int32)  : Option (Int32 × Int32) :=
  if (x1 ≤ x3 : Prop) then
  k66 x2
  else
  if ((nI 60) ≤ x3 : Prop) then
  k66 x2
  else
  ld tby 60 x3 (fun v_2 =>
  if (v_2 = 32 : Prop) then
  k47 ()
  else
  ld tby 60 x3 (fun v_3 =>
  bd (F_X1_with x2 v_3) (fun o_4 =>
  lt (x3 + 1) (fun x3_5 =>
  rec o_4 x3_5))))
noncomputable def L_X10_takeKey_22 (N : Nat)  (k66 : Int32 → Option (Int32 × Int32)) (k47 : Unit → Option (Int32 × Int32)) (x1 : Int32) (tby : Nat → Int32) (tsz : Int32) (n : Nat) : Int32 → Int32 → Option (Int32 × Int32) :=
  Nat.rec (motive := fun _ => Int32 → Int32 → Option (Int32 × Int32)) (fun _ _ => none) (fun _ rec => K_X10_takeKey_22 N rec k66 k47 x1 tby tsz) n
set_option maxHeartbeats 4000000 in
set_option maxRecDepth 100000 in
theorem l_X10_takeKey_22 {E : mE} {l : Launch} {p : Program} {e : Env} {s : State} {m : MethodId} {args : Array Value} {below : List Frame} {meth : Method} {c : Code} {A : Nat → Prop} {Q : State → Prop} {N : Nat} {h : Nat} {a_tby : Nat}  {tby : Nat → Int32} {tsz0 : Int32}  {o : Int32 × Int32} (B : mB E yX10_takeKey cX10_takeKey 4 (some .int) 0 0 (po_X10_takeKey E h a_tby tby tsz0 o) p s m args below meth c A Q) {tsz : Int32}  {x1 : Int32} (k66 : Int32 → Option (Int32 × Int32)) (k47 : Unit → Option (Int32 × Int32))  (hk66 : ∀ (x2 : Int32)   (H : Heap) (locs : List Loc) (ls : Array Slot), k66 x2 = some o → mW E A s [(h, .inr (9, [.ref a_tby, .int tsz])), (a_tby, .inl (E.2.1, 60, .inl tby))] H locs → lv_has ls 4 [(2, .int x2)] → W p l e ({ frames := 1, cells := 0, slots := 0, locals := 21 } : Room) s m args below meth c H locs 0 0 Q (F0 m 66 ls [])) (hk47 : ∀    (H : Heap) (locs : List Loc) (ls : Array Slot), k47 () = some o → mW E A s [(h, .inr (9, [.ref a_tby, .int tsz])), (a_tby, .inl (E.2.1, 60, .inl tby))] H locs → lv_has ls 4 [] → W p l e ({ frames := 1, cells := 0, slots := 0, locals := 21 } : Room) s m args below meth c H locs 0 0 Q (F0 m 47 ls [])) : ∀ n : Nat, ∀ (x2 : Int32) (x3 : Int32)   (H : Heap) (locs : List Loc) (ls : Array Slot), L_X10_takeKey_22 N k66 k47 x1 tby tsz n x2 x3 = some o → mW E A s [(h, .inr (9, [.ref a_tby, .int tsz])), (a_tby, .inl (E.2.1, 60, .inl tby))] H locs → lv_has ls 4 [(0, .ref h), (1, .int x1), (2, .int x2), (3, .int x3)] → W p l e ({ frames := 1, cells := 0, slots := 0, locals := 21 } : Room) s m args below meth c H locs 0 0 Q (F0 m 22 ls []) := by
  obtain ⟨hx, hb, hml, hown, hts⟩ := id B.1
  intro n
  induction n with
  | zero =>
    intro x2 x3 H locs ls hf w hl
    exact nomatch hf
  | succ n hrec =>
    intro x2 x3 H locs ls hf w hl
    have hf : K_X10_takeKey_22 N (L_X10_takeKey_22 N k66 k47 x1 tby tsz n) k66 k47 x1 tby tsz x2 x3 = some o := hf
    unfold K_X10_takeKey_22 at hf
    refine lv_iload_n hx hb dX10_takeKey_22 rfl (lv_at hl 3 rfl) ?_
    refine lv_iload_n hx hb dX10_takeKey_23 rfl (lv_at hl 1 rfl) ?_
    refine lv_icmp_ge (tgt := 66) hx hb dX10_takeKey_24 (by decide) (fun hc => ?_) (fun hc => ?_)
    · have hf := it_t hc hf
      exact hk66 _ _ _ _ hf  w (lv_sub hl [2] rfl)
    · have hf := it_f hc hf
      refine lv_iload_n hx hb dX10_takeKey_27 rfl (lv_at hl 3 rfl) ?_
      refine lv_aload_n hx hb dX10_takeKey_28 rfl (lv_at hl 0 rfl) ?_
      refine mx_get B w 0 fl_X10_11 rfl rfl dX10_takeKey_29 ?_
      refine mx_alen B w 1 rfl dX10_takeKey_32 ?_
      refine lv_icmp_ge (tgt := 66) hx hb dX10_takeKey_33 (by decide) (fun hc => ?_) (fun hc => ?_)
      · have hf := it_t hc hf
        exact hk66 _ _ _ _ hf  w (lv_sub hl [2] rfl)
      · have hf := it_f hc hf
        refine lv_aload_n hx hb dX10_takeKey_36 rfl (lv_at hl 0 rfl) ?_
        refine mx_get B w 0 fl_X10_11 rfl rfl dX10_takeKey_37 ?_
        refine lv_iload_n hx hb dX10_takeKey_40 rfl (lv_at hl 3 rfl) ?_
        obtain ⟨hin, hf⟩ := ld_e hf
        refine mx_iald B w 1 rfl hin dX10_takeKey_41 (fun v_2 ev => ?_)
        have hf := hf _ ev; clear ev
        refine lv_bipush (v := 32) hx hb dX10_takeKey_42 (by decide) ?_
        refine lv_icmp_ne (tgt := 49) hx hb dX10_takeKey_44 (by decide) (fun hc => ?_) (fun hc => ?_)
        · have hf := it_f hc hf
          refine lv_iload_n hx hb dX10_takeKey_49 rfl (lv_at hl 2 rfl) ?_
          refine lv_aload_n hx hb dX10_takeKey_50 rfl (lv_at hl 0 rfl) ?_
          refine mx_get B w 0 fl_X10_11 rfl rfl dX10_takeKey_51 ?_
          refine lv_iload_n hx hb dX10_takeKey_54 rfl (lv_at hl 3 rfl) ?_
          obtain ⟨hin, hf⟩ := ld_e hf
          refine mx_iald B w 1 rfl hin dX10_takeKey_55 (fun v_3 ev => ?_)
          have hf := hf _ ev; clear ev
          obtain ⟨o_4, hq, hf⟩ := bd_e hf
          refine mx_callS (As := [.int x2, .int v_3]) (rest := []) (wr := [(h, .inr (9, [.ref a_tby, .int tsz])), (a_tby, .inl (E.2.1, 60, .inl tby))]) (d_X1_with E l   x2 v_3  o_4 hq) B w [] [0, 1] rfl rfl (by decide) (by decide) (by decide) cs_X1_with kw_563 2 (by decide +kernel) ⟨Nat.le_of_ble_eq_true rfl, Nat.le_of_ble_eq_true rfl⟩ rfl hl.1 rfl (Nat.le_of_ble_eq_true rfl) dX10_takeKey_56 rfl rfl ⟨Nat.zero_le _, Nat.zero_le _⟩ (fun v w' H locs hpo w => ?_)
          clear hq
          obtain ⟨rfl, rfl⟩ := hpo
          have w : mW E A s [(h, .inr (9, [.ref a_tby, .int tsz])), (a_tby, .inl (E.2.1, 60, .inl tby))] H locs := w
          refine lv_istore_n (lv' := [(2, .int o_4), (0, .ref h), (1, .int x1), (3, .int x3)]) hx hb dX10_takeKey_59 rfl hl (by decide) rfl (fun ls hl => ?_)
          obtain ⟨x3_5, ev⟩ : ∃ y : Int32, y = x3 + 1 := ⟨_, rfl⟩
          refine lv_iinc (v := x3_5) (lv' := [(3, .int x3_5), (2, .int o_4), (0, .ref h), (1, .int x1)]) hx hb dX10_takeKey_60 hl (k := 3) rfl (by rw [ev]; rfl) (by decide) rfl (fun ls hl => ?_)
          have hf := lt_n ev hf; clear ev
          refine lv_goto (tgt := 22) hx hb dX10_takeKey_63 (by decide) ?_
          exact hrec _ _ _ _ _ hf  w (lv_sub hl [2, 3, 1, 0] rfl)
        · have hf := it_t hc hf
          exact hk47 _ _ _ hf  w (lv_sub hl [] rfl)
noncomputable def F_X10_takeKey (N : Nat)  (tby : Nat → Int32) (tsz : Int32)  : Option (Int32 × Int32) :=
  lt (0) (fun tsz_1 =>
  if (tsz ≤ 6 : Prop) then
  L_X10_takeKey_22 N (fun x2 => some (x2, tsz_1)) (fun _ => some (0, tsz_1)) tsz tby tsz_1 N 0 0
  else
  some (0, tsz_1))
set_option maxHeartbeats 4000000 in
set_option maxRecDepth 100000 in
theorem d_X10_takeKey (E : mE) (l : Launch) (N : Nat) (h : Nat) (a_tby : Nat)  (tby : Nat → Int32) (tsz : Int32)    (o : Int32 × Int32) (hf : F_X10_takeKey N tby tsz = some o) : MX E l yX10_takeKey cX10_takeKey 4 (some .int) ({ frames := 1, cells := 0, slots := 0, locals := 21 } : Room) [.ref h] [(h, .inr (9, [.ref a_tby, .int tsz])), (a_tby, .inl (E.2.1, 60, .inl tby))] (po_X10_takeKey E h a_tby tby tsz o) := by
  refine mx_intro (by decide +kernel) (Nat.le_of_ble_eq_true rfl) ?_
  intro p e s m args below meth c A Q ls B w hl
  obtain ⟨hx, hb, hml, hown, hts⟩ := id B.1
  unfold F_X10_takeKey at hf
  have hl : lv_has ls 4 [(0, .ref h)] := hl
  refine lv_aload_n hx hb dX10_takeKey_0 rfl (lv_at hl 0 rfl) ?_
  refine mx_get B w 0 fl_X10_15 rfl rfl dX10_takeKey_1 ?_
  refine lv_istore_n (lv' := [(1, .int tsz), (0, .ref h)]) hx hb dX10_takeKey_4 rfl hl (by decide) rfl (fun ls hl => ?_)
  refine lv_aload_n hx hb dX10_takeKey_5 rfl (lv_at hl 1 rfl) ?_
  refine lv_iconst (v := 0) hx hb dX10_takeKey_6 (by decide) ?_
  refine mx_puti B w 0 fl_X10_15 fi_X10_1 rfl (Nat.le_of_ble_eq_true rfl) dX10_takeKey_7 (fun tsz_1 H locs ev w => ?_)
  have hf := lt_n ev hf; clear ev
  have w : mW E A s [(h, .inr (9, [.ref a_tby, .int tsz_1])), (a_tby, .inl (E.2.1, 60, .inl tby))] H locs := w
  refine lv_iload_n hx hb dX10_takeKey_10 rfl (lv_at hl 0 rfl) ?_
  refine lv_bipush (v := 6) hx hb dX10_takeKey_11 (by decide) ?_
  refine lv_icmp_le (tgt := 18) hx hb dX10_takeKey_13 (by decide) (fun hc => ?_) (fun hc => ?_)
  · have hf := it_t hc hf
    refine lv_iconst (v := 0) hx hb dX10_takeKey_18 (by decide) ?_
    refine lv_istore_n (lv' := [(2, .int 0), (1, .int tsz), (0, .ref h)]) hx hb dX10_takeKey_19 rfl hl (by decide) rfl (fun ls hl => ?_)
    refine lv_iconst (v := 0) hx hb dX10_takeKey_20 (by decide) ?_
    refine lv_istore_n (lv' := [(3, .int 0), (2, .int 0), (1, .int tsz), (0, .ref h)]) hx hb dX10_takeKey_21 rfl hl (by decide) rfl (fun ls hl => ?_)
    refine l_X10_takeKey_22 B _ _  ?_ ?_ N _ _ _ _ _ hf  w (lv_sub hl [3, 2, 1, 0] rfl)
    · intro x2 H locs ls hf w hl
      refine lv_iload_n hx hb dX10_takeKey_66 rfl (lv_at hl 0 rfl) ?_
      cases hf
      exact mx_iret B w ⟨rfl, rfl⟩ dX10_takeKey_67
    · intro H locs ls hf w hl
      refine lv_iconst (v := 0) hx hb dX10_takeKey_47 (by decide) ?_
      cases hf
      exact mx_iret B w ⟨rfl, rfl⟩ dX10_takeKey_48
  · have hf := it_f hc hf
    refine lv_iconst (v := 0) hx hb dX10_takeKey_16 (by decide) ?_
    cases hf
    exact mx_iret B w ⟨rfl, rfl⟩ dX10_takeKey_17
-- X2_noteUse
def po_X2_noteUse (E : mE) (h : Nat) (h_rules : Nat) (a_vals : Nat) (h_book : Nat) (a_book : Nat) (h_told : Nat) (a_told : Nat) (h_written : Nat) (a_written : Nat) (h_late : Nat) (a_late : Nat) (a_sums : Nat) (a_asum : Nat)  (vals : Nat → Int32) (now : Int32) (book : Rows) (told : Rows) (written : Rows) (late : Rows) (sums : Nat → Int32) (asum : Nat → Int32) (s_book : Int32) (f_book : Nat → Int32) (s_told : Int32) (f_told : Nat → Int32) (s_written : Int32) (f_written : Nat → Int32) (s_late : Int32) (f_late : Nat → Int32) (o : Rows × (Nat → Int32) × (Nat → Int32)) : Option Value → va_W → Prop := (fun (v : Option Value) (w' : va_W) => ∃ (s_late' : Int32) (f_late' : Nat → Int32), tb_ok 60 1 o.1 s_late' f_late' ∧ v = none ∧ w' = [(h, .inr (1, [.ref h_rules, .ref h_book, .ref h_told, .ref h_written, .ref h_late, .ref a_sums, .ref a_asum])), (h_rules, .inr (4, [.ref a_vals, .int now])), (a_vals, .inl (E.2.1, 8, .inl vals)), (h_book, .inr (8, [.int (nI 40), .int (nI 3), .ref a_book, .int s_book])), (a_book, .inl (E.2.1, (40 * 3), .inl f_book)), (h_told, .inr (8, [.int (nI 60), .int (nI 1), .ref a_told, .int s_told])), (a_told, .inl (E.2.1, (60 * 1), .inl f_told)), (h_written, .inr (8, [.int (nI 40), .int (nI 2), .ref a_written, .int s_written])), (a_written, .inl (E.2.1, (40 * 2), .inl f_written)), (h_late, .inr (8, [.int (nI 60), .int (nI 1), .ref a_late, .int s_late'])), (a_late, .inl (E.2.1, (60 * 1), .inl f_late')), (a_sums, .inl (E.2.1, 14, .inl o.2.1)), (a_asum, .inl (E.2.1, 64, .inl o.2.2))])
noncomputable def F_X2_noteUse  (late : Rows) (sums : Nat → Int32) (asum : Nat → Int32) (x1 : Int32) (x2 : Int32) : Option (Rows × (Nat → Int32) × (Nat → Int32)) :=
  lt (tpush 60 1 late x2 0 0) (fun o_1 =>
  bd (F_X2_tally sums 0) (fun o_4 =>
  bd (F_X2_tallyOf asum x1 0) (fun o_5 =>
  some (o_1.2, o_4, o_5))))
set_option maxHeartbeats 4000000 in
set_option maxRecDepth 100000 in
theorem d_X2_noteUse (E : mE) (l : Launch) (h : Nat) (h_rules : Nat) (a_vals : Nat) (h_book : Nat) (a_book : Nat) (h_told : Nat) (a_told : Nat) (h_written : Nat) (a_written : Nat) (h_late : Nat) (a_late : Nat) (a_sums : Nat) (a_asum : Nat)  (vals : Nat → Int32) (now : Int32) (book : Rows) (told : Rows) (written : Rows) (late : Rows) (sums : Nat → Int32) (asum : Nat → Int32) (s_book : Int32) (f_book : Nat → Int32) (s_told : Int32) (f_told : Nat → Int32) (s_written : Int32) (f_written : Nat → Int32) (s_late : Int32) (f_late : Nat → Int32) (x1 : Int32) (x2 : Int32) (ok_book : tb_ok 40 3 book s_book f_book) (ok_told : tb_ok 60 1 told s_told f_told) (ok_written : tb_ok 40 2 written s_written f_written) (ok_late : tb_ok 60 1 late s_late f_late) (o : Rows × (Nat → Int32) × (Nat → Int32)) (hf : F_X2_noteUse late sums asum x1 x2 = some o) : MX E l yX2_noteUse cX2_noteUse 3 none ({ frames := 1, cells := 0, slots := 0, locals := 25 } : Room) [.ref h, .int x1, .int x2] [(h, .inr (1, [.ref h_rules, .ref h_book, .ref h_told, .ref h_written, .ref h_late, .ref a_sums, .ref a_asum])), (h_rules, .inr (4, [.ref a_vals, .int now])), (a_vals, .inl (E.2.1, 8, .inl vals)), (h_book, .inr (8, [.int (nI 40), .int (nI 3), .ref a_book, .int s_book])), (a_book, .inl (E.2.1, (40 * 3), .inl f_book)), (h_told, .inr (8, [.int (nI 60), .int (nI 1), .ref a_told, .int s_told])), (a_told, .inl (E.2.1, (60 * 1), .inl f_told)), (h_written, .inr (8, [.int (nI 40), .int (nI 2), .ref a_written, .int s_written])), (a_written, .inl (E.2.1, (40 * 2), .inl f_written)), (h_late, .inr (8, [.int (nI 60), .int (nI 1), .ref a_late, .int s_late])), (a_late, .inl (E.2.1, (60 * 1), .inl f_late)), (a_sums, .inl (E.2.1, 14, .inl sums)), (a_asum, .inl (E.2.1, 64, .inl asum))] (po_X2_noteUse E h h_rules a_vals h_book a_book h_told a_told h_written a_written h_late a_late a_sums a_asum vals now book told written late sums asum s_book f_book s_told f_told s_written f_written s_late f_late o) := by
  refine mx_intro (by decide +kernel) (Nat.le_of_ble_eq_true rfl) ?_
  intro p e s m args below meth c A Q ls B w hl
  obtain ⟨hx, hb, hml, hown, hts⟩ := id B.1
  unfold F_X2_noteUse at hf
  have hl : lv_has ls 3 [(0, .ref h), (1, .int x1), (2, .int x2)] := hl
  refine lv_aload_n hx hb dX2_noteUse_0 rfl (lv_at hl 0 rfl) ?_
  refine mx_get B w 0 fl_X2_30 rfl rfl dX2_noteUse_1 ?_
  refine lv_iload_n hx hb dX2_noteUse_4 rfl (lv_at hl 2 rfl) ?_
  refine lv_iconst (v := 0) hx hb dX2_noteUse_5 (by decide) ?_
  refine lv_iconst (v := 0) hx hb dX2_noteUse_6 (by decide) ?_
  obtain ⟨o_1, ev⟩ : ∃ y, y = tpush 60 1 late x2 0 0 := ⟨_, rfl⟩
  have hf := lt_n ev hf
  refine mx_callV (As := [.int x2, .int 0, .int 0]) (rest := []) (wr := [(h, .inr (1, [.ref h_rules, .ref h_book, .ref h_told, .ref h_written, .ref h_late, .ref a_sums, .ref a_asum])), (h_rules, .inr (4, [.ref a_vals, .int now])), (a_vals, .inl (E.2.1, 8, .inl vals)), (h_book, .inr (8, [.int (nI 40), .int (nI 3), .ref a_book, .int s_book])), (a_book, .inl (E.2.1, (40 * 3), .inl f_book)), (h_told, .inr (8, [.int (nI 60), .int (nI 1), .ref a_told, .int s_told])), (a_told, .inl (E.2.1, (60 * 1), .inl f_told)), (h_written, .inr (8, [.int (nI 40), .int (nI 2), .ref a_written, .int s_written])), (a_written, .inl (E.2.1, (40 * 2), .inl f_written)), (a_sums, .inl (E.2.1, 14, .inl sums)), (a_asum, .inl (E.2.1, 64, .inl asum))]) (c_X9_push E l h_late a_late 60 1 late s_late f_late x2 0 0 ok_late o_1 ev) B w [9, 10] [0, 1, 2, 3, 4, 5, 6, 7, 8, 11, 12] rfl rfl (by decide) (by decide) (by decide) 9 rfl rfl cv_X9_push kw_434 3 (by decide +kernel) ⟨Nat.le_of_ble_eq_true rfl, Nat.le_of_ble_eq_true rfl⟩ rfl hl.1 rfl (Nat.le_of_ble_eq_true rfl) dX2_noteUse_7 rfl rfl ⟨Nat.zero_le _, Nat.zero_le _⟩ (fun v w' H locs hpo w => ?_)
  clear ev
  obtain ⟨s_late_2, f_late_3, ok_late, rfl, rfl⟩ := hpo
  have w : mW E A s [(h, .inr (1, [.ref h_rules, .ref h_book, .ref h_told, .ref h_written, .ref h_late, .ref a_sums, .ref a_asum])), (h_rules, .inr (4, [.ref a_vals, .int now])), (a_vals, .inl (E.2.1, 8, .inl vals)), (h_book, .inr (8, [.int (nI 40), .int (nI 3), .ref a_book, .int s_book])), (a_book, .inl (E.2.1, (40 * 3), .inl f_book)), (h_told, .inr (8, [.int (nI 60), .int (nI 1), .ref a_told, .int s_told])), (a_told, .inl (E.2.1, (60 * 1), .inl f_told)), (h_written, .inr (8, [.int (nI 40), .int (nI 2), .ref a_written, .int s_written])), (a_written, .inl (E.2.1, (40 * 2), .inl f_written)), (h_late, .inr (8, [.int (nI 60), .int (nI 1), .ref a_late, .int s_late_2])), (a_late, .inl (E.2.1, (60 * 1), .inl f_late_3)), (a_sums, .inl (E.2.1, 14, .inl sums)), (a_asum, .inl (E.2.1, 64, .inl asum))] H locs := w.sub [0, 1, 2, 3, 4, 5, 6, 7, 8, 11, 12, 9, 10] (by decide) rfl
  refine lv_pop hx hb dX2_noteUse_10 rfl ?_
  refine lv_aload_n hx hb dX2_noteUse_11 rfl (lv_at hl 0 rfl) ?_
  refine lv_iconst (v := 0) hx hb dX2_noteUse_12 (by decide) ?_
  obtain ⟨o_4, hq, hf⟩ := bd_e hf
  refine mx_callV (As := [.int 0]) (rest := []) (wr := []) (d_X2_tally E l  h h_rules a_vals h_book a_book h_told a_told h_written a_written h_late a_late a_sums a_asum vals now book told written o_1.2 sums asum s_book f_book s_told f_told s_written f_written s_late_2 f_late_3 0 ok_book ok_told ok_written ok_late o_4 hq) B w [0, 1, 2, 3, 4, 5, 6, 7, 8, 9, 10, 11, 12] [] rfl rfl (by decide) (by decide) (by decide) 0 rfl rfl cv_X2_tally kw_448 1 (by decide +kernel) ⟨Nat.le_of_ble_eq_true rfl, Nat.le_of_ble_eq_true rfl⟩ rfl hl.1 rfl (Nat.le_of_ble_eq_true rfl) dX2_noteUse_13 rfl rfl ⟨Nat.zero_le _, Nat.zero_le _⟩ (fun v w' H locs hpo w => ?_)
  clear hq
  obtain ⟨rfl, rfl⟩ := hpo
  have w : mW E A s [(h, .inr (1, [.ref h_rules, .ref h_book, .ref h_told, .ref h_written, .ref h_late, .ref a_sums, .ref a_asum])), (h_rules, .inr (4, [.ref a_vals, .int now])), (a_vals, .inl (E.2.1, 8, .inl vals)), (h_book, .inr (8, [.int (nI 40), .int (nI 3), .ref a_book, .int s_book])), (a_book, .inl (E.2.1, (40 * 3), .inl f_book)), (h_told, .inr (8, [.int (nI 60), .int (nI 1), .ref a_told, .int s_told])), (a_told, .inl (E.2.1, (60 * 1), .inl f_told)), (h_written, .inr (8, [.int (nI 40), .int (nI 2), .ref a_written, .int s_written])), (a_written, .inl (E.2.1, (40 * 2), .inl f_written)), (h_late, .inr (8, [.int (nI 60), .int (nI 1), .ref a_late, .int s_late_2])), (a_late, .inl (E.2.1, (60 * 1), .inl f_late_3)), (a_sums, .inl (E.2.1, 14, .inl o_4)), (a_asum, .inl (E.2.1, 64, .inl asum))] H locs := w
  refine lv_aload_n hx hb dX2_noteUse_16 rfl (lv_at hl 0 rfl) ?_
  refine lv_iload_n hx hb dX2_noteUse_17 rfl (lv_at hl 1 rfl) ?_
  refine lv_iconst (v := 0) hx hb dX2_noteUse_18 (by decide) ?_
  obtain ⟨o_5, hq, hf⟩ := bd_e hf
  refine mx_callV (As := [.int x1, .int 0]) (rest := []) (wr := []) (d_X2_tallyOf E l  h h_rules a_vals h_book a_book h_told a_told h_written a_written h_late a_late a_sums a_asum vals now book told written o_1.2 o_4 asum s_book f_book s_told f_told s_written f_written s_late_2 f_late_3 x1 0 ok_book ok_told ok_written ok_late o_5 hq) B w [0, 1, 2, 3, 4, 5, 6, 7, 8, 9, 10, 11, 12] [] rfl rfl (by decide) (by decide) (by decide) 0 rfl rfl cv_X2_tallyOf kw_523 2 (by decide +kernel) ⟨Nat.le_of_ble_eq_true rfl, Nat.le_of_ble_eq_true rfl⟩ rfl hl.1 rfl (Nat.le_of_ble_eq_true rfl) dX2_noteUse_19 rfl rfl ⟨Nat.zero_le _, Nat.zero_le _⟩ (fun v w' H locs hpo w => ?_)
  clear hq
  obtain ⟨rfl, rfl⟩ := hpo
  have w : mW E A s [(h, .inr (1, [.ref h_rules, .ref h_book, .ref h_told, .ref h_written, .ref h_late, .ref a_sums, .ref a_asum])), (h_rules, .inr (4, [.ref a_vals, .int now])), (a_vals, .inl (E.2.1, 8, .inl vals)), (h_book, .inr (8, [.int (nI 40), .int (nI 3), .ref a_book, .int s_book])), (a_book, .inl (E.2.1, (40 * 3), .inl f_book)), (h_told, .inr (8, [.int (nI 60), .int (nI 1), .ref a_told, .int s_told])), (a_told, .inl (E.2.1, (60 * 1), .inl f_told)), (h_written, .inr (8, [.int (nI 40), .int (nI 2), .ref a_written, .int s_written])), (a_written, .inl (E.2.1, (40 * 2), .inl f_written)), (h_late, .inr (8, [.int (nI 60), .int (nI 1), .ref a_late, .int s_late_2])), (a_late, .inl (E.2.1, (60 * 1), .inl f_late_3)), (a_sums, .inl (E.2.1, 14, .inl o_4)), (a_asum, .inl (E.2.1, 64, .inl o_5))] H locs := w
  cases hf
  exact mx_vret B w ⟨_, _, ok_late, rfl, rfl⟩ dX2_noteUse_22
-- X7_placeOf
def po_X7_placeOf (E : mE)     (o : Int32) : Option Value → va_W → Prop := (fun (v : Option Value) (w' : va_W) => v = some (.int o) ∧ w' = [])
noncomputable def F_X7_placeOf   (x0 : Int32) (x1 : Int32) : Option (Int32) :=
  some ((x1 * 16) + (irm (ush (x0 * ((2 * x1) + 1)) (3 + (5 * x1))) 16))
set_option maxHeartbeats 4000000 in
set_option maxRecDepth 100000 in
theorem d_X7_placeOf (E : mE) (l : Launch)     (x0 : Int32) (x1 : Int32)  (o : Int32) (hf : F_X7_placeOf x0 x1 = some o) : MX E l yX7_placeOf cX7_placeOf 2 (some .int) ({ frames := 0, cells := 0, slots := 0, locals := 0 } : Room) [.int x0, .int x1] [] (po_X7_placeOf E o) := by
  refine mx_intro (by decide +kernel) (Nat.le_of_ble_eq_true rfl) ?_
  intro p e s m args below meth c A Q ls B w hl
  obtain ⟨hx, hb, hml, hown, hts⟩ := id B.1
  unfold F_X7_placeOf at hf
  have hl : lv_has ls 2 [(0, .int x0), (1, .int x1)] := hl
  refine lv_iload_n hx hb dX7_placeOf_0 rfl (lv_at hl 1 rfl) ?_
  refine lv_bipush (v := 16) hx hb dX7_placeOf_1 (by decide) ?_
  refine lv_imul hx hb dX7_placeOf_3 ?_
  refine lv_iload_n hx hb dX7_placeOf_4 rfl (lv_at hl 0 rfl) ?_
  refine lv_iconst (v := 2) hx hb dX7_placeOf_5 (by decide) ?_
  refine lv_iload_n hx hb dX7_placeOf_6 rfl (lv_at hl 1 rfl) ?_
  refine lv_imul hx hb dX7_placeOf_7 ?_
  refine lv_iconst (v := 1) hx hb dX7_placeOf_8 (by decide) ?_
  refine lv_iadd hx hb dX7_placeOf_9 ?_
  refine lv_imul hx hb dX7_placeOf_10 ?_
  refine lv_iconst (v := 3) hx hb dX7_placeOf_11 (by decide) ?_
  refine lv_iconst (v := 5) hx hb dX7_placeOf_12 (by decide) ?_
  refine lv_iload_n hx hb dX7_placeOf_13 rfl (lv_at hl 1 rfl) ?_
  refine lv_imul hx hb dX7_placeOf_14 ?_
  refine lv_iadd hx hb dX7_placeOf_15 ?_
  refine lv_iushr (v := ush (x0 * ((2 * x1) + 1)) (3 + (5 * x1))) hx hb dX7_placeOf_16 rfl ?_
  refine lv_bipush (v := 16) hx hb dX7_placeOf_17 (by decide) ?_
  refine lv_irem hx hb dX7_placeOf_19 (by decide) ?_
  refine lv_iadd hx hb dX7_placeOf_20 ?_
  cases hf
  exact mx_iret B w ⟨rfl, rfl⟩ dX7_placeOf_21
-- X7_add
def po_X7_add (E : mE) (h : Nat) (a_cnt : Nat)  (cnt : Nat → Int32)  (o : (Nat → Int32)) : Option Value → va_W → Prop := (fun (v : Option Value) (w' : va_W) => v = none ∧ w' = [(h, .inr (6, [.ref a_cnt])), (a_cnt, .inl (E.2.1, 64, .inl o))])
noncomputable def J_X7_add_57 (N : Nat)  (rec : Int32 → (Nat → Int32) → (Option ((Nat → Int32)))) (k63 : (Nat → Int32) → (Option ((Nat → Int32)))) (x2 : Int32) (x3 : Int32) (cnt : Nat → Int32) : Option ((Nat → Int32)) :=
  lt (x3 + 1) (fun x3_3 =>
  rec x3_3 cnt)
set_option maxHeartbeats 4000000 in
set_option maxRecDepth 100000 in
theorem j_X7_add_57 {E : mE} {l : Launch} {p : Program} {e : Env} {s : State} {m : MethodId} {args : Array Value} {below : List Frame} {meth : Method} {c : Code} {A : Nat → Prop} {Q : State → Prop} {N : Nat} {h : Nat} {a_cnt : Nat}  {cnt0 : Nat → Int32}  {o : (Nat → Int32)} (B : mB E yX7_add cX7_add 5 none 0 0 (po_X7_add E h a_cnt cnt0 o) p s m args below meth c A Q) {x2 : Int32} {x3 : Int32} {cnt : Nat → Int32}  (rec : Int32 → (Nat → Int32) → (Option ((Nat → Int32)))) (k63 : (Nat → Int32) → (Option ((Nat → Int32)))) (hrec : ∀ (x3 : Int32) (cnt : Nat → Int32)  (H : Heap) (locs : List Loc) (ls : Array Slot), rec x3 cnt = some o → mW E A s [(h, .inr (6, [.ref a_cnt])), (a_cnt, .inl (E.2.1, 64, .inl cnt))] H locs → lv_has ls 5 [(0, .ref h), (2, .int x2), (3, .int x3)] → W p l e ({ frames := 1, cells := 0, slots := 0, locals := 23 } : Room) s m args below meth c H locs 0 0 Q (F0 m 7 ls [])) (hk63 : ∀  (cnt : Nat → Int32)  (H : Heap) (locs : List Loc) (ls : Array Slot), k63 cnt = some o → mW E A s [(h, .inr (6, [.ref a_cnt])), (a_cnt, .inl (E.2.1, 64, .inl cnt))] H locs → lv_has ls 5 [] → W p l e ({ frames := 1, cells := 0, slots := 0, locals := 23 } : Room) s m args below meth c H locs 0 0 Q (F0 m 63 ls [])) {H : Heap} {locs : List Loc} {ls : Array Slot} (hf : J_X7_add_57 N rec k63 x2 x3 cnt = some o)  (w : mW E A s [(h, .inr (6, [.ref a_cnt])), (a_cnt, .inl (E.2.1, 64, .inl cnt))] H locs) (hl : lv_has ls 5 [(0, .ref h), (2, .int x2), (3, .int x3)]) : W p l e ({ frames := 1, cells := 0, slots := 0, locals := 23 } : Room) s m args below meth c H locs 0 0 Q (F0 m 57 ls []) := by
  obtain ⟨hx, hb, hml, hown, hts⟩ := id B.1
  unfold J_X7_add_57 at hf
  obtain ⟨x3_3, ev⟩ : ∃ y : Int32, y = x3 + 1 := ⟨_, rfl⟩
  refine lv_iinc (v := x3_3) (lv' := [(3, .int x3_3), (0, .ref h), (2, .int x2)]) hx hb dX7_add_57 hl (k := 2) rfl (by rw [ev]; rfl) (by decide) rfl (fun ls hl => ?_)
  have hf := lt_n ev hf; clear ev
  refine lv_goto (tgt := 7) hx hb dX7_add_60 (by decide) ?_
  exact hrec _ _ _ _ _ hf  w (lv_sub hl [1, 2, 0] rfl)
noncomputable def K_X7_add_7 (N : Nat)  (rec : Int32 → (Nat → Int32) → (Option ((Nat → Int32)))) (k63 : (Nat → Int32) → (Option ((Nat → Int32)))) (x2 : Int32)  (x3 : Int32) (cnt : Nat → Int32) : Option ((Nat → Int32)) :=
  if (4 ≤ x3 : Prop) then
  k63 cnt
  else
  bd (F_X7_placeOf x2 x3) (fun o_2 =>
  if (o_2 < 0 : Prop) then
  J_X7_add_57 N rec k63 x2 x3 cnt
  else
  if ((nI 64) ≤ o_2 : Prop) then
  J_X7_add_57 N rec k63 x2 x3 cnt
  else
  ld cnt 64 o_2 (fun v_4 =>
  if (15 ≤ v_4 : Prop) then
  J_X7_add_57 N rec k63 x2 x3 cnt
  else
  ld cnt 64 o_2 (fun v_5 =>
  sto cnt 64 o_2 (v_5 + 1) (fun cnt_6 =>
  J_X7_add_57 N rec k63 x2 x3 cnt_6))))
noncomputable def L_X7_add_7 (N : Nat)  (k63 : (Nat → Int32) → (Option ((Nat → Int32)))) (x2 : Int32)  (n : Nat) : Int32 → (Nat → Int32) → (Option ((Nat → Int32))) :=
  Nat.rec (motive := fun _ => Int32 → (Nat → Int32) → (Option ((Nat → Int32)))) (fun _ _ => none) (fun _ rec => K_X7_add_7 N rec k63 x2) n
set_option maxHeartbeats 4000000 in
set_option maxRecDepth 100000 in
theorem l_X7_add_7 {E : mE} {l : Launch} {p : Program} {e : Env} {s : State} {m : MethodId} {args : Array Value} {below : List Frame} {meth : Method} {c : Code} {A : Nat → Prop} {Q : State → Prop} {N : Nat} {h : Nat} {a_cnt : Nat}  {cnt0 : Nat → Int32}  {o : (Nat → Int32)} (B : mB E yX7_add cX7_add 5 none 0 0 (po_X7_add E h a_cnt cnt0 o) p s m args below meth c A Q)   {x2 : Int32} (k63 : (Nat → Int32) → (Option ((Nat → Int32))))  (hk63 : ∀  (cnt : Nat → Int32)  (H : Heap) (locs : List Loc) (ls : Array Slot), k63 cnt = some o → mW E A s [(h, .inr (6, [.ref a_cnt])), (a_cnt, .inl (E.2.1, 64, .inl cnt))] H locs → lv_has ls 5 [] → W p l e ({ frames := 1, cells := 0, slots := 0, locals := 23 } : Room) s m args below meth c H locs 0 0 Q (F0 m 63 ls [])) : ∀ n : Nat, ∀ (x3 : Int32) (cnt : Nat → Int32)  (H : Heap) (locs : List Loc) (ls : Array Slot), L_X7_add_7 N k63 x2 n x3 cnt = some o → mW E A s [(h, .inr (6, [.ref a_cnt])), (a_cnt, .inl (E.2.1, 64, .inl cnt))] H locs → lv_has ls 5 [(0, .ref h), (2, .int x2), (3, .int x3)] → W p l e ({ frames := 1, cells := 0, slots := 0, locals := 23 } : Room) s m args below meth c H locs 0 0 Q (F0 m 7 ls []) := by
  obtain ⟨hx, hb, hml, hown, hts⟩ := id B.1
  intro n
  induction n with
  | zero =>
    intro x3 cnt H locs ls hf w hl
    exact nomatch hf
  | succ n hrec =>
    intro x3 cnt H locs ls hf w hl
    have hf : K_X7_add_7 N (L_X7_add_7 N k63 x2 n) k63 x2 x3 cnt = some o := hf
    unfold K_X7_add_7 at hf
    refine lv_iload_n hx hb dX7_add_7 rfl (lv_at hl 2 rfl) ?_
    refine lv_iconst (v := 4) hx hb dX7_add_8 (by decide) ?_
    refine lv_icmp_ge (tgt := 63) hx hb dX7_add_9 (by decide) (fun hc => ?_) (fun hc => ?_)
    · have hf := it_t hc hf
      exact hk63 _ _ _ _ hf  w (lv_sub hl [] rfl)
    · have hf := it_f hc hf
      refine lv_iload_n hx hb dX7_add_12 rfl (lv_at hl 1 rfl) ?_
      refine lv_iload_n hx hb dX7_add_13 rfl (lv_at hl 2 rfl) ?_
      obtain ⟨o_2, hq, hf⟩ := bd_e hf
      refine mx_callS (As := [.int x2, .int x3]) (rest := []) (wr := [(h, .inr (6, [.ref a_cnt])), (a_cnt, .inl (E.2.1, 64, .inl cnt))]) (d_X7_placeOf E l   x2 x3  o_2 hq) B w [] [0, 1] rfl rfl (by decide) (by decide) (by decide) cs_X7_placeOf kw_579 2 (by decide +kernel) ⟨Nat.le_of_ble_eq_true rfl, Nat.le_of_ble_eq_true rfl⟩ rfl hl.1 rfl (Nat.le_of_ble_eq_true rfl) dX7_add_14 rfl rfl ⟨Nat.zero_le _, Nat.zero_le _⟩ (fun v w' H locs hpo w => ?_)
      clear hq
      obtain ⟨rfl, rfl⟩ := hpo
      have w : mW E A s [(h, .inr (6, [.ref a_cnt])), (a_cnt, .inl (E.2.1, 64, .inl cnt))] H locs := w
      refine lv_istore (lv' := [(4, .int o_2), (0, .ref h), (2, .int x2), (3, .int x3)]) hx hb dX7_add_17 hl (by decide) rfl (fun ls hl => ?_)
      refine lv_iload hx hb dX7_add_19 (lv_at hl 0 rfl) ?_
      refine lv_if_lt (tgt := 57) hx hb dX7_add_21 (by decide) (fun hc => ?_) (fun hc => ?_)
      · have hf := it_t hc hf
        exact j_X7_add_57 B _ _ hrec hk63 hf  w (lv_sub hl [1, 2, 3] rfl)
      · have hf := it_f hc hf
        refine lv_iload hx hb dX7_add_24 (lv_at hl 0 rfl) ?_
        refine lv_aload_n hx hb dX7_add_26 rfl (lv_at hl 1 rfl) ?_
        refine mx_get B w 0 fl_X7_9 rfl rfl dX7_add_27 ?_
        refine mx_alen B w 1 rfl dX7_add_30 ?_
        refine lv_icmp_ge (tgt := 57) hx hb dX7_add_31 (by decide) (fun hc => ?_) (fun hc => ?_)
        · have hf := it_t hc hf
          exact j_X7_add_57 B _ _ hrec hk63 hf  w (lv_sub hl [1, 2, 3] rfl)
        · have hf := it_f hc hf
          refine lv_aload_n hx hb dX7_add_34 rfl (lv_at hl 1 rfl) ?_
          refine mx_get B w 0 fl_X7_9 rfl rfl dX7_add_35 ?_
          refine lv_iload hx hb dX7_add_38 (lv_at hl 0 rfl) ?_
          obtain ⟨hin, hf⟩ := ld_e hf
          refine mx_iald B w 1 rfl hin dX7_add_40 (fun v_4 ev => ?_)
          have hf := hf _ ev; clear ev
          refine lv_bipush (v := 15) hx hb dX7_add_41 (by decide) ?_
          refine lv_icmp_ge (tgt := 57) hx hb dX7_add_43 (by decide) (fun hc => ?_) (fun hc => ?_)
          · have hf := it_t hc hf
            exact j_X7_add_57 B _ _ hrec hk63 hf  w (lv_sub hl [1, 2, 3] rfl)
          · have hf := it_f hc hf
            refine lv_aload_n hx hb dX7_add_46 rfl (lv_at hl 1 rfl) ?_
            refine mx_get B w 0 fl_X7_9 rfl rfl dX7_add_47 ?_
            refine lv_iload hx hb dX7_add_50 (lv_at hl 0 rfl) ?_
            refine lv_dup2_11 hx hb dX7_add_52 rfl rfl ?_
            obtain ⟨hin, hf⟩ := ld_e hf
            refine mx_iald B w 1 rfl hin dX7_add_53 (fun v_5 ev => ?_)
            have hf := hf _ ev; clear ev
            refine lv_iconst (v := 1) hx hb dX7_add_54 (by decide) ?_
            refine lv_iadd hx hb dX7_add_55 ?_
            obtain ⟨hin, hf⟩ := sto_e hf
            refine mx_iast B w 1 rfl hin dX7_add_56 (fun cnt_6 H locs ev w => ?_)
            have hf := hf _ ev; clear ev
            have w : mW E A s [(h, .inr (6, [.ref a_cnt])), (a_cnt, .inl (E.2.1, 64, .inl cnt_6))] H locs := w
            exact j_X7_add_57 B _ _ hrec hk63 hf  w (lv_sub hl [1, 2, 3] rfl)
noncomputable def F_X7_add (N : Nat)  (cnt : Nat → Int32) (x1 : Int32) : Option ((Nat → Int32)) :=
  bd (F_X1_number N x1) (fun o_1 =>
  L_X7_add_7 N (fun cnt => some (cnt)) o_1 N 0 cnt)
set_option maxHeartbeats 4000000 in
set_option maxRecDepth 100000 in
theorem d_X7_add (E : mE) (l : Launch) (N : Nat) (h : Nat) (a_cnt : Nat)  (cnt : Nat → Int32)  (x1 : Int32)  (o : (Nat → Int32)) (hf : F_X7_add N cnt x1 = some o) : MX E l yX7_add cX7_add 5 none ({ frames := 1, cells := 0, slots := 0, locals := 23 } : Room) [.ref h, .int x1] [(h, .inr (6, [.ref a_cnt])), (a_cnt, .inl (E.2.1, 64, .inl cnt))] (po_X7_add E h a_cnt cnt o) := by
  refine mx_intro (by decide +kernel) (Nat.le_of_ble_eq_true rfl) ?_
  intro p e s m args below meth c A Q ls B w hl
  obtain ⟨hx, hb, hml, hown, hts⟩ := id B.1
  unfold F_X7_add at hf
  have hl : lv_has ls 5 [(0, .ref h), (1, .int x1)] := hl
  refine lv_iload_n hx hb dX7_add_0 rfl (lv_at hl 1 rfl) ?_
  obtain ⟨o_1, hq, hf⟩ := bd_e hf
  refine mx_callS (As := [.int x1]) (rest := []) (wr := [(h, .inr (6, [.ref a_cnt])), (a_cnt, .inl (E.2.1, 64, .inl cnt))]) (d_X1_number E l N  x1  o_1 hq) B w [] [0, 1] rfl rfl (by decide) (by decide) (by decide) cs_X1_number kw_578 1 (by decide +kernel) ⟨Nat.le_of_ble_eq_true rfl, Nat.le_of_ble_eq_true rfl⟩ rfl hl.1 rfl (Nat.le_of_ble_eq_true rfl) dX7_add_1 rfl rfl ⟨Nat.zero_le _, Nat.zero_le _⟩ (fun v w' H locs hpo w => ?_)
  clear hq
  obtain ⟨rfl, rfl⟩ := hpo
  have w : mW E A s [(h, .inr (6, [.ref a_cnt])), (a_cnt, .inl (E.2.1, 64, .inl cnt))] H locs := w
  refine lv_istore_n (lv' := [(2, .int o_1), (0, .ref h), (1, .int x1)]) hx hb dX7_add_4 rfl hl (by decide) rfl (fun ls hl => ?_)
  refine lv_iconst (v := 0) hx hb dX7_add_5 (by decide) ?_
  refine lv_istore_n (lv' := [(3, .int 0), (2, .int o_1), (0, .ref h), (1, .int x1)]) hx hb dX7_add_6 rfl hl (by decide) rfl (fun ls hl => ?_)
  refine l_X7_add_7 B _  ?_ N _ _ _ _ _ hf  w (lv_sub hl [2, 1, 0] rfl)
  · intro cnt H locs ls hf w hl
    cases hf
    exact mx_vret B w ⟨rfl, rfl⟩ dX7_add_63
-- X0_rowOf
def po_X0_rowOf (E : mE) (h : Nat) (h_rules : Nat) (a_vals : Nat) (h_rows : Nat) (a_rows : Nat) (dm : Nat) (vals : Nat → Int32) (now : Int32) (rows : Rows) (s_rows : Int32) (f_rows : Nat → Int32) (o : Int32) : Option Value → va_W → Prop := (fun (v : Option Value) (w' : va_W) => v = some (.int o) ∧ w' = [(h, .inr (0, [.ref h_rules, .ref h_rows])), (h_rules, .inr (4, [.ref a_vals, .int now])), (a_vals, .inl (E.2.1, 8, .inl vals)), (h_rows, .inr (8, [.int (nI dm), .int (nI 9), .ref a_rows, .int s_rows])), (a_rows, .inl (E.2.1, (dm * 9), .inl f_rows))])
noncomputable def F_X0_rowOf (dm : Nat) (rows : Rows) (x1 : Int32) : Option (Int32) :=
  lt (tfind rows 7 x1 0) (fun o_1 =>
  some (o_1))
set_option maxHeartbeats 4000000 in
set_option maxRecDepth 100000 in
theorem d_X0_rowOf (E : mE) (l : Launch) (h : Nat) (h_rules : Nat) (a_vals : Nat) (h_rows : Nat) (a_rows : Nat) (dm : Nat) (vals : Nat → Int32) (now : Int32) (rows : Rows) (s_rows : Int32) (f_rows : Nat → Int32) (x1 : Int32) (ok_rows : tb_ok dm 9 rows s_rows f_rows) (o : Int32) (hf : F_X0_rowOf dm rows x1 = some o) : MX E l yX0_rowOf cX0_rowOf 2 (some .int) ({ frames := 2, cells := 0, slots := 0, locals := 49 } : Room) [.ref h, .int x1] [(h, .inr (0, [.ref h_rules, .ref h_rows])), (h_rules, .inr (4, [.ref a_vals, .int now])), (a_vals, .inl (E.2.1, 8, .inl vals)), (h_rows, .inr (8, [.int (nI dm), .int (nI 9), .ref a_rows, .int s_rows])), (a_rows, .inl (E.2.1, (dm * 9), .inl f_rows))] (po_X0_rowOf E h h_rules a_vals h_rows a_rows dm vals now rows s_rows f_rows o) := by
  refine mx_intro (by decide +kernel) (Nat.le_of_ble_eq_true rfl) ?_
  intro p e s m args below meth c A Q ls B w hl
  obtain ⟨hx, hb, hml, hown, hts⟩ := id B.1
  unfold F_X0_rowOf at hf
  have hl : lv_has ls 2 [(0, .ref h), (1, .int x1)] := hl
  refine lv_aload_n hx hb dX0_rowOf_0 rfl (lv_at hl 0 rfl) ?_
  refine mx_get B w 0 fl_X0_20 rfl rfl dX0_rowOf_1 ?_
  refine lv_bipush (v := 7) hx hb dX0_rowOf_4 (by decide) ?_
  refine lv_iload_n hx hb dX0_rowOf_6 rfl (lv_at hl 1 rfl) ?_
  refine lv_iconst (v := 0) hx hb dX0_rowOf_7 (by decide) ?_
  obtain ⟨o_1, ev⟩ : ∃ y, y = tfind rows 7 x1 0 := ⟨_, rfl⟩
  have hf := lt_n ev hf
  refine mx_callV (As := [.int 7, .int x1, .int 0]) (rest := []) (wr := [(h, .inr (0, [.ref h_rules, .ref h_rows])), (h_rules, .inr (4, [.ref a_vals, .int now])), (a_vals, .inl (E.2.1, 8, .inl vals))]) (c_X9_find E l h_rows a_rows dm 9 rows s_rows f_rows 7 x1 0 ok_rows o_1 ev) B w [3, 4] [0, 1, 2] rfl rfl (by decide) (by decide) (by decide) 3 rfl rfl cv_X9_find kw_586 3 (by decide +kernel) ⟨Nat.le_of_ble_eq_true rfl, Nat.le_of_ble_eq_true rfl⟩ rfl hl.1 rfl (Nat.le_of_ble_eq_true rfl) dX0_rowOf_8 rfl rfl ⟨Nat.zero_le _, Nat.zero_le _⟩ (fun v w' H locs hpo w => ?_)
  clear ev
  obtain ⟨rfl, rfl⟩ := hpo
  have w : mW E A s [(h, .inr (0, [.ref h_rules, .ref h_rows])), (h_rules, .inr (4, [.ref a_vals, .int now])), (a_vals, .inl (E.2.1, 8, .inl vals)), (h_rows, .inr (8, [.int (nI dm), .int (nI 9), .ref a_rows, .int s_rows])), (a_rows, .inl (E.2.1, (dm * 9), .inl f_rows))] H locs := w
  cases hf
  exact mx_iret B w ⟨rfl, rfl⟩ dX0_rowOf_11
-- X6_beginUse
def po_X6_beginUse (E : mE) (h : Nat) (h_rules : Nat) (a_vals : Nat) (h_ledger : Nat) (h_book : Nat) (a_book : Nat) (h_told : Nat) (a_told : Nat) (h_written : Nat) (a_written : Nat) (h_late : Nat) (a_late : Nat) (a_sums : Nat) (a_asum : Nat) (h_entries : Nat) (h_ents : Nat) (a_ents : Nat) (h_cold : Nat) (h_colds : Nat) (a_colds : Nat) (h_sketch : Nat) (a_cnt : Nat)  (vals : Nat → Int32) (now : Int32) (book : Rows) (told : Rows) (written : Rows) (late : Rows) (sums : Nat → Int32) (asum : Nat → Int32) (ents : Rows) (colds : Rows) (cnt : Nat → Int32) (uses : Int32) (usesInWindow : Int32) (entriesSoFar : Int32) (dirtySoFar : Int32) (s_book : Int32) (f_book : Nat → Int32) (s_told : Int32) (f_told : Nat → Int32) (s_written : Int32) (f_written : Nat → Int32) (s_late : Int32) (f_late : Nat → Int32) (s_ents : Int32) (f_ents : Nat → Int32) (s_colds : Int32) (f_colds : Nat → Int32) (o : Rows × Rows × (Nat → Int32) × Rows × Rows × (Nat → Int32) × Int32 × Int32) : Option Value → va_W → Prop := (fun (v : Option Value) (w' : va_W) => ∃ (s_book' : Int32) (f_book' : Nat → Int32) (s_written' : Int32) (f_written' : Nat → Int32) (s_ents' : Int32) (f_ents' : Nat → Int32) (s_colds' : Int32) (f_colds' : Nat → Int32), tb_ok 40 3 o.1 s_book' f_book' ∧ tb_ok 40 2 o.2.1 s_written' f_written' ∧ tb_ok 200 9 o.2.2.2.1 s_ents' f_ents' ∧ tb_ok 20 9 o.2.2.2.2.1 s_colds' f_colds' ∧ v = none ∧ w' = [(h, .inr (5, [.ref h_rules, .ref h_ledger, .ref h_entries, .ref h_cold, .ref h_sketch, .int o.2.2.2.2.2.2.1, .int o.2.2.2.2.2.2.2, .int entriesSoFar, .int dirtySoFar])), (h_rules, .inr (4, [.ref a_vals, .int now])), (a_vals, .inl (E.2.1, 8, .inl vals)), (h_ledger, .inr (1, [.ref h_rules, .ref h_book, .ref h_told, .ref h_written, .ref h_late, .ref a_sums, .ref a_asum])), (h_book, .inr (8, [.int (nI 40), .int (nI 3), .ref a_book, .int s_book'])), (a_book, .inl (E.2.1, (40 * 3), .inl f_book')), (h_told, .inr (8, [.int (nI 60), .int (nI 1), .ref a_told, .int s_told])), (a_told, .inl (E.2.1, (60 * 1), .inl f_told)), (h_written, .inr (8, [.int (nI 40), .int (nI 2), .ref a_written, .int s_written'])), (a_written, .inl (E.2.1, (40 * 2), .inl f_written')), (h_late, .inr (8, [.int (nI 60), .int (nI 1), .ref a_late, .int s_late])), (a_late, .inl (E.2.1, (60 * 1), .inl f_late)), (a_sums, .inl (E.2.1, 14, .inl o.2.2.1)), (a_asum, .inl (E.2.1, 64, .inl asum)), (h_entries, .inr (0, [.ref h_rules, .ref h_ents])), (h_ents, .inr (8, [.int (nI 200), .int (nI 9), .ref a_ents, .int s_ents'])), (a_ents, .inl (E.2.1, (200 * 9), .inl f_ents')), (h_cold, .inr (0, [.ref h_rules, .ref h_colds])), (h_colds, .inr (8, [.int (nI 20), .int (nI 9), .ref a_colds, .int s_colds'])), (a_colds, .inl (E.2.1, (20 * 9), .inl f_colds')), (h_sketch, .inr (6, [.ref a_cnt])), (a_cnt, .inl (E.2.1, 64, .inl o.2.2.2.2.2.1))])
noncomputable def J_X6_beginUse_60 (N : Nat)   (x1 : Int32) (vals : Nat → Int32) (now : Int32) (book : Rows) (written : Rows) (sums : Nat → Int32) (ents : Rows) (colds : Rows) (cnt : Nat → Int32) (uses : Int32) (usesInWindow : Int32) : Option (Rows × Rows × (Nat → Int32) × Rows × Rows × (Nat → Int32) × Int32 × Int32) :=
  bd (F_X0_rowOf 20 colds x1) (fun o_5 =>
  if (o_5 = ((-1)) : Prop) then
  some (book, written, sums, ents, colds, cnt, uses, usesInWindow)
  else
  bd (F_X0_isStale 20 vals now colds o_5) (fun o_6 =>
  if (o_6 = 0 : Prop) then
  some (book, written, sums, ents, colds, cnt, uses, usesInWindow)
  else
  bd (F_X0_remove 20 colds o_5) (fun o_7 =>
  some (book, written, sums, ents, o_7, cnt, uses, usesInWindow))))
set_option maxHeartbeats 4000000 in
set_option maxRecDepth 100000 in
theorem j_X6_beginUse_60 {E : mE} {l : Launch} {p : Program} {e : Env} {s : State} {m : MethodId} {args : Array Value} {below : List Frame} {meth : Method} {c : Code} {A : Nat → Prop} {Q : State → Prop} {N : Nat} {h : Nat} {h_rules : Nat} {a_vals : Nat} {h_ledger : Nat} {h_book : Nat} {a_book : Nat} {h_told : Nat} {a_told : Nat} {h_written : Nat} {a_written : Nat} {h_late : Nat} {a_late : Nat} {a_sums : Nat} {a_asum : Nat} {h_entries : Nat} {h_ents : Nat} {a_ents : Nat} {h_cold : Nat} {h_colds : Nat} {a_colds : Nat} {h_sketch : Nat} {a_cnt : Nat}  {vals : Nat → Int32} {now : Int32} {book0 : Rows} {told : Rows} {written0 : Rows} {late : Rows} {sums0 : Nat → Int32} {asum : Nat → Int32} {ents0 : Rows} {colds0 : Rows} {cnt0 : Nat → Int32} {uses0 : Int32} {usesInWindow0 : Int32} {entriesSoFar : Int32} {dirtySoFar : Int32} {s_book0 : Int32} {f_book0 : Nat → Int32} {s_told : Int32} {f_told : Nat → Int32} {s_written0 : Int32} {f_written0 : Nat → Int32} {s_late : Int32} {f_late : Nat → Int32} {s_ents0 : Int32} {f_ents0 : Nat → Int32} {s_colds0 : Int32} {f_colds0 : Nat → Int32} {o : Rows × Rows × (Nat → Int32) × Rows × Rows × (Nat → Int32) × Int32 × Int32} (B : mB E yX6_beginUse cX6_beginUse 4 none 0 0 (po_X6_beginUse E h h_rules a_vals h_ledger h_book a_book h_told a_told h_written a_written h_late a_late a_sums a_asum h_entries h_ents a_ents h_cold h_colds a_colds h_sketch a_cnt vals now book0 told written0 late sums0 asum ents0 colds0 cnt0 uses0 usesInWindow0 entriesSoFar dirtySoFar s_book0 f_book0 s_told f_told s_written0 f_written0 s_late f_late s_ents0 f_ents0 s_colds0 f_colds0 o) p s m args below meth c A Q) {x1 : Int32} {book : Rows} {written : Rows} {sums : Nat → Int32} {ents : Rows} {colds : Rows} {cnt : Nat → Int32} {uses : Int32} {usesInWindow : Int32} {s_book : Int32} {f_book : Nat → Int32} {s_written : Int32} {f_written : Nat → Int32} {s_ents : Int32} {f_ents : Nat → Int32} {s_colds : Int32} {f_colds : Nat → Int32}   {H : Heap} {locs : List Loc} {ls : Array Slot} (hf : J_X6_beginUse_60 N x1 vals now book written sums ents colds cnt uses usesInWindow = some o) (ok_book : tb_ok 40 3 book s_book f_book) (ok_told : tb_ok 60 1 told s_told f_told) (ok_written : tb_ok 40 2 written s_written f_written) (ok_late : tb_ok 60 1 late s_late f_late) (ok_ents : tb_ok 200 9 ents s_ents f_ents) (ok_colds : tb_ok 20 9 colds s_colds f_colds) (w : mW E A s [(h, .inr (5, [.ref h_rules, .ref h_ledger, .ref h_entries, .ref h_cold, .ref h_sketch, .int uses, .int usesInWindow, .int entriesSoFar, .int dirtySoFar])), (h_rules, .inr (4, [.ref a_vals, .int now])), (a_vals, .inl (E.2.1, 8, .inl vals)), (h_ledger, .inr (1, [.ref h_rules, .ref h_book, .ref h_told, .ref h_written, .ref h_late, .ref a_sums, .ref a_asum])), (h_book, .inr (8, [.int (nI 40), .int (nI 3), .ref a_book, .int s_book])), (a_book, .inl (E.2.1, (40 * 3), .inl f_book)), (h_told, .inr (8, [.int (nI 60), .int (nI 1), .ref a_told, .int s_told])), (a_told, .inl (E.2.1, (60 * 1), .inl f_told)), (h_written, .inr (8, [.int (nI 40), .int (nI 2), .ref a_written, .int s_written])), (a_written, .inl (E.2.1, (40 * 2), .inl f_written)), (h_late, .inr (8, [.int (nI 60), .int (nI 1), .ref a_late, .int s_late])), (a_late, .inl (E.2.1, (60 * 1), .inl f_late)), (a_sums, .inl (E.2.1, 14, .inl sums)), (a_asum, .inl (E.2.1, 64, .inl asum)), (h_entries, .inr (0, [.ref h_rules, .ref h_ents])), (h_ents, .inr (8, [.int (nI 200), .int (nI 9), .ref a_ents, .int s_ents])), (a_ents, .inl (E.2.1, (200 * 9), .inl f_ents)), (h_cold, .inr (0, [.ref h_rules, .ref h_colds])), (h_colds, .inr (8, [.int (nI 20), .int (nI 9), .ref a_colds, .int s_colds])), (a_colds, .inl (E.2.1, (20 * 9), .inl f_colds)), (h_sketch, .inr (6, [.ref a_cnt])), (a_cnt, .inl (E.2.1, 64, .inl cnt))] H locs) (hl : lv_has ls 4 [(0, .ref h), (1, .int x1)]) : W p l e ({ frames := 4, cells := 0, slots := 0, locals := 92 } : Room) s m args below meth c H locs 0 0 Q (F0 m 60 ls []) := by
  obtain ⟨hx, hb, hml, hown, hts⟩ := id B.1
  unfold J_X6_beginUse_60 at hf
  refine lv_aload_n hx hb dX6_beginUse_60 rfl (lv_at hl 0 rfl) ?_
  refine mx_get B w 0 fl_X6_28 rfl rfl dX6_beginUse_61 ?_
  refine lv_iload_n hx hb dX6_beginUse_64 rfl (lv_at hl 1 rfl) ?_
  obtain ⟨o_5, hq, hf⟩ := bd_e hf
  refine mx_callV (As := [.int x1]) (rest := []) (wr := [(h, .inr (5, [.ref h_rules, .ref h_ledger, .ref h_entries, .ref h_cold, .ref h_sketch, .int uses, .int usesInWindow, .int entriesSoFar, .int dirtySoFar])), (h_ledger, .inr (1, [.ref h_rules, .ref h_book, .ref h_told, .ref h_written, .ref h_late, .ref a_sums, .ref a_asum])), (h_book, .inr (8, [.int (nI 40), .int (nI 3), .ref a_book, .int s_book])), (a_book, .inl (E.2.1, (40 * 3), .inl f_book)), (h_told, .inr (8, [.int (nI 60), .int (nI 1), .ref a_told, .int s_told])), (a_told, .inl (E.2.1, (60 * 1), .inl f_told)), (h_written, .inr (8, [.int (nI 40), .int (nI 2), .ref a_written, .int s_written])), (a_written, .inl (E.2.1, (40 * 2), .inl f_written)), (h_late, .inr (8, [.int (nI 60), .int (nI 1), .ref a_late, .int s_late])), (a_late, .inl (E.2.1, (60 * 1), .inl f_late)), (a_sums, .inl (E.2.1, 14, .inl sums)), (a_asum, .inl (E.2.1, 64, .inl asum)), (h_entries, .inr (0, [.ref h_rules, .ref h_ents])), (h_ents, .inr (8, [.int (nI 200), .int (nI 9), .ref a_ents, .int s_ents])), (a_ents, .inl (E.2.1, (200 * 9), .inl f_ents)), (h_sketch, .inr (6, [.ref a_cnt])), (a_cnt, .inl (E.2.1, 64, .inl cnt))]) (d_X0_rowOf E l  h_cold h_rules a_vals h_colds a_colds 20 vals now colds s_colds f_colds x1 ok_colds o_5 hq) B w [17, 1, 2, 18, 19] [0, 3, 4, 5, 6, 7, 8, 9, 10, 11, 12, 13, 14, 15, 16, 20, 21] rfl rfl (by decide) (by decide) (by decide) 17 rfl rfl cv_X0_rowOf kw_582 1 (by decide +kernel) ⟨Nat.le_of_ble_eq_true rfl, Nat.le_of_ble_eq_true rfl⟩ rfl hl.1 rfl (Nat.le_of_ble_eq_true rfl) dX6_beginUse_65 rfl rfl ⟨Nat.zero_le _, Nat.zero_le _⟩ (fun v w' H locs hpo w => ?_)
  clear hq
  obtain ⟨rfl, rfl⟩ := hpo
  have w : mW E A s [(h, .inr (5, [.ref h_rules, .ref h_ledger, .ref h_entries, .ref h_cold, .ref h_sketch, .int uses, .int usesInWindow, .int entriesSoFar, .int dirtySoFar])), (h_rules, .inr (4, [.ref a_vals, .int now])), (a_vals, .inl (E.2.1, 8, .inl vals)), (h_ledger, .inr (1, [.ref h_rules, .ref h_book, .ref h_told, .ref h_written, .ref h_late, .ref a_sums, .ref a_asum])), (h_book, .inr (8, [.int (nI 40), .int (nI 3), .ref a_book, .int s_book])), (a_book, .inl (E.2.1, (40 * 3), .inl f_book)), (h_told, .inr (8, [.int (nI 60), .int (nI 1), .ref a_told, .int s_told])), (a_told, .inl (E.2.1, (60 * 1), .inl f_told)), (h_written, .inr (8, [.int (nI 40), .int (nI 2), .ref a_written, .int s_written])), (a_written, .inl (E.2.1, (40 * 2), .inl f_written)), (h_late, .inr (8, [.int (nI 60), .int (nI 1), .ref a_late, .int s_late])), (a_late, .inl (E.2.1, (60 * 1), .inl f_late)), (a_sums, .inl (E.2.1, 14, .inl sums)), (a_asum, .inl (E.2.1, 64, .inl asum)), (h_entries, .inr (0, [.ref h_rules, .ref h_ents])), (h_ents, .inr (8, [.int (nI 200), .int (nI 9), .ref a_ents, .int s_ents])), (a_ents, .inl (E.2.1, (200 * 9), .inl f_ents)), (h_cold, .inr (0, [.ref h_rules, .ref h_colds])), (h_colds, .inr (8, [.int (nI 20), .int (nI 9), .ref a_colds, .int s_colds])), (a_colds, .inl (E.2.1, (20 * 9), .inl f_colds)), (h_sketch, .inr (6, [.ref a_cnt])), (a_cnt, .inl (E.2.1, 64, .inl cnt))] H locs := w.sub [0, 18, 19, 1, 2, 3, 4, 5, 6, 7, 8, 9, 10, 11, 12, 13, 14, 17, 20, 21, 15, 16] (by decide) rfl
  refine lv_istore_n (lv' := [(3, .int o_5), (0, .ref h), (1, .int x1)]) hx hb dX6_beginUse_68 rfl hl (by decide) rfl (fun ls hl => ?_)
  refine lv_iload_n hx hb dX6_beginUse_69 rfl (lv_at hl 0 rfl) ?_
  refine lv_iconst (v := (-1)) hx hb dX6_beginUse_70 (by decide) ?_
  refine lv_icmp_eq (tgt := 93) hx hb dX6_beginUse_71 (by decide) (fun hc => ?_) (fun hc => ?_)
  · have hf := it_t hc hf
    cases hf
    exact mx_vret B w ⟨_, _, _, _, _, _, _, _, ok_book, ok_written, ok_ents, ok_colds, rfl, rfl⟩ dX6_beginUse_93
  · have hf := it_f hc hf
    refine lv_aload_n hx hb dX6_beginUse_74 rfl (lv_at hl 1 rfl) ?_
    refine mx_get B w 0 fl_X6_28 rfl rfl dX6_beginUse_75 ?_
    refine lv_iload_n hx hb dX6_beginUse_78 rfl (lv_at hl 0 rfl) ?_
    obtain ⟨o_6, hq, hf⟩ := bd_e hf
    refine mx_callV (As := [.int o_5]) (rest := []) (wr := [(h, .inr (5, [.ref h_rules, .ref h_ledger, .ref h_entries, .ref h_cold, .ref h_sketch, .int uses, .int usesInWindow, .int entriesSoFar, .int dirtySoFar])), (h_ledger, .inr (1, [.ref h_rules, .ref h_book, .ref h_told, .ref h_written, .ref h_late, .ref a_sums, .ref a_asum])), (h_book, .inr (8, [.int (nI 40), .int (nI 3), .ref a_book, .int s_book])), (a_book, .inl (E.2.1, (40 * 3), .inl f_book)), (h_told, .inr (8, [.int (nI 60), .int (nI 1), .ref a_told, .int s_told])), (a_told, .inl (E.2.1, (60 * 1), .inl f_told)), (h_written, .inr (8, [.int (nI 40), .int (nI 2), .ref a_written, .int s_written])), (a_written, .inl (E.2.1, (40 * 2), .inl f_written)), (h_late, .inr (8, [.int (nI 60), .int (nI 1), .ref a_late, .int s_late])), (a_late, .inl (E.2.1, (60 * 1), .inl f_late)), (a_sums, .inl (E.2.1, 14, .inl sums)), (a_asum, .inl (E.2.1, 64, .inl asum)), (h_entries, .inr (0, [.ref h_rules, .ref h_ents])), (h_ents, .inr (8, [.int (nI 200), .int (nI 9), .ref a_ents, .int s_ents])), (a_ents, .inl (E.2.1, (200 * 9), .inl f_ents)), (h_sketch, .inr (6, [.ref a_cnt])), (a_cnt, .inl (E.2.1, 64, .inl cnt))]) (d_X0_isStale E l  h_cold h_rules a_vals h_colds a_colds 20 vals now colds s_colds f_colds o_5 ok_colds o_6 hq) B w [17, 1, 2, 18, 19] [0, 3, 4, 5, 6, 7, 8, 9, 10, 11, 12, 13, 14, 15, 16, 20, 21] rfl rfl (by decide) (by decide) (by decide) 17 rfl rfl cv_X0_isStale kw_388 1 (by decide +kernel) ⟨Nat.le_of_ble_eq_true rfl, Nat.le_of_ble_eq_true rfl⟩ rfl hl.1 rfl (Nat.le_of_ble_eq_true rfl) dX6_beginUse_79 rfl rfl ⟨Nat.zero_le _, Nat.zero_le _⟩ (fun v w' H locs hpo w => ?_)
    clear hq
    obtain ⟨rfl, rfl⟩ := hpo
    have w : mW E A s [(h, .inr (5, [.ref h_rules, .ref h_ledger, .ref h_entries, .ref h_cold, .ref h_sketch, .int uses, .int usesInWindow, .int entriesSoFar, .int dirtySoFar])), (h_rules, .inr (4, [.ref a_vals, .int now])), (a_vals, .inl (E.2.1, 8, .inl vals)), (h_ledger, .inr (1, [.ref h_rules, .ref h_book, .ref h_told, .ref h_written, .ref h_late, .ref a_sums, .ref a_asum])), (h_book, .inr (8, [.int (nI 40), .int (nI 3), .ref a_book, .int s_book])), (a_book, .inl (E.2.1, (40 * 3), .inl f_book)), (h_told, .inr (8, [.int (nI 60), .int (nI 1), .ref a_told, .int s_told])), (a_told, .inl (E.2.1, (60 * 1), .inl f_told)), (h_written, .inr (8, [.int (nI 40), .int (nI 2), .ref a_written, .int s_written])), (a_written, .inl (E.2.1, (40 * 2), .inl f_written)), (h_late, .inr (8, [.int (nI 60), .int (nI 1), .ref a_late, .int s_late])), (a_late, .inl (E.2.1, (60 * 1), .inl f_late)), (a_sums, .inl (E.2.1, 14, .inl sums)), (a_asum, .inl (E.2.1, 64, .inl asum)), (h_entries, .inr (0, [.ref h_rules, .ref h_ents])), (h_ents, .inr (8, [.int (nI 200), .int (nI 9), .ref a_ents, .int s_ents])), (a_ents, .inl (E.2.1, (200 * 9), .inl f_ents)), (h_cold, .inr (0, [.ref h_rules, .ref h_colds])), (h_colds, .inr (8, [.int (nI 20), .int (nI 9), .ref a_colds, .int s_colds])), (a_colds, .inl (E.2.1, (20 * 9), .inl f_colds)), (h_sketch, .inr (6, [.ref a_cnt])), (a_cnt, .inl (E.2.1, 64, .inl cnt))] H locs := w.sub [0, 18, 19, 1, 2, 3, 4, 5, 6, 7, 8, 9, 10, 11, 12, 13, 14, 17, 20, 21, 15, 16] (by decide) rfl
    refine lv_if_eq (tgt := 93) hx hb dX6_beginUse_82 (by decide) (fun hc => ?_) (fun hc => ?_)
    · have hf := it_t hc hf
      cases hf
      exact mx_vret B w ⟨_, _, _, _, _, _, _, _, ok_book, ok_written, ok_ents, ok_colds, rfl, rfl⟩ dX6_beginUse_93
    · have hf := it_f hc hf
      refine lv_aload_n hx hb dX6_beginUse_85 rfl (lv_at hl 1 rfl) ?_
      refine mx_get B w 0 fl_X6_28 rfl rfl dX6_beginUse_86 ?_
      refine lv_iload_n hx hb dX6_beginUse_89 rfl (lv_at hl 0 rfl) ?_
      obtain ⟨o_7, hq, hf⟩ := bd_e hf
      refine mx_callV (As := [.int o_5]) (rest := []) (wr := [(h, .inr (5, [.ref h_rules, .ref h_ledger, .ref h_entries, .ref h_cold, .ref h_sketch, .int uses, .int usesInWindow, .int entriesSoFar, .int dirtySoFar])), (h_ledger, .inr (1, [.ref h_rules, .ref h_book, .ref h_told, .ref h_written, .ref h_late, .ref a_sums, .ref a_asum])), (h_book, .inr (8, [.int (nI 40), .int (nI 3), .ref a_book, .int s_book])), (a_book, .inl (E.2.1, (40 * 3), .inl f_book)), (h_told, .inr (8, [.int (nI 60), .int (nI 1), .ref a_told, .int s_told])), (a_told, .inl (E.2.1, (60 * 1), .inl f_told)), (h_written, .inr (8, [.int (nI 40), .int (nI 2), .ref a_written, .int s_written])), (a_written, .inl (E.2.1, (40 * 2), .inl f_written)), (h_late, .inr (8, [.int (nI 60), .int (nI 1), .ref a_late, .int s_late])), (a_late, .inl (E.2.1, (60 * 1), .inl f_late)), (a_sums, .inl (E.2.1, 14, .inl sums)), (a_asum, .inl (E.2.1, 64, .inl asum)), (h_entries, .inr (0, [.ref h_rules, .ref h_ents])), (h_ents, .inr (8, [.int (nI 200), .int (nI 9), .ref a_ents, .int s_ents])), (a_ents, .inl (E.2.1, (200 * 9), .inl f_ents)), (h_sketch, .inr (6, [.ref a_cnt])), (a_cnt, .inl (E.2.1, 64, .inl cnt))]) (d_X0_remove E l  h_cold h_rules a_vals h_colds a_colds 20 vals now colds s_colds f_colds o_5 ok_colds o_7 hq) B w [17, 1, 2, 18, 19] [0, 3, 4, 5, 6, 7, 8, 9, 10, 11, 12, 13, 14, 15, 16, 20, 21] rfl rfl (by decide) (by decide) (by decide) 17 rfl rfl cv_X0_remove kw_414 1 (by decide +kernel) ⟨Nat.le_of_ble_eq_true rfl, Nat.le_of_ble_eq_true rfl⟩ rfl hl.1 rfl (Nat.le_of_ble_eq_true rfl) dX6_beginUse_90 rfl rfl ⟨Nat.zero_le _, Nat.zero_le _⟩ (fun v w' H locs hpo w => ?_)
      clear hq
      obtain ⟨s_colds_8, f_colds_9, ok_colds, rfl, rfl⟩ := hpo
      have w : mW E A s [(h, .inr (5, [.ref h_rules, .ref h_ledger, .ref h_entries, .ref h_cold, .ref h_sketch, .int uses, .int usesInWindow, .int entriesSoFar, .int dirtySoFar])), (h_rules, .inr (4, [.ref a_vals, .int now])), (a_vals, .inl (E.2.1, 8, .inl vals)), (h_ledger, .inr (1, [.ref h_rules, .ref h_book, .ref h_told, .ref h_written, .ref h_late, .ref a_sums, .ref a_asum])), (h_book, .inr (8, [.int (nI 40), .int (nI 3), .ref a_book, .int s_book])), (a_book, .inl (E.2.1, (40 * 3), .inl f_book)), (h_told, .inr (8, [.int (nI 60), .int (nI 1), .ref a_told, .int s_told])), (a_told, .inl (E.2.1, (60 * 1), .inl f_told)), (h_written, .inr (8, [.int (nI 40), .int (nI 2), .ref a_written, .int s_written])), (a_written, .inl (E.2.1, (40 * 2), .inl f_written)), (h_late, .inr (8, [.int (nI 60), .int (nI 1), .ref a_late, .int s_late])), (a_late, .inl (E.2.1, (60 * 1), .inl f_late)), (a_sums, .inl (E.2.1, 14, .inl sums)), (a_asum, .inl (E.2.1, 64, .inl asum)), (h_entries, .inr (0, [.ref h_rules, .ref h_ents])), (h_ents, .inr (8, [.int (nI 200), .int (nI 9), .ref a_ents, .int s_ents])), (a_ents, .inl (E.2.1, (200 * 9), .inl f_ents)), (h_cold, .inr (0, [.ref h_rules, .ref h_colds])), (h_colds, .inr (8, [.int (nI 20), .int (nI 9), .ref a_colds, .int s_colds_8])), (a_colds, .inl (E.2.1, (20 * 9), .inl f_colds_9)), (h_sketch, .inr (6, [.ref a_cnt])), (a_cnt, .inl (E.2.1, 64, .inl cnt))] H locs := w.sub [0, 18, 19, 1, 2, 3, 4, 5, 6, 7, 8, 9, 10, 11, 12, 13, 14, 17, 20, 21, 15, 16] (by decide) rfl
      cases hf
      exact mx_vret B w ⟨_, _, _, _, _, _, _, _, ok_book, ok_written, ok_ents, ok_colds, rfl, rfl⟩ dX6_beginUse_93
noncomputable def F_X6_beginUse (N : Nat)  (vals : Nat → Int32) (now : Int32) (book : Rows) (written : Rows) (sums : Nat → Int32) (ents : Rows) (colds : Rows) (cnt : Nat → Int32) (uses : Int32) (usesInWindow : Int32) (x1 : Int32) : Option (Rows × Rows × (Nat → Int32) × Rows × Rows × (Nat → Int32) × Int32 × Int32) :=
  lt ((uses + 1)) (fun uses_1 =>
  lt ((usesInWindow + 1)) (fun usesInWindow_2 =>
  bd (F_X7_add N cnt x1) (fun o_3 =>
  bd (F_X0_rowOf 200 ents x1) (fun o_4 =>
  if (o_4 = ((-1)) : Prop) then
  J_X6_beginUse_60 N x1 vals now book written sums ents colds o_3 uses_1 usesInWindow_2
  else
  bd (F_X0_isStale 200 vals now ents o_4) (fun o_10 =>
  if (o_10 = 0 : Prop) then
  J_X6_beginUse_60 N x1 vals now book written sums ents colds o_3 uses_1 usesInWindow_2
  else
  bd (F_X6_letGo N now book written sums ents o_4 8) (fun o_11 =>
  J_X6_beginUse_60 N x1 vals now o_11.1 o_11.2.1 o_11.2.2.1 o_11.2.2.2 colds o_3 uses_1 usesInWindow_2))))))
set_option maxHeartbeats 4000000 in
set_option maxRecDepth 100000 in
theorem d_X6_beginUse (E : mE) (l : Launch) (N : Nat) (h : Nat) (h_rules : Nat) (a_vals : Nat) (h_ledger : Nat) (h_book : Nat) (a_book : Nat) (h_told : Nat) (a_told : Nat) (h_written : Nat) (a_written : Nat) (h_late : Nat) (a_late : Nat) (a_sums : Nat) (a_asum : Nat) (h_entries : Nat) (h_ents : Nat) (a_ents : Nat) (h_cold : Nat) (h_colds : Nat) (a_colds : Nat) (h_sketch : Nat) (a_cnt : Nat)  (vals : Nat → Int32) (now : Int32) (book : Rows) (told : Rows) (written : Rows) (late : Rows) (sums : Nat → Int32) (asum : Nat → Int32) (ents : Rows) (colds : Rows) (cnt : Nat → Int32) (uses : Int32) (usesInWindow : Int32) (entriesSoFar : Int32) (dirtySoFar : Int32) (s_book : Int32) (f_book : Nat → Int32) (s_told : Int32) (f_told : Nat → Int32) (s_written : Int32) (f_written : Nat → Int32) (s_late : Int32) (f_late : Nat → Int32) (s_ents : Int32) (f_ents : Nat → Int32) (s_colds : Int32) (f_colds : Nat → Int32) (x1 : Int32) (ok_book : tb_ok 40 3 book s_book f_book) (ok_told : tb_ok 60 1 told s_told f_told) (ok_written : tb_ok 40 2 written s_written f_written) (ok_late : tb_ok 60 1 late s_late f_late) (ok_ents : tb_ok 200 9 ents s_ents f_ents) (ok_colds : tb_ok 20 9 colds s_colds f_colds) (o : Rows × Rows × (Nat → Int32) × Rows × Rows × (Nat → Int32) × Int32 × Int32) (hf : F_X6_beginUse N vals now book written sums ents colds cnt uses usesInWindow x1 = some o) : MX E l yX6_beginUse cX6_beginUse 4 none ({ frames := 4, cells := 0, slots := 0, locals := 92 } : Room) [.ref h, .int x1] [(h, .inr (5, [.ref h_rules, .ref h_ledger, .ref h_entries, .ref h_cold, .ref h_sketch, .int uses, .int usesInWindow, .int entriesSoFar, .int dirtySoFar])), (h_rules, .inr (4, [.ref a_vals, .int now])), (a_vals, .inl (E.2.1, 8, .inl vals)), (h_ledger, .inr (1, [.ref h_rules, .ref h_book, .ref h_told, .ref h_written, .ref h_late, .ref a_sums, .ref a_asum])), (h_book, .inr (8, [.int (nI 40), .int (nI 3), .ref a_book, .int s_book])), (a_book, .inl (E.2.1, (40 * 3), .inl f_book)), (h_told, .inr (8, [.int (nI 60), .int (nI 1), .ref a_told, .int s_told])), (a_told, .inl (E.2.1, (60 * 1), .inl f_told)), (h_written, .inr (8, [.int (nI 40), .int (nI 2), .ref a_written, .int s_written])), (a_written, .inl (E.2.1, (40 * 2), .inl f_written)), (h_late, .inr (8, [.int (nI 60), .int (nI 1), .ref a_late, .int s_late])), (a_late, .inl (E.2.1, (60 * 1), .inl f_late)), (a_sums, .inl (E.2.1, 14, .inl sums)), (a_asum, .inl (E.2.1, 64, .inl asum)), (h_entries, .inr (0, [.ref h_rules, .ref h_ents])), (h_ents, .inr (8, [.int (nI 200), .int (nI 9), .ref a_ents, .int s_ents])), (a_ents, .inl (E.2.1, (200 * 9), .inl f_ents)), (h_cold, .inr (0, [.ref h_rules, .ref h_colds])), (h_colds, .inr (8, [.int (nI 20), .int (nI 9), .ref a_colds, .int s_colds])), (a_colds, .inl (E.2.1, (20 * 9), .inl f_colds)), (h_sketch, .inr (6, [.ref a_cnt])), (a_cnt, .inl (E.2.1, 64, .inl cnt))] (po_X6_beginUse E h h_rules a_vals h_ledger h_book a_book h_told a_told h_written a_written h_late a_late a_sums a_asum h_entries h_ents a_ents h_cold h_colds a_colds h_sketch a_cnt vals now book told written late sums asum ents colds cnt uses usesInWindow entriesSoFar dirtySoFar s_book f_book s_told f_told s_written f_written s_late f_late s_ents f_ents s_colds f_colds o) := by
  refine mx_intro (by decide +kernel) (Nat.le_of_ble_eq_true rfl) ?_
  intro p e s m args below meth c A Q ls B w hl
  obtain ⟨hx, hb, hml, hown, hts⟩ := id B.1
  unfold F_X6_beginUse at hf
  have hl : lv_has ls 4 [(0, .ref h), (1, .int x1)] := hl
  refine lv_aload_n hx hb dX6_beginUse_0 rfl (lv_at hl 0 rfl) ?_
  refine lv_dup hx hb dX6_beginUse_1 rfl ?_
  refine mx_get B w 0 fl_X6_38 rfl rfl dX6_beginUse_2 ?_
  refine lv_iconst (v := 1) hx hb dX6_beginUse_5 (by decide) ?_
  refine lv_iadd hx hb dX6_beginUse_6 ?_
  refine mx_puti B w 0 fl_X6_38 fi_X6_5 rfl (Nat.le_of_ble_eq_true rfl) dX6_beginUse_7 (fun uses_1 H locs ev w => ?_)
  have hf := lt_n ev hf; clear ev
  have w : mW E A s [(h, .inr (5, [.ref h_rules, .ref h_ledger, .ref h_entries, .ref h_cold, .ref h_sketch, .int uses_1, .int usesInWindow, .int entriesSoFar, .int dirtySoFar])), (h_rules, .inr (4, [.ref a_vals, .int now])), (a_vals, .inl (E.2.1, 8, .inl vals)), (h_ledger, .inr (1, [.ref h_rules, .ref h_book, .ref h_told, .ref h_written, .ref h_late, .ref a_sums, .ref a_asum])), (h_book, .inr (8, [.int (nI 40), .int (nI 3), .ref a_book, .int s_book])), (a_book, .inl (E.2.1, (40 * 3), .inl f_book)), (h_told, .inr (8, [.int (nI 60), .int (nI 1), .ref a_told, .int s_told])), (a_told, .inl (E.2.1, (60 * 1), .inl f_told)), (h_written, .inr (8, [.int (nI 40), .int (nI 2), .ref a_written, .int s_written])), (a_written, .inl (E.2.1, (40 * 2), .inl f_written)), (h_late, .inr (8, [.int (nI 60), .int (nI 1), .ref a_late, .int s_late])), (a_late, .inl (E.2.1, (60 * 1), .inl f_late)), (a_sums, .inl (E.2.1, 14, .inl sums)), (a_asum, .inl (E.2.1, 64, .inl asum)), (h_entries, .inr (0, [.ref h_rules, .ref h_ents])), (h_ents, .inr (8, [.int (nI 200), .int (nI 9), .ref a_ents, .int s_ents])), (a_ents, .inl (E.2.1, (200 * 9), .inl f_ents)), (h_cold, .inr (0, [.ref h_rules, .ref h_colds])), (h_colds, .inr (8, [.int (nI 20), .int (nI 9), .ref a_colds, .int s_colds])), (a_colds, .inl (E.2.1, (20 * 9), .inl f_colds)), (h_sketch, .inr (6, [.ref a_cnt])), (a_cnt, .inl (E.2.1, 64, .inl cnt))] H locs := w
  refine lv_aload_n hx hb dX6_beginUse_10 rfl (lv_at hl 0 rfl) ?_
  refine lv_dup hx hb dX6_beginUse_11 rfl ?_
  refine mx_get B w 0 fl_X6_42 rfl rfl dX6_beginUse_12 ?_
  refine lv_iconst (v := 1) hx hb dX6_beginUse_15 (by decide) ?_
  refine lv_iadd hx hb dX6_beginUse_16 ?_
  refine mx_puti B w 0 fl_X6_42 fi_X6_6 rfl (Nat.le_of_ble_eq_true rfl) dX6_beginUse_17 (fun usesInWindow_2 H locs ev w => ?_)
  have hf := lt_n ev hf; clear ev
  have w : mW E A s [(h, .inr (5, [.ref h_rules, .ref h_ledger, .ref h_entries, .ref h_cold, .ref h_sketch, .int uses_1, .int usesInWindow_2, .int entriesSoFar, .int dirtySoFar])), (h_rules, .inr (4, [.ref a_vals, .int now])), (a_vals, .inl (E.2.1, 8, .inl vals)), (h_ledger, .inr (1, [.ref h_rules, .ref h_book, .ref h_told, .ref h_written, .ref h_late, .ref a_sums, .ref a_asum])), (h_book, .inr (8, [.int (nI 40), .int (nI 3), .ref a_book, .int s_book])), (a_book, .inl (E.2.1, (40 * 3), .inl f_book)), (h_told, .inr (8, [.int (nI 60), .int (nI 1), .ref a_told, .int s_told])), (a_told, .inl (E.2.1, (60 * 1), .inl f_told)), (h_written, .inr (8, [.int (nI 40), .int (nI 2), .ref a_written, .int s_written])), (a_written, .inl (E.2.1, (40 * 2), .inl f_written)), (h_late, .inr (8, [.int (nI 60), .int (nI 1), .ref a_late, .int s_late])), (a_late, .inl (E.2.1, (60 * 1), .inl f_late)), (a_sums, .inl (E.2.1, 14, .inl sums)), (a_asum, .inl (E.2.1, 64, .inl asum)), (h_entries, .inr (0, [.ref h_rules, .ref h_ents])), (h_ents, .inr (8, [.int (nI 200), .int (nI 9), .ref a_ents, .int s_ents])), (a_ents, .inl (E.2.1, (200 * 9), .inl f_ents)), (h_cold, .inr (0, [.ref h_rules, .ref h_colds])), (h_colds, .inr (8, [.int (nI 20), .int (nI 9), .ref a_colds, .int s_colds])), (a_colds, .inl (E.2.1, (20 * 9), .inl f_colds)), (h_sketch, .inr (6, [.ref a_cnt])), (a_cnt, .inl (E.2.1, 64, .inl cnt))] H locs := w
  refine lv_aload_n hx hb dX6_beginUse_20 rfl (lv_at hl 0 rfl) ?_
  refine mx_get B w 0 fl_X6_34 rfl rfl dX6_beginUse_21 ?_
  refine lv_iload_n hx hb dX6_beginUse_24 rfl (lv_at hl 1 rfl) ?_
  obtain ⟨o_3, hq, hf⟩ := bd_e hf
  refine mx_callV (As := [.int x1]) (rest := []) (wr := [(h, .inr (5, [.ref h_rules, .ref h_ledger, .ref h_entries, .ref h_cold, .ref h_sketch, .int uses_1, .int usesInWindow_2, .int entriesSoFar, .int dirtySoFar])), (h_rules, .inr (4, [.ref a_vals, .int now])), (a_vals, .inl (E.2.1, 8, .inl vals)), (h_ledger, .inr (1, [.ref h_rules, .ref h_book, .ref h_told, .ref h_written, .ref h_late, .ref a_sums, .ref a_asum])), (h_book, .inr (8, [.int (nI 40), .int (nI 3), .ref a_book, .int s_book])), (a_book, .inl (E.2.1, (40 * 3), .inl f_book)), (h_told, .inr (8, [.int (nI 60), .int (nI 1), .ref a_told, .int s_told])), (a_told, .inl (E.2.1, (60 * 1), .inl f_told)), (h_written, .inr (8, [.int (nI 40), .int (nI 2), .ref a_written, .int s_written])), (a_written, .inl (E.2.1, (40 * 2), .inl f_written)), (h_late, .inr (8, [.int (nI 60), .int (nI 1), .ref a_late, .int s_late])), (a_late, .inl (E.2.1, (60 * 1), .inl f_late)), (a_sums, .inl (E.2.1, 14, .inl sums)), (a_asum, .inl (E.2.1, 64, .inl asum)), (h_entries, .inr (0, [.ref h_rules, .ref h_ents])), (h_ents, .inr (8, [.int (nI 200), .int (nI 9), .ref a_ents, .int s_ents])), (a_ents, .inl (E.2.1, (200 * 9), .inl f_ents)), (h_cold, .inr (0, [.ref h_rules, .ref h_colds])), (h_colds, .inr (8, [.int (nI 20), .int (nI 9), .ref a_colds, .int s_colds])), (a_colds, .inl (E.2.1, (20 * 9), .inl f_colds))]) (d_X7_add E l N h_sketch a_cnt cnt x1  o_3 hq) B w [20, 21] [0, 1, 2, 3, 4, 5, 6, 7, 8, 9, 10, 11, 12, 13, 14, 15, 16, 17, 18, 19] rfl rfl (by decide) (by decide) (by decide) 20 rfl rfl cv_X7_add kw_574 1 (by decide +kernel) ⟨Nat.le_of_ble_eq_true rfl, Nat.le_of_ble_eq_true rfl⟩ rfl hl.1 rfl (Nat.le_of_ble_eq_true rfl) dX6_beginUse_25 rfl rfl ⟨Nat.zero_le _, Nat.zero_le _⟩ (fun v w' H locs hpo w => ?_)
  clear hq
  obtain ⟨rfl, rfl⟩ := hpo
  have w : mW E A s [(h, .inr (5, [.ref h_rules, .ref h_ledger, .ref h_entries, .ref h_cold, .ref h_sketch, .int uses_1, .int usesInWindow_2, .int entriesSoFar, .int dirtySoFar])), (h_rules, .inr (4, [.ref a_vals, .int now])), (a_vals, .inl (E.2.1, 8, .inl vals)), (h_ledger, .inr (1, [.ref h_rules, .ref h_book, .ref h_told, .ref h_written, .ref h_late, .ref a_sums, .ref a_asum])), (h_book, .inr (8, [.int (nI 40), .int (nI 3), .ref a_book, .int s_book])), (a_book, .inl (E.2.1, (40 * 3), .inl f_book)), (h_told, .inr (8, [.int (nI 60), .int (nI 1), .ref a_told, .int s_told])), (a_told, .inl (E.2.1, (60 * 1), .inl f_told)), (h_written, .inr (8, [.int (nI 40), .int (nI 2), .ref a_written, .int s_written])), (a_written, .inl (E.2.1, (40 * 2), .inl f_written)), (h_late, .inr (8, [.int (nI 60), .int (nI 1), .ref a_late, .int s_late])), (a_late, .inl (E.2.1, (60 * 1), .inl f_late)), (a_sums, .inl (E.2.1, 14, .inl sums)), (a_asum, .inl (E.2.1, 64, .inl asum)), (h_entries, .inr (0, [.ref h_rules, .ref h_ents])), (h_ents, .inr (8, [.int (nI 200), .int (nI 9), .ref a_ents, .int s_ents])), (a_ents, .inl (E.2.1, (200 * 9), .inl f_ents)), (h_cold, .inr (0, [.ref h_rules, .ref h_colds])), (h_colds, .inr (8, [.int (nI 20), .int (nI 9), .ref a_colds, .int s_colds])), (a_colds, .inl (E.2.1, (20 * 9), .inl f_colds)), (h_sketch, .inr (6, [.ref a_cnt])), (a_cnt, .inl (E.2.1, 64, .inl o_3))] H locs := w
  refine lv_aload_n hx hb dX6_beginUse_28 rfl (lv_at hl 0 rfl) ?_
  refine mx_get B w 0 fl_X6_24 rfl rfl dX6_beginUse_29 ?_
  refine lv_iload_n hx hb dX6_beginUse_32 rfl (lv_at hl 1 rfl) ?_
  obtain ⟨o_4, hq, hf⟩ := bd_e hf
  refine mx_callV (As := [.int x1]) (rest := []) (wr := [(h, .inr (5, [.ref h_rules, .ref h_ledger, .ref h_entries, .ref h_cold, .ref h_sketch, .int uses_1, .int usesInWindow_2, .int entriesSoFar, .int dirtySoFar])), (h_ledger, .inr (1, [.ref h_rules, .ref h_book, .ref h_told, .ref h_written, .ref h_late, .ref a_sums, .ref a_asum])), (h_book, .inr (8, [.int (nI 40), .int (nI 3), .ref a_book, .int s_book])), (a_book, .inl (E.2.1, (40 * 3), .inl f_book)), (h_told, .inr (8, [.int (nI 60), .int (nI 1), .ref a_told, .int s_told])), (a_told, .inl (E.2.1, (60 * 1), .inl f_told)), (h_written, .inr (8, [.int (nI 40), .int (nI 2), .ref a_written, .int s_written])), (a_written, .inl (E.2.1, (40 * 2), .inl f_written)), (h_late, .inr (8, [.int (nI 60), .int (nI 1), .ref a_late, .int s_late])), (a_late, .inl (E.2.1, (60 * 1), .inl f_late)), (a_sums, .inl (E.2.1, 14, .inl sums)), (a_asum, .inl (E.2.1, 64, .inl asum)), (h_cold, .inr (0, [.ref h_rules, .ref h_colds])), (h_colds, .inr (8, [.int (nI 20), .int (nI 9), .ref a_colds, .int s_colds])), (a_colds, .inl (E.2.1, (20 * 9), .inl f_colds)), (h_sketch, .inr (6, [.ref a_cnt])), (a_cnt, .inl (E.2.1, 64, .inl o_3))]) (d_X0_rowOf E l  h_entries h_rules a_vals h_ents a_ents 200 vals now ents s_ents f_ents x1 ok_ents o_4 hq) B w [14, 1, 2, 15, 16] [0, 3, 4, 5, 6, 7, 8, 9, 10, 11, 12, 13, 17, 18, 19, 20, 21] rfl rfl (by decide) (by decide) (by decide) 14 rfl rfl cv_X0_rowOf kw_582 1 (by decide +kernel) ⟨Nat.le_of_ble_eq_true rfl, Nat.le_of_ble_eq_true rfl⟩ rfl hl.1 rfl (Nat.le_of_ble_eq_true rfl) dX6_beginUse_33 rfl rfl ⟨Nat.zero_le _, Nat.zero_le _⟩ (fun v w' H locs hpo w => ?_)
  clear hq
  obtain ⟨rfl, rfl⟩ := hpo
  have w : mW E A s [(h, .inr (5, [.ref h_rules, .ref h_ledger, .ref h_entries, .ref h_cold, .ref h_sketch, .int uses_1, .int usesInWindow_2, .int entriesSoFar, .int dirtySoFar])), (h_rules, .inr (4, [.ref a_vals, .int now])), (a_vals, .inl (E.2.1, 8, .inl vals)), (h_ledger, .inr (1, [.ref h_rules, .ref h_book, .ref h_told, .ref h_written, .ref h_late, .ref a_sums, .ref a_asum])), (h_book, .inr (8, [.int (nI 40), .int (nI 3), .ref a_book, .int s_book])), (a_book, .inl (E.2.1, (40 * 3), .inl f_book)), (h_told, .inr (8, [.int (nI 60), .int (nI 1), .ref a_told, .int s_told])), (a_told, .inl (E.2.1, (60 * 1), .inl f_told)), (h_written, .inr (8, [.int (nI 40), .int (nI 2), .ref a_written, .int s_written])), (a_written, .inl (E.2.1, (40 * 2), .inl f_written)), (h_late, .inr (8, [.int (nI 60), .int (nI 1), .ref a_late, .int s_late])), (a_late, .inl (E.2.1, (60 * 1), .inl f_late)), (a_sums, .inl (E.2.1, 14, .inl sums)), (a_asum, .inl (E.2.1, 64, .inl asum)), (h_entries, .inr (0, [.ref h_rules, .ref h_ents])), (h_ents, .inr (8, [.int (nI 200), .int (nI 9), .ref a_ents, .int s_ents])), (a_ents, .inl (E.2.1, (200 * 9), .inl f_ents)), (h_cold, .inr (0, [.ref h_rules, .ref h_colds])), (h_colds, .inr (8, [.int (nI 20), .int (nI 9), .ref a_colds, .int s_colds])), (a_colds, .inl (E.2.1, (20 * 9), .inl f_colds)), (h_sketch, .inr (6, [.ref a_cnt])), (a_cnt, .inl (E.2.1, 64, .inl o_3))] H locs := w.sub [0, 18, 19, 1, 2, 3, 4, 5, 6, 7, 8, 9, 10, 11, 17, 20, 21, 12, 13, 14, 15, 16] (by decide) rfl
  refine lv_istore_n (lv' := [(2, .int o_4), (0, .ref h), (1, .int x1)]) hx hb dX6_beginUse_36 rfl hl (by decide) rfl (fun ls hl => ?_)
  refine lv_iload_n hx hb dX6_beginUse_37 rfl (lv_at hl 0 rfl) ?_
  refine lv_iconst (v := (-1)) hx hb dX6_beginUse_38 (by decide) ?_
  refine lv_icmp_eq (tgt := 60) hx hb dX6_beginUse_39 (by decide) (fun hc => ?_) (fun hc => ?_)
  · have hf := it_t hc hf
    exact j_X6_beginUse_60 B   hf ok_book ok_told ok_written ok_late ok_ents ok_colds w (lv_sub hl [1, 2] rfl)
  · have hf := it_f hc hf
    refine lv_aload_n hx hb dX6_beginUse_42 rfl (lv_at hl 1 rfl) ?_
    refine mx_get B w 0 fl_X6_24 rfl rfl dX6_beginUse_43 ?_
    refine lv_iload_n hx hb dX6_beginUse_46 rfl (lv_at hl 0 rfl) ?_
    obtain ⟨o_10, hq, hf⟩ := bd_e hf
    refine mx_callV (As := [.int o_4]) (rest := []) (wr := [(h, .inr (5, [.ref h_rules, .ref h_ledger, .ref h_entries, .ref h_cold, .ref h_sketch, .int uses_1, .int usesInWindow_2, .int entriesSoFar, .int dirtySoFar])), (h_ledger, .inr (1, [.ref h_rules, .ref h_book, .ref h_told, .ref h_written, .ref h_late, .ref a_sums, .ref a_asum])), (h_book, .inr (8, [.int (nI 40), .int (nI 3), .ref a_book, .int s_book])), (a_book, .inl (E.2.1, (40 * 3), .inl f_book)), (h_told, .inr (8, [.int (nI 60), .int (nI 1), .ref a_told, .int s_told])), (a_told, .inl (E.2.1, (60 * 1), .inl f_told)), (h_written, .inr (8, [.int (nI 40), .int (nI 2), .ref a_written, .int s_written])), (a_written, .inl (E.2.1, (40 * 2), .inl f_written)), (h_late, .inr (8, [.int (nI 60), .int (nI 1), .ref a_late, .int s_late])), (a_late, .inl (E.2.1, (60 * 1), .inl f_late)), (a_sums, .inl (E.2.1, 14, .inl sums)), (a_asum, .inl (E.2.1, 64, .inl asum)), (h_cold, .inr (0, [.ref h_rules, .ref h_colds])), (h_colds, .inr (8, [.int (nI 20), .int (nI 9), .ref a_colds, .int s_colds])), (a_colds, .inl (E.2.1, (20 * 9), .inl f_colds)), (h_sketch, .inr (6, [.ref a_cnt])), (a_cnt, .inl (E.2.1, 64, .inl o_3))]) (d_X0_isStale E l  h_entries h_rules a_vals h_ents a_ents 200 vals now ents s_ents f_ents o_4 ok_ents o_10 hq) B w [14, 1, 2, 15, 16] [0, 3, 4, 5, 6, 7, 8, 9, 10, 11, 12, 13, 17, 18, 19, 20, 21] rfl rfl (by decide) (by decide) (by decide) 14 rfl rfl cv_X0_isStale kw_388 1 (by decide +kernel) ⟨Nat.le_of_ble_eq_true rfl, Nat.le_of_ble_eq_true rfl⟩ rfl hl.1 rfl (Nat.le_of_ble_eq_true rfl) dX6_beginUse_47 rfl rfl ⟨Nat.zero_le _, Nat.zero_le _⟩ (fun v w' H locs hpo w => ?_)
    clear hq
    obtain ⟨rfl, rfl⟩ := hpo
    have w : mW E A s [(h, .inr (5, [.ref h_rules, .ref h_ledger, .ref h_entries, .ref h_cold, .ref h_sketch, .int uses_1, .int usesInWindow_2, .int entriesSoFar, .int dirtySoFar])), (h_rules, .inr (4, [.ref a_vals, .int now])), (a_vals, .inl (E.2.1, 8, .inl vals)), (h_ledger, .inr (1, [.ref h_rules, .ref h_book, .ref h_told, .ref h_written, .ref h_late, .ref a_sums, .ref a_asum])), (h_book, .inr (8, [.int (nI 40), .int (nI 3), .ref a_book, .int s_book])), (a_book, .inl (E.2.1, (40 * 3), .inl f_book)), (h_told, .inr (8, [.int (nI 60), .int (nI 1), .ref a_told, .int s_told])), (a_told, .inl (E.2.1, (60 * 1), .inl f_told)), (h_written, .inr (8, [.int (nI 40), .int (nI 2), .ref a_written, .int s_written])), (a_written, .inl (E.2.1, (40 * 2), .inl f_written)), (h_late, .inr (8, [.int (nI 60), .int (nI 1), .ref a_late, .int s_late])), (a_late, .inl (E.2.1, (60 * 1), .inl f_late)), (a_sums, .inl (E.2.1, 14, .inl sums)), (a_asum, .inl (E.2.1, 64, .inl asum)), (h_entries, .inr (0, [.ref h_rules, .ref h_ents])), (h_ents, .inr (8, [.int (nI 200), .int (nI 9), .ref a_ents, .int s_ents])), (a_ents, .inl (E.2.1, (200 * 9), .inl f_ents)), (h_cold, .inr (0, [.ref h_rules, .ref h_colds])), (h_colds, .inr (8, [.int (nI 20), .int (nI 9), .ref a_colds, .int s_colds])), (a_colds, .inl (E.2.1, (20 * 9), .inl f_colds)), (h_sketch, .inr (6, [.ref a_cnt])), (a_cnt, .inl (E.2.1, 64, .inl o_3))] H locs := w.sub [0, 18, 19, 1, 2, 3, 4, 5, 6, 7, 8, 9, 10, 11, 17, 20, 21, 12, 13, 14, 15, 16] (by decide) rfl
    refine lv_if_eq (tgt := 60) hx hb dX6_beginUse_50 (by decide) (fun hc => ?_) (fun hc => ?_)
    · have hf := it_t hc hf
      exact j_X6_beginUse_60 B   hf ok_book ok_told ok_written ok_late ok_ents ok_colds w (lv_sub hl [1, 2] rfl)
    · have hf := it_f hc hf
      refine lv_aload_n hx hb dX6_beginUse_53 rfl (lv_at hl 1 rfl) ?_
      refine lv_iload_n hx hb dX6_beginUse_54 rfl (lv_at hl 0 rfl) ?_
      refine lv_bipush (v := 8) hx hb dX6_beginUse_55 (by decide) ?_
      obtain ⟨o_11, hq, hf⟩ := bd_e hf
      refine mx_callV (As := [.int o_4, .int 8]) (rest := []) (wr := []) (d_X6_letGo E l N h h_rules a_vals h_ledger h_book a_book h_told a_told h_written a_written h_late a_late a_sums a_asum h_entries h_ents a_ents h_cold h_colds a_colds h_sketch a_cnt vals now book told written late sums asum ents colds o_3 uses_1 usesInWindow_2 entriesSoFar dirtySoFar s_book f_book s_told f_told s_written f_written s_late f_late s_ents f_ents s_colds f_colds o_4 8 ok_book ok_told ok_written ok_late ok_ents ok_colds o_11 hq) B w [0, 1, 2, 3, 4, 5, 6, 7, 8, 9, 10, 11, 12, 13, 14, 15, 16, 17, 18, 19, 20, 21] [] rfl rfl (by decide) (by decide) (by decide) 0 rfl rfl cv_X6_letGo kw_422 2 (by decide +kernel) ⟨Nat.le_of_ble_eq_true rfl, Nat.le_of_ble_eq_true rfl⟩ rfl hl.1 rfl (Nat.le_of_ble_eq_true rfl) dX6_beginUse_57 rfl rfl ⟨Nat.zero_le _, Nat.zero_le _⟩ (fun v w' H locs hpo w => ?_)
      clear hq
      obtain ⟨s_book_12, f_book_13, s_written_14, f_written_15, s_ents_16, f_ents_17, ok_book, ok_written, ok_ents, rfl, rfl⟩ := hpo
      have w : mW E A s [(h, .inr (5, [.ref h_rules, .ref h_ledger, .ref h_entries, .ref h_cold, .ref h_sketch, .int uses_1, .int usesInWindow_2, .int entriesSoFar, .int dirtySoFar])), (h_rules, .inr (4, [.ref a_vals, .int now])), (a_vals, .inl (E.2.1, 8, .inl vals)), (h_ledger, .inr (1, [.ref h_rules, .ref h_book, .ref h_told, .ref h_written, .ref h_late, .ref a_sums, .ref a_asum])), (h_book, .inr (8, [.int (nI 40), .int (nI 3), .ref a_book, .int s_book_12])), (a_book, .inl (E.2.1, (40 * 3), .inl f_book_13)), (h_told, .inr (8, [.int (nI 60), .int (nI 1), .ref a_told, .int s_told])), (a_told, .inl (E.2.1, (60 * 1), .inl f_told)), (h_written, .inr (8, [.int (nI 40), .int (nI 2), .ref a_written, .int s_written_14])), (a_written, .inl (E.2.1, (40 * 2), .inl f_written_15)), (h_late, .inr (8, [.int (nI 60), .int (nI 1), .ref a_late, .int s_late])), (a_late, .inl (E.2.1, (60 * 1), .inl f_late)), (a_sums, .inl (E.2.1, 14, .inl o_11.2.2.1)), (a_asum, .inl (E.2.1, 64, .inl asum)), (h_entries, .inr (0, [.ref h_rules, .ref h_ents])), (h_ents, .inr (8, [.int (nI 200), .int (nI 9), .ref a_ents, .int s_ents_16])), (a_ents, .inl (E.2.1, (200 * 9), .inl f_ents_17)), (h_cold, .inr (0, [.ref h_rules, .ref h_colds])), (h_colds, .inr (8, [.int (nI 20), .int (nI 9), .ref a_colds, .int s_colds])), (a_colds, .inl (E.2.1, (20 * 9), .inl f_colds)), (h_sketch, .inr (6, [.ref a_cnt])), (a_cnt, .inl (E.2.1, 64, .inl o_3))] H locs := w
      exact j_X6_beginUse_60 B   hf ok_book ok_told ok_written ok_late ok_ents ok_colds w (lv_sub hl [1, 2] rfl)
-- X0_has
def po_X0_has (E : mE) (h : Nat) (h_rules : Nat) (a_vals : Nat) (h_rows : Nat) (a_rows : Nat) (dm : Nat) (vals : Nat → Int32) (now : Int32) (rows : Rows) (s_rows : Int32) (f_rows : Nat → Int32) (o : Int32) : Option Value → va_W → Prop := (fun (v : Option Value) (w' : va_W) => v = some (.int o) ∧ w' = [(h, .inr (0, [.ref h_rules, .ref h_rows])), (h_rules, .inr (4, [.ref a_vals, .int now])), (a_vals, .inl (E.2.1, 8, .inl vals)), (h_rows, .inr (8, [.int (nI dm), .int (nI 9), .ref a_rows, .int s_rows])), (a_rows, .inl (E.2.1, (dm * 9), .inl f_rows))])
noncomputable def F_X0_has (dm : Nat) (rows : Rows) (x1 : Int32) : Option (Int32) :=
  bd (F_X0_rowOf dm rows x1) (fun o_1 =>
  if (o_1 = ((-1)) : Prop) then
  some (0)
  else
  some (1))
set_option maxHeartbeats 4000000 in
set_option maxRecDepth 100000 in
theorem d_X0_has (E : mE) (l : Launch) (h : Nat) (h_rules : Nat) (a_vals : Nat) (h_rows : Nat) (a_rows : Nat) (dm : Nat) (vals : Nat → Int32) (now : Int32) (rows : Rows) (s_rows : Int32) (f_rows : Nat → Int32) (x1 : Int32) (ok_rows : tb_ok dm 9 rows s_rows f_rows) (o : Int32) (hf : F_X0_has dm rows x1 = some o) : MX E l yX0_has cX0_has 2 (some .boolean) ({ frames := 3, cells := 0, slots := 0, locals := 70 } : Room) [.ref h, .int x1] [(h, .inr (0, [.ref h_rules, .ref h_rows])), (h_rules, .inr (4, [.ref a_vals, .int now])), (a_vals, .inl (E.2.1, 8, .inl vals)), (h_rows, .inr (8, [.int (nI dm), .int (nI 9), .ref a_rows, .int s_rows])), (a_rows, .inl (E.2.1, (dm * 9), .inl f_rows))] (po_X0_has E h h_rules a_vals h_rows a_rows dm vals now rows s_rows f_rows o) := by
  refine mx_intro (by decide +kernel) (Nat.le_of_ble_eq_true rfl) ?_
  intro p e s m args below meth c A Q ls B w hl
  obtain ⟨hx, hb, hml, hown, hts⟩ := id B.1
  unfold F_X0_has at hf
  have hl : lv_has ls 2 [(0, .ref h), (1, .int x1)] := hl
  refine lv_aload_n hx hb dX0_has_0 rfl (lv_at hl 0 rfl) ?_
  refine lv_iload_n hx hb dX0_has_1 rfl (lv_at hl 1 rfl) ?_
  obtain ⟨o_1, hq, hf⟩ := bd_e hf
  refine mx_callV (As := [.int x1]) (rest := []) (wr := []) (d_X0_rowOf E l  h h_rules a_vals h_rows a_rows dm vals now rows s_rows f_rows x1 ok_rows o_1 hq) B w [0, 1, 2, 3, 4] [] rfl rfl (by decide) (by decide) (by decide) 0 rfl rfl cv_X0_rowOf kw_591 1 (by decide +kernel) ⟨Nat.le_of_ble_eq_true rfl, Nat.le_of_ble_eq_true rfl⟩ rfl hl.1 rfl (Nat.le_of_ble_eq_true rfl) dX0_has_2 rfl rfl ⟨Nat.zero_le _, Nat.zero_le _⟩ (fun v w' H locs hpo w => ?_)
  clear hq
  obtain ⟨rfl, rfl⟩ := hpo
  have w : mW E A s [(h, .inr (0, [.ref h_rules, .ref h_rows])), (h_rules, .inr (4, [.ref a_vals, .int now])), (a_vals, .inl (E.2.1, 8, .inl vals)), (h_rows, .inr (8, [.int (nI dm), .int (nI 9), .ref a_rows, .int s_rows])), (a_rows, .inl (E.2.1, (dm * 9), .inl f_rows))] H locs := w
  refine lv_iconst (v := (-1)) hx hb dX0_has_5 (by decide) ?_
  refine lv_icmp_eq (tgt := 13) hx hb dX0_has_6 (by decide) (fun hc => ?_) (fun hc => ?_)
  · have hf := it_t hc hf
    refine lv_iconst (v := 0) hx hb dX0_has_13 (by decide) ?_
    cases hf
    exact mx_zret B w rfl ⟨rfl, rfl⟩ dX0_has_14
  · have hf := it_f hc hf
    refine lv_iconst (v := 1) hx hb dX0_has_9 (by decide) ?_
    refine lv_goto (tgt := 14) hx hb dX0_has_10 (by decide) ?_
    cases hf
    exact mx_zret B w rfl ⟨rfl, rfl⟩ dX0_has_14
-- X0_countUse
def po_X0_countUse (E : mE) (h : Nat) (h_rules : Nat) (a_vals : Nat) (h_rows : Nat) (a_rows : Nat) (dm : Nat) (vals : Nat → Int32) (now : Int32) (rows : Rows) (s_rows : Int32) (f_rows : Nat → Int32) (o : Rows) : Option Value → va_W → Prop := (fun (v : Option Value) (w' : va_W) => ∃ (s_rows' : Int32) (f_rows' : Nat → Int32), tb_ok dm 9 o s_rows' f_rows' ∧ v = none ∧ w' = [(h, .inr (0, [.ref h_rules, .ref h_rows])), (h_rules, .inr (4, [.ref a_vals, .int now])), (a_vals, .inl (E.2.1, 8, .inl vals)), (h_rows, .inr (8, [.int (nI dm), .int (nI 9), .ref a_rows, .int s_rows'])), (a_rows, .inl (E.2.1, (dm * 9), .inl f_rows'))])
noncomputable def F_X0_countUse (dm : Nat) (rows : Rows) (x1 : Int32) (x2 : Int32) : Option (Rows) :=
  lt (tget rows x1 3) (fun o_1 =>
  lt (tset rows x1 3 (imn 999 (o_1 + 1))) (fun o_2 =>
  lt (tset o_2 x1 4 x2) (fun o_5 =>
  some (o_5))))
set_option maxHeartbeats 4000000 in
set_option maxRecDepth 100000 in
theorem d_X0_countUse (E : mE) (l : Launch) (h : Nat) (h_rules : Nat) (a_vals : Nat) (h_rows : Nat) (a_rows : Nat) (dm : Nat) (vals : Nat → Int32) (now : Int32) (rows : Rows) (s_rows : Int32) (f_rows : Nat → Int32) (x1 : Int32) (x2 : Int32) (ok_rows : tb_ok dm 9 rows s_rows f_rows) (o : Rows) (hf : F_X0_countUse dm rows x1 x2 = some o) : MX E l yX0_countUse cX0_countUse 3 none ({ frames := 1, cells := 0, slots := 0, locals := 25 } : Room) [.ref h, .int x1, .int x2] [(h, .inr (0, [.ref h_rules, .ref h_rows])), (h_rules, .inr (4, [.ref a_vals, .int now])), (a_vals, .inl (E.2.1, 8, .inl vals)), (h_rows, .inr (8, [.int (nI dm), .int (nI 9), .ref a_rows, .int s_rows])), (a_rows, .inl (E.2.1, (dm * 9), .inl f_rows))] (po_X0_countUse E h h_rules a_vals h_rows a_rows dm vals now rows s_rows f_rows o) := by
  refine mx_intro (by decide +kernel) (Nat.le_of_ble_eq_true rfl) ?_
  intro p e s m args below meth c A Q ls B w hl
  obtain ⟨hx, hb, hml, hown, hts⟩ := id B.1
  unfold F_X0_countUse at hf
  have hl : lv_has ls 3 [(0, .ref h), (1, .int x1), (2, .int x2)] := hl
  refine lv_aload_n hx hb dX0_countUse_0 rfl (lv_at hl 0 rfl) ?_
  refine mx_get B w 0 fl_X0_20 rfl rfl dX0_countUse_1 ?_
  refine lv_iload_n hx hb dX0_countUse_4 rfl (lv_at hl 1 rfl) ?_
  refine lv_iconst (v := 3) hx hb dX0_countUse_5 (by decide) ?_
  refine lv_sipush (v := 999) hx hb dX0_countUse_6 (by decide) ?_
  refine lv_aload_n hx hb dX0_countUse_9 rfl (lv_at hl 0 rfl) ?_
  refine mx_get B w 0 fl_X0_20 rfl rfl dX0_countUse_10 ?_
  refine lv_iload_n hx hb dX0_countUse_13 rfl (lv_at hl 1 rfl) ?_
  refine lv_iconst (v := 3) hx hb dX0_countUse_14 (by decide) ?_
  obtain ⟨o_1, ev⟩ : ∃ y, y = tget rows x1 3 := ⟨_, rfl⟩
  have hf := lt_n ev hf
  refine mx_callV (As := [.int x1, .int 3]) (rest := [.int 999, .int 3, .int x1, .ref h_rows]) (wr := [(h, .inr (0, [.ref h_rules, .ref h_rows])), (h_rules, .inr (4, [.ref a_vals, .int now])), (a_vals, .inl (E.2.1, 8, .inl vals))]) (c_X9_get E l h_rows a_rows dm 9 rows s_rows f_rows x1 3 ok_rows o_1 ev) B w [3, 4] [0, 1, 2] rfl rfl (by decide) (by decide) (by decide) 3 rfl rfl cv_X9_get kw_368 2 (by decide +kernel) ⟨Nat.le_of_ble_eq_true rfl, Nat.le_of_ble_eq_true rfl⟩ rfl hl.1 rfl (Nat.le_of_ble_eq_true rfl) dX0_countUse_15 rfl rfl ⟨Nat.zero_le _, Nat.zero_le _⟩ (fun v w' H locs hpo w => ?_)
  clear ev
  obtain ⟨rfl, rfl⟩ := hpo
  have w : mW E A s [(h, .inr (0, [.ref h_rules, .ref h_rows])), (h_rules, .inr (4, [.ref a_vals, .int now])), (a_vals, .inl (E.2.1, 8, .inl vals)), (h_rows, .inr (8, [.int (nI dm), .int (nI 9), .ref a_rows, .int s_rows])), (a_rows, .inl (E.2.1, (dm * 9), .inl f_rows))] H locs := w
  refine lv_iconst (v := 1) hx hb dX0_countUse_18 (by decide) ?_
  refine lv_iadd hx hb dX0_countUse_19 ?_
  refine va_mmin hx hb (by rw [hml]; exact hl.1.symm) hown (hts _ kl_min_X0) (hts _ kw_static_min) (hts _ kw_init_math) (hts _ kw_code_min) (Nat.le_of_ble_eq_true rfl) (Nat.le_of_ble_eq_true rfl) (Nat.le_of_ble_eq_true rfl) (Nat.le_of_ble_eq_true rfl) dX0_countUse_20 ?_
  obtain ⟨o_2, ev⟩ : ∃ y, y = tset rows x1 3 (imn 999 (o_1 + 1)) := ⟨_, rfl⟩
  have hf := lt_n ev hf
  refine mx_callV (As := [.int x1, .int 3, .int (imn 999 (o_1 + 1))]) (rest := []) (wr := [(h, .inr (0, [.ref h_rules, .ref h_rows])), (h_rules, .inr (4, [.ref a_vals, .int now])), (a_vals, .inl (E.2.1, 8, .inl vals))]) (c_X9_set E l h_rows a_rows dm 9 rows s_rows f_rows x1 3 (imn 999 (o_1 + 1)) ok_rows o_2 ev) B w [3, 4] [0, 1, 2] rfl rfl (by decide) (by decide) (by decide) 3 rfl rfl cv_X9_set kw_405 3 (by decide +kernel) ⟨Nat.le_of_ble_eq_true rfl, Nat.le_of_ble_eq_true rfl⟩ rfl hl.1 rfl (Nat.le_of_ble_eq_true rfl) dX0_countUse_23 rfl rfl ⟨Nat.zero_le _, Nat.zero_le _⟩ (fun v w' H locs hpo w => ?_)
  clear ev
  obtain ⟨s_rows_3, f_rows_4, ok_rows, rfl, rfl⟩ := hpo
  have w : mW E A s [(h, .inr (0, [.ref h_rules, .ref h_rows])), (h_rules, .inr (4, [.ref a_vals, .int now])), (a_vals, .inl (E.2.1, 8, .inl vals)), (h_rows, .inr (8, [.int (nI dm), .int (nI 9), .ref a_rows, .int s_rows_3])), (a_rows, .inl (E.2.1, (dm * 9), .inl f_rows_4))] H locs := w
  refine lv_aload_n hx hb dX0_countUse_26 rfl (lv_at hl 0 rfl) ?_
  refine mx_get B w 0 fl_X0_20 rfl rfl dX0_countUse_27 ?_
  refine lv_iload_n hx hb dX0_countUse_30 rfl (lv_at hl 1 rfl) ?_
  refine lv_iconst (v := 4) hx hb dX0_countUse_31 (by decide) ?_
  refine lv_iload_n hx hb dX0_countUse_32 rfl (lv_at hl 2 rfl) ?_
  obtain ⟨o_5, ev⟩ : ∃ y, y = tset o_2 x1 4 x2 := ⟨_, rfl⟩
  have hf := lt_n ev hf
  refine mx_callV (As := [.int x1, .int 4, .int x2]) (rest := []) (wr := [(h, .inr (0, [.ref h_rules, .ref h_rows])), (h_rules, .inr (4, [.ref a_vals, .int now])), (a_vals, .inl (E.2.1, 8, .inl vals))]) (c_X9_set E l h_rows a_rows dm 9 o_2 s_rows_3 f_rows_4 x1 4 x2 ok_rows o_5 ev) B w [3, 4] [0, 1, 2] rfl rfl (by decide) (by decide) (by decide) 3 rfl rfl cv_X9_set kw_405 3 (by decide +kernel) ⟨Nat.le_of_ble_eq_true rfl, Nat.le_of_ble_eq_true rfl⟩ rfl hl.1 rfl (Nat.le_of_ble_eq_true rfl) dX0_countUse_33 rfl rfl ⟨Nat.zero_le _, Nat.zero_le _⟩ (fun v w' H locs hpo w => ?_)
  clear ev
  obtain ⟨s_rows_6, f_rows_7, ok_rows, rfl, rfl⟩ := hpo
  have w : mW E A s [(h, .inr (0, [.ref h_rules, .ref h_rows])), (h_rules, .inr (4, [.ref a_vals, .int now])), (a_vals, .inl (E.2.1, 8, .inl vals)), (h_rows, .inr (8, [.int (nI dm), .int (nI 9), .ref a_rows, .int s_rows_6])), (a_rows, .inl (E.2.1, (dm * 9), .inl f_rows_7))] H locs := w
  cases hf
  exact mx_vret B w ⟨_, _, ok_rows, rfl, rfl⟩ dX0_countUse_36
-- X6_hit
def po_X6_hit (E : mE) (h : Nat) (h_rules : Nat) (a_vals : Nat) (h_ledger : Nat) (h_book : Nat) (a_book : Nat) (h_told : Nat) (a_told : Nat) (h_written : Nat) (a_written : Nat) (h_late : Nat) (a_late : Nat) (a_sums : Nat) (a_asum : Nat) (h_entries : Nat) (h_ents : Nat) (a_ents : Nat) (h_cold : Nat) (h_colds : Nat) (a_colds : Nat) (h_sketch : Nat) (a_cnt : Nat)  (vals : Nat → Int32) (now : Int32) (book : Rows) (told : Rows) (written : Rows) (late : Rows) (sums : Nat → Int32) (asum : Nat → Int32) (ents : Rows) (colds : Rows) (cnt : Nat → Int32) (uses : Int32) (usesInWindow : Int32) (entriesSoFar : Int32) (dirtySoFar : Int32) (s_book : Int32) (f_book : Nat → Int32) (s_told : Int32) (f_told : Nat → Int32) (s_written : Int32) (f_written : Nat → Int32) (s_late : Int32) (f_late : Nat → Int32) (s_ents : Int32) (f_ents : Nat → Int32) (s_colds : Int32) (f_colds : Nat → Int32) (o : Int32 × Rows) : Option Value → va_W → Prop := (fun (v : Option Value) (w' : va_W) => ∃ (s_ents' : Int32) (f_ents' : Nat → Int32), tb_ok 200 9 o.2 s_ents' f_ents' ∧ v = some (.int o.1) ∧ w' = [(h, .inr (5, [.ref h_rules, .ref h_ledger, .ref h_entries, .ref h_cold, .ref h_sketch, .int uses, .int usesInWindow, .int entriesSoFar, .int dirtySoFar])), (h_rules, .inr (4, [.ref a_vals, .int now])), (a_vals, .inl (E.2.1, 8, .inl vals)), (h_ledger, .inr (1, [.ref h_rules, .ref h_book, .ref h_told, .ref h_written, .ref h_late, .ref a_sums, .ref a_asum])), (h_book, .inr (8, [.int (nI 40), .int (nI 3), .ref a_book, .int s_book])), (a_book, .inl (E.2.1, (40 * 3), .inl f_book)), (h_told, .inr (8, [.int (nI 60), .int (nI 1), .ref a_told, .int s_told])), (a_told, .inl (E.2.1, (60 * 1), .inl f_told)), (h_written, .inr (8, [.int (nI 40), .int (nI 2), .ref a_written, .int s_written])), (a_written, .inl (E.2.1, (40 * 2), .inl f_written)), (h_late, .inr (8, [.int (nI 60), .int (nI 1), .ref a_late, .int s_late])), (a_late, .inl (E.2.1, (60 * 1), .inl f_late)), (a_sums, .inl (E.2.1, 14, .inl sums)), (a_asum, .inl (E.2.1, 64, .inl asum)), (h_entries, .inr (0, [.ref h_rules, .ref h_ents])), (h_ents, .inr (8, [.int (nI 200), .int (nI 9), .ref a_ents, .int s_ents'])), (a_ents, .inl (E.2.1, (200 * 9), .inl f_ents')), (h_cold, .inr (0, [.ref h_rules, .ref h_colds])), (h_colds, .inr (8, [.int (nI 20), .int (nI 9), .ref a_colds, .int s_colds])), (a_colds, .inl (E.2.1, (20 * 9), .inl f_colds)), (h_sketch, .inr (6, [.ref a_cnt])), (a_cnt, .inl (E.2.1, 64, .inl cnt))])
noncomputable def F_X6_hit  (ents : Rows) (uses : Int32) (x1 : Int32) : Option (Int32 × Rows) :=
  bd (F_X0_rowOf 200 ents x1) (fun o_1 =>
  bd (F_X0_countUse 200 ents o_1 uses) (fun o_2 =>
  some (o_1, o_2)))
set_option maxHeartbeats 4000000 in
set_option maxRecDepth 100000 in
theorem d_X6_hit (E : mE) (l : Launch) (h : Nat) (h_rules : Nat) (a_vals : Nat) (h_ledger : Nat) (h_book : Nat) (a_book : Nat) (h_told : Nat) (a_told : Nat) (h_written : Nat) (a_written : Nat) (h_late : Nat) (a_late : Nat) (a_sums : Nat) (a_asum : Nat) (h_entries : Nat) (h_ents : Nat) (a_ents : Nat) (h_cold : Nat) (h_colds : Nat) (a_colds : Nat) (h_sketch : Nat) (a_cnt : Nat)  (vals : Nat → Int32) (now : Int32) (book : Rows) (told : Rows) (written : Rows) (late : Rows) (sums : Nat → Int32) (asum : Nat → Int32) (ents : Rows) (colds : Rows) (cnt : Nat → Int32) (uses : Int32) (usesInWindow : Int32) (entriesSoFar : Int32) (dirtySoFar : Int32) (s_book : Int32) (f_book : Nat → Int32) (s_told : Int32) (f_told : Nat → Int32) (s_written : Int32) (f_written : Nat → Int32) (s_late : Int32) (f_late : Nat → Int32) (s_ents : Int32) (f_ents : Nat → Int32) (s_colds : Int32) (f_colds : Nat → Int32) (x1 : Int32) (ok_book : tb_ok 40 3 book s_book f_book) (ok_told : tb_ok 60 1 told s_told f_told) (ok_written : tb_ok 40 2 written s_written f_written) (ok_late : tb_ok 60 1 late s_late f_late) (ok_ents : tb_ok 200 9 ents s_ents f_ents) (ok_colds : tb_ok 20 9 colds s_colds f_colds) (o : Int32 × Rows) (hf : F_X6_hit ents uses x1 = some o) : MX E l yX6_hit cX6_hit 3 (some .int) ({ frames := 3, cells := 0, slots := 0, locals := 70 } : Room) [.ref h, .int x1] [(h, .inr (5, [.ref h_rules, .ref h_ledger, .ref h_entries, .ref h_cold, .ref h_sketch, .int uses, .int usesInWindow, .int entriesSoFar, .int dirtySoFar])), (h_rules, .inr (4, [.ref a_vals, .int now])), (a_vals, .inl (E.2.1, 8, .inl vals)), (h_ledger, .inr (1, [.ref h_rules, .ref h_book, .ref h_told, .ref h_written, .ref h_late, .ref a_sums, .ref a_asum])), (h_book, .inr (8, [.int (nI 40), .int (nI 3), .ref a_book, .int s_book])), (a_book, .inl (E.2.1, (40 * 3), .inl f_book)), (h_told, .inr (8, [.int (nI 60), .int (nI 1), .ref a_told, .int s_told])), (a_told, .inl (E.2.1, (60 * 1), .inl f_told)), (h_written, .inr (8, [.int (nI 40), .int (nI 2), .ref a_written, .int s_written])), (a_written, .inl (E.2.1, (40 * 2), .inl f_written)), (h_late, .inr (8, [.int (nI 60), .int (nI 1), .ref a_late, .int s_late])), (a_late, .inl (E.2.1, (60 * 1), .inl f_late)), (a_sums, .inl (E.2.1, 14, .inl sums)), (a_asum, .inl (E.2.1, 64, .inl asum)), (h_entries, .inr (0, [.ref h_rules, .ref h_ents])), (h_ents, .inr (8, [.int (nI 200), .int (nI 9), .ref a_ents, .int s_ents])), (a_ents, .inl (E.2.1, (200 * 9), .inl f_ents)), (h_cold, .inr (0, [.ref h_rules, .ref h_colds])), (h_colds, .inr (8, [.int (nI 20), .int (nI 9), .ref a_colds, .int s_colds])), (a_colds, .inl (E.2.1, (20 * 9), .inl f_colds)), (h_sketch, .inr (6, [.ref a_cnt])), (a_cnt, .inl (E.2.1, 64, .inl cnt))] (po_X6_hit E h h_rules a_vals h_ledger h_book a_book h_told a_told h_written a_written h_late a_late a_sums a_asum h_entries h_ents a_ents h_cold h_colds a_colds h_sketch a_cnt vals now book told written late sums asum ents colds cnt uses usesInWindow entriesSoFar dirtySoFar s_book f_book s_told f_told s_written f_written s_late f_late s_ents f_ents s_colds f_colds o) := by
  refine mx_intro (by decide +kernel) (Nat.le_of_ble_eq_true rfl) ?_
  intro p e s m args below meth c A Q ls B w hl
  obtain ⟨hx, hb, hml, hown, hts⟩ := id B.1
  unfold F_X6_hit at hf
  have hl : lv_has ls 3 [(0, .ref h), (1, .int x1)] := hl
  refine lv_aload_n hx hb dX6_hit_0 rfl (lv_at hl 0 rfl) ?_
  refine mx_get B w 0 fl_X6_24 rfl rfl dX6_hit_1 ?_
  refine lv_iload_n hx hb dX6_hit_4 rfl (lv_at hl 1 rfl) ?_
  obtain ⟨o_1, hq, hf⟩ := bd_e hf
  refine mx_callV (As := [.int x1]) (rest := []) (wr := [(h, .inr (5, [.ref h_rules, .ref h_ledger, .ref h_entries, .ref h_cold, .ref h_sketch, .int uses, .int usesInWindow, .int entriesSoFar, .int dirtySoFar])), (h_ledger, .inr (1, [.ref h_rules, .ref h_book, .ref h_told, .ref h_written, .ref h_late, .ref a_sums, .ref a_asum])), (h_book, .inr (8, [.int (nI 40), .int (nI 3), .ref a_book, .int s_book])), (a_book, .inl (E.2.1, (40 * 3), .inl f_book)), (h_told, .inr (8, [.int (nI 60), .int (nI 1), .ref a_told, .int s_told])), (a_told, .inl (E.2.1, (60 * 1), .inl f_told)), (h_written, .inr (8, [.int (nI 40), .int (nI 2), .ref a_written, .int s_written])), (a_written, .inl (E.2.1, (40 * 2), .inl f_written)), (h_late, .inr (8, [.int (nI 60), .int (nI 1), .ref a_late, .int s_late])), (a_late, .inl (E.2.1, (60 * 1), .inl f_late)), (a_sums, .inl (E.2.1, 14, .inl sums)), (a_asum, .inl (E.2.1, 64, .inl asum)), (h_cold, .inr (0, [.ref h_rules, .ref h_colds])), (h_colds, .inr (8, [.int (nI 20), .int (nI 9), .ref a_colds, .int s_colds])), (a_colds, .inl (E.2.1, (20 * 9), .inl f_colds)), (h_sketch, .inr (6, [.ref a_cnt])), (a_cnt, .inl (E.2.1, 64, .inl cnt))]) (d_X0_rowOf E l  h_entries h_rules a_vals h_ents a_ents 200 vals now ents s_ents f_ents x1 ok_ents o_1 hq) B w [14, 1, 2, 15, 16] [0, 3, 4, 5, 6, 7, 8, 9, 10, 11, 12, 13, 17, 18, 19, 20, 21] rfl rfl (by decide) (by decide) (by decide) 14 rfl rfl cv_X0_rowOf kw_582 1 (by decide +kernel) ⟨Nat.le_of_ble_eq_true rfl, Nat.le_of_ble_eq_true rfl⟩ rfl hl.1 rfl (Nat.le_of_ble_eq_true rfl) dX6_hit_5 rfl rfl ⟨Nat.zero_le _, Nat.zero_le _⟩ (fun v w' H locs hpo w => ?_)
  clear hq
  obtain ⟨rfl, rfl⟩ := hpo
  have w : mW E A s [(h, .inr (5, [.ref h_rules, .ref h_ledger, .ref h_entries, .ref h_cold, .ref h_sketch, .int uses, .int usesInWindow, .int entriesSoFar, .int dirtySoFar])), (h_rules, .inr (4, [.ref a_vals, .int now])), (a_vals, .inl (E.2.1, 8, .inl vals)), (h_ledger, .inr (1, [.ref h_rules, .ref h_book, .ref h_told, .ref h_written, .ref h_late, .ref a_sums, .ref a_asum])), (h_book, .inr (8, [.int (nI 40), .int (nI 3), .ref a_book, .int s_book])), (a_book, .inl (E.2.1, (40 * 3), .inl f_book)), (h_told, .inr (8, [.int (nI 60), .int (nI 1), .ref a_told, .int s_told])), (a_told, .inl (E.2.1, (60 * 1), .inl f_told)), (h_written, .inr (8, [.int (nI 40), .int (nI 2), .ref a_written, .int s_written])), (a_written, .inl (E.2.1, (40 * 2), .inl f_written)), (h_late, .inr (8, [.int (nI 60), .int (nI 1), .ref a_late, .int s_late])), (a_late, .inl (E.2.1, (60 * 1), .inl f_late)), (a_sums, .inl (E.2.1, 14, .inl sums)), (a_asum, .inl (E.2.1, 64, .inl asum)), (h_entries, .inr (0, [.ref h_rules, .ref h_ents])), (h_ents, .inr (8, [.int (nI 200), .int (nI 9), .ref a_ents, .int s_ents])), (a_ents, .inl (E.2.1, (200 * 9), .inl f_ents)), (h_cold, .inr (0, [.ref h_rules, .ref h_colds])), (h_colds, .inr (8, [.int (nI 20), .int (nI 9), .ref a_colds, .int s_colds])), (a_colds, .inl (E.2.1, (20 * 9), .inl f_colds)), (h_sketch, .inr (6, [.ref a_cnt])), (a_cnt, .inl (E.2.1, 64, .inl cnt))] H locs := w.sub [0, 18, 19, 1, 2, 3, 4, 5, 6, 7, 8, 9, 10, 11, 17, 20, 21, 12, 13, 14, 15, 16] (by decide) rfl
  refine lv_istore_n (lv' := [(2, .int o_1), (0, .ref h), (1, .int x1)]) hx hb dX6_hit_8 rfl hl (by decide) rfl (fun ls hl => ?_)
  refine lv_aload_n hx hb dX6_hit_9 rfl (lv_at hl 1 rfl) ?_
  refine mx_get B w 0 fl_X6_24 rfl rfl dX6_hit_10 ?_
  refine lv_iload_n hx hb dX6_hit_13 rfl (lv_at hl 0 rfl) ?_
  refine lv_aload_n hx hb dX6_hit_14 rfl (lv_at hl 1 rfl) ?_
  refine mx_get B w 0 fl_X6_38 rfl rfl dX6_hit_15 ?_
  obtain ⟨o_2, hq, hf⟩ := bd_e hf
  refine mx_callV (As := [.int o_1, .int uses]) (rest := []) (wr := [(h, .inr (5, [.ref h_rules, .ref h_ledger, .ref h_entries, .ref h_cold, .ref h_sketch, .int uses, .int usesInWindow, .int entriesSoFar, .int dirtySoFar])), (h_ledger, .inr (1, [.ref h_rules, .ref h_book, .ref h_told, .ref h_written, .ref h_late, .ref a_sums, .ref a_asum])), (h_book, .inr (8, [.int (nI 40), .int (nI 3), .ref a_book, .int s_book])), (a_book, .inl (E.2.1, (40 * 3), .inl f_book)), (h_told, .inr (8, [.int (nI 60), .int (nI 1), .ref a_told, .int s_told])), (a_told, .inl (E.2.1, (60 * 1), .inl f_told)), (h_written, .inr (8, [.int (nI 40), .int (nI 2), .ref a_written, .int s_written])), (a_written, .inl (E.2.1, (40 * 2), .inl f_written)), (h_late, .inr (8, [.int (nI 60), .int (nI 1), .ref a_late, .int s_late])), (a_late, .inl (E.2.1, (60 * 1), .inl f_late)), (a_sums, .inl (E.2.1, 14, .inl sums)), (a_asum, .inl (E.2.1, 64, .inl asum)), (h_cold, .inr (0, [.ref h_rules, .ref h_colds])), (h_colds, .inr (8, [.int (nI 20), .int (nI 9), .ref a_colds, .int s_colds])), (a_colds, .inl (E.2.1, (20 * 9), .inl f_colds)), (h_sketch, .inr (6, [.ref a_cnt])), (a_cnt, .inl (E.2.1, 64, .inl cnt))]) (d_X0_countUse E l  h_entries h_rules a_vals h_ents a_ents 200 vals now ents s_ents f_ents o_1 uses ok_ents o_2 hq) B w [14, 1, 2, 15, 16] [0, 3, 4, 5, 6, 7, 8, 9, 10, 11, 12, 13, 17, 18, 19, 20, 21] rfl rfl (by decide) (by decide) (by decide) 14 rfl rfl cv_X0_countUse kw_600 2 (by decide +kernel) ⟨Nat.le_of_ble_eq_true rfl, Nat.le_of_ble_eq_true rfl⟩ rfl hl.1 rfl (Nat.le_of_ble_eq_true rfl) dX6_hit_18 rfl rfl ⟨Nat.zero_le _, Nat.zero_le _⟩ (fun v w' H locs hpo w => ?_)
  clear hq
  obtain ⟨s_ents_3, f_ents_4, ok_ents, rfl, rfl⟩ := hpo
  have w : mW E A s [(h, .inr (5, [.ref h_rules, .ref h_ledger, .ref h_entries, .ref h_cold, .ref h_sketch, .int uses, .int usesInWindow, .int entriesSoFar, .int dirtySoFar])), (h_rules, .inr (4, [.ref a_vals, .int now])), (a_vals, .inl (E.2.1, 8, .inl vals)), (h_ledger, .inr (1, [.ref h_rules, .ref h_book, .ref h_told, .ref h_written, .ref h_late, .ref a_sums, .ref a_asum])), (h_book, .inr (8, [.int (nI 40), .int (nI 3), .ref a_book, .int s_book])), (a_book, .inl (E.2.1, (40 * 3), .inl f_book)), (h_told, .inr (8, [.int (nI 60), .int (nI 1), .ref a_told, .int s_told])), (a_told, .inl (E.2.1, (60 * 1), .inl f_told)), (h_written, .inr (8, [.int (nI 40), .int (nI 2), .ref a_written, .int s_written])), (a_written, .inl (E.2.1, (40 * 2), .inl f_written)), (h_late, .inr (8, [.int (nI 60), .int (nI 1), .ref a_late, .int s_late])), (a_late, .inl (E.2.1, (60 * 1), .inl f_late)), (a_sums, .inl (E.2.1, 14, .inl sums)), (a_asum, .inl (E.2.1, 64, .inl asum)), (h_entries, .inr (0, [.ref h_rules, .ref h_ents])), (h_ents, .inr (8, [.int (nI 200), .int (nI 9), .ref a_ents, .int s_ents_3])), (a_ents, .inl (E.2.1, (200 * 9), .inl f_ents_4)), (h_cold, .inr (0, [.ref h_rules, .ref h_colds])), (h_colds, .inr (8, [.int (nI 20), .int (nI 9), .ref a_colds, .int s_colds])), (a_colds, .inl (E.2.1, (20 * 9), .inl f_colds)), (h_sketch, .inr (6, [.ref a_cnt])), (a_cnt, .inl (E.2.1, 64, .inl cnt))] H locs := w.sub [0, 18, 19, 1, 2, 3, 4, 5, 6, 7, 8, 9, 10, 11, 17, 20, 21, 12, 13, 14, 15, 16] (by decide) rfl
  refine lv_iload_n hx hb dX6_hit_21 rfl (lv_at hl 0 rfl) ?_
  cases hf
  exact mx_iret B w ⟨_, _, ok_ents, rfl, rfl⟩ dX6_hit_22
-- X2_noteHit
def po_X2_noteHit (E : mE) (h : Nat) (h_rules : Nat) (a_vals : Nat) (h_book : Nat) (a_book : Nat) (h_told : Nat) (a_told : Nat) (h_written : Nat) (a_written : Nat) (h_late : Nat) (a_late : Nat) (a_sums : Nat) (a_asum : Nat)  (vals : Nat → Int32) (now : Int32) (book : Rows) (told : Rows) (written : Rows) (late : Rows) (sums : Nat → Int32) (asum : Nat → Int32) (s_book : Int32) (f_book : Nat → Int32) (s_told : Int32) (f_told : Nat → Int32) (s_written : Int32) (f_written : Nat → Int32) (s_late : Int32) (f_late : Nat → Int32) (o : Rows × (Nat → Int32) × (Nat → Int32)) : Option Value → va_W → Prop := (fun (v : Option Value) (w' : va_W) => ∃ (s_book' : Int32) (f_book' : Nat → Int32), tb_ok 40 3 o.1 s_book' f_book' ∧ v = none ∧ w' = [(h, .inr (1, [.ref h_rules, .ref h_book, .ref h_told, .ref h_written, .ref h_late, .ref a_sums, .ref a_asum])), (h_rules, .inr (4, [.ref a_vals, .int now])), (a_vals, .inl (E.2.1, 8, .inl vals)), (h_book, .inr (8, [.int (nI 40), .int (nI 3), .ref a_book, .int s_book'])), (a_book, .inl (E.2.1, (40 * 3), .inl f_book')), (h_told, .inr (8, [.int (nI 60), .int (nI 1), .ref a_told, .int s_told])), (a_told, .inl (E.2.1, (60 * 1), .inl f_told)), (h_written, .inr (8, [.int (nI 40), .int (nI 2), .ref a_written, .int s_written])), (a_written, .inl (E.2.1, (40 * 2), .inl f_written)), (h_late, .inr (8, [.int (nI 60), .int (nI 1), .ref a_late, .int s_late])), (a_late, .inl (E.2.1, (60 * 1), .inl f_late)), (a_sums, .inl (E.2.1, 14, .inl o.2.1)), (a_asum, .inl (E.2.1, 64, .inl o.2.2))])
noncomputable def F_X2_noteHit (N : Nat)  (now : Int32) (book : Rows) (sums : Nat → Int32) (asum : Nat → Int32) (x1 : Int32) (x2 : Int32) : Option (Rows × (Nat → Int32) × (Nat → Int32)) :=
  bd (F_X2_note N now book sums 0 x2) (fun o_1 =>
  bd (F_X2_tallyOf asum x1 1) (fun o_4 =>
  some (o_1.1, o_1.2, o_4)))
set_option maxHeartbeats 4000000 in
set_option maxRecDepth 100000 in
theorem d_X2_noteHit (E : mE) (l : Launch) (N : Nat) (h : Nat) (h_rules : Nat) (a_vals : Nat) (h_book : Nat) (a_book : Nat) (h_told : Nat) (a_told : Nat) (h_written : Nat) (a_written : Nat) (h_late : Nat) (a_late : Nat) (a_sums : Nat) (a_asum : Nat)  (vals : Nat → Int32) (now : Int32) (book : Rows) (told : Rows) (written : Rows) (late : Rows) (sums : Nat → Int32) (asum : Nat → Int32) (s_book : Int32) (f_book : Nat → Int32) (s_told : Int32) (f_told : Nat → Int32) (s_written : Int32) (f_written : Nat → Int32) (s_late : Int32) (f_late : Nat → Int32) (x1 : Int32) (x2 : Int32) (ok_book : tb_ok 40 3 book s_book f_book) (ok_told : tb_ok 60 1 told s_told f_told) (ok_written : tb_ok 40 2 written s_written f_written) (ok_late : tb_ok 60 1 late s_late f_late) (o : Rows × (Nat → Int32) × (Nat → Int32)) (hf : F_X2_noteHit N now book sums asum x1 x2 = some o) : MX E l yX2_noteHit cX2_noteHit 3 none ({ frames := 2, cells := 0, slots := 0, locals := 47 } : Room) [.ref h, .int x1, .int x2] [(h, .inr (1, [.ref h_rules, .ref h_book, .ref h_told, .ref h_written, .ref h_late, .ref a_sums, .ref a_asum])), (h_rules, .inr (4, [.ref a_vals, .int now])), (a_vals, .inl (E.2.1, 8, .inl vals)), (h_book, .inr (8, [.int (nI 40), .int (nI 3), .ref a_book, .int s_book])), (a_book, .inl (E.2.1, (40 * 3), .inl f_book)), (h_told, .inr (8, [.int (nI 60), .int (nI 1), .ref a_told, .int s_told])), (a_told, .inl (E.2.1, (60 * 1), .inl f_told)), (h_written, .inr (8, [.int (nI 40), .int (nI 2), .ref a_written, .int s_written])), (a_written, .inl (E.2.1, (40 * 2), .inl f_written)), (h_late, .inr (8, [.int (nI 60), .int (nI 1), .ref a_late, .int s_late])), (a_late, .inl (E.2.1, (60 * 1), .inl f_late)), (a_sums, .inl (E.2.1, 14, .inl sums)), (a_asum, .inl (E.2.1, 64, .inl asum))] (po_X2_noteHit E h h_rules a_vals h_book a_book h_told a_told h_written a_written h_late a_late a_sums a_asum vals now book told written late sums asum s_book f_book s_told f_told s_written f_written s_late f_late o) := by
  refine mx_intro (by decide +kernel) (Nat.le_of_ble_eq_true rfl) ?_
  intro p e s m args below meth c A Q ls B w hl
  obtain ⟨hx, hb, hml, hown, hts⟩ := id B.1
  unfold F_X2_noteHit at hf
  have hl : lv_has ls 3 [(0, .ref h), (1, .int x1), (2, .int x2)] := hl
  refine lv_aload_n hx hb dX2_noteHit_0 rfl (lv_at hl 0 rfl) ?_
  refine lv_iconst (v := 0) hx hb dX2_noteHit_1 (by decide) ?_
  refine lv_iload_n hx hb dX2_noteHit_2 rfl (lv_at hl 2 rfl) ?_
  obtain ⟨o_1, hq, hf⟩ := bd_e hf
  refine mx_callV (As := [.int 0, .int x2]) (rest := []) (wr := []) (d_X2_note E l N h h_rules a_vals h_book a_book h_told a_told h_written a_written h_late a_late a_sums a_asum vals now book told written late sums asum s_book f_book s_told f_told s_written f_written s_late f_late 0 x2 ok_book ok_told ok_written ok_late o_1 hq) B w [0, 1, 2, 3, 4, 5, 6, 7, 8, 9, 10, 11, 12] [] rfl rfl (by decide) (by decide) (by decide) 0 rfl rfl cv_X2_note kw_435 2 (by decide +kernel) ⟨Nat.le_of_ble_eq_true rfl, Nat.le_of_ble_eq_true rfl⟩ rfl hl.1 rfl (Nat.le_of_ble_eq_true rfl) dX2_noteHit_3 rfl rfl ⟨Nat.zero_le _, Nat.zero_le _⟩ (fun v w' H locs hpo w => ?_)
  clear hq
  obtain ⟨s_book_2, f_book_3, ok_book, rfl, rfl⟩ := hpo
  have w : mW E A s [(h, .inr (1, [.ref h_rules, .ref h_book, .ref h_told, .ref h_written, .ref h_late, .ref a_sums, .ref a_asum])), (h_rules, .inr (4, [.ref a_vals, .int now])), (a_vals, .inl (E.2.1, 8, .inl vals)), (h_book, .inr (8, [.int (nI 40), .int (nI 3), .ref a_book, .int s_book_2])), (a_book, .inl (E.2.1, (40 * 3), .inl f_book_3)), (h_told, .inr (8, [.int (nI 60), .int (nI 1), .ref a_told, .int s_told])), (a_told, .inl (E.2.1, (60 * 1), .inl f_told)), (h_written, .inr (8, [.int (nI 40), .int (nI 2), .ref a_written, .int s_written])), (a_written, .inl (E.2.1, (40 * 2), .inl f_written)), (h_late, .inr (8, [.int (nI 60), .int (nI 1), .ref a_late, .int s_late])), (a_late, .inl (E.2.1, (60 * 1), .inl f_late)), (a_sums, .inl (E.2.1, 14, .inl o_1.2)), (a_asum, .inl (E.2.1, 64, .inl asum))] H locs := w
  refine lv_aload_n hx hb dX2_noteHit_6 rfl (lv_at hl 0 rfl) ?_
  refine lv_iload_n hx hb dX2_noteHit_7 rfl (lv_at hl 1 rfl) ?_
  refine lv_iconst (v := 1) hx hb dX2_noteHit_8 (by decide) ?_
  obtain ⟨o_4, hq, hf⟩ := bd_e hf
  refine mx_callV (As := [.int x1, .int 1]) (rest := []) (wr := []) (d_X2_tallyOf E l  h h_rules a_vals h_book a_book h_told a_told h_written a_written h_late a_late a_sums a_asum vals now o_1.1 told written late o_1.2 asum s_book_2 f_book_3 s_told f_told s_written f_written s_late f_late x1 1 ok_book ok_told ok_written ok_late o_4 hq) B w [0, 1, 2, 3, 4, 5, 6, 7, 8, 9, 10, 11, 12] [] rfl rfl (by decide) (by decide) (by decide) 0 rfl rfl cv_X2_tallyOf kw_523 2 (by decide +kernel) ⟨Nat.le_of_ble_eq_true rfl, Nat.le_of_ble_eq_true rfl⟩ rfl hl.1 rfl (Nat.le_of_ble_eq_true rfl) dX2_noteHit_9 rfl rfl ⟨Nat.zero_le _, Nat.zero_le _⟩ (fun v w' H locs hpo w => ?_)
  clear hq
  obtain ⟨rfl, rfl⟩ := hpo
  have w : mW E A s [(h, .inr (1, [.ref h_rules, .ref h_book, .ref h_told, .ref h_written, .ref h_late, .ref a_sums, .ref a_asum])), (h_rules, .inr (4, [.ref a_vals, .int now])), (a_vals, .inl (E.2.1, 8, .inl vals)), (h_book, .inr (8, [.int (nI 40), .int (nI 3), .ref a_book, .int s_book_2])), (a_book, .inl (E.2.1, (40 * 3), .inl f_book_3)), (h_told, .inr (8, [.int (nI 60), .int (nI 1), .ref a_told, .int s_told])), (a_told, .inl (E.2.1, (60 * 1), .inl f_told)), (h_written, .inr (8, [.int (nI 40), .int (nI 2), .ref a_written, .int s_written])), (a_written, .inl (E.2.1, (40 * 2), .inl f_written)), (h_late, .inr (8, [.int (nI 60), .int (nI 1), .ref a_late, .int s_late])), (a_late, .inl (E.2.1, (60 * 1), .inl f_late)), (a_sums, .inl (E.2.1, 14, .inl o_1.2)), (a_asum, .inl (E.2.1, 64, .inl o_4))] H locs := w
  cases hf
  exact mx_vret B w ⟨_, _, ok_book, rfl, rfl⟩ dX2_noteHit_12
-- X0_isDue
def po_X0_isDue (E : mE) (h : Nat) (h_rules : Nat) (a_vals : Nat) (h_rows : Nat) (a_rows : Nat) (dm : Nat) (vals : Nat → Int32) (now : Int32) (rows : Rows) (s_rows : Int32) (f_rows : Nat → Int32) (o : Int32) : Option Value → va_W → Prop := (fun (v : Option Value) (w' : va_W) => v = some (.int o) ∧ w' = [(h, .inr (0, [.ref h_rules, .ref h_rows])), (h_rules, .inr (4, [.ref a_vals, .int now])), (a_vals, .inl (E.2.1, 8, .inl vals)), (h_rows, .inr (8, [.int (nI dm), .int (nI 9), .ref a_rows, .int s_rows])), (a_rows, .inl (E.2.1, (dm * 9), .inl f_rows))])
noncomputable def F_X0_isDue (dm : Nat) (vals : Nat → Int32) (now : Int32) (rows : Rows) (x1 : Int32) : Option (Int32) :=
  bd (F_X0_isStale dm vals now rows x1) (fun o_1 =>
  if (o_1 = 0 : Prop) then
  lt (tget rows x1 6) (fun o_2 =>
  bd (F_X5_hasPassed vals now 3 o_2) (fun o_3 =>
  if (o_3 = 0 : Prop) then
  some (0)
  else
  some (1)))
  else
  some (0))
set_option maxHeartbeats 4000000 in
set_option maxRecDepth 100000 in
theorem d_X0_isDue (E : mE) (l : Launch) (h : Nat) (h_rules : Nat) (a_vals : Nat) (h_rows : Nat) (a_rows : Nat) (dm : Nat) (vals : Nat → Int32) (now : Int32) (rows : Rows) (s_rows : Int32) (f_rows : Nat → Int32) (x1 : Int32) (ok_rows : tb_ok dm 9 rows s_rows f_rows) (o : Int32) (hf : F_X0_isDue dm vals now rows x1 = some o) : MX E l yX0_isDue cX0_isDue 2 (some .boolean) ({ frames := 2, cells := 0, slots := 0, locals := 45 } : Room) [.ref h, .int x1] [(h, .inr (0, [.ref h_rules, .ref h_rows])), (h_rules, .inr (4, [.ref a_vals, .int now])), (a_vals, .inl (E.2.1, 8, .inl vals)), (h_rows, .inr (8, [.int (nI dm), .int (nI 9), .ref a_rows, .int s_rows])), (a_rows, .inl (E.2.1, (dm * 9), .inl f_rows))] (po_X0_isDue E h h_rules a_vals h_rows a_rows dm vals now rows s_rows f_rows o) := by
  refine mx_intro (by decide +kernel) (Nat.le_of_ble_eq_true rfl) ?_
  intro p e s m args below meth c A Q ls B w hl
  obtain ⟨hx, hb, hml, hown, hts⟩ := id B.1
  unfold F_X0_isDue at hf
  have hl : lv_has ls 2 [(0, .ref h), (1, .int x1)] := hl
  refine lv_aload_n hx hb dX0_isDue_0 rfl (lv_at hl 0 rfl) ?_
  refine lv_iload_n hx hb dX0_isDue_1 rfl (lv_at hl 1 rfl) ?_
  obtain ⟨o_1, hq, hf⟩ := bd_e hf
  refine mx_callV (As := [.int x1]) (rest := []) (wr := []) (d_X0_isStale E l  h h_rules a_vals h_rows a_rows dm vals now rows s_rows f_rows x1 ok_rows o_1 hq) B w [0, 1, 2, 3, 4] [] rfl rfl (by decide) (by decide) (by decide) 0 rfl rfl cv_X0_isStale kw_380 1 (by decide +kernel) ⟨Nat.le_of_ble_eq_true rfl, Nat.le_of_ble_eq_true rfl⟩ rfl hl.1 rfl (Nat.le_of_ble_eq_true rfl) dX0_isDue_2 rfl rfl ⟨Nat.zero_le _, Nat.zero_le _⟩ (fun v w' H locs hpo w => ?_)
  clear hq
  obtain ⟨rfl, rfl⟩ := hpo
  have w : mW E A s [(h, .inr (0, [.ref h_rules, .ref h_rows])), (h_rules, .inr (4, [.ref a_vals, .int now])), (a_vals, .inl (E.2.1, 8, .inl vals)), (h_rows, .inr (8, [.int (nI dm), .int (nI 9), .ref a_rows, .int s_rows])), (a_rows, .inl (E.2.1, (dm * 9), .inl f_rows))] H locs := w
  refine lv_if_ne (tgt := 33) hx hb dX0_isDue_5 (by decide) (fun hc => ?_) (fun hc => ?_)
  · have hf := it_f hc hf
    refine lv_iconst (v := 0) hx hb dX0_isDue_33 (by decide) ?_
    cases hf
    exact mx_zret B w rfl ⟨rfl, rfl⟩ dX0_isDue_34
  · have hf := it_t hc hf
    refine lv_aload_n hx hb dX0_isDue_8 rfl (lv_at hl 0 rfl) ?_
    refine mx_get B w 0 fl_X0_9 rfl rfl dX0_isDue_9 ?_
    refine lv_iconst (v := 3) hx hb dX0_isDue_12 (by decide) ?_
    refine lv_aload_n hx hb dX0_isDue_13 rfl (lv_at hl 0 rfl) ?_
    refine mx_get B w 0 fl_X0_20 rfl rfl dX0_isDue_14 ?_
    refine lv_iload_n hx hb dX0_isDue_17 rfl (lv_at hl 1 rfl) ?_
    refine lv_bipush (v := 6) hx hb dX0_isDue_18 (by decide) ?_
    obtain ⟨o_2, ev⟩ : ∃ y, y = tget rows x1 6 := ⟨_, rfl⟩
    have hf := lt_n ev hf
    refine mx_callV (As := [.int x1, .int 6]) (rest := [.int 3, .ref h_rules]) (wr := [(h, .inr (0, [.ref h_rules, .ref h_rows])), (h_rules, .inr (4, [.ref a_vals, .int now])), (a_vals, .inl (E.2.1, 8, .inl vals))]) (c_X9_get E l h_rows a_rows dm 9 rows s_rows f_rows x1 6 ok_rows o_2 ev) B w [3, 4] [0, 1, 2] rfl rfl (by decide) (by decide) (by decide) 3 rfl rfl cv_X9_get kw_368 2 (by decide +kernel) ⟨Nat.le_of_ble_eq_true rfl, Nat.le_of_ble_eq_true rfl⟩ rfl hl.1 rfl (Nat.le_of_ble_eq_true rfl) dX0_isDue_20 rfl rfl ⟨Nat.zero_le _, Nat.zero_le _⟩ (fun v w' H locs hpo w => ?_)
    clear ev
    obtain ⟨rfl, rfl⟩ := hpo
    have w : mW E A s [(h, .inr (0, [.ref h_rules, .ref h_rows])), (h_rules, .inr (4, [.ref a_vals, .int now])), (a_vals, .inl (E.2.1, 8, .inl vals)), (h_rows, .inr (8, [.int (nI dm), .int (nI 9), .ref a_rows, .int s_rows])), (a_rows, .inl (E.2.1, (dm * 9), .inl f_rows))] H locs := w
    obtain ⟨o_3, hq, hf⟩ := bd_e hf
    refine mx_callV (As := [.int 3, .int o_2]) (rest := []) (wr := [(h, .inr (0, [.ref h_rules, .ref h_rows])), (h_rows, .inr (8, [.int (nI dm), .int (nI 9), .ref a_rows, .int s_rows])), (a_rows, .inl (E.2.1, (dm * 9), .inl f_rows))]) (d_X5_hasPassed E l  h_rules a_vals vals now 3 o_2  o_3 hq) B w [1, 2] [0, 3, 4] rfl rfl (by decide) (by decide) (by decide) 1 rfl rfl cv_X5_hasPassed kw_384 2 (by decide +kernel) ⟨Nat.le_of_ble_eq_true rfl, Nat.le_of_ble_eq_true rfl⟩ rfl hl.1 rfl (Nat.le_of_ble_eq_true rfl) dX0_isDue_23 rfl rfl ⟨Nat.zero_le _, Nat.zero_le _⟩ (fun v w' H locs hpo w => ?_)
    clear hq
    obtain ⟨rfl, rfl⟩ := hpo
    have w : mW E A s [(h, .inr (0, [.ref h_rules, .ref h_rows])), (h_rules, .inr (4, [.ref a_vals, .int now])), (a_vals, .inl (E.2.1, 8, .inl vals)), (h_rows, .inr (8, [.int (nI dm), .int (nI 9), .ref a_rows, .int s_rows])), (a_rows, .inl (E.2.1, (dm * 9), .inl f_rows))] H locs := w.sub [0, 3, 4, 1, 2] (by decide) rfl
    refine lv_if_eq (tgt := 33) hx hb dX0_isDue_26 (by decide) (fun hc => ?_) (fun hc => ?_)
    · have hf := it_t hc hf
      refine lv_iconst (v := 0) hx hb dX0_isDue_33 (by decide) ?_
      cases hf
      exact mx_zret B w rfl ⟨rfl, rfl⟩ dX0_isDue_34
    · have hf := it_f hc hf
      refine lv_iconst (v := 1) hx hb dX0_isDue_29 (by decide) ?_
      refine lv_goto (tgt := 34) hx hb dX0_isDue_30 (by decide) ?_
      cases hf
      exact mx_zret B w rfl ⟨rfl, rfl⟩ dX0_isDue_34
-- X3_lineUp
def po_X3_lineUp (E : mE) (h : Nat) (h_rules : Nat) (a_vals : Nat) (h_ledger : Nat) (h_book : Nat) (a_book : Nat) (h_told : Nat) (a_told : Nat) (h_written : Nat) (a_written : Nat) (h_late : Nat) (a_late : Nat) (a_sums : Nat) (a_asum : Nat) (h_line : Nat) (a_line : Nat) (h_waits : Nat) (a_waits : Nat) (h_boxes : Nat) (a_boxes : Nat)  (vals : Nat → Int32) (now : Int32) (book : Rows) (told : Rows) (written : Rows) (late : Rows) (sums : Nat → Int32) (asum : Nat → Int32) (line : Rows) (waits : Rows) (boxes : Rows) (s_book : Int32) (f_book : Nat → Int32) (s_told : Int32) (f_told : Nat → Int32) (s_written : Int32) (f_written : Nat → Int32) (s_late : Int32) (f_late : Nat → Int32) (s_line : Int32) (f_line : Nat → Int32) (s_waits : Int32) (f_waits : Nat → Int32) (s_boxes : Int32) (f_boxes : Nat → Int32) (o : Rows × Rows × (Nat → Int32) × Rows) : Option Value → va_W → Prop := (fun (v : Option Value) (w' : va_W) => ∃ (s_book' : Int32) (f_book' : Nat → Int32) (s_told' : Int32) (f_told' : Nat → Int32) (s_line' : Int32) (f_line' : Nat → Int32), tb_ok 40 3 o.1 s_book' f_book' ∧ tb_ok 60 1 o.2.1 s_told' f_told' ∧ tb_ok 256 3 o.2.2.2 s_line' f_line' ∧ v = none ∧ w' = [(h, .inr (2, [.ref h_rules, .ref h_ledger, .ref h_line, .ref h_waits, .ref h_boxes])), (h_rules, .inr (4, [.ref a_vals, .int now])), (a_vals, .inl (E.2.1, 8, .inl vals)), (h_ledger, .inr (1, [.ref h_rules, .ref h_book, .ref h_told, .ref h_written, .ref h_late, .ref a_sums, .ref a_asum])), (h_book, .inr (8, [.int (nI 40), .int (nI 3), .ref a_book, .int s_book'])), (a_book, .inl (E.2.1, (40 * 3), .inl f_book')), (h_told, .inr (8, [.int (nI 60), .int (nI 1), .ref a_told, .int s_told'])), (a_told, .inl (E.2.1, (60 * 1), .inl f_told')), (h_written, .inr (8, [.int (nI 40), .int (nI 2), .ref a_written, .int s_written])), (a_written, .inl (E.2.1, (40 * 2), .inl f_written)), (h_late, .inr (8, [.int (nI 60), .int (nI 1), .ref a_late, .int s_late])), (a_late, .inl (E.2.1, (60 * 1), .inl f_late)), (a_sums, .inl (E.2.1, 14, .inl o.2.2.1)), (a_asum, .inl (E.2.1, 64, .inl asum)), (h_line, .inr (8, [.int (nI 256), .int (nI 3), .ref a_line, .int s_line'])), (a_line, .inl (E.2.1, (256 * 3), .inl f_line')), (h_waits, .inr (8, [.int (nI 256), .int (nI 2), .ref a_waits, .int s_waits])), (a_waits, .inl (E.2.1, (256 * 2), .inl f_waits)), (h_boxes, .inr (8, [.int (nI 192), .int (nI 3), .ref a_boxes, .int s_boxes])), (a_boxes, .inl (E.2.1, (192 * 3), .inl f_boxes))])
noncomputable def F_X3_lineUp (N : Nat)  (vals : Nat → Int32) (now : Int32) (book : Rows) (told : Rows) (sums : Nat → Int32) (line : Rows) (x1 : Int32) : Option (Rows × Rows × (Nat → Int32) × Rows) :=
  lt (tpush 256 3 line x1 0 0) (fun o_1 =>
  bd (F_X2_note N now book sums 1 x1) (fun o_4 =>
  bd (F_X3_runWhatMay N vals now o_4.1 told o_4.2 o_1.2) (fun o_7 =>
  some (o_7.1, o_7.2.1, o_7.2.2.1, o_7.2.2.2))))
set_option maxHeartbeats 4000000 in
set_option maxRecDepth 100000 in
theorem d_X3_lineUp (E : mE) (l : Launch) (N : Nat) (h : Nat) (h_rules : Nat) (a_vals : Nat) (h_ledger : Nat) (h_book : Nat) (a_book : Nat) (h_told : Nat) (a_told : Nat) (h_written : Nat) (a_written : Nat) (h_late : Nat) (a_late : Nat) (a_sums : Nat) (a_asum : Nat) (h_line : Nat) (a_line : Nat) (h_waits : Nat) (a_waits : Nat) (h_boxes : Nat) (a_boxes : Nat)  (vals : Nat → Int32) (now : Int32) (book : Rows) (told : Rows) (written : Rows) (late : Rows) (sums : Nat → Int32) (asum : Nat → Int32) (line : Rows) (waits : Rows) (boxes : Rows) (s_book : Int32) (f_book : Nat → Int32) (s_told : Int32) (f_told : Nat → Int32) (s_written : Int32) (f_written : Nat → Int32) (s_late : Int32) (f_late : Nat → Int32) (s_line : Int32) (f_line : Nat → Int32) (s_waits : Int32) (f_waits : Nat → Int32) (s_boxes : Int32) (f_boxes : Nat → Int32) (x1 : Int32) (ok_book : tb_ok 40 3 book s_book f_book) (ok_told : tb_ok 60 1 told s_told f_told) (ok_written : tb_ok 40 2 written s_written f_written) (ok_late : tb_ok 60 1 late s_late f_late) (ok_line : tb_ok 256 3 line s_line f_line) (ok_waits : tb_ok 256 2 waits s_waits f_waits) (ok_boxes : tb_ok 192 3 boxes s_boxes f_boxes) (o : Rows × Rows × (Nat → Int32) × Rows) (hf : F_X3_lineUp N vals now book told sums line x1 = some o) : MX E l yX3_lineUp cX3_lineUp 2 none ({ frames := 4, cells := 0, slots := 0, locals := 90 } : Room) [.ref h, .int x1] [(h, .inr (2, [.ref h_rules, .ref h_ledger, .ref h_line, .ref h_waits, .ref h_boxes])), (h_rules, .inr (4, [.ref a_vals, .int now])), (a_vals, .inl (E.2.1, 8, .inl vals)), (h_ledger, .inr (1, [.ref h_rules, .ref h_book, .ref h_told, .ref h_written, .ref h_late, .ref a_sums, .ref a_asum])), (h_book, .inr (8, [.int (nI 40), .int (nI 3), .ref a_book, .int s_book])), (a_book, .inl (E.2.1, (40 * 3), .inl f_book)), (h_told, .inr (8, [.int (nI 60), .int (nI 1), .ref a_told, .int s_told])), (a_told, .inl (E.2.1, (60 * 1), .inl f_told)), (h_written, .inr (8, [.int (nI 40), .int (nI 2), .ref a_written, .int s_written])), (a_written, .inl (E.2.1, (40 * 2), .inl f_written)), (h_late, .inr (8, [.int (nI 60), .int (nI 1), .ref a_late, .int s_late])), (a_late, .inl (E.2.1, (60 * 1), .inl f_late)), (a_sums, .inl (E.2.1, 14, .inl sums)), (a_asum, .inl (E.2.1, 64, .inl asum)), (h_line, .inr (8, [.int (nI 256), .int (nI 3), .ref a_line, .int s_line])), (a_line, .inl (E.2.1, (256 * 3), .inl f_line)), (h_waits, .inr (8, [.int (nI 256), .int (nI 2), .ref a_waits, .int s_waits])), (a_waits, .inl (E.2.1, (256 * 2), .inl f_waits)), (h_boxes, .inr (8, [.int (nI 192), .int (nI 3), .ref a_boxes, .int s_boxes])), (a_boxes, .inl (E.2.1, (192 * 3), .inl f_boxes))] (po_X3_lineUp E h h_rules a_vals h_ledger h_book a_book h_told a_told h_written a_written h_late a_late a_sums a_asum h_line a_line h_waits a_waits h_boxes a_boxes vals now book told written late sums asum line waits boxes s_book f_book s_told f_told s_written f_written s_late f_late s_line f_line s_waits f_waits s_boxes f_boxes o) := by
  refine mx_intro (by decide +kernel) (Nat.le_of_ble_eq_true rfl) ?_
  intro p e s m args below meth c A Q ls B w hl
  obtain ⟨hx, hb, hml, hown, hts⟩ := id B.1
  unfold F_X3_lineUp at hf
  have hl : lv_has ls 2 [(0, .ref h), (1, .int x1)] := hl
  refine lv_aload_n hx hb dX3_lineUp_0 rfl (lv_at hl 0 rfl) ?_
  refine mx_get B w 0 fl_X3_24 rfl rfl dX3_lineUp_1 ?_
  refine lv_iload_n hx hb dX3_lineUp_4 rfl (lv_at hl 1 rfl) ?_
  refine lv_iconst (v := 0) hx hb dX3_lineUp_5 (by decide) ?_
  refine lv_iconst (v := 0) hx hb dX3_lineUp_6 (by decide) ?_
  obtain ⟨o_1, ev⟩ : ∃ y, y = tpush 256 3 line x1 0 0 := ⟨_, rfl⟩
  have hf := lt_n ev hf
  refine mx_callV (As := [.int x1, .int 0, .int 0]) (rest := []) (wr := [(h, .inr (2, [.ref h_rules, .ref h_ledger, .ref h_line, .ref h_waits, .ref h_boxes])), (h_rules, .inr (4, [.ref a_vals, .int now])), (a_vals, .inl (E.2.1, 8, .inl vals)), (h_ledger, .inr (1, [.ref h_rules, .ref h_book, .ref h_told, .ref h_written, .ref h_late, .ref a_sums, .ref a_asum])), (h_book, .inr (8, [.int (nI 40), .int (nI 3), .ref a_book, .int s_book])), (a_book, .inl (E.2.1, (40 * 3), .inl f_book)), (h_told, .inr (8, [.int (nI 60), .int (nI 1), .ref a_told, .int s_told])), (a_told, .inl (E.2.1, (60 * 1), .inl f_told)), (h_written, .inr (8, [.int (nI 40), .int (nI 2), .ref a_written, .int s_written])), (a_written, .inl (E.2.1, (40 * 2), .inl f_written)), (h_late, .inr (8, [.int (nI 60), .int (nI 1), .ref a_late, .int s_late])), (a_late, .inl (E.2.1, (60 * 1), .inl f_late)), (a_sums, .inl (E.2.1, 14, .inl sums)), (a_asum, .inl (E.2.1, 64, .inl asum)), (h_waits, .inr (8, [.int (nI 256), .int (nI 2), .ref a_waits, .int s_waits])), (a_waits, .inl (E.2.1, (256 * 2), .inl f_waits)), (h_boxes, .inr (8, [.int (nI 192), .int (nI 3), .ref a_boxes, .int s_boxes])), (a_boxes, .inl (E.2.1, (192 * 3), .inl f_boxes))]) (c_X9_push E l h_line a_line 256 3 line s_line f_line x1 0 0 ok_line o_1 ev) B w [14, 15] [0, 1, 2, 3, 4, 5, 6, 7, 8, 9, 10, 11, 12, 13, 16, 17, 18, 19] rfl rfl (by decide) (by decide) (by decide) 14 rfl rfl cv_X9_push kw_518 3 (by decide +kernel) ⟨Nat.le_of_ble_eq_true rfl, Nat.le_of_ble_eq_true rfl⟩ rfl hl.1 rfl (Nat.le_of_ble_eq_true rfl) dX3_lineUp_7 rfl rfl ⟨Nat.zero_le _, Nat.zero_le _⟩ (fun v w' H locs hpo w => ?_)
  clear ev
  obtain ⟨s_line_2, f_line_3, ok_line, rfl, rfl⟩ := hpo
  have w : mW E A s [(h, .inr (2, [.ref h_rules, .ref h_ledger, .ref h_line, .ref h_waits, .ref h_boxes])), (h_rules, .inr (4, [.ref a_vals, .int now])), (a_vals, .inl (E.2.1, 8, .inl vals)), (h_ledger, .inr (1, [.ref h_rules, .ref h_book, .ref h_told, .ref h_written, .ref h_late, .ref a_sums, .ref a_asum])), (h_book, .inr (8, [.int (nI 40), .int (nI 3), .ref a_book, .int s_book])), (a_book, .inl (E.2.1, (40 * 3), .inl f_book)), (h_told, .inr (8, [.int (nI 60), .int (nI 1), .ref a_told, .int s_told])), (a_told, .inl (E.2.1, (60 * 1), .inl f_told)), (h_written, .inr (8, [.int (nI 40), .int (nI 2), .ref a_written, .int s_written])), (a_written, .inl (E.2.1, (40 * 2), .inl f_written)), (h_late, .inr (8, [.int (nI 60), .int (nI 1), .ref a_late, .int s_late])), (a_late, .inl (E.2.1, (60 * 1), .inl f_late)), (a_sums, .inl (E.2.1, 14, .inl sums)), (a_asum, .inl (E.2.1, 64, .inl asum)), (h_line, .inr (8, [.int (nI 256), .int (nI 3), .ref a_line, .int s_line_2])), (a_line, .inl (E.2.1, (256 * 3), .inl f_line_3)), (h_waits, .inr (8, [.int (nI 256), .int (nI 2), .ref a_waits, .int s_waits])), (a_waits, .inl (E.2.1, (256 * 2), .inl f_waits)), (h_boxes, .inr (8, [.int (nI 192), .int (nI 3), .ref a_boxes, .int s_boxes])), (a_boxes, .inl (E.2.1, (192 * 3), .inl f_boxes))] H locs := w.sub [0, 1, 2, 3, 4, 5, 6, 7, 8, 9, 10, 11, 12, 13, 18, 19, 14, 15, 16, 17] (by decide) rfl
  refine lv_pop hx hb dX3_lineUp_10 rfl ?_
  refine lv_aload_n hx hb dX3_lineUp_11 rfl (lv_at hl 0 rfl) ?_
  refine mx_get B w 0 fl_X3_15 rfl rfl dX3_lineUp_12 ?_
  refine lv_iconst (v := 1) hx hb dX3_lineUp_15 (by decide) ?_
  refine lv_iload_n hx hb dX3_lineUp_16 rfl (lv_at hl 1 rfl) ?_
  obtain ⟨o_4, hq, hf⟩ := bd_e hf
  refine mx_callV (As := [.int 1, .int x1]) (rest := []) (wr := [(h, .inr (2, [.ref h_rules, .ref h_ledger, .ref h_line, .ref h_waits, .ref h_boxes])), (h_line, .inr (8, [.int (nI 256), .int (nI 3), .ref a_line, .int s_line_2])), (a_line, .inl (E.2.1, (256 * 3), .inl f_line_3)), (h_waits, .inr (8, [.int (nI 256), .int (nI 2), .ref a_waits, .int s_waits])), (a_waits, .inl (E.2.1, (256 * 2), .inl f_waits)), (h_boxes, .inr (8, [.int (nI 192), .int (nI 3), .ref a_boxes, .int s_boxes])), (a_boxes, .inl (E.2.1, (192 * 3), .inl f_boxes))]) (d_X2_note E l N h_ledger h_rules a_vals h_book a_book h_told a_told h_written a_written h_late a_late a_sums a_asum vals now book told written late sums asum s_book f_book s_told f_told s_written f_written s_late f_late 1 x1 ok_book ok_told ok_written ok_late o_4 hq) B w [3, 1, 2, 4, 5, 6, 7, 8, 9, 10, 11, 12, 13] [0, 14, 15, 16, 17, 18, 19] rfl rfl (by decide) (by decide) (by decide) 3 rfl rfl cv_X2_note kw_495 2 (by decide +kernel) ⟨Nat.le_of_ble_eq_true rfl, Nat.le_of_ble_eq_true rfl⟩ rfl hl.1 rfl (Nat.le_of_ble_eq_true rfl) dX3_lineUp_17 rfl rfl ⟨Nat.zero_le _, Nat.zero_le _⟩ (fun v w' H locs hpo w => ?_)
  clear hq
  obtain ⟨s_book_5, f_book_6, ok_book, rfl, rfl⟩ := hpo
  have w : mW E A s [(h, .inr (2, [.ref h_rules, .ref h_ledger, .ref h_line, .ref h_waits, .ref h_boxes])), (h_rules, .inr (4, [.ref a_vals, .int now])), (a_vals, .inl (E.2.1, 8, .inl vals)), (h_ledger, .inr (1, [.ref h_rules, .ref h_book, .ref h_told, .ref h_written, .ref h_late, .ref a_sums, .ref a_asum])), (h_book, .inr (8, [.int (nI 40), .int (nI 3), .ref a_book, .int s_book_5])), (a_book, .inl (E.2.1, (40 * 3), .inl f_book_6)), (h_told, .inr (8, [.int (nI 60), .int (nI 1), .ref a_told, .int s_told])), (a_told, .inl (E.2.1, (60 * 1), .inl f_told)), (h_written, .inr (8, [.int (nI 40), .int (nI 2), .ref a_written, .int s_written])), (a_written, .inl (E.2.1, (40 * 2), .inl f_written)), (h_late, .inr (8, [.int (nI 60), .int (nI 1), .ref a_late, .int s_late])), (a_late, .inl (E.2.1, (60 * 1), .inl f_late)), (a_sums, .inl (E.2.1, 14, .inl o_4.2)), (a_asum, .inl (E.2.1, 64, .inl asum)), (h_line, .inr (8, [.int (nI 256), .int (nI 3), .ref a_line, .int s_line_2])), (a_line, .inl (E.2.1, (256 * 3), .inl f_line_3)), (h_waits, .inr (8, [.int (nI 256), .int (nI 2), .ref a_waits, .int s_waits])), (a_waits, .inl (E.2.1, (256 * 2), .inl f_waits)), (h_boxes, .inr (8, [.int (nI 192), .int (nI 3), .ref a_boxes, .int s_boxes])), (a_boxes, .inl (E.2.1, (192 * 3), .inl f_boxes))] H locs := w.sub [0, 8, 9, 7, 10, 11, 12, 13, 14, 15, 16, 17, 18, 19, 1, 2, 3, 4, 5, 6] (by decide) rfl
  refine lv_aload_n hx hb dX3_lineUp_20 rfl (lv_at hl 0 rfl) ?_
  obtain ⟨o_7, hq, hf⟩ := bd_e hf
  refine mx_callV (As := []) (rest := []) (wr := []) (d_X3_runWhatMay E l N h h_rules a_vals h_ledger h_book a_book h_told a_told h_written a_written h_late a_late a_sums a_asum h_line a_line h_waits a_waits h_boxes a_boxes vals now o_4.1 told written late o_4.2 asum o_1.2 waits boxes s_book_5 f_book_6 s_told f_told s_written f_written s_late f_late s_line_2 f_line_3 s_waits f_waits s_boxes f_boxes  ok_book ok_told ok_written ok_late ok_line ok_waits ok_boxes o_7 hq) B w [0, 1, 2, 3, 4, 5, 6, 7, 8, 9, 10, 11, 12, 13, 14, 15, 16, 17, 18, 19] [] rfl rfl (by decide) (by decide) (by decide) 0 rfl rfl cv_X3_runWhatMay kw_536 0 (by decide +kernel) ⟨Nat.le_of_ble_eq_true rfl, Nat.le_of_ble_eq_true rfl⟩ rfl hl.1 rfl (Nat.le_of_ble_eq_true rfl) dX3_lineUp_21 rfl rfl ⟨Nat.zero_le _, Nat.zero_le _⟩ (fun v w' H locs hpo w => ?_)
  clear hq
  obtain ⟨s_book_8, f_book_9, s_told_10, f_told_11, s_line_12, f_line_13, ok_book, ok_told, ok_line, rfl, rfl⟩ := hpo
  have w : mW E A s [(h, .inr (2, [.ref h_rules, .ref h_ledger, .ref h_line, .ref h_waits, .ref h_boxes])), (h_rules, .inr (4, [.ref a_vals, .int now])), (a_vals, .inl (E.2.1, 8, .inl vals)), (h_ledger, .inr (1, [.ref h_rules, .ref h_book, .ref h_told, .ref h_written, .ref h_late, .ref a_sums, .ref a_asum])), (h_book, .inr (8, [.int (nI 40), .int (nI 3), .ref a_book, .int s_book_8])), (a_book, .inl (E.2.1, (40 * 3), .inl f_book_9)), (h_told, .inr (8, [.int (nI 60), .int (nI 1), .ref a_told, .int s_told_10])), (a_told, .inl (E.2.1, (60 * 1), .inl f_told_11)), (h_written, .inr (8, [.int (nI 40), .int (nI 2), .ref a_written, .int s_written])), (a_written, .inl (E.2.1, (40 * 2), .inl f_written)), (h_late, .inr (8, [.int (nI 60), .int (nI 1), .ref a_late, .int s_late])), (a_late, .inl (E.2.1, (60 * 1), .inl f_late)), (a_sums, .inl (E.2.1, 14, .inl o_7.2.2.1)), (a_asum, .inl (E.2.1, 64, .inl asum)), (h_line, .inr (8, [.int (nI 256), .int (nI 3), .ref a_line, .int s_line_12])), (a_line, .inl (E.2.1, (256 * 3), .inl f_line_13)), (h_waits, .inr (8, [.int (nI 256), .int (nI 2), .ref a_waits, .int s_waits])), (a_waits, .inl (E.2.1, (256 * 2), .inl f_waits)), (h_boxes, .inr (8, [.int (nI 192), .int (nI 3), .ref a_boxes, .int s_boxes])), (a_boxes, .inl (E.2.1, (192 * 3), .inl f_boxes))] H locs := w
  cases hf
  exact mx_vret B w ⟨_, _, _, _, _, _, ok_book, ok_told, ok_line, rfl, rfl⟩ dX3_lineUp_24
-- X11_hit
def po_X11_hit (E : mE) (h : Nat) (h_tape : Nat) (a_tby : Nat) (h_rowOfKeys : Nat) (a_rowOfKeys : Nat) (h_replays : Nat) (h_places : Nat) (a_places : Nat) (h_rules : Nat) (a_vals : Nat) (h_ledger : Nat) (h_book : Nat) (a_book : Nat) (h_told : Nat) (a_told : Nat) (h_written : Nat) (a_written : Nat) (h_late : Nat) (a_late : Nat) (a_sums : Nat) (a_asum : Nat) (h_shelf : Nat) (h_entries : Nat) (h_ents : Nat) (a_ents : Nat) (h_cold : Nat) (h_colds : Nat) (a_colds : Nat) (h_sketch : Nat) (a_cnt : Nat) (h_loads : Nat) (h_line : Nat) (a_line : Nat) (h_waits : Nat) (a_waits : Nat) (h_boxes : Nat) (a_boxes : Nat) (h_at : Nat) (kv : Value) (tby : Nat → Int32) (tsz : Int32) (rowOfKeys : Rows) (places : Rows) (vals : Nat → Int32) (now : Int32) (book : Rows) (told : Rows) (written : Rows) (late : Rows) (sums : Nat → Int32) (asum : Nat → Int32) (ents : Rows) (colds : Rows) (cnt : Nat → Int32) (uses : Int32) (usesInWindow : Int32) (entriesSoFar : Int32) (dirtySoFar : Int32) (line : Rows) (waits : Rows) (boxes : Rows) (s_rowOfKeys : Int32) (f_rowOfKeys : Nat → Int32) (s_places : Int32) (f_places : Nat → Int32) (s_book : Int32) (f_book : Nat → Int32) (s_told : Int32) (f_told : Nat → Int32) (s_written : Int32) (f_written : Nat → Int32) (s_late : Int32) (f_late : Nat → Int32) (s_ents : Int32) (f_ents : Nat → Int32) (s_colds : Int32) (f_colds : Nat → Int32) (s_line : Int32) (f_line : Nat → Int32) (s_waits : Int32) (f_waits : Nat → Int32) (s_boxes : Int32) (f_boxes : Nat → Int32) (o : Int32 × Rows × Rows × (Nat → Int32) × (Nat → Int32) × Rows × Rows) : Option Value → va_W → Prop := (fun (v : Option Value) (w' : va_W) => ∃ (s_book' : Int32) (f_book' : Nat → Int32) (s_told' : Int32) (f_told' : Nat → Int32) (s_ents' : Int32) (f_ents' : Nat → Int32) (s_line' : Int32) (f_line' : Nat → Int32), tb_ok 40 3 o.2.1 s_book' f_book' ∧ tb_ok 60 1 o.2.2.1 s_told' f_told' ∧ tb_ok 200 9 o.2.2.2.2.2.1 s_ents' f_ents' ∧ tb_ok 256 3 o.2.2.2.2.2.2 s_line' f_line' ∧ v = some (.int o.1) ∧ w' = [(h, .inr (10, [.ref h_tape, .ref h_rowOfKeys, .ref h_replays, .ref h_at, .ref h_rules, .ref h_ledger, .ref h_shelf, .ref h_loads, kv])), (h_tape, .inr (9, [.ref a_tby, .int tsz])), (a_tby, .inl (E.2.1, 60, .inl tby)), (h_rowOfKeys, .inr (8, [.int (nI 30), .int (nI 1), .ref a_rowOfKeys, .int s_rowOfKeys])), (a_rowOfKeys, .inl (E.2.1, (30 * 1), .inl f_rowOfKeys)), (h_replays, .inr (3, [.ref h_places])), (h_places, .inr (8, [.int (nI 12), .int (nI 3), .ref a_places, .int s_places])), (a_places, .inl (E.2.1, (12 * 3), .inl f_places)), (h_rules, .inr (4, [.ref a_vals, .int now])), (a_vals, .inl (E.2.1, 8, .inl vals)), (h_ledger, .inr (1, [.ref h_rules, .ref h_book, .ref h_told, .ref h_written, .ref h_late, .ref a_sums, .ref a_asum])), (h_book, .inr (8, [.int (nI 40), .int (nI 3), .ref a_book, .int s_book'])), (a_book, .inl (E.2.1, (40 * 3), .inl f_book')), (h_told, .inr (8, [.int (nI 60), .int (nI 1), .ref a_told, .int s_told'])), (a_told, .inl (E.2.1, (60 * 1), .inl f_told')), (h_written, .inr (8, [.int (nI 40), .int (nI 2), .ref a_written, .int s_written])), (a_written, .inl (E.2.1, (40 * 2), .inl f_written)), (h_late, .inr (8, [.int (nI 60), .int (nI 1), .ref a_late, .int s_late])), (a_late, .inl (E.2.1, (60 * 1), .inl f_late)), (a_sums, .inl (E.2.1, 14, .inl o.2.2.2.1)), (a_asum, .inl (E.2.1, 64, .inl o.2.2.2.2.1)), (h_shelf, .inr (5, [.ref h_rules, .ref h_ledger, .ref h_entries, .ref h_cold, .ref h_sketch, .int uses, .int usesInWindow, .int entriesSoFar, .int dirtySoFar])), (h_entries, .inr (0, [.ref h_rules, .ref h_ents])), (h_ents, .inr (8, [.int (nI 200), .int (nI 9), .ref a_ents, .int s_ents'])), (a_ents, .inl (E.2.1, (200 * 9), .inl f_ents')), (h_cold, .inr (0, [.ref h_rules, .ref h_colds])), (h_colds, .inr (8, [.int (nI 20), .int (nI 9), .ref a_colds, .int s_colds])), (a_colds, .inl (E.2.1, (20 * 9), .inl f_colds)), (h_sketch, .inr (6, [.ref a_cnt])), (a_cnt, .inl (E.2.1, 64, .inl cnt)), (h_loads, .inr (2, [.ref h_rules, .ref h_ledger, .ref h_line, .ref h_waits, .ref h_boxes])), (h_line, .inr (8, [.int (nI 256), .int (nI 3), .ref a_line, .int s_line'])), (a_line, .inl (E.2.1, (256 * 3), .inl f_line')), (h_waits, .inr (8, [.int (nI 256), .int (nI 2), .ref a_waits, .int s_waits])), (a_waits, .inl (E.2.1, (256 * 2), .inl f_waits)), (h_boxes, .inr (8, [.int (nI 192), .int (nI 3), .ref a_boxes, .int s_boxes])), (a_boxes, .inl (E.2.1, (192 * 3), .inl f_boxes))])
noncomputable def J_X11_hit_52 (N : Nat)   (x3 : Int32) (vals : Nat → Int32) (now : Int32) (book : Rows) (told : Rows) (sums : Nat → Int32) (asum : Nat → Int32) (ents : Rows) (uses : Int32) (line : Rows) : Option (Int32 × Rows × Rows × (Nat → Int32) × (Nat → Int32) × Rows × Rows) :=
  bd (F_X0_get 200 ents x3 0) (fun o_8 =>
  some (o_8, book, told, sums, asum, ents, line))
set_option maxHeartbeats 4000000 in
set_option maxRecDepth 100000 in
theorem j_X11_hit_52 {E : mE} {l : Launch} {p : Program} {e : Env} {s : State} {m : MethodId} {args : Array Value} {below : List Frame} {meth : Method} {c : Code} {A : Nat → Prop} {Q : State → Prop} {N : Nat} {h : Nat} {h_tape : Nat} {a_tby : Nat} {h_rowOfKeys : Nat} {a_rowOfKeys : Nat} {h_replays : Nat} {h_places : Nat} {a_places : Nat} {h_rules : Nat} {a_vals : Nat} {h_ledger : Nat} {h_book : Nat} {a_book : Nat} {h_told : Nat} {a_told : Nat} {h_written : Nat} {a_written : Nat} {h_late : Nat} {a_late : Nat} {a_sums : Nat} {a_asum : Nat} {h_shelf : Nat} {h_entries : Nat} {h_ents : Nat} {a_ents : Nat} {h_cold : Nat} {h_colds : Nat} {a_colds : Nat} {h_sketch : Nat} {a_cnt : Nat} {h_loads : Nat} {h_line : Nat} {a_line : Nat} {h_waits : Nat} {a_waits : Nat} {h_boxes : Nat} {a_boxes : Nat} {h_at : Nat} {kv : Value} {tby : Nat → Int32} {tsz : Int32} {rowOfKeys : Rows} {places : Rows} {vals : Nat → Int32} {now : Int32} {book0 : Rows} {told0 : Rows} {written : Rows} {late : Rows} {sums0 : Nat → Int32} {asum0 : Nat → Int32} {ents0 : Rows} {colds : Rows} {cnt : Nat → Int32} {uses : Int32} {usesInWindow : Int32} {entriesSoFar : Int32} {dirtySoFar : Int32} {line0 : Rows} {waits : Rows} {boxes : Rows} {s_rowOfKeys : Int32} {f_rowOfKeys : Nat → Int32} {s_places : Int32} {f_places : Nat → Int32} {s_book0 : Int32} {f_book0 : Nat → Int32} {s_told0 : Int32} {f_told0 : Nat → Int32} {s_written : Int32} {f_written : Nat → Int32} {s_late : Int32} {f_late : Nat → Int32} {s_ents0 : Int32} {f_ents0 : Nat → Int32} {s_colds : Int32} {f_colds : Nat → Int32} {s_line0 : Int32} {f_line0 : Nat → Int32} {s_waits : Int32} {f_waits : Nat → Int32} {s_boxes : Int32} {f_boxes : Nat → Int32} {o : Int32 × Rows × Rows × (Nat → Int32) × (Nat → Int32) × Rows × Rows} (B : mB E yX11_hit cX11_hit 4 (some .int) 0 0 (po_X11_hit E h h_tape a_tby h_rowOfKeys a_rowOfKeys h_replays h_places a_places h_rules a_vals h_ledger h_book a_book h_told a_told h_written a_written h_late a_late a_sums a_asum h_shelf h_entries h_ents a_ents h_cold h_colds a_colds h_sketch a_cnt h_loads h_line a_line h_waits a_waits h_boxes a_boxes h_at kv tby tsz rowOfKeys places vals now book0 told0 written late sums0 asum0 ents0 colds cnt uses usesInWindow entriesSoFar dirtySoFar line0 waits boxes s_rowOfKeys f_rowOfKeys s_places f_places s_book0 f_book0 s_told0 f_told0 s_written f_written s_late f_late s_ents0 f_ents0 s_colds f_colds s_line0 f_line0 s_waits f_waits s_boxes f_boxes o) p s m args below meth c A Q) {x3 : Int32} {book : Rows} {told : Rows} {sums : Nat → Int32} {asum : Nat → Int32} {ents : Rows} {line : Rows} {s_book : Int32} {f_book : Nat → Int32} {s_told : Int32} {f_told : Nat → Int32} {s_ents : Int32} {f_ents : Nat → Int32} {s_line : Int32} {f_line : Nat → Int32}   {H : Heap} {locs : List Loc} {ls : Array Slot} (hf : J_X11_hit_52 N x3 vals now book told sums asum ents uses line = some o) (ok_rowOfKeys : tb_ok 30 1 rowOfKeys s_rowOfKeys f_rowOfKeys) (ok_places : tb_ok 12 3 places s_places f_places) (ok_book : tb_ok 40 3 book s_book f_book) (ok_told : tb_ok 60 1 told s_told f_told) (ok_written : tb_ok 40 2 written s_written f_written) (ok_late : tb_ok 60 1 late s_late f_late) (ok_ents : tb_ok 200 9 ents s_ents f_ents) (ok_colds : tb_ok 20 9 colds s_colds f_colds) (ok_line : tb_ok 256 3 line s_line f_line) (ok_waits : tb_ok 256 2 waits s_waits f_waits) (ok_boxes : tb_ok 192 3 boxes s_boxes f_boxes) (w : mW E A s [(h, .inr (10, [.ref h_tape, .ref h_rowOfKeys, .ref h_replays, .ref h_at, .ref h_rules, .ref h_ledger, .ref h_shelf, .ref h_loads, kv])), (h_tape, .inr (9, [.ref a_tby, .int tsz])), (a_tby, .inl (E.2.1, 60, .inl tby)), (h_rowOfKeys, .inr (8, [.int (nI 30), .int (nI 1), .ref a_rowOfKeys, .int s_rowOfKeys])), (a_rowOfKeys, .inl (E.2.1, (30 * 1), .inl f_rowOfKeys)), (h_replays, .inr (3, [.ref h_places])), (h_places, .inr (8, [.int (nI 12), .int (nI 3), .ref a_places, .int s_places])), (a_places, .inl (E.2.1, (12 * 3), .inl f_places)), (h_rules, .inr (4, [.ref a_vals, .int now])), (a_vals, .inl (E.2.1, 8, .inl vals)), (h_ledger, .inr (1, [.ref h_rules, .ref h_book, .ref h_told, .ref h_written, .ref h_late, .ref a_sums, .ref a_asum])), (h_book, .inr (8, [.int (nI 40), .int (nI 3), .ref a_book, .int s_book])), (a_book, .inl (E.2.1, (40 * 3), .inl f_book)), (h_told, .inr (8, [.int (nI 60), .int (nI 1), .ref a_told, .int s_told])), (a_told, .inl (E.2.1, (60 * 1), .inl f_told)), (h_written, .inr (8, [.int (nI 40), .int (nI 2), .ref a_written, .int s_written])), (a_written, .inl (E.2.1, (40 * 2), .inl f_written)), (h_late, .inr (8, [.int (nI 60), .int (nI 1), .ref a_late, .int s_late])), (a_late, .inl (E.2.1, (60 * 1), .inl f_late)), (a_sums, .inl (E.2.1, 14, .inl sums)), (a_asum, .inl (E.2.1, 64, .inl asum)), (h_shelf, .inr (5, [.ref h_rules, .ref h_ledger, .ref h_entries, .ref h_cold, .ref h_sketch, .int uses, .int usesInWindow, .int entriesSoFar, .int dirtySoFar])), (h_entries, .inr (0, [.ref h_rules, .ref h_ents])), (h_ents, .inr (8, [.int (nI 200), .int (nI 9), .ref a_ents, .int s_ents])), (a_ents, .inl (E.2.1, (200 * 9), .inl f_ents)), (h_cold, .inr (0, [.ref h_rules, .ref h_colds])), (h_colds, .inr (8, [.int (nI 20), .int (nI 9), .ref a_colds, .int s_colds])), (a_colds, .inl (E.2.1, (20 * 9), .inl f_colds)), (h_sketch, .inr (6, [.ref a_cnt])), (a_cnt, .inl (E.2.1, 64, .inl cnt)), (h_loads, .inr (2, [.ref h_rules, .ref h_ledger, .ref h_line, .ref h_waits, .ref h_boxes])), (h_line, .inr (8, [.int (nI 256), .int (nI 3), .ref a_line, .int s_line])), (a_line, .inl (E.2.1, (256 * 3), .inl f_line)), (h_waits, .inr (8, [.int (nI 256), .int (nI 2), .ref a_waits, .int s_waits])), (a_waits, .inl (E.2.1, (256 * 2), .inl f_waits)), (h_boxes, .inr (8, [.int (nI 192), .int (nI 3), .ref a_boxes, .int s_boxes])), (a_boxes, .inl (E.2.1, (192 * 3), .inl f_boxes))] H locs) (hl : lv_has ls 4 [(0, .ref h), (3, .int x3)]) : W p l e ({ frames := 5, cells := 0, slots := 0, locals := 111 } : Room) s m args below meth c H locs 0 0 Q (F0 m 52 ls []) := by
  obtain ⟨hx, hb, hml, hown, hts⟩ := id B.1
  unfold J_X11_hit_52 at hf
  refine lv_aload_n hx hb dX11_hit_52 rfl (lv_at hl 0 rfl) ?_
  refine mx_get B w 0 fl_X11_53 rfl rfl dX11_hit_53 ?_
  refine mx_getN B w 21 fl_X11_129 rfl rfl dX11_hit_56 ?_
  refine lv_iload_n hx hb dX11_hit_59 rfl (lv_at hl 1 rfl) ?_
  refine lv_iconst (v := 0) hx hb dX11_hit_60 (by decide) ?_
  obtain ⟨o_8, hq, hf⟩ := bd_e hf
  refine mx_callV (As := [.int x3, .int 0]) (rest := []) (wr := [(h, .inr (10, [.ref h_tape, .ref h_rowOfKeys, .ref h_replays, .ref h_at, .ref h_rules, .ref h_ledger, .ref h_shelf, .ref h_loads, kv])), (h_tape, .inr (9, [.ref a_tby, .int tsz])), (a_tby, .inl (E.2.1, 60, .inl tby)), (h_rowOfKeys, .inr (8, [.int (nI 30), .int (nI 1), .ref a_rowOfKeys, .int s_rowOfKeys])), (a_rowOfKeys, .inl (E.2.1, (30 * 1), .inl f_rowOfKeys)), (h_replays, .inr (3, [.ref h_places])), (h_places, .inr (8, [.int (nI 12), .int (nI 3), .ref a_places, .int s_places])), (a_places, .inl (E.2.1, (12 * 3), .inl f_places)), (h_ledger, .inr (1, [.ref h_rules, .ref h_book, .ref h_told, .ref h_written, .ref h_late, .ref a_sums, .ref a_asum])), (h_book, .inr (8, [.int (nI 40), .int (nI 3), .ref a_book, .int s_book])), (a_book, .inl (E.2.1, (40 * 3), .inl f_book)), (h_told, .inr (8, [.int (nI 60), .int (nI 1), .ref a_told, .int s_told])), (a_told, .inl (E.2.1, (60 * 1), .inl f_told)), (h_written, .inr (8, [.int (nI 40), .int (nI 2), .ref a_written, .int s_written])), (a_written, .inl (E.2.1, (40 * 2), .inl f_written)), (h_late, .inr (8, [.int (nI 60), .int (nI 1), .ref a_late, .int s_late])), (a_late, .inl (E.2.1, (60 * 1), .inl f_late)), (a_sums, .inl (E.2.1, 14, .inl sums)), (a_asum, .inl (E.2.1, 64, .inl asum)), (h_shelf, .inr (5, [.ref h_rules, .ref h_ledger, .ref h_entries, .ref h_cold, .ref h_sketch, .int uses, .int usesInWindow, .int entriesSoFar, .int dirtySoFar])), (h_cold, .inr (0, [.ref h_rules, .ref h_colds])), (h_colds, .inr (8, [.int (nI 20), .int (nI 9), .ref a_colds, .int s_colds])), (a_colds, .inl (E.2.1, (20 * 9), .inl f_colds)), (h_sketch, .inr (6, [.ref a_cnt])), (a_cnt, .inl (E.2.1, 64, .inl cnt)), (h_loads, .inr (2, [.ref h_rules, .ref h_ledger, .ref h_line, .ref h_waits, .ref h_boxes])), (h_line, .inr (8, [.int (nI 256), .int (nI 3), .ref a_line, .int s_line])), (a_line, .inl (E.2.1, (256 * 3), .inl f_line)), (h_waits, .inr (8, [.int (nI 256), .int (nI 2), .ref a_waits, .int s_waits])), (a_waits, .inl (E.2.1, (256 * 2), .inl f_waits)), (h_boxes, .inr (8, [.int (nI 192), .int (nI 3), .ref a_boxes, .int s_boxes])), (a_boxes, .inl (E.2.1, (192 * 3), .inl f_boxes))]) (d_X0_get E l  h_entries h_rules a_vals h_ents a_ents 200 vals now ents s_ents f_ents x3 0 ok_ents o_8 hq) B w [22, 8, 9, 23, 24] [0, 1, 2, 3, 4, 5, 6, 7, 10, 11, 12, 13, 14, 15, 16, 17, 18, 19, 20, 21, 25, 26, 27, 28, 29, 30, 31, 32, 33, 34, 35, 36] rfl rfl (by decide) (by decide) (by decide) 22 rfl rfl cv_X0_get kw_620 2 (by decide +kernel) ⟨Nat.le_of_ble_eq_true rfl, Nat.le_of_ble_eq_true rfl⟩ rfl hl.1 rfl (Nat.le_of_ble_eq_true rfl) dX11_hit_61 rfl rfl ⟨Nat.zero_le _, Nat.zero_le _⟩ (fun v w' H locs hpo w => ?_)
  clear hq
  obtain ⟨rfl, rfl⟩ := hpo
  have w : mW E A s [(h, .inr (10, [.ref h_tape, .ref h_rowOfKeys, .ref h_replays, .ref h_at, .ref h_rules, .ref h_ledger, .ref h_shelf, .ref h_loads, kv])), (h_tape, .inr (9, [.ref a_tby, .int tsz])), (a_tby, .inl (E.2.1, 60, .inl tby)), (h_rowOfKeys, .inr (8, [.int (nI 30), .int (nI 1), .ref a_rowOfKeys, .int s_rowOfKeys])), (a_rowOfKeys, .inl (E.2.1, (30 * 1), .inl f_rowOfKeys)), (h_replays, .inr (3, [.ref h_places])), (h_places, .inr (8, [.int (nI 12), .int (nI 3), .ref a_places, .int s_places])), (a_places, .inl (E.2.1, (12 * 3), .inl f_places)), (h_rules, .inr (4, [.ref a_vals, .int now])), (a_vals, .inl (E.2.1, 8, .inl vals)), (h_ledger, .inr (1, [.ref h_rules, .ref h_book, .ref h_told, .ref h_written, .ref h_late, .ref a_sums, .ref a_asum])), (h_book, .inr (8, [.int (nI 40), .int (nI 3), .ref a_book, .int s_book])), (a_book, .inl (E.2.1, (40 * 3), .inl f_book)), (h_told, .inr (8, [.int (nI 60), .int (nI 1), .ref a_told, .int s_told])), (a_told, .inl (E.2.1, (60 * 1), .inl f_told)), (h_written, .inr (8, [.int (nI 40), .int (nI 2), .ref a_written, .int s_written])), (a_written, .inl (E.2.1, (40 * 2), .inl f_written)), (h_late, .inr (8, [.int (nI 60), .int (nI 1), .ref a_late, .int s_late])), (a_late, .inl (E.2.1, (60 * 1), .inl f_late)), (a_sums, .inl (E.2.1, 14, .inl sums)), (a_asum, .inl (E.2.1, 64, .inl asum)), (h_shelf, .inr (5, [.ref h_rules, .ref h_ledger, .ref h_entries, .ref h_cold, .ref h_sketch, .int uses, .int usesInWindow, .int entriesSoFar, .int dirtySoFar])), (h_entries, .inr (0, [.ref h_rules, .ref h_ents])), (h_ents, .inr (8, [.int (nI 200), .int (nI 9), .ref a_ents, .int s_ents])), (a_ents, .inl (E.2.1, (200 * 9), .inl f_ents)), (h_cold, .inr (0, [.ref h_rules, .ref h_colds])), (h_colds, .inr (8, [.int (nI 20), .int (nI 9), .ref a_colds, .int s_colds])), (a_colds, .inl (E.2.1, (20 * 9), .inl f_colds)), (h_sketch, .inr (6, [.ref a_cnt])), (a_cnt, .inl (E.2.1, 64, .inl cnt)), (h_loads, .inr (2, [.ref h_rules, .ref h_ledger, .ref h_line, .ref h_waits, .ref h_boxes])), (h_line, .inr (8, [.int (nI 256), .int (nI 3), .ref a_line, .int s_line])), (a_line, .inl (E.2.1, (256 * 3), .inl f_line)), (h_waits, .inr (8, [.int (nI 256), .int (nI 2), .ref a_waits, .int s_waits])), (a_waits, .inl (E.2.1, (256 * 2), .inl f_waits)), (h_boxes, .inr (8, [.int (nI 192), .int (nI 3), .ref a_boxes, .int s_boxes])), (a_boxes, .inl (E.2.1, (192 * 3), .inl f_boxes))] H locs := w.sub [0, 1, 2, 3, 4, 5, 6, 7, 33, 34, 8, 9, 10, 11, 12, 13, 14, 15, 16, 17, 18, 19, 32, 35, 36, 20, 21, 22, 23, 24, 25, 26, 27, 28, 29, 30, 31] (by decide) rfl
  cases hf
  exact mx_iret B w ⟨_, _, _, _, _, _, _, _, ok_book, ok_told, ok_ents, ok_line, rfl, rfl⟩ dX11_hit_64
noncomputable def F_X11_hit (N : Nat)  (vals : Nat → Int32) (now : Int32) (book : Rows) (told : Rows) (sums : Nat → Int32) (asum : Nat → Int32) (ents : Rows) (uses : Int32) (line : Rows) (x1 : Int32) (x2 : Int32) : Option (Int32 × Rows × Rows × (Nat → Int32) × (Nat → Int32) × Rows × Rows) :=
  bd (F_X6_hit ents uses x2) (fun o_1 =>
  bd (F_X2_noteHit N now book sums asum x1 x2) (fun o_4 =>
  bd (F_X0_isDue 200 vals now o_1.2 o_1.1) (fun o_7 =>
  if (o_7 = 0 : Prop) then
  J_X11_hit_52 N o_1.1 vals now o_4.1 told o_4.2.1 o_4.2.2 o_1.2 uses line
  else
  bd (F_X3_rowOf line x2) (fun o_9 =>
  if (o_9 = ((-1)) : Prop) then
  bd (F_X3_lineUp N vals now o_4.1 told o_4.2.1 line x2) (fun o_10 =>
  J_X11_hit_52 N o_1.1 vals now o_10.1 o_10.2.1 o_10.2.2.1 o_4.2.2 o_1.2 uses o_10.2.2.2)
  else
  J_X11_hit_52 N o_1.1 vals now o_4.1 told o_4.2.1 o_4.2.2 o_1.2 uses line))))
set_option maxHeartbeats 4000000 in
set_option maxRecDepth 100000 in
theorem d_X11_hit (E : mE) (l : Launch) (N : Nat) (h : Nat) (h_tape : Nat) (a_tby : Nat) (h_rowOfKeys : Nat) (a_rowOfKeys : Nat) (h_replays : Nat) (h_places : Nat) (a_places : Nat) (h_rules : Nat) (a_vals : Nat) (h_ledger : Nat) (h_book : Nat) (a_book : Nat) (h_told : Nat) (a_told : Nat) (h_written : Nat) (a_written : Nat) (h_late : Nat) (a_late : Nat) (a_sums : Nat) (a_asum : Nat) (h_shelf : Nat) (h_entries : Nat) (h_ents : Nat) (a_ents : Nat) (h_cold : Nat) (h_colds : Nat) (a_colds : Nat) (h_sketch : Nat) (a_cnt : Nat) (h_loads : Nat) (h_line : Nat) (a_line : Nat) (h_waits : Nat) (a_waits : Nat) (h_boxes : Nat) (a_boxes : Nat) (h_at : Nat) (kv : Value) (tby : Nat → Int32) (tsz : Int32) (rowOfKeys : Rows) (places : Rows) (vals : Nat → Int32) (now : Int32) (book : Rows) (told : Rows) (written : Rows) (late : Rows) (sums : Nat → Int32) (asum : Nat → Int32) (ents : Rows) (colds : Rows) (cnt : Nat → Int32) (uses : Int32) (usesInWindow : Int32) (entriesSoFar : Int32) (dirtySoFar : Int32) (line : Rows) (waits : Rows) (boxes : Rows) (s_rowOfKeys : Int32) (f_rowOfKeys : Nat → Int32) (s_places : Int32) (f_places : Nat → Int32) (s_book : Int32) (f_book : Nat → Int32) (s_told : Int32) (f_told : Nat → Int32) (s_written : Int32) (f_written : Nat → Int32) (s_late : Int32) (f_late : Nat → Int32) (s_ents : Int32) (f_ents : Nat → Int32) (s_colds : Int32) (f_colds : Nat → Int32) (s_line : Int32) (f_line : Nat → Int32) (s_waits : Int32) (f_waits : Nat → Int32) (s_boxes : Int32) (f_boxes : Nat → Int32) (x1 : Int32) (x2 : Int32) (ok_rowOfKeys : tb_ok 30 1 rowOfKeys s_rowOfKeys f_rowOfKeys) (ok_places : tb_ok 12 3 places s_places f_places) (ok_book : tb_ok 40 3 book s_book f_book) (ok_told : tb_ok 60 1 told s_told f_told) (ok_written : tb_ok 40 2 written s_written f_written) (ok_late : tb_ok 60 1 late s_late f_late) (ok_ents : tb_ok 200 9 ents s_ents f_ents) (ok_colds : tb_ok 20 9 colds s_colds f_colds) (ok_line : tb_ok 256 3 line s_line f_line) (ok_waits : tb_ok 256 2 waits s_waits f_waits) (ok_boxes : tb_ok 192 3 boxes s_boxes f_boxes) (o : Int32 × Rows × Rows × (Nat → Int32) × (Nat → Int32) × Rows × Rows) (hf : F_X11_hit N vals now book told sums asum ents uses line x1 x2 = some o) : MX E l yX11_hit cX11_hit 4 (some .int) ({ frames := 5, cells := 0, slots := 0, locals := 111 } : Room) [.ref h, .int x1, .int x2] [(h, .inr (10, [.ref h_tape, .ref h_rowOfKeys, .ref h_replays, .ref h_at, .ref h_rules, .ref h_ledger, .ref h_shelf, .ref h_loads, kv])), (h_tape, .inr (9, [.ref a_tby, .int tsz])), (a_tby, .inl (E.2.1, 60, .inl tby)), (h_rowOfKeys, .inr (8, [.int (nI 30), .int (nI 1), .ref a_rowOfKeys, .int s_rowOfKeys])), (a_rowOfKeys, .inl (E.2.1, (30 * 1), .inl f_rowOfKeys)), (h_replays, .inr (3, [.ref h_places])), (h_places, .inr (8, [.int (nI 12), .int (nI 3), .ref a_places, .int s_places])), (a_places, .inl (E.2.1, (12 * 3), .inl f_places)), (h_rules, .inr (4, [.ref a_vals, .int now])), (a_vals, .inl (E.2.1, 8, .inl vals)), (h_ledger, .inr (1, [.ref h_rules, .ref h_book, .ref h_told, .ref h_written, .ref h_late, .ref a_sums, .ref a_asum])), (h_book, .inr (8, [.int (nI 40), .int (nI 3), .ref a_book, .int s_book])), (a_book, .inl (E.2.1, (40 * 3), .inl f_book)), (h_told, .inr (8, [.int (nI 60), .int (nI 1), .ref a_told, .int s_told])), (a_told, .inl (E.2.1, (60 * 1), .inl f_told)), (h_written, .inr (8, [.int (nI 40), .int (nI 2), .ref a_written, .int s_written])), (a_written, .inl (E.2.1, (40 * 2), .inl f_written)), (h_late, .inr (8, [.int (nI 60), .int (nI 1), .ref a_late, .int s_late])), (a_late, .inl (E.2.1, (60 * 1), .inl f_late)), (a_sums, .inl (E.2.1, 14, .inl sums)), (a_asum, .inl (E.2.1, 64, .inl asum)), (h_shelf, .inr (5, [.ref h_rules, .ref h_ledger, .ref h_entries, .ref h_cold, .ref h_sketch, .int uses, .int usesInWindow, .int entriesSoFar, .int dirtySoFar])), (h_entries, .inr (0, [.ref h_rules, .ref h_ents])), (h_ents, .inr (8, [.int (nI 200), .int (nI 9), .ref a_ents, .int s_ents])), (a_ents, .inl (E.2.1, (200 * 9), .inl f_ents)), (h_cold, .inr (0, [.ref h_rules, .ref h_colds])), (h_colds, .inr (8, [.int (nI 20), .int (nI 9), .ref a_colds, .int s_colds])), (a_colds, .inl (E.2.1, (20 * 9), .inl f_colds)), (h_sketch, .inr (6, [.ref a_cnt])), (a_cnt, .inl (E.2.1, 64, .inl cnt)), (h_loads, .inr (2, [.ref h_rules, .ref h_ledger, .ref h_line, .ref h_waits, .ref h_boxes])), (h_line, .inr (8, [.int (nI 256), .int (nI 3), .ref a_line, .int s_line])), (a_line, .inl (E.2.1, (256 * 3), .inl f_line)), (h_waits, .inr (8, [.int (nI 256), .int (nI 2), .ref a_waits, .int s_waits])), (a_waits, .inl (E.2.1, (256 * 2), .inl f_waits)), (h_boxes, .inr (8, [.int (nI 192), .int (nI 3), .ref a_boxes, .int s_boxes])), (a_boxes, .inl (E.2.1, (192 * 3), .inl f_boxes))] (po_X11_hit E h h_tape a_tby h_rowOfKeys a_rowOfKeys h_replays h_places a_places h_rules a_vals h_ledger h_book a_book h_told a_told h_written a_written h_late a_late a_sums a_asum h_shelf h_entries h_ents a_ents h_cold h_colds a_colds h_sketch a_cnt h_loads h_line a_line h_waits a_waits h_boxes a_boxes h_at kv tby tsz rowOfKeys places vals now book told written late sums asum ents colds cnt uses usesInWindow entriesSoFar dirtySoFar line waits boxes s_rowOfKeys f_rowOfKeys s_places f_places s_book f_book s_told f_told s_written f_written s_late f_late s_ents f_ents s_colds f_colds s_line f_line s_waits f_waits s_boxes f_boxes o) := by
  refine mx_intro (by decide +kernel) (Nat.le_of_ble_eq_true rfl) ?_
  intro p e s m args below meth c A Q ls B w hl
  obtain ⟨hx, hb, hml, hown, hts⟩ := id B.1
  unfold F_X11_hit at hf
  have hl : lv_has ls 4 [(0, .ref h), (1, .int x1), (2, .int x2)] := hl
  refine lv_aload_n hx hb dX11_hit_0 rfl (lv_at hl 0 rfl) ?_
  refine mx_get B w 0 fl_X11_53 rfl rfl dX11_hit_1 ?_
  refine lv_iload_n hx hb dX11_hit_4 rfl (lv_at hl 2 rfl) ?_
  obtain ⟨o_1, hq, hf⟩ := bd_e hf
  refine mx_callV (As := [.int x2]) (rest := []) (wr := [(h, .inr (10, [.ref h_tape, .ref h_rowOfKeys, .ref h_replays, .ref h_at, .ref h_rules, .ref h_ledger, .ref h_shelf, .ref h_loads, kv])), (h_tape, .inr (9, [.ref a_tby, .int tsz])), (a_tby, .inl (E.2.1, 60, .inl tby)), (h_rowOfKeys, .inr (8, [.int (nI 30), .int (nI 1), .ref a_rowOfKeys, .int s_rowOfKeys])), (a_rowOfKeys, .inl (E.2.1, (30 * 1), .inl f_rowOfKeys)), (h_replays, .inr (3, [.ref h_places])), (h_places, .inr (8, [.int (nI 12), .int (nI 3), .ref a_places, .int s_places])), (a_places, .inl (E.2.1, (12 * 3), .inl f_places)), (h_loads, .inr (2, [.ref h_rules, .ref h_ledger, .ref h_line, .ref h_waits, .ref h_boxes])), (h_line, .inr (8, [.int (nI 256), .int (nI 3), .ref a_line, .int s_line])), (a_line, .inl (E.2.1, (256 * 3), .inl f_line)), (h_waits, .inr (8, [.int (nI 256), .int (nI 2), .ref a_waits, .int s_waits])), (a_waits, .inl (E.2.1, (256 * 2), .inl f_waits)), (h_boxes, .inr (8, [.int (nI 192), .int (nI 3), .ref a_boxes, .int s_boxes])), (a_boxes, .inl (E.2.1, (192 * 3), .inl f_boxes))]) (d_X6_hit E l  h_shelf h_rules a_vals h_ledger h_book a_book h_told a_told h_written a_written h_late a_late a_sums a_asum h_entries h_ents a_ents h_cold h_colds a_colds h_sketch a_cnt vals now book told written late sums asum ents colds cnt uses usesInWindow entriesSoFar dirtySoFar s_book f_book s_told f_told s_written f_written s_late f_late s_ents f_ents s_colds f_colds x2 ok_book ok_told ok_written ok_late ok_ents ok_colds o_1 hq) B w [21, 8, 9, 10, 11, 12, 13, 14, 15, 16, 17, 18, 19, 20, 22, 23, 24, 25, 26, 27, 28, 29] [0, 1, 2, 3, 4, 5, 6, 7, 30, 31, 32, 33, 34, 35, 36] rfl rfl (by decide) (by decide) (by decide) 21 rfl rfl cv_X6_hit kw_596 1 (by decide +kernel) ⟨Nat.le_of_ble_eq_true rfl, Nat.le_of_ble_eq_true rfl⟩ rfl hl.1 rfl (Nat.le_of_ble_eq_true rfl) dX11_hit_5 rfl rfl ⟨Nat.zero_le _, Nat.zero_le _⟩ (fun v w' H locs hpo w => ?_)
  clear hq
  obtain ⟨s_ents_2, f_ents_3, ok_ents, rfl, rfl⟩ := hpo
  have w : mW E A s [(h, .inr (10, [.ref h_tape, .ref h_rowOfKeys, .ref h_replays, .ref h_at, .ref h_rules, .ref h_ledger, .ref h_shelf, .ref h_loads, kv])), (h_tape, .inr (9, [.ref a_tby, .int tsz])), (a_tby, .inl (E.2.1, 60, .inl tby)), (h_rowOfKeys, .inr (8, [.int (nI 30), .int (nI 1), .ref a_rowOfKeys, .int s_rowOfKeys])), (a_rowOfKeys, .inl (E.2.1, (30 * 1), .inl f_rowOfKeys)), (h_replays, .inr (3, [.ref h_places])), (h_places, .inr (8, [.int (nI 12), .int (nI 3), .ref a_places, .int s_places])), (a_places, .inl (E.2.1, (12 * 3), .inl f_places)), (h_rules, .inr (4, [.ref a_vals, .int now])), (a_vals, .inl (E.2.1, 8, .inl vals)), (h_ledger, .inr (1, [.ref h_rules, .ref h_book, .ref h_told, .ref h_written, .ref h_late, .ref a_sums, .ref a_asum])), (h_book, .inr (8, [.int (nI 40), .int (nI 3), .ref a_book, .int s_book])), (a_book, .inl (E.2.1, (40 * 3), .inl f_book)), (h_told, .inr (8, [.int (nI 60), .int (nI 1), .ref a_told, .int s_told])), (a_told, .inl (E.2.1, (60 * 1), .inl f_told)), (h_written, .inr (8, [.int (nI 40), .int (nI 2), .ref a_written, .int s_written])), (a_written, .inl (E.2.1, (40 * 2), .inl f_written)), (h_late, .inr (8, [.int (nI 60), .int (nI 1), .ref a_late, .int s_late])), (a_late, .inl (E.2.1, (60 * 1), .inl f_late)), (a_sums, .inl (E.2.1, 14, .inl sums)), (a_asum, .inl (E.2.1, 64, .inl asum)), (h_shelf, .inr (5, [.ref h_rules, .ref h_ledger, .ref h_entries, .ref h_cold, .ref h_sketch, .int uses, .int usesInWindow, .int entriesSoFar, .int dirtySoFar])), (h_entries, .inr (0, [.ref h_rules, .ref h_ents])), (h_ents, .inr (8, [.int (nI 200), .int (nI 9), .ref a_ents, .int s_ents_2])), (a_ents, .inl (E.2.1, (200 * 9), .inl f_ents_3)), (h_cold, .inr (0, [.ref h_rules, .ref h_colds])), (h_colds, .inr (8, [.int (nI 20), .int (nI 9), .ref a_colds, .int s_colds])), (a_colds, .inl (E.2.1, (20 * 9), .inl f_colds)), (h_sketch, .inr (6, [.ref a_cnt])), (a_cnt, .inl (E.2.1, 64, .inl cnt)), (h_loads, .inr (2, [.ref h_rules, .ref h_ledger, .ref h_line, .ref h_waits, .ref h_boxes])), (h_line, .inr (8, [.int (nI 256), .int (nI 3), .ref a_line, .int s_line])), (a_line, .inl (E.2.1, (256 * 3), .inl f_line)), (h_waits, .inr (8, [.int (nI 256), .int (nI 2), .ref a_waits, .int s_waits])), (a_waits, .inl (E.2.1, (256 * 2), .inl f_waits)), (h_boxes, .inr (8, [.int (nI 192), .int (nI 3), .ref a_boxes, .int s_boxes])), (a_boxes, .inl (E.2.1, (192 * 3), .inl f_boxes))] H locs := w.sub [0, 1, 2, 3, 4, 5, 6, 7, 16, 17, 18, 19, 20, 21, 22, 23, 24, 25, 26, 27, 28, 15, 29, 30, 31, 32, 33, 34, 35, 36, 8, 9, 10, 11, 12, 13, 14] (by decide) rfl
  refine lv_istore_n (lv' := [(3, .int o_1.1), (0, .ref h), (1, .int x1), (2, .int x2)]) hx hb dX11_hit_8 rfl hl (by decide) rfl (fun ls hl => ?_)
  refine lv_aload_n hx hb dX11_hit_9 rfl (lv_at hl 1 rfl) ?_
  refine mx_get B w 0 fl_X11_48 rfl rfl dX11_hit_10 ?_
  refine lv_iload_n hx hb dX11_hit_13 rfl (lv_at hl 2 rfl) ?_
  refine lv_iload_n hx hb dX11_hit_14 rfl (lv_at hl 3 rfl) ?_
  obtain ⟨o_4, hq, hf⟩ := bd_e hf
  refine mx_callV (As := [.int x1, .int x2]) (rest := []) (wr := [(h, .inr (10, [.ref h_tape, .ref h_rowOfKeys, .ref h_replays, .ref h_at, .ref h_rules, .ref h_ledger, .ref h_shelf, .ref h_loads, kv])), (h_tape, .inr (9, [.ref a_tby, .int tsz])), (a_tby, .inl (E.2.1, 60, .inl tby)), (h_rowOfKeys, .inr (8, [.int (nI 30), .int (nI 1), .ref a_rowOfKeys, .int s_rowOfKeys])), (a_rowOfKeys, .inl (E.2.1, (30 * 1), .inl f_rowOfKeys)), (h_replays, .inr (3, [.ref h_places])), (h_places, .inr (8, [.int (nI 12), .int (nI 3), .ref a_places, .int s_places])), (a_places, .inl (E.2.1, (12 * 3), .inl f_places)), (h_shelf, .inr (5, [.ref h_rules, .ref h_ledger, .ref h_entries, .ref h_cold, .ref h_sketch, .int uses, .int usesInWindow, .int entriesSoFar, .int dirtySoFar])), (h_entries, .inr (0, [.ref h_rules, .ref h_ents])), (h_ents, .inr (8, [.int (nI 200), .int (nI 9), .ref a_ents, .int s_ents_2])), (a_ents, .inl (E.2.1, (200 * 9), .inl f_ents_3)), (h_cold, .inr (0, [.ref h_rules, .ref h_colds])), (h_colds, .inr (8, [.int (nI 20), .int (nI 9), .ref a_colds, .int s_colds])), (a_colds, .inl (E.2.1, (20 * 9), .inl f_colds)), (h_sketch, .inr (6, [.ref a_cnt])), (a_cnt, .inl (E.2.1, 64, .inl cnt)), (h_loads, .inr (2, [.ref h_rules, .ref h_ledger, .ref h_line, .ref h_waits, .ref h_boxes])), (h_line, .inr (8, [.int (nI 256), .int (nI 3), .ref a_line, .int s_line])), (a_line, .inl (E.2.1, (256 * 3), .inl f_line)), (h_waits, .inr (8, [.int (nI 256), .int (nI 2), .ref a_waits, .int s_waits])), (a_waits, .inl (E.2.1, (256 * 2), .inl f_waits)), (h_boxes, .inr (8, [.int (nI 192), .int (nI 3), .ref a_boxes, .int s_boxes])), (a_boxes, .inl (E.2.1, (192 * 3), .inl f_boxes))]) (d_X2_noteHit E l N h_ledger h_rules a_vals h_book a_book h_told a_told h_written a_written h_late a_late a_sums a_asum vals now book told written late sums asum s_book f_book s_told f_told s_written f_written s_late f_late x1 x2 ok_book ok_told ok_written ok_late o_4 hq) B w [10, 8, 9, 11, 12, 13, 14, 15, 16, 17, 18, 19, 20] [0, 1, 2, 3, 4, 5, 6, 7, 21, 22, 23, 24, 25, 26, 27, 28, 29, 30, 31, 32, 33, 34, 35, 36] rfl rfl (by decide) (by decide) (by decide) 10 rfl rfl cv_X2_noteHit kw_607 2 (by decide +kernel) ⟨Nat.le_of_ble_eq_true rfl, Nat.le_of_ble_eq_true rfl⟩ rfl hl.1 rfl (Nat.le_of_ble_eq_true rfl) dX11_hit_15 rfl rfl ⟨Nat.zero_le _, Nat.zero_le _⟩ (fun v w' H locs hpo w => ?_)
  clear hq
  obtain ⟨s_book_5, f_book_6, ok_book, rfl, rfl⟩ := hpo
  have w : mW E A s [(h, .inr (10, [.ref h_tape, .ref h_rowOfKeys, .ref h_replays, .ref h_at, .ref h_rules, .ref h_ledger, .ref h_shelf, .ref h_loads, kv])), (h_tape, .inr (9, [.ref a_tby, .int tsz])), (a_tby, .inl (E.2.1, 60, .inl tby)), (h_rowOfKeys, .inr (8, [.int (nI 30), .int (nI 1), .ref a_rowOfKeys, .int s_rowOfKeys])), (a_rowOfKeys, .inl (E.2.1, (30 * 1), .inl f_rowOfKeys)), (h_replays, .inr (3, [.ref h_places])), (h_places, .inr (8, [.int (nI 12), .int (nI 3), .ref a_places, .int s_places])), (a_places, .inl (E.2.1, (12 * 3), .inl f_places)), (h_rules, .inr (4, [.ref a_vals, .int now])), (a_vals, .inl (E.2.1, 8, .inl vals)), (h_ledger, .inr (1, [.ref h_rules, .ref h_book, .ref h_told, .ref h_written, .ref h_late, .ref a_sums, .ref a_asum])), (h_book, .inr (8, [.int (nI 40), .int (nI 3), .ref a_book, .int s_book_5])), (a_book, .inl (E.2.1, (40 * 3), .inl f_book_6)), (h_told, .inr (8, [.int (nI 60), .int (nI 1), .ref a_told, .int s_told])), (a_told, .inl (E.2.1, (60 * 1), .inl f_told)), (h_written, .inr (8, [.int (nI 40), .int (nI 2), .ref a_written, .int s_written])), (a_written, .inl (E.2.1, (40 * 2), .inl f_written)), (h_late, .inr (8, [.int (nI 60), .int (nI 1), .ref a_late, .int s_late])), (a_late, .inl (E.2.1, (60 * 1), .inl f_late)), (a_sums, .inl (E.2.1, 14, .inl o_4.2.1)), (a_asum, .inl (E.2.1, 64, .inl o_4.2.2)), (h_shelf, .inr (5, [.ref h_rules, .ref h_ledger, .ref h_entries, .ref h_cold, .ref h_sketch, .int uses, .int usesInWindow, .int entriesSoFar, .int dirtySoFar])), (h_entries, .inr (0, [.ref h_rules, .ref h_ents])), (h_ents, .inr (8, [.int (nI 200), .int (nI 9), .ref a_ents, .int s_ents_2])), (a_ents, .inl (E.2.1, (200 * 9), .inl f_ents_3)), (h_cold, .inr (0, [.ref h_rules, .ref h_colds])), (h_colds, .inr (8, [.int (nI 20), .int (nI 9), .ref a_colds, .int s_colds])), (a_colds, .inl (E.2.1, (20 * 9), .inl f_colds)), (h_sketch, .inr (6, [.ref a_cnt])), (a_cnt, .inl (E.2.1, 64, .inl cnt)), (h_loads, .inr (2, [.ref h_rules, .ref h_ledger, .ref h_line, .ref h_waits, .ref h_boxes])), (h_line, .inr (8, [.int (nI 256), .int (nI 3), .ref a_line, .int s_line])), (a_line, .inl (E.2.1, (256 * 3), .inl f_line)), (h_waits, .inr (8, [.int (nI 256), .int (nI 2), .ref a_waits, .int s_waits])), (a_waits, .inl (E.2.1, (256 * 2), .inl f_waits)), (h_boxes, .inr (8, [.int (nI 192), .int (nI 3), .ref a_boxes, .int s_boxes])), (a_boxes, .inl (E.2.1, (192 * 3), .inl f_boxes))] H locs := w.sub [0, 1, 2, 3, 4, 5, 6, 7, 25, 26, 24, 27, 28, 29, 30, 31, 32, 33, 34, 35, 36, 8, 9, 10, 11, 12, 13, 14, 15, 16, 17, 18, 19, 20, 21, 22, 23] (by decide) rfl
  refine lv_aload_n hx hb dX11_hit_18 rfl (lv_at hl 1 rfl) ?_
  refine mx_get B w 0 fl_X11_53 rfl rfl dX11_hit_19 ?_
  refine mx_getN B w 21 fl_X11_129 rfl rfl dX11_hit_22 ?_
  refine lv_iload_n hx hb dX11_hit_25 rfl (lv_at hl 0 rfl) ?_
  obtain ⟨o_7, hq, hf⟩ := bd_e hf
  refine mx_callV (As := [.int o_1.1]) (rest := []) (wr := [(h, .inr (10, [.ref h_tape, .ref h_rowOfKeys, .ref h_replays, .ref h_at, .ref h_rules, .ref h_ledger, .ref h_shelf, .ref h_loads, kv])), (h_tape, .inr (9, [.ref a_tby, .int tsz])), (a_tby, .inl (E.2.1, 60, .inl tby)), (h_rowOfKeys, .inr (8, [.int (nI 30), .int (nI 1), .ref a_rowOfKeys, .int s_rowOfKeys])), (a_rowOfKeys, .inl (E.2.1, (30 * 1), .inl f_rowOfKeys)), (h_replays, .inr (3, [.ref h_places])), (h_places, .inr (8, [.int (nI 12), .int (nI 3), .ref a_places, .int s_places])), (a_places, .inl (E.2.1, (12 * 3), .inl f_places)), (h_ledger, .inr (1, [.ref h_rules, .ref h_book, .ref h_told, .ref h_written, .ref h_late, .ref a_sums, .ref a_asum])), (h_book, .inr (8, [.int (nI 40), .int (nI 3), .ref a_book, .int s_book_5])), (a_book, .inl (E.2.1, (40 * 3), .inl f_book_6)), (h_told, .inr (8, [.int (nI 60), .int (nI 1), .ref a_told, .int s_told])), (a_told, .inl (E.2.1, (60 * 1), .inl f_told)), (h_written, .inr (8, [.int (nI 40), .int (nI 2), .ref a_written, .int s_written])), (a_written, .inl (E.2.1, (40 * 2), .inl f_written)), (h_late, .inr (8, [.int (nI 60), .int (nI 1), .ref a_late, .int s_late])), (a_late, .inl (E.2.1, (60 * 1), .inl f_late)), (a_sums, .inl (E.2.1, 14, .inl o_4.2.1)), (a_asum, .inl (E.2.1, 64, .inl o_4.2.2)), (h_shelf, .inr (5, [.ref h_rules, .ref h_ledger, .ref h_entries, .ref h_cold, .ref h_sketch, .int uses, .int usesInWindow, .int entriesSoFar, .int dirtySoFar])), (h_cold, .inr (0, [.ref h_rules, .ref h_colds])), (h_colds, .inr (8, [.int (nI 20), .int (nI 9), .ref a_colds, .int s_colds])), (a_colds, .inl (E.2.1, (20 * 9), .inl f_colds)), (h_sketch, .inr (6, [.ref a_cnt])), (a_cnt, .inl (E.2.1, 64, .inl cnt)), (h_loads, .inr (2, [.ref h_rules, .ref h_ledger, .ref h_line, .ref h_waits, .ref h_boxes])), (h_line, .inr (8, [.int (nI 256), .int (nI 3), .ref a_line, .int s_line])), (a_line, .inl (E.2.1, (256 * 3), .inl f_line)), (h_waits, .inr (8, [.int (nI 256), .int (nI 2), .ref a_waits, .int s_waits])), (a_waits, .inl (E.2.1, (256 * 2), .inl f_waits)), (h_boxes, .inr (8, [.int (nI 192), .int (nI 3), .ref a_boxes, .int s_boxes])), (a_boxes, .inl (E.2.1, (192 * 3), .inl f_boxes))]) (d_X0_isDue E l  h_entries h_rules a_vals h_ents a_ents 200 vals now o_1.2 s_ents_2 f_ents_3 o_1.1 ok_ents o_7 hq) B w [22, 8, 9, 23, 24] [0, 1, 2, 3, 4, 5, 6, 7, 10, 11, 12, 13, 14, 15, 16, 17, 18, 19, 20, 21, 25, 26, 27, 28, 29, 30, 31, 32, 33, 34, 35, 36] rfl rfl (by decide) (by decide) (by decide) 22 rfl rfl cv_X0_isDue kw_611 1 (by decide +kernel) ⟨Nat.le_of_ble_eq_true rfl, Nat.le_of_ble_eq_true rfl⟩ rfl hl.1 rfl (Nat.le_of_ble_eq_true rfl) dX11_hit_26 rfl rfl ⟨Nat.zero_le _, Nat.zero_le _⟩ (fun v w' H locs hpo w => ?_)
  clear hq
  obtain ⟨rfl, rfl⟩ := hpo
  have w : mW E A s [(h, .inr (10, [.ref h_tape, .ref h_rowOfKeys, .ref h_replays, .ref h_at, .ref h_rules, .ref h_ledger, .ref h_shelf, .ref h_loads, kv])), (h_tape, .inr (9, [.ref a_tby, .int tsz])), (a_tby, .inl (E.2.1, 60, .inl tby)), (h_rowOfKeys, .inr (8, [.int (nI 30), .int (nI 1), .ref a_rowOfKeys, .int s_rowOfKeys])), (a_rowOfKeys, .inl (E.2.1, (30 * 1), .inl f_rowOfKeys)), (h_replays, .inr (3, [.ref h_places])), (h_places, .inr (8, [.int (nI 12), .int (nI 3), .ref a_places, .int s_places])), (a_places, .inl (E.2.1, (12 * 3), .inl f_places)), (h_rules, .inr (4, [.ref a_vals, .int now])), (a_vals, .inl (E.2.1, 8, .inl vals)), (h_ledger, .inr (1, [.ref h_rules, .ref h_book, .ref h_told, .ref h_written, .ref h_late, .ref a_sums, .ref a_asum])), (h_book, .inr (8, [.int (nI 40), .int (nI 3), .ref a_book, .int s_book_5])), (a_book, .inl (E.2.1, (40 * 3), .inl f_book_6)), (h_told, .inr (8, [.int (nI 60), .int (nI 1), .ref a_told, .int s_told])), (a_told, .inl (E.2.1, (60 * 1), .inl f_told)), (h_written, .inr (8, [.int (nI 40), .int (nI 2), .ref a_written, .int s_written])), (a_written, .inl (E.2.1, (40 * 2), .inl f_written)), (h_late, .inr (8, [.int (nI 60), .int (nI 1), .ref a_late, .int s_late])), (a_late, .inl (E.2.1, (60 * 1), .inl f_late)), (a_sums, .inl (E.2.1, 14, .inl o_4.2.1)), (a_asum, .inl (E.2.1, 64, .inl o_4.2.2)), (h_shelf, .inr (5, [.ref h_rules, .ref h_ledger, .ref h_entries, .ref h_cold, .ref h_sketch, .int uses, .int usesInWindow, .int entriesSoFar, .int dirtySoFar])), (h_entries, .inr (0, [.ref h_rules, .ref h_ents])), (h_ents, .inr (8, [.int (nI 200), .int (nI 9), .ref a_ents, .int s_ents_2])), (a_ents, .inl (E.2.1, (200 * 9), .inl f_ents_3)), (h_cold, .inr (0, [.ref h_rules, .ref h_colds])), (h_colds, .inr (8, [.int (nI 20), .int (nI 9), .ref a_colds, .int s_colds])), (a_colds, .inl (E.2.1, (20 * 9), .inl f_colds)), (h_sketch, .inr (6, [.ref a_cnt])), (a_cnt, .inl (E.2.1, 64, .inl cnt)), (h_loads, .inr (2, [.ref h_rules, .ref h_ledger, .ref h_line, .ref h_waits, .ref h_boxes])), (h_line, .inr (8, [.int (nI 256), .int (nI 3), .ref a_line, .int s_line])), (a_line, .inl (E.2.1, (256 * 3), .inl f_line)), (h_waits, .inr (8, [.int (nI 256), .int (nI 2), .ref a_waits, .int s_waits])), (a_waits, .inl (E.2.1, (256 * 2), .inl f_waits)), (h_boxes, .inr (8, [.int (nI 192), .int (nI 3), .ref a_boxes, .int s_boxes])), (a_boxes, .inl (E.2.1, (192 * 3), .inl f_boxes))] H locs := w.sub [0, 1, 2, 3, 4, 5, 6, 7, 33, 34, 8, 9, 10, 11, 12, 13, 14, 15, 16, 17, 18, 19, 32, 35, 36, 20, 21, 22, 23, 24, 25, 26, 27, 28, 29, 30, 31] (by decide) rfl
  refine lv_if_eq (tgt := 52) hx hb dX11_hit_29 (by decide) (fun hc => ?_) (fun hc => ?_)
  · have hf := it_t hc hf
    exact j_X11_hit_52 B   hf ok_rowOfKeys ok_places ok_book ok_told ok_written ok_late ok_ents ok_colds ok_line ok_waits ok_boxes w (lv_sub hl [1, 0] rfl)
  · have hf := it_f hc hf
    refine lv_aload_n hx hb dX11_hit_32 rfl (lv_at hl 1 rfl) ?_
    refine mx_get B w 0 fl_X11_58 rfl rfl dX11_hit_33 ?_
    refine lv_iload_n hx hb dX11_hit_36 rfl (lv_at hl 3 rfl) ?_
    obtain ⟨o_9, hq, hf⟩ := bd_e hf
    refine mx_callV (As := [.int x2]) (rest := []) (wr := [(h, .inr (10, [.ref h_tape, .ref h_rowOfKeys, .ref h_replays, .ref h_at, .ref h_rules, .ref h_ledger, .ref h_shelf, .ref h_loads, kv])), (h_tape, .inr (9, [.ref a_tby, .int tsz])), (a_tby, .inl (E.2.1, 60, .inl tby)), (h_rowOfKeys, .inr (8, [.int (nI 30), .int (nI 1), .ref a_rowOfKeys, .int s_rowOfKeys])), (a_rowOfKeys, .inl (E.2.1, (30 * 1), .inl f_rowOfKeys)), (h_replays, .inr (3, [.ref h_places])), (h_places, .inr (8, [.int (nI 12), .int (nI 3), .ref a_places, .int s_places])), (a_places, .inl (E.2.1, (12 * 3), .inl f_places)), (h_shelf, .inr (5, [.ref h_rules, .ref h_ledger, .ref h_entries, .ref h_cold, .ref h_sketch, .int uses, .int usesInWindow, .int entriesSoFar, .int dirtySoFar])), (h_entries, .inr (0, [.ref h_rules, .ref h_ents])), (h_ents, .inr (8, [.int (nI 200), .int (nI 9), .ref a_ents, .int s_ents_2])), (a_ents, .inl (E.2.1, (200 * 9), .inl f_ents_3)), (h_cold, .inr (0, [.ref h_rules, .ref h_colds])), (h_colds, .inr (8, [.int (nI 20), .int (nI 9), .ref a_colds, .int s_colds])), (a_colds, .inl (E.2.1, (20 * 9), .inl f_colds)), (h_sketch, .inr (6, [.ref a_cnt])), (a_cnt, .inl (E.2.1, 64, .inl cnt))]) (d_X3_rowOf E l  h_loads h_rules a_vals h_ledger h_book a_book h_told a_told h_written a_written h_late a_late a_sums a_asum h_line a_line h_waits a_waits h_boxes a_boxes vals now o_4.1 told written late o_4.2.1 o_4.2.2 line waits boxes s_book_5 f_book_6 s_told f_told s_written f_written s_late f_late s_line f_line s_waits f_waits s_boxes f_boxes x2 ok_book ok_told ok_written ok_late ok_line ok_waits ok_boxes o_9 hq) B w [30, 8, 9, 10, 11, 12, 13, 14, 15, 16, 17, 18, 19, 20, 31, 32, 33, 34, 35, 36] [0, 1, 2, 3, 4, 5, 6, 7, 21, 22, 23, 24, 25, 26, 27, 28, 29] rfl rfl (by decide) (by decide) (by decide) 30 rfl rfl cv_X3_rowOf kw_615 1 (by decide +kernel) ⟨Nat.le_of_ble_eq_true rfl, Nat.le_of_ble_eq_true rfl⟩ rfl hl.1 rfl (Nat.le_of_ble_eq_true rfl) dX11_hit_37 rfl rfl ⟨Nat.zero_le _, Nat.zero_le _⟩ (fun v w' H locs hpo w => ?_)
    clear hq
    obtain ⟨rfl, rfl⟩ := hpo
    have w : mW E A s [(h, .inr (10, [.ref h_tape, .ref h_rowOfKeys, .ref h_replays, .ref h_at, .ref h_rules, .ref h_ledger, .ref h_shelf, .ref h_loads, kv])), (h_tape, .inr (9, [.ref a_tby, .int tsz])), (a_tby, .inl (E.2.1, 60, .inl tby)), (h_rowOfKeys, .inr (8, [.int (nI 30), .int (nI 1), .ref a_rowOfKeys, .int s_rowOfKeys])), (a_rowOfKeys, .inl (E.2.1, (30 * 1), .inl f_rowOfKeys)), (h_replays, .inr (3, [.ref h_places])), (h_places, .inr (8, [.int (nI 12), .int (nI 3), .ref a_places, .int s_places])), (a_places, .inl (E.2.1, (12 * 3), .inl f_places)), (h_rules, .inr (4, [.ref a_vals, .int now])), (a_vals, .inl (E.2.1, 8, .inl vals)), (h_ledger, .inr (1, [.ref h_rules, .ref h_book, .ref h_told, .ref h_written, .ref h_late, .ref a_sums, .ref a_asum])), (h_book, .inr (8, [.int (nI 40), .int (nI 3), .ref a_book, .int s_book_5])), (a_book, .inl (E.2.1, (40 * 3), .inl f_book_6)), (h_told, .inr (8, [.int (nI 60), .int (nI 1), .ref a_told, .int s_told])), (a_told, .inl (E.2.1, (60 * 1), .inl f_told)), (h_written, .inr (8, [.int (nI 40), .int (nI 2), .ref a_written, .int s_written])), (a_written, .inl (E.2.1, (40 * 2), .inl f_written)), (h_late, .inr (8, [.int (nI 60), .int (nI 1), .ref a_late, .int s_late])), (a_late, .inl (E.2.1, (60 * 1), .inl f_late)), (a_sums, .inl (E.2.1, 14, .inl o_4.2.1)), (a_asum, .inl (E.2.1, 64, .inl o_4.2.2)), (h_shelf, .inr (5, [.ref h_rules, .ref h_ledger, .ref h_entries, .ref h_cold, .ref h_sketch, .int uses, .int usesInWindow, .int entriesSoFar, .int dirtySoFar])), (h_entries, .inr (0, [.ref h_rules, .ref h_ents])), (h_ents, .inr (8, [.int (nI 200), .int (nI 9), .ref a_ents, .int s_ents_2])), (a_ents, .inl (E.2.1, (200 * 9), .inl f_ents_3)), (h_cold, .inr (0, [.ref h_rules, .ref h_colds])), (h_colds, .inr (8, [.int (nI 20), .int (nI 9), .ref a_colds, .int s_colds])), (a_colds, .inl (E.2.1, (20 * 9), .inl f_colds)), (h_sketch, .inr (6, [.ref a_cnt])), (a_cnt, .inl (E.2.1, 64, .inl cnt)), (h_loads, .inr (2, [.ref h_rules, .ref h_ledger, .ref h_line, .ref h_waits, .ref h_boxes])), (h_line, .inr (8, [.int (nI 256), .int (nI 3), .ref a_line, .int s_line])), (a_line, .inl (E.2.1, (256 * 3), .inl f_line)), (h_waits, .inr (8, [.int (nI 256), .int (nI 2), .ref a_waits, .int s_waits])), (a_waits, .inl (E.2.1, (256 * 2), .inl f_waits)), (h_boxes, .inr (8, [.int (nI 192), .int (nI 3), .ref a_boxes, .int s_boxes])), (a_boxes, .inl (E.2.1, (192 * 3), .inl f_boxes))] H locs := w.sub [0, 1, 2, 3, 4, 5, 6, 7, 18, 19, 20, 21, 22, 23, 24, 25, 26, 27, 28, 29, 30, 8, 9, 10, 11, 12, 13, 14, 15, 16, 17, 31, 32, 33, 34, 35, 36] (by decide) rfl
    refine lv_iconst (v := (-1)) hx hb dX11_hit_40 (by decide) ?_
    refine lv_icmp_ne (tgt := 52) hx hb dX11_hit_41 (by decide) (fun hc => ?_) (fun hc => ?_)
    · have hf := it_f hc hf
      exact j_X11_hit_52 B   hf ok_rowOfKeys ok_places ok_book ok_told ok_written ok_late ok_ents ok_colds ok_line ok_waits ok_boxes w (lv_sub hl [1, 0] rfl)
    · have hf := it_t hc hf
      refine lv_aload_n hx hb dX11_hit_44 rfl (lv_at hl 1 rfl) ?_
      refine mx_get B w 0 fl_X11_58 rfl rfl dX11_hit_45 ?_
      refine lv_iload_n hx hb dX11_hit_48 rfl (lv_at hl 3 rfl) ?_
      obtain ⟨o_10, hq, hf⟩ := bd_e hf
      refine mx_callV (As := [.int x2]) (rest := []) (wr := [(h, .inr (10, [.ref h_tape, .ref h_rowOfKeys, .ref h_replays, .ref h_at, .ref h_rules, .ref h_ledger, .ref h_shelf, .ref h_loads, kv])), (h_tape, .inr (9, [.ref a_tby, .int tsz])), (a_tby, .inl (E.2.1, 60, .inl tby)), (h_rowOfKeys, .inr (8, [.int (nI 30), .int (nI 1), .ref a_rowOfKeys, .int s_rowOfKeys])), (a_rowOfKeys, .inl (E.2.1, (30 * 1), .inl f_rowOfKeys)), (h_replays, .inr (3, [.ref h_places])), (h_places, .inr (8, [.int (nI 12), .int (nI 3), .ref a_places, .int s_places])), (a_places, .inl (E.2.1, (12 * 3), .inl f_places)), (h_shelf, .inr (5, [.ref h_rules, .ref h_ledger, .ref h_entries, .ref h_cold, .ref h_sketch, .int uses, .int usesInWindow, .int entriesSoFar, .int dirtySoFar])), (h_entries, .inr (0, [.ref h_rules, .ref h_ents])), (h_ents, .inr (8, [.int (nI 200), .int (nI 9), .ref a_ents, .int s_ents_2])), (a_ents, .inl (E.2.1, (200 * 9), .inl f_ents_3)), (h_cold, .inr (0, [.ref h_rules, .ref h_colds])), (h_colds, .inr (8, [.int (nI 20), .int (nI 9), .ref a_colds, .int s_colds])), (a_colds, .inl (E.2.1, (20 * 9), .inl f_colds)), (h_sketch, .inr (6, [.ref a_cnt])), (a_cnt, .inl (E.2.1, 64, .inl cnt))]) (d_X3_lineUp E l N h_loads h_rules a_vals h_ledger h_book a_book h_told a_told h_written a_written h_late a_late a_sums a_asum h_line a_line h_waits a_waits h_boxes a_boxes vals now o_4.1 told written late o_4.2.1 o_4.2.2 line waits boxes s_book_5 f_book_6 s_told f_told s_written f_written s_late f_late s_line f_line s_waits f_waits s_boxes f_boxes x2 ok_book ok_told ok_written ok_late ok_line ok_waits ok_boxes o_10 hq) B w [30, 8, 9, 10, 11, 12, 13, 14, 15, 16, 17, 18, 19, 20, 31, 32, 33, 34, 35, 36] [0, 1, 2, 3, 4, 5, 6, 7, 21, 22, 23, 24, 25, 26, 27, 28, 29] rfl rfl (by decide) (by decide) (by decide) 30 rfl rfl cv_X3_lineUp kw_616 1 (by decide +kernel) ⟨Nat.le_of_ble_eq_true rfl, Nat.le_of_ble_eq_true rfl⟩ rfl hl.1 rfl (Nat.le_of_ble_eq_true rfl) dX11_hit_49 rfl rfl ⟨Nat.zero_le _, Nat.zero_le _⟩ (fun v w' H locs hpo w => ?_)
      clear hq
      obtain ⟨s_book_11, f_book_12, s_told_13, f_told_14, s_line_15, f_line_16, ok_book, ok_told, ok_line, rfl, rfl⟩ := hpo
      have w : mW E A s [(h, .inr (10, [.ref h_tape, .ref h_rowOfKeys, .ref h_replays, .ref h_at, .ref h_rules, .ref h_ledger, .ref h_shelf, .ref h_loads, kv])), (h_tape, .inr (9, [.ref a_tby, .int tsz])), (a_tby, .inl (E.2.1, 60, .inl tby)), (h_rowOfKeys, .inr (8, [.int (nI 30), .int (nI 1), .ref a_rowOfKeys, .int s_rowOfKeys])), (a_rowOfKeys, .inl (E.2.1, (30 * 1), .inl f_rowOfKeys)), (h_replays, .inr (3, [.ref h_places])), (h_places, .inr (8, [.int (nI 12), .int (nI 3), .ref a_places, .int s_places])), (a_places, .inl (E.2.1, (12 * 3), .inl f_places)), (h_rules, .inr (4, [.ref a_vals, .int now])), (a_vals, .inl (E.2.1, 8, .inl vals)), (h_ledger, .inr (1, [.ref h_rules, .ref h_book, .ref h_told, .ref h_written, .ref h_late, .ref a_sums, .ref a_asum])), (h_book, .inr (8, [.int (nI 40), .int (nI 3), .ref a_book, .int s_book_11])), (a_book, .inl (E.2.1, (40 * 3), .inl f_book_12)), (h_told, .inr (8, [.int (nI 60), .int (nI 1), .ref a_told, .int s_told_13])), (a_told, .inl (E.2.1, (60 * 1), .inl f_told_14)), (h_written, .inr (8, [.int (nI 40), .int (nI 2), .ref a_written, .int s_written])), (a_written, .inl (E.2.1, (40 * 2), .inl f_written)), (h_late, .inr (8, [.int (nI 60), .int (nI 1), .ref a_late, .int s_late])), (a_late, .inl (E.2.1, (60 * 1), .inl f_late)), (a_sums, .inl (E.2.1, 14, .inl o_10.2.2.1)), (a_asum, .inl (E.2.1, 64, .inl o_4.2.2)), (h_shelf, .inr (5, [.ref h_rules, .ref h_ledger, .ref h_entries, .ref h_cold, .ref h_sketch, .int uses, .int usesInWindow, .int entriesSoFar, .int dirtySoFar])), (h_entries, .inr (0, [.ref h_rules, .ref h_ents])), (h_ents, .inr (8, [.int (nI 200), .int (nI 9), .ref a_ents, .int s_ents_2])), (a_ents, .inl (E.2.1, (200 * 9), .inl f_ents_3)), (h_cold, .inr (0, [.ref h_rules, .ref h_colds])), (h_colds, .inr (8, [.int (nI 20), .int (nI 9), .ref a_colds, .int s_colds])), (a_colds, .inl (E.2.1, (20 * 9), .inl f_colds)), (h_sketch, .inr (6, [.ref a_cnt])), (a_cnt, .inl (E.2.1, 64, .inl cnt)), (h_loads, .inr (2, [.ref h_rules, .ref h_ledger, .ref h_line, .ref h_waits, .ref h_boxes])), (h_line, .inr (8, [.int (nI 256), .int (nI 3), .ref a_line, .int s_line_15])), (a_line, .inl (E.2.1, (256 * 3), .inl f_line_16)), (h_waits, .inr (8, [.int (nI 256), .int (nI 2), .ref a_waits, .int s_waits])), (a_waits, .inl (E.2.1, (256 * 2), .inl f_waits)), (h_boxes, .inr (8, [.int (nI 192), .int (nI 3), .ref a_boxes, .int s_boxes])), (a_boxes, .inl (E.2.1, (192 * 3), .inl f_boxes))] H locs := w.sub [0, 1, 2, 3, 4, 5, 6, 7, 18, 19, 20, 21, 22, 23, 24, 25, 26, 27, 28, 29, 30, 8, 9, 10, 11, 12, 13, 14, 15, 16, 17, 31, 32, 33, 34, 35, 36] (by decide) rfl
      exact j_X11_hit_52 B   hf ok_rowOfKeys ok_places ok_book ok_told ok_written ok_late ok_ents ok_colds ok_line ok_waits ok_boxes w (lv_sub hl [1, 0] rfl)
-- X7_least
def po_X7_least (E : mE) (h : Nat) (a_cnt : Nat)  (cnt : Nat → Int32)  (o : Int32) : Option Value → va_W → Prop := (fun (v : Option Value) (w' : va_W) => v = some (.int o) ∧ w' = [(h, .inr (6, [.ref a_cnt])), (a_cnt, .inl (E.2.1, 64, .inl cnt))])
noncomputable def J_X7_least_59 (N : Nat)  (rec : Int32 → Int32 → Option (Int32)) (k65 : Int32 → Option (Int32)) (x2 : Int32) (x3 : Int32) (x4 : Int32) (cnt : Nat → Int32) : Option (Int32) :=
  lt (x4 + 1) (fun x4_3 =>
  rec x3 x4_3)
set_option maxHeartbeats 4000000 in
set_option maxRecDepth 100000 in
theorem j_X7_least_59 {E : mE} {l : Launch} {p : Program} {e : Env} {s : State} {m : MethodId} {args : Array Value} {below : List Frame} {meth : Method} {c : Code} {A : Nat → Prop} {Q : State → Prop} {N : Nat} {h : Nat} {a_cnt : Nat}  {cnt : Nat → Int32}  {o : Int32} (B : mB E yX7_least cX7_least 6 (some .int) 0 0 (po_X7_least E h a_cnt cnt o) p s m args below meth c A Q) {x2 : Int32} {x3 : Int32} {x4 : Int32}   (rec : Int32 → Int32 → Option (Int32)) (k65 : Int32 → Option (Int32)) (hrec : ∀ (x3 : Int32) (x4 : Int32)   (H : Heap) (locs : List Loc) (ls : Array Slot), rec x3 x4 = some o → mW E A s [(h, .inr (6, [.ref a_cnt])), (a_cnt, .inl (E.2.1, 64, .inl cnt))] H locs → lv_has ls 6 [(0, .ref h), (2, .int x2), (3, .int x3), (4, .int x4)] → W p l e ({ frames := 1, cells := 0, slots := 0, locals := 23 } : Room) s m args below meth c H locs 0 0 Q (F0 m 11 ls [])) (hk65 : ∀ (x3 : Int32)   (H : Heap) (locs : List Loc) (ls : Array Slot), k65 x3 = some o → mW E A s [(h, .inr (6, [.ref a_cnt])), (a_cnt, .inl (E.2.1, 64, .inl cnt))] H locs → lv_has ls 6 [(3, .int x3)] → W p l e ({ frames := 1, cells := 0, slots := 0, locals := 23 } : Room) s m args below meth c H locs 0 0 Q (F0 m 65 ls [])) {H : Heap} {locs : List Loc} {ls : Array Slot} (hf : J_X7_least_59 N rec k65 x2 x3 x4 cnt = some o)  (w : mW E A s [(h, .inr (6, [.ref a_cnt])), (a_cnt, .inl (E.2.1, 64, .inl cnt))] H locs) (hl : lv_has ls 6 [(0, .ref h), (2, .int x2), (3, .int x3), (4, .int x4)]) : W p l e ({ frames := 1, cells := 0, slots := 0, locals := 23 } : Room) s m args below meth c H locs 0 0 Q (F0 m 59 ls []) := by
  obtain ⟨hx, hb, hml, hown, hts⟩ := id B.1
  unfold J_X7_least_59 at hf
  obtain ⟨x4_3, ev⟩ : ∃ y : Int32, y = x4 + 1 := ⟨_, rfl⟩
  refine lv_iinc (v := x4_3) (lv' := [(4, .int x4_3), (0, .ref h), (2, .int x2), (3, .int x3)]) hx hb dX7_least_59 hl (k := 3) rfl (by rw [ev]; rfl) (by decide) rfl (fun ls hl => ?_)
  have hf := lt_n ev hf; clear ev
  refine lv_goto (tgt := 11) hx hb dX7_least_62 (by decide) ?_
  exact hrec _ _ _ _ _ hf  w (lv_sub hl [1, 2, 3, 0] rfl)
noncomputable def K_X7_least_11 (N : Nat)  (rec : Int32 → Int32 → Option (Int32)) (k65 : Int32 → Option (Int32)) (x2 : Int32) (cnt : Nat → Int32) (x3 : Int32) (x4 : Int32)  : Option (Int32) :=
  if (4 ≤ x4 : Prop) then
  k65 x3
  else
  bd (F_X7_placeOf x2 x4) (fun o_2 =>
  if (o_2 < 0 : Prop) then
  J_X7_least_59 N rec k65 x2 x3 x4 cnt
  else
  if ((nI 64) ≤ o_2 : Prop) then
  J_X7_least_59 N rec k65 x2 x3 x4 cnt
  else
  ld cnt 64 o_2 (fun v_4 =>
  if (x3 ≤ v_4 : Prop) then
  J_X7_least_59 N rec k65 x2 x3 x4 cnt
  else
  ld cnt 64 o_2 (fun v_5 =>
  J_X7_least_59 N rec k65 x2 v_5 x4 cnt)))
noncomputable def L_X7_least_11 (N : Nat)  (k65 : Int32 → Option (Int32)) (x2 : Int32) (cnt : Nat → Int32) (n : Nat) : Int32 → Int32 → Option (Int32) :=
  Nat.rec (motive := fun _ => Int32 → Int32 → Option (Int32)) (fun _ _ => none) (fun _ rec => K_X7_least_11 N rec k65 x2 cnt) n
set_option maxHeartbeats 4000000 in
set_option maxRecDepth 100000 in
theorem l_X7_least_11 {E : mE} {l : Launch} {p : Program} {e : Env} {s : State} {m : MethodId} {args : Array Value} {below : List Frame} {meth : Method} {c : Code} {A : Nat → Prop} {Q : State → Prop} {N : Nat} {h : Nat} {a_cnt : Nat}  {cnt : Nat → Int32}  {o : Int32} (B : mB E yX7_least cX7_least 6 (some .int) 0 0 (po_X7_least E h a_cnt cnt o) p s m args below meth c A Q)   {x2 : Int32} (k65 : Int32 → Option (Int32))  (hk65 : ∀ (x3 : Int32)   (H : Heap) (locs : List Loc) (ls : Array Slot), k65 x3 = some o → mW E A s [(h, .inr (6, [.ref a_cnt])), (a_cnt, .inl (E.2.1, 64, .inl cnt))] H locs → lv_has ls 6 [(3, .int x3)] → W p l e ({ frames := 1, cells := 0, slots := 0, locals := 23 } : Room) s m args below meth c H locs 0 0 Q (F0 m 65 ls [])) : ∀ n : Nat, ∀ (x3 : Int32) (x4 : Int32)   (H : Heap) (locs : List Loc) (ls : Array Slot), L_X7_least_11 N k65 x2 cnt n x3 x4 = some o → mW E A s [(h, .inr (6, [.ref a_cnt])), (a_cnt, .inl (E.2.1, 64, .inl cnt))] H locs → lv_has ls 6 [(0, .ref h), (2, .int x2), (3, .int x3), (4, .int x4)] → W p l e ({ frames := 1, cells := 0, slots := 0, locals := 23 } : Room) s m args below meth c H locs 0 0 Q (F0 m 11 ls []) := by
  obtain ⟨hx, hb, hml, hown, hts⟩ := id B.1
  intro n
  induction n with
  | zero =>
    intro x3 x4 H locs ls hf w hl
    exact nomatch hf
  | succ n hrec =>
    intro x3 x4 H locs ls hf w hl
    have hf : K_X7_least_11 N (L_X7_least_11 N k65 x2 cnt n) k65 x2 cnt x3 x4 = some o := hf
    unfold K_X7_least_11 at hf
    refine lv_iload hx hb dX7_least_11 (lv_at hl 3 rfl) ?_
    refine lv_iconst (v := 4) hx hb dX7_least_13 (by decide) ?_
    refine lv_icmp_ge (tgt := 65) hx hb dX7_least_14 (by decide) (fun hc => ?_) (fun hc => ?_)
    · have hf := it_t hc hf
      exact hk65 _ _ _ _ hf  w (lv_sub hl [2] rfl)
    · have hf := it_f hc hf
      refine lv_iload_n hx hb dX7_least_17 rfl (lv_at hl 1 rfl) ?_
      refine lv_iload hx hb dX7_least_18 (lv_at hl 3 rfl) ?_
      obtain ⟨o_2, hq, hf⟩ := bd_e hf
      refine mx_callS (As := [.int x2, .int x4]) (rest := []) (wr := [(h, .inr (6, [.ref a_cnt])), (a_cnt, .inl (E.2.1, 64, .inl cnt))]) (d_X7_placeOf E l   x2 x4  o_2 hq) B w [] [0, 1] rfl rfl (by decide) (by decide) (by decide) cs_X7_placeOf kw_579 2 (by decide +kernel) ⟨Nat.le_of_ble_eq_true rfl, Nat.le_of_ble_eq_true rfl⟩ rfl hl.1 rfl (Nat.le_of_ble_eq_true rfl) dX7_least_20 rfl rfl ⟨Nat.zero_le _, Nat.zero_le _⟩ (fun v w' H locs hpo w => ?_)
      clear hq
      obtain ⟨rfl, rfl⟩ := hpo
      have w : mW E A s [(h, .inr (6, [.ref a_cnt])), (a_cnt, .inl (E.2.1, 64, .inl cnt))] H locs := w
      refine lv_istore (lv' := [(5, .int o_2), (0, .ref h), (2, .int x2), (3, .int x3), (4, .int x4)]) hx hb dX7_least_23 hl (by decide) rfl (fun ls hl => ?_)
      refine lv_iload hx hb dX7_least_25 (lv_at hl 0 rfl) ?_
      refine lv_if_lt (tgt := 59) hx hb dX7_least_27 (by decide) (fun hc => ?_) (fun hc => ?_)
      · have hf := it_t hc hf
        exact j_X7_least_59 B _ _ hrec hk65 hf  w (lv_sub hl [1, 2, 3, 4] rfl)
      · have hf := it_f hc hf
        refine lv_iload hx hb dX7_least_30 (lv_at hl 0 rfl) ?_
        refine lv_aload_n hx hb dX7_least_32 rfl (lv_at hl 1 rfl) ?_
        refine mx_get B w 0 fl_X7_9 rfl rfl dX7_least_33 ?_
        refine mx_alen B w 1 rfl dX7_least_36 ?_
        refine lv_icmp_ge (tgt := 59) hx hb dX7_least_37 (by decide) (fun hc => ?_) (fun hc => ?_)
        · have hf := it_t hc hf
          exact j_X7_least_59 B _ _ hrec hk65 hf  w (lv_sub hl [1, 2, 3, 4] rfl)
        · have hf := it_f hc hf
          refine lv_aload_n hx hb dX7_least_40 rfl (lv_at hl 1 rfl) ?_
          refine mx_get B w 0 fl_X7_9 rfl rfl dX7_least_41 ?_
          refine lv_iload hx hb dX7_least_44 (lv_at hl 0 rfl) ?_
          obtain ⟨hin, hf⟩ := ld_e hf
          refine mx_iald B w 1 rfl hin dX7_least_46 (fun v_4 ev => ?_)
          have hf := hf _ ev; clear ev
          refine lv_iload_n hx hb dX7_least_47 rfl (lv_at hl 3 rfl) ?_
          refine lv_icmp_ge (tgt := 59) hx hb dX7_least_48 (by decide) (fun hc => ?_) (fun hc => ?_)
          · have hf := it_t hc hf
            exact j_X7_least_59 B _ _ hrec hk65 hf  w (lv_sub hl [1, 2, 3, 4] rfl)
          · have hf := it_f hc hf
            refine lv_aload_n hx hb dX7_least_51 rfl (lv_at hl 1 rfl) ?_
            refine mx_get B w 0 fl_X7_9 rfl rfl dX7_least_52 ?_
            refine lv_iload hx hb dX7_least_55 (lv_at hl 0 rfl) ?_
            obtain ⟨hin, hf⟩ := ld_e hf
            refine mx_iald B w 1 rfl hin dX7_least_57 (fun v_5 ev => ?_)
            have hf := hf _ ev; clear ev
            refine lv_istore_n (lv' := [(3, .int v_5), (5, .int o_2), (0, .ref h), (2, .int x2), (4, .int x4)]) hx hb dX7_least_58 rfl hl (by decide) rfl (fun ls hl => ?_)
            exact j_X7_least_59 B _ _ hrec hk65 hf  w (lv_sub hl [2, 3, 0, 4] rfl)
noncomputable def F_X7_least (N : Nat)  (cnt : Nat → Int32) (x1 : Int32) : Option (Int32) :=
  bd (F_X1_number N x1) (fun o_1 =>
  L_X7_least_11 N (fun x3 => some (x3)) o_1 cnt N 15 0)
set_option maxHeartbeats 4000000 in
set_option maxRecDepth 100000 in
theorem d_X7_least (E : mE) (l : Launch) (N : Nat) (h : Nat) (a_cnt : Nat)  (cnt : Nat → Int32)  (x1 : Int32)  (o : Int32) (hf : F_X7_least N cnt x1 = some o) : MX E l yX7_least cX7_least 6 (some .int) ({ frames := 1, cells := 0, slots := 0, locals := 23 } : Room) [.ref h, .int x1] [(h, .inr (6, [.ref a_cnt])), (a_cnt, .inl (E.2.1, 64, .inl cnt))] (po_X7_least E h a_cnt cnt o) := by
  refine mx_intro (by decide +kernel) (Nat.le_of_ble_eq_true rfl) ?_
  intro p e s m args below meth c A Q ls B w hl
  obtain ⟨hx, hb, hml, hown, hts⟩ := id B.1
  unfold F_X7_least at hf
  have hl : lv_has ls 6 [(0, .ref h), (1, .int x1)] := hl
  refine lv_iload_n hx hb dX7_least_0 rfl (lv_at hl 1 rfl) ?_
  obtain ⟨o_1, hq, hf⟩ := bd_e hf
  refine mx_callS (As := [.int x1]) (rest := []) (wr := [(h, .inr (6, [.ref a_cnt])), (a_cnt, .inl (E.2.1, 64, .inl cnt))]) (d_X1_number E l N  x1  o_1 hq) B w [] [0, 1] rfl rfl (by decide) (by decide) (by decide) cs_X1_number kw_578 1 (by decide +kernel) ⟨Nat.le_of_ble_eq_true rfl, Nat.le_of_ble_eq_true rfl⟩ rfl hl.1 rfl (Nat.le_of_ble_eq_true rfl) dX7_least_1 rfl rfl ⟨Nat.zero_le _, Nat.zero_le _⟩ (fun v w' H locs hpo w => ?_)
  clear hq
  obtain ⟨rfl, rfl⟩ := hpo
  have w : mW E A s [(h, .inr (6, [.ref a_cnt])), (a_cnt, .inl (E.2.1, 64, .inl cnt))] H locs := w
  refine lv_istore_n (lv' := [(2, .int o_1), (0, .ref h), (1, .int x1)]) hx hb dX7_least_4 rfl hl (by decide) rfl (fun ls hl => ?_)
  refine lv_bipush (v := 15) hx hb dX7_least_5 (by decide) ?_
  refine lv_istore_n (lv' := [(3, .int 15), (2, .int o_1), (0, .ref h), (1, .int x1)]) hx hb dX7_least_7 rfl hl (by decide) rfl (fun ls hl => ?_)
  refine lv_iconst (v := 0) hx hb dX7_least_8 (by decide) ?_
  refine lv_istore (lv' := [(4, .int 0), (3, .int 15), (2, .int o_1), (0, .ref h), (1, .int x1)]) hx hb dX7_least_9 hl (by decide) rfl (fun ls hl => ?_)
  refine l_X7_least_11 B _  ?_ N _ _ _ _ _ hf  w (lv_sub hl [3, 2, 1, 0] rfl)
  · intro x3 H locs ls hf w hl
    refine lv_iload_n hx hb dX7_least_65 rfl (lv_at hl 0 rfl) ?_
    cases hf
    exact mx_iret B w ⟨rfl, rfl⟩ dX7_least_66
-- X6_mayComeIn
def po_X6_mayComeIn (E : mE) (h : Nat) (h_rules : Nat) (a_vals : Nat) (h_ledger : Nat) (h_book : Nat) (a_book : Nat) (h_told : Nat) (a_told : Nat) (h_written : Nat) (a_written : Nat) (h_late : Nat) (a_late : Nat) (a_sums : Nat) (a_asum : Nat) (h_entries : Nat) (h_ents : Nat) (a_ents : Nat) (h_cold : Nat) (h_colds : Nat) (a_colds : Nat) (h_sketch : Nat) (a_cnt : Nat)  (vals : Nat → Int32) (now : Int32) (book : Rows) (told : Rows) (written : Rows) (late : Rows) (sums : Nat → Int32) (asum : Nat → Int32) (ents : Rows) (colds : Rows) (cnt : Nat → Int32) (uses : Int32) (usesInWindow : Int32) (entriesSoFar : Int32) (dirtySoFar : Int32) (s_book : Int32) (f_book : Nat → Int32) (s_told : Int32) (f_told : Nat → Int32) (s_written : Int32) (f_written : Nat → Int32) (s_late : Int32) (f_late : Nat → Int32) (s_ents : Int32) (f_ents : Nat → Int32) (s_colds : Int32) (f_colds : Nat → Int32) (o : Int32) : Option Value → va_W → Prop := (fun (v : Option Value) (w' : va_W) => v = some (.int o) ∧ w' = [(h, .inr (5, [.ref h_rules, .ref h_ledger, .ref h_entries, .ref h_cold, .ref h_sketch, .int uses, .int usesInWindow, .int entriesSoFar, .int dirtySoFar])), (h_rules, .inr (4, [.ref a_vals, .int now])), (a_vals, .inl (E.2.1, 8, .inl vals)), (h_ledger, .inr (1, [.ref h_rules, .ref h_book, .ref h_told, .ref h_written, .ref h_late, .ref a_sums, .ref a_asum])), (h_book, .inr (8, [.int (nI 40), .int (nI 3), .ref a_book, .int s_book])), (a_book, .inl (E.2.1, (40 * 3), .inl f_book)), (h_told, .inr (8, [.int (nI 60), .int (nI 1), .ref a_told, .int s_told])), (a_told, .inl (E.2.1, (60 * 1), .inl f_told)), (h_written, .inr (8, [.int (nI 40), .int (nI 2), .ref a_written, .int s_written])), (a_written, .inl (E.2.1, (40 * 2), .inl f_written)), (h_late, .inr (8, [.int (nI 60), .int (nI 1), .ref a_late, .int s_late])), (a_late, .inl (E.2.1, (60 * 1), .inl f_late)), (a_sums, .inl (E.2.1, 14, .inl sums)), (a_asum, .inl (E.2.1, 64, .inl asum)), (h_entries, .inr (0, [.ref h_rules, .ref h_ents])), (h_ents, .inr (8, [.int (nI 200), .int (nI 9), .ref a_ents, .int s_ents])), (a_ents, .inl (E.2.1, (200 * 9), .inl f_ents)), (h_cold, .inr (0, [.ref h_rules, .ref h_colds])), (h_colds, .inr (8, [.int (nI 20), .int (nI 9), .ref a_colds, .int s_colds])), (a_colds, .inl (E.2.1, (20 * 9), .inl f_colds)), (h_sketch, .inr (6, [.ref a_cnt])), (a_cnt, .inl (E.2.1, 64, .inl cnt))])
noncomputable def F_X6_mayComeIn (N : Nat)  (vals : Nat → Int32) (now : Int32) (ents : Rows) (cnt : Nat → Int32) (x1 : Int32) (x2 : Int32) : Option (Int32) :=
  bd (F_X5_value vals 0) (fun o_1 =>
  if (x2 ≤ o_1 : Prop) then
  bd (F_X5_value vals 5) (fun o_2 =>
  if (o_2 = 0 : Prop) then
  some (1)
  else
  bd (F_X0_weight N 200 ents) (fun o_3 =>
  if (o_1 < (o_3 + x2) : Prop) then
  bd (F_X0_nextToGo N 200 vals now ents ((-1)) 0) (fun o_4 =>
  bd (F_X0_isStale 200 vals now ents o_4) (fun o_5 =>
  if (o_5 = 0 : Prop) then
  bd (F_X0_get 200 ents o_4 3) (fun o_6 =>
  bd (F_X7_least N cnt x1) (fun o_7 =>
  if (o_7 ≤ o_6 : Prop) then
  some (0)
  else
  some (1)))
  else
  some (1)))
  else
  some (1)))
  else
  some (0))
set_option maxHeartbeats 4000000 in
set_option maxRecDepth 100000 in
theorem d_X6_mayComeIn (E : mE) (l : Launch) (N : Nat) (h : Nat) (h_rules : Nat) (a_vals : Nat) (h_ledger : Nat) (h_book : Nat) (a_book : Nat) (h_told : Nat) (a_told : Nat) (h_written : Nat) (a_written : Nat) (h_late : Nat) (a_late : Nat) (a_sums : Nat) (a_asum : Nat) (h_entries : Nat) (h_ents : Nat) (a_ents : Nat) (h_cold : Nat) (h_colds : Nat) (a_colds : Nat) (h_sketch : Nat) (a_cnt : Nat)  (vals : Nat → Int32) (now : Int32) (book : Rows) (told : Rows) (written : Rows) (late : Rows) (sums : Nat → Int32) (asum : Nat → Int32) (ents : Rows) (colds : Rows) (cnt : Nat → Int32) (uses : Int32) (usesInWindow : Int32) (entriesSoFar : Int32) (dirtySoFar : Int32) (s_book : Int32) (f_book : Nat → Int32) (s_told : Int32) (f_told : Nat → Int32) (s_written : Int32) (f_written : Nat → Int32) (s_late : Int32) (f_late : Nat → Int32) (s_ents : Int32) (f_ents : Nat → Int32) (s_colds : Int32) (f_colds : Nat → Int32) (x1 : Int32) (x2 : Int32) (ok_book : tb_ok 40 3 book s_book f_book) (ok_told : tb_ok 60 1 told s_told f_told) (ok_written : tb_ok 40 2 written s_written f_written) (ok_late : tb_ok 60 1 late s_late f_late) (ok_ents : tb_ok 200 9 ents s_ents f_ents) (ok_colds : tb_ok 20 9 colds s_colds f_colds) (o : Int32) (hf : F_X6_mayComeIn N vals now ents cnt x1 x2 = some o) : MX E l yX6_mayComeIn cX6_mayComeIn 5 (some .boolean) ({ frames := 4, cells := 0, slots := 0, locals := 95 } : Room) [.ref h, .int x1, .int x2] [(h, .inr (5, [.ref h_rules, .ref h_ledger, .ref h_entries, .ref h_cold, .ref h_sketch, .int uses, .int usesInWindow, .int entriesSoFar, .int dirtySoFar])), (h_rules, .inr (4, [.ref a_vals, .int now])), (a_vals, .inl (E.2.1, 8, .inl vals)), (h_ledger, .inr (1, [.ref h_rules, .ref h_book, .ref h_told, .ref h_written, .ref h_late, .ref a_sums, .ref a_asum])), (h_book, .inr (8, [.int (nI 40), .int (nI 3), .ref a_book, .int s_book])), (a_book, .inl (E.2.1, (40 * 3), .inl f_book)), (h_told, .inr (8, [.int (nI 60), .int (nI 1), .ref a_told, .int s_told])), (a_told, .inl (E.2.1, (60 * 1), .inl f_told)), (h_written, .inr (8, [.int (nI 40), .int (nI 2), .ref a_written, .int s_written])), (a_written, .inl (E.2.1, (40 * 2), .inl f_written)), (h_late, .inr (8, [.int (nI 60), .int (nI 1), .ref a_late, .int s_late])), (a_late, .inl (E.2.1, (60 * 1), .inl f_late)), (a_sums, .inl (E.2.1, 14, .inl sums)), (a_asum, .inl (E.2.1, 64, .inl asum)), (h_entries, .inr (0, [.ref h_rules, .ref h_ents])), (h_ents, .inr (8, [.int (nI 200), .int (nI 9), .ref a_ents, .int s_ents])), (a_ents, .inl (E.2.1, (200 * 9), .inl f_ents)), (h_cold, .inr (0, [.ref h_rules, .ref h_colds])), (h_colds, .inr (8, [.int (nI 20), .int (nI 9), .ref a_colds, .int s_colds])), (a_colds, .inl (E.2.1, (20 * 9), .inl f_colds)), (h_sketch, .inr (6, [.ref a_cnt])), (a_cnt, .inl (E.2.1, 64, .inl cnt))] (po_X6_mayComeIn E h h_rules a_vals h_ledger h_book a_book h_told a_told h_written a_written h_late a_late a_sums a_asum h_entries h_ents a_ents h_cold h_colds a_colds h_sketch a_cnt vals now book told written late sums asum ents colds cnt uses usesInWindow entriesSoFar dirtySoFar s_book f_book s_told f_told s_written f_written s_late f_late s_ents f_ents s_colds f_colds o) := by
  refine mx_intro (by decide +kernel) (Nat.le_of_ble_eq_true rfl) ?_
  intro p e s m args below meth c A Q ls B w hl
  obtain ⟨hx, hb, hml, hown, hts⟩ := id B.1
  unfold F_X6_mayComeIn at hf
  have hl : lv_has ls 5 [(0, .ref h), (1, .int x1), (2, .int x2)] := hl
  refine lv_aload_n hx hb dX6_mayComeIn_0 rfl (lv_at hl 0 rfl) ?_
  refine mx_get B w 0 fl_X6_9 rfl rfl dX6_mayComeIn_1 ?_
  refine lv_iconst (v := 0) hx hb dX6_mayComeIn_4 (by decide) ?_
  obtain ⟨o_1, hq, hf⟩ := bd_e hf
  refine mx_callV (As := [.int 0]) (rest := []) (wr := [(h, .inr (5, [.ref h_rules, .ref h_ledger, .ref h_entries, .ref h_cold, .ref h_sketch, .int uses, .int usesInWindow, .int entriesSoFar, .int dirtySoFar])), (h_ledger, .inr (1, [.ref h_rules, .ref h_book, .ref h_told, .ref h_written, .ref h_late, .ref a_sums, .ref a_asum])), (h_book, .inr (8, [.int (nI 40), .int (nI 3), .ref a_book, .int s_book])), (a_book, .inl (E.2.1, (40 * 3), .inl f_book)), (h_told, .inr (8, [.int (nI 60), .int (nI 1), .ref a_told, .int s_told])), (a_told, .inl (E.2.1, (60 * 1), .inl f_told)), (h_written, .inr (8, [.int (nI 40), .int (nI 2), .ref a_written, .int s_written])), (a_written, .inl (E.2.1, (40 * 2), .inl f_written)), (h_late, .inr (8, [.int (nI 60), .int (nI 1), .ref a_late, .int s_late])), (a_late, .inl (E.2.1, (60 * 1), .inl f_late)), (a_sums, .inl (E.2.1, 14, .inl sums)), (a_asum, .inl (E.2.1, 64, .inl asum)), (h_entries, .inr (0, [.ref h_rules, .ref h_ents])), (h_ents, .inr (8, [.int (nI 200), .int (nI 9), .ref a_ents, .int s_ents])), (a_ents, .inl (E.2.1, (200 * 9), .inl f_ents)), (h_cold, .inr (0, [.ref h_rules, .ref h_colds])), (h_colds, .inr (8, [.int (nI 20), .int (nI 9), .ref a_colds, .int s_colds])), (a_colds, .inl (E.2.1, (20 * 9), .inl f_colds)), (h_sketch, .inr (6, [.ref a_cnt])), (a_cnt, .inl (E.2.1, 64, .inl cnt))]) (d_X5_value E l  h_rules a_vals vals now 0  o_1 hq) B w [1, 2] [0, 3, 4, 5, 6, 7, 8, 9, 10, 11, 12, 13, 14, 15, 16, 17, 18, 19, 20, 21] rfl rfl (by decide) (by decide) (by decide) 1 rfl rfl cv_X5_value kw_413 1 (by decide +kernel) ⟨Nat.le_of_ble_eq_true rfl, Nat.le_of_ble_eq_true rfl⟩ rfl hl.1 rfl (Nat.le_of_ble_eq_true rfl) dX6_mayComeIn_5 rfl rfl ⟨Nat.zero_le _, Nat.zero_le _⟩ (fun v w' H locs hpo w => ?_)
  clear hq
  obtain ⟨rfl, rfl⟩ := hpo
  have w : mW E A s [(h, .inr (5, [.ref h_rules, .ref h_ledger, .ref h_entries, .ref h_cold, .ref h_sketch, .int uses, .int usesInWindow, .int entriesSoFar, .int dirtySoFar])), (h_rules, .inr (4, [.ref a_vals, .int now])), (a_vals, .inl (E.2.1, 8, .inl vals)), (h_ledger, .inr (1, [.ref h_rules, .ref h_book, .ref h_told, .ref h_written, .ref h_late, .ref a_sums, .ref a_asum])), (h_book, .inr (8, [.int (nI 40), .int (nI 3), .ref a_book, .int s_book])), (a_book, .inl (E.2.1, (40 * 3), .inl f_book)), (h_told, .inr (8, [.int (nI 60), .int (nI 1), .ref a_told, .int s_told])), (a_told, .inl (E.2.1, (60 * 1), .inl f_told)), (h_written, .inr (8, [.int (nI 40), .int (nI 2), .ref a_written, .int s_written])), (a_written, .inl (E.2.1, (40 * 2), .inl f_written)), (h_late, .inr (8, [.int (nI 60), .int (nI 1), .ref a_late, .int s_late])), (a_late, .inl (E.2.1, (60 * 1), .inl f_late)), (a_sums, .inl (E.2.1, 14, .inl sums)), (a_asum, .inl (E.2.1, 64, .inl asum)), (h_entries, .inr (0, [.ref h_rules, .ref h_ents])), (h_ents, .inr (8, [.int (nI 200), .int (nI 9), .ref a_ents, .int s_ents])), (a_ents, .inl (E.2.1, (200 * 9), .inl f_ents)), (h_cold, .inr (0, [.ref h_rules, .ref h_colds])), (h_colds, .inr (8, [.int (nI 20), .int (nI 9), .ref a_colds, .int s_colds])), (a_colds, .inl (E.2.1, (20 * 9), .inl f_colds)), (h_sketch, .inr (6, [.ref a_cnt])), (a_cnt, .inl (E.2.1, 64, .inl cnt))] H locs := w.sub [0, 20, 21, 1, 2, 3, 4, 5, 6, 7, 8, 9, 10, 11, 12, 13, 14, 15, 16, 17, 18, 19] (by decide) rfl
  refine lv_istore_n (lv' := [(3, .int o_1), (0, .ref h), (1, .int x1), (2, .int x2)]) hx hb dX6_mayComeIn_8 rfl hl (by decide) rfl (fun ls hl => ?_)
  refine lv_iload_n hx hb dX6_mayComeIn_9 rfl (lv_at hl 3 rfl) ?_
  refine lv_iload_n hx hb dX6_mayComeIn_10 rfl (lv_at hl 0 rfl) ?_
  refine lv_icmp_le (tgt := 16) hx hb dX6_mayComeIn_11 (by decide) (fun hc => ?_) (fun hc => ?_)
  · have hf := it_t hc hf
    refine lv_aload_n hx hb dX6_mayComeIn_16 rfl (lv_at hl 1 rfl) ?_
    refine mx_get B w 0 fl_X6_9 rfl rfl dX6_mayComeIn_17 ?_
    refine lv_iconst (v := 5) hx hb dX6_mayComeIn_20 (by decide) ?_
    obtain ⟨o_2, hq, hf⟩ := bd_e hf
    refine mx_callV (As := [.int 5]) (rest := []) (wr := [(h, .inr (5, [.ref h_rules, .ref h_ledger, .ref h_entries, .ref h_cold, .ref h_sketch, .int uses, .int usesInWindow, .int entriesSoFar, .int dirtySoFar])), (h_ledger, .inr (1, [.ref h_rules, .ref h_book, .ref h_told, .ref h_written, .ref h_late, .ref a_sums, .ref a_asum])), (h_book, .inr (8, [.int (nI 40), .int (nI 3), .ref a_book, .int s_book])), (a_book, .inl (E.2.1, (40 * 3), .inl f_book)), (h_told, .inr (8, [.int (nI 60), .int (nI 1), .ref a_told, .int s_told])), (a_told, .inl (E.2.1, (60 * 1), .inl f_told)), (h_written, .inr (8, [.int (nI 40), .int (nI 2), .ref a_written, .int s_written])), (a_written, .inl (E.2.1, (40 * 2), .inl f_written)), (h_late, .inr (8, [.int (nI 60), .int (nI 1), .ref a_late, .int s_late])), (a_late, .inl (E.2.1, (60 * 1), .inl f_late)), (a_sums, .inl (E.2.1, 14, .inl sums)), (a_asum, .inl (E.2.1, 64, .inl asum)), (h_entries, .inr (0, [.ref h_rules, .ref h_ents])), (h_ents, .inr (8, [.int (nI 200), .int (nI 9), .ref a_ents, .int s_ents])), (a_ents, .inl (E.2.1, (200 * 9), .inl f_ents)), (h_cold, .inr (0, [.ref h_rules, .ref h_colds])), (h_colds, .inr (8, [.int (nI 20), .int (nI 9), .ref a_colds, .int s_colds])), (a_colds, .inl (E.2.1, (20 * 9), .inl f_colds)), (h_sketch, .inr (6, [.ref a_cnt])), (a_cnt, .inl (E.2.1, 64, .inl cnt))]) (d_X5_value E l  h_rules a_vals vals now 5  o_2 hq) B w [1, 2] [0, 3, 4, 5, 6, 7, 8, 9, 10, 11, 12, 13, 14, 15, 16, 17, 18, 19, 20, 21] rfl rfl (by decide) (by decide) (by decide) 1 rfl rfl cv_X5_value kw_413 1 (by decide +kernel) ⟨Nat.le_of_ble_eq_true rfl, Nat.le_of_ble_eq_true rfl⟩ rfl hl.1 rfl (Nat.le_of_ble_eq_true rfl) dX6_mayComeIn_21 rfl rfl ⟨Nat.zero_le _, Nat.zero_le _⟩ (fun v w' H locs hpo w => ?_)
    clear hq
    obtain ⟨rfl, rfl⟩ := hpo
    have w : mW E A s [(h, .inr (5, [.ref h_rules, .ref h_ledger, .ref h_entries, .ref h_cold, .ref h_sketch, .int uses, .int usesInWindow, .int entriesSoFar, .int dirtySoFar])), (h_rules, .inr (4, [.ref a_vals, .int now])), (a_vals, .inl (E.2.1, 8, .inl vals)), (h_ledger, .inr (1, [.ref h_rules, .ref h_book, .ref h_told, .ref h_written, .ref h_late, .ref a_sums, .ref a_asum])), (h_book, .inr (8, [.int (nI 40), .int (nI 3), .ref a_book, .int s_book])), (a_book, .inl (E.2.1, (40 * 3), .inl f_book)), (h_told, .inr (8, [.int (nI 60), .int (nI 1), .ref a_told, .int s_told])), (a_told, .inl (E.2.1, (60 * 1), .inl f_told)), (h_written, .inr (8, [.int (nI 40), .int (nI 2), .ref a_written, .int s_written])), (a_written, .inl (E.2.1, (40 * 2), .inl f_written)), (h_late, .inr (8, [.int (nI 60), .int (nI 1), .ref a_late, .int s_late])), (a_late, .inl (E.2.1, (60 * 1), .inl f_late)), (a_sums, .inl (E.2.1, 14, .inl sums)), (a_asum, .inl (E.2.1, 64, .inl asum)), (h_entries, .inr (0, [.ref h_rules, .ref h_ents])), (h_ents, .inr (8, [.int (nI 200), .int (nI 9), .ref a_ents, .int s_ents])), (a_ents, .inl (E.2.1, (200 * 9), .inl f_ents)), (h_cold, .inr (0, [.ref h_rules, .ref h_colds])), (h_colds, .inr (8, [.int (nI 20), .int (nI 9), .ref a_colds, .int s_colds])), (a_colds, .inl (E.2.1, (20 * 9), .inl f_colds)), (h_sketch, .inr (6, [.ref a_cnt])), (a_cnt, .inl (E.2.1, 64, .inl cnt))] H locs := w.sub [0, 20, 21, 1, 2, 3, 4, 5, 6, 7, 8, 9, 10, 11, 12, 13, 14, 15, 16, 17, 18, 19] (by decide) rfl
    refine lv_if_eq (tgt := 40) hx hb dX6_mayComeIn_24 (by decide) (fun hc => ?_) (fun hc => ?_)
    · have hf := it_t hc hf
      refine lv_iconst (v := 1) hx hb dX6_mayComeIn_40 (by decide) ?_
      cases hf
      exact mx_zret B w rfl ⟨rfl, rfl⟩ dX6_mayComeIn_41
    · have hf := it_f hc hf
      refine lv_aload_n hx hb dX6_mayComeIn_27 rfl (lv_at hl 1 rfl) ?_
      refine mx_get B w 0 fl_X6_24 rfl rfl dX6_mayComeIn_28 ?_
      obtain ⟨o_3, hq, hf⟩ := bd_e hf
      refine mx_callV (As := []) (rest := []) (wr := [(h, .inr (5, [.ref h_rules, .ref h_ledger, .ref h_entries, .ref h_cold, .ref h_sketch, .int uses, .int usesInWindow, .int entriesSoFar, .int dirtySoFar])), (h_ledger, .inr (1, [.ref h_rules, .ref h_book, .ref h_told, .ref h_written, .ref h_late, .ref a_sums, .ref a_asum])), (h_book, .inr (8, [.int (nI 40), .int (nI 3), .ref a_book, .int s_book])), (a_book, .inl (E.2.1, (40 * 3), .inl f_book)), (h_told, .inr (8, [.int (nI 60), .int (nI 1), .ref a_told, .int s_told])), (a_told, .inl (E.2.1, (60 * 1), .inl f_told)), (h_written, .inr (8, [.int (nI 40), .int (nI 2), .ref a_written, .int s_written])), (a_written, .inl (E.2.1, (40 * 2), .inl f_written)), (h_late, .inr (8, [.int (nI 60), .int (nI 1), .ref a_late, .int s_late])), (a_late, .inl (E.2.1, (60 * 1), .inl f_late)), (a_sums, .inl (E.2.1, 14, .inl sums)), (a_asum, .inl (E.2.1, 64, .inl asum)), (h_cold, .inr (0, [.ref h_rules, .ref h_colds])), (h_colds, .inr (8, [.int (nI 20), .int (nI 9), .ref a_colds, .int s_colds])), (a_colds, .inl (E.2.1, (20 * 9), .inl f_colds)), (h_sketch, .inr (6, [.ref a_cnt])), (a_cnt, .inl (E.2.1, 64, .inl cnt))]) (d_X0_weight E l N h_entries h_rules a_vals h_ents a_ents 200 vals now ents s_ents f_ents  ok_ents o_3 hq) B w [14, 1, 2, 15, 16] [0, 3, 4, 5, 6, 7, 8, 9, 10, 11, 12, 13, 17, 18, 19, 20, 21] rfl rfl (by decide) (by decide) (by decide) 14 rfl rfl cv_X0_weight kw_364 0 (by decide +kernel) ⟨Nat.le_of_ble_eq_true rfl, Nat.le_of_ble_eq_true rfl⟩ rfl hl.1 rfl (Nat.le_of_ble_eq_true rfl) dX6_mayComeIn_31 rfl rfl ⟨Nat.zero_le _, Nat.zero_le _⟩ (fun v w' H locs hpo w => ?_)
      clear hq
      obtain ⟨rfl, rfl⟩ := hpo
      have w : mW E A s [(h, .inr (5, [.ref h_rules, .ref h_ledger, .ref h_entries, .ref h_cold, .ref h_sketch, .int uses, .int usesInWindow, .int entriesSoFar, .int dirtySoFar])), (h_rules, .inr (4, [.ref a_vals, .int now])), (a_vals, .inl (E.2.1, 8, .inl vals)), (h_ledger, .inr (1, [.ref h_rules, .ref h_book, .ref h_told, .ref h_written, .ref h_late, .ref a_sums, .ref a_asum])), (h_book, .inr (8, [.int (nI 40), .int (nI 3), .ref a_book, .int s_book])), (a_book, .inl (E.2.1, (40 * 3), .inl f_book)), (h_told, .inr (8, [.int (nI 60), .int (nI 1), .ref a_told, .int s_told])), (a_told, .inl (E.2.1, (60 * 1), .inl f_told)), (h_written, .inr (8, [.int (nI 40), .int (nI 2), .ref a_written, .int s_written])), (a_written, .inl (E.2.1, (40 * 2), .inl f_written)), (h_late, .inr (8, [.int (nI 60), .int (nI 1), .ref a_late, .int s_late])), (a_late, .inl (E.2.1, (60 * 1), .inl f_late)), (a_sums, .inl (E.2.1, 14, .inl sums)), (a_asum, .inl (E.2.1, 64, .inl asum)), (h_entries, .inr (0, [.ref h_rules, .ref h_ents])), (h_ents, .inr (8, [.int (nI 200), .int (nI 9), .ref a_ents, .int s_ents])), (a_ents, .inl (E.2.1, (200 * 9), .inl f_ents)), (h_cold, .inr (0, [.ref h_rules, .ref h_colds])), (h_colds, .inr (8, [.int (nI 20), .int (nI 9), .ref a_colds, .int s_colds])), (a_colds, .inl (E.2.1, (20 * 9), .inl f_colds)), (h_sketch, .inr (6, [.ref a_cnt])), (a_cnt, .inl (E.2.1, 64, .inl cnt))] H locs := w.sub [0, 18, 19, 1, 2, 3, 4, 5, 6, 7, 8, 9, 10, 11, 17, 20, 21, 12, 13, 14, 15, 16] (by decide) rfl
      refine lv_iload_n hx hb dX6_mayComeIn_34 rfl (lv_at hl 3 rfl) ?_
      refine lv_iadd hx hb dX6_mayComeIn_35 ?_
      refine lv_iload_n hx hb dX6_mayComeIn_36 rfl (lv_at hl 0 rfl) ?_
      refine lv_icmp_gt (tgt := 42) hx hb dX6_mayComeIn_37 (by decide) (fun hc => ?_) (fun hc => ?_)
      · have hf := it_t hc hf
        refine lv_aload_n hx hb dX6_mayComeIn_42 rfl (lv_at hl 1 rfl) ?_
        refine mx_get B w 0 fl_X6_24 rfl rfl dX6_mayComeIn_43 ?_
        refine lv_iconst (v := (-1)) hx hb dX6_mayComeIn_46 (by decide) ?_
        refine lv_iconst (v := 0) hx hb dX6_mayComeIn_47 (by decide) ?_
        obtain ⟨o_4, hq, hf⟩ := bd_e hf
        refine mx_callV (As := [.int ((-1)), .int 0]) (rest := []) (wr := [(h, .inr (5, [.ref h_rules, .ref h_ledger, .ref h_entries, .ref h_cold, .ref h_sketch, .int uses, .int usesInWindow, .int entriesSoFar, .int dirtySoFar])), (h_ledger, .inr (1, [.ref h_rules, .ref h_book, .ref h_told, .ref h_written, .ref h_late, .ref a_sums, .ref a_asum])), (h_book, .inr (8, [.int (nI 40), .int (nI 3), .ref a_book, .int s_book])), (a_book, .inl (E.2.1, (40 * 3), .inl f_book)), (h_told, .inr (8, [.int (nI 60), .int (nI 1), .ref a_told, .int s_told])), (a_told, .inl (E.2.1, (60 * 1), .inl f_told)), (h_written, .inr (8, [.int (nI 40), .int (nI 2), .ref a_written, .int s_written])), (a_written, .inl (E.2.1, (40 * 2), .inl f_written)), (h_late, .inr (8, [.int (nI 60), .int (nI 1), .ref a_late, .int s_late])), (a_late, .inl (E.2.1, (60 * 1), .inl f_late)), (a_sums, .inl (E.2.1, 14, .inl sums)), (a_asum, .inl (E.2.1, 64, .inl asum)), (h_cold, .inr (0, [.ref h_rules, .ref h_colds])), (h_colds, .inr (8, [.int (nI 20), .int (nI 9), .ref a_colds, .int s_colds])), (a_colds, .inl (E.2.1, (20 * 9), .inl f_colds)), (h_sketch, .inr (6, [.ref a_cnt])), (a_cnt, .inl (E.2.1, 64, .inl cnt))]) (d_X0_nextToGo E l N h_entries h_rules a_vals h_ents a_ents 200 vals now ents s_ents f_ents ((-1)) 0 ok_ents o_4 hq) B w [14, 1, 2, 15, 16] [0, 3, 4, 5, 6, 7, 8, 9, 10, 11, 12, 13, 17, 18, 19, 20, 21] rfl rfl (by decide) (by decide) (by decide) 14 rfl rfl cv_X0_nextToGo kw_372 2 (by decide +kernel) ⟨Nat.le_of_ble_eq_true rfl, Nat.le_of_ble_eq_true rfl⟩ rfl hl.1 rfl (Nat.le_of_ble_eq_true rfl) dX6_mayComeIn_48 rfl rfl ⟨Nat.zero_le _, Nat.zero_le _⟩ (fun v w' H locs hpo w => ?_)
        clear hq
        obtain ⟨rfl, rfl⟩ := hpo
        have w : mW E A s [(h, .inr (5, [.ref h_rules, .ref h_ledger, .ref h_entries, .ref h_cold, .ref h_sketch, .int uses, .int usesInWindow, .int entriesSoFar, .int dirtySoFar])), (h_rules, .inr (4, [.ref a_vals, .int now])), (a_vals, .inl (E.2.1, 8, .inl vals)), (h_ledger, .inr (1, [.ref h_rules, .ref h_book, .ref h_told, .ref h_written, .ref h_late, .ref a_sums, .ref a_asum])), (h_book, .inr (8, [.int (nI 40), .int (nI 3), .ref a_book, .int s_book])), (a_book, .inl (E.2.1, (40 * 3), .inl f_book)), (h_told, .inr (8, [.int (nI 60), .int (nI 1), .ref a_told, .int s_told])), (a_told, .inl (E.2.1, (60 * 1), .inl f_told)), (h_written, .inr (8, [.int (nI 40), .int (nI 2), .ref a_written, .int s_written])), (a_written, .inl (E.2.1, (40 * 2), .inl f_written)), (h_late, .inr (8, [.int (nI 60), .int (nI 1), .ref a_late, .int s_late])), (a_late, .inl (E.2.1, (60 * 1), .inl f_late)), (a_sums, .inl (E.2.1, 14, .inl sums)), (a_asum, .inl (E.2.1, 64, .inl asum)), (h_entries, .inr (0, [.ref h_rules, .ref h_ents])), (h_ents, .inr (8, [.int (nI 200), .int (nI 9), .ref a_ents, .int s_ents])), (a_ents, .inl (E.2.1, (200 * 9), .inl f_ents)), (h_cold, .inr (0, [.ref h_rules, .ref h_colds])), (h_colds, .inr (8, [.int (nI 20), .int (nI 9), .ref a_colds, .int s_colds])), (a_colds, .inl (E.2.1, (20 * 9), .inl f_colds)), (h_sketch, .inr (6, [.ref a_cnt])), (a_cnt, .inl (E.2.1, 64, .inl cnt))] H locs := w.sub [0, 18, 19, 1, 2, 3, 4, 5, 6, 7, 8, 9, 10, 11, 17, 20, 21, 12, 13, 14, 15, 16] (by decide) rfl
        refine lv_istore (lv' := [(4, .int o_4), (3, .int o_1), (0, .ref h), (1, .int x1), (2, .int x2)]) hx hb dX6_mayComeIn_51 hl (by decide) rfl (fun ls hl => ?_)
        refine lv_aload_n hx hb dX6_mayComeIn_53 rfl (lv_at hl 2 rfl) ?_
        refine mx_get B w 0 fl_X6_24 rfl rfl dX6_mayComeIn_54 ?_
        refine lv_iload hx hb dX6_mayComeIn_57 (lv_at hl 0 rfl) ?_
        obtain ⟨o_5, hq, hf⟩ := bd_e hf
        refine mx_callV (As := [.int o_4]) (rest := []) (wr := [(h, .inr (5, [.ref h_rules, .ref h_ledger, .ref h_entries, .ref h_cold, .ref h_sketch, .int uses, .int usesInWindow, .int entriesSoFar, .int dirtySoFar])), (h_ledger, .inr (1, [.ref h_rules, .ref h_book, .ref h_told, .ref h_written, .ref h_late, .ref a_sums, .ref a_asum])), (h_book, .inr (8, [.int (nI 40), .int (nI 3), .ref a_book, .int s_book])), (a_book, .inl (E.2.1, (40 * 3), .inl f_book)), (h_told, .inr (8, [.int (nI 60), .int (nI 1), .ref a_told, .int s_told])), (a_told, .inl (E.2.1, (60 * 1), .inl f_told)), (h_written, .inr (8, [.int (nI 40), .int (nI 2), .ref a_written, .int s_written])), (a_written, .inl (E.2.1, (40 * 2), .inl f_written)), (h_late, .inr (8, [.int (nI 60), .int (nI 1), .ref a_late, .int s_late])), (a_late, .inl (E.2.1, (60 * 1), .inl f_late)), (a_sums, .inl (E.2.1, 14, .inl sums)), (a_asum, .inl (E.2.1, 64, .inl asum)), (h_cold, .inr (0, [.ref h_rules, .ref h_colds])), (h_colds, .inr (8, [.int (nI 20), .int (nI 9), .ref a_colds, .int s_colds])), (a_colds, .inl (E.2.1, (20 * 9), .inl f_colds)), (h_sketch, .inr (6, [.ref a_cnt])), (a_cnt, .inl (E.2.1, 64, .inl cnt))]) (d_X0_isStale E l  h_entries h_rules a_vals h_ents a_ents 200 vals now ents s_ents f_ents o_4 ok_ents o_5 hq) B w [14, 1, 2, 15, 16] [0, 3, 4, 5, 6, 7, 8, 9, 10, 11, 12, 13, 17, 18, 19, 20, 21] rfl rfl (by decide) (by decide) (by decide) 14 rfl rfl cv_X0_isStale kw_388 1 (by decide +kernel) ⟨Nat.le_of_ble_eq_true rfl, Nat.le_of_ble_eq_true rfl⟩ rfl hl.1 rfl (Nat.le_of_ble_eq_true rfl) dX6_mayComeIn_59 rfl rfl ⟨Nat.zero_le _, Nat.zero_le _⟩ (fun v w' H locs hpo w => ?_)
        clear hq
        obtain ⟨rfl, rfl⟩ := hpo
        have w : mW E A s [(h, .inr (5, [.ref h_rules, .ref h_ledger, .ref h_entries, .ref h_cold, .ref h_sketch, .int uses, .int usesInWindow, .int entriesSoFar, .int dirtySoFar])), (h_rules, .inr (4, [.ref a_vals, .int now])), (a_vals, .inl (E.2.1, 8, .inl vals)), (h_ledger, .inr (1, [.ref h_rules, .ref h_book, .ref h_told, .ref h_written, .ref h_late, .ref a_sums, .ref a_asum])), (h_book, .inr (8, [.int (nI 40), .int (nI 3), .ref a_book, .int s_book])), (a_book, .inl (E.2.1, (40 * 3), .inl f_book)), (h_told, .inr (8, [.int (nI 60), .int (nI 1), .ref a_told, .int s_told])), (a_told, .inl (E.2.1, (60 * 1), .inl f_told)), (h_written, .inr (8, [.int (nI 40), .int (nI 2), .ref a_written, .int s_written])), (a_written, .inl (E.2.1, (40 * 2), .inl f_written)), (h_late, .inr (8, [.int (nI 60), .int (nI 1), .ref a_late, .int s_late])), (a_late, .inl (E.2.1, (60 * 1), .inl f_late)), (a_sums, .inl (E.2.1, 14, .inl sums)), (a_asum, .inl (E.2.1, 64, .inl asum)), (h_entries, .inr (0, [.ref h_rules, .ref h_ents])), (h_ents, .inr (8, [.int (nI 200), .int (nI 9), .ref a_ents, .int s_ents])), (a_ents, .inl (E.2.1, (200 * 9), .inl f_ents)), (h_cold, .inr (0, [.ref h_rules, .ref h_colds])), (h_colds, .inr (8, [.int (nI 20), .int (nI 9), .ref a_colds, .int s_colds])), (a_colds, .inl (E.2.1, (20 * 9), .inl f_colds)), (h_sketch, .inr (6, [.ref a_cnt])), (a_cnt, .inl (E.2.1, 64, .inl cnt))] H locs := w.sub [0, 18, 19, 1, 2, 3, 4, 5, 6, 7, 8, 9, 10, 11, 17, 20, 21, 12, 13, 14, 15, 16] (by decide) rfl
        refine lv_if_ne (tgt := 86) hx hb dX6_mayComeIn_62 (by decide) (fun hc => ?_) (fun hc => ?_)
        · have hf := it_f hc hf
          refine lv_iconst (v := 1) hx hb dX6_mayComeIn_86 (by decide) ?_
          refine lv_goto (tgt := 91) hx hb dX6_mayComeIn_87 (by decide) ?_
          cases hf
          exact mx_zret B w rfl ⟨rfl, rfl⟩ dX6_mayComeIn_91
        · have hf := it_t hc hf
          refine lv_aload_n hx hb dX6_mayComeIn_65 rfl (lv_at hl 2 rfl) ?_
          refine mx_get B w 0 fl_X6_24 rfl rfl dX6_mayComeIn_66 ?_
          refine lv_iload hx hb dX6_mayComeIn_69 (lv_at hl 0 rfl) ?_
          refine lv_iconst (v := 3) hx hb dX6_mayComeIn_71 (by decide) ?_
          obtain ⟨o_6, hq, hf⟩ := bd_e hf
          refine mx_callV (As := [.int o_4, .int 3]) (rest := []) (wr := [(h, .inr (5, [.ref h_rules, .ref h_ledger, .ref h_entries, .ref h_cold, .ref h_sketch, .int uses, .int usesInWindow, .int entriesSoFar, .int dirtySoFar])), (h_ledger, .inr (1, [.ref h_rules, .ref h_book, .ref h_told, .ref h_written, .ref h_late, .ref a_sums, .ref a_asum])), (h_book, .inr (8, [.int (nI 40), .int (nI 3), .ref a_book, .int s_book])), (a_book, .inl (E.2.1, (40 * 3), .inl f_book)), (h_told, .inr (8, [.int (nI 60), .int (nI 1), .ref a_told, .int s_told])), (a_told, .inl (E.2.1, (60 * 1), .inl f_told)), (h_written, .inr (8, [.int (nI 40), .int (nI 2), .ref a_written, .int s_written])), (a_written, .inl (E.2.1, (40 * 2), .inl f_written)), (h_late, .inr (8, [.int (nI 60), .int (nI 1), .ref a_late, .int s_late])), (a_late, .inl (E.2.1, (60 * 1), .inl f_late)), (a_sums, .inl (E.2.1, 14, .inl sums)), (a_asum, .inl (E.2.1, 64, .inl asum)), (h_cold, .inr (0, [.ref h_rules, .ref h_colds])), (h_colds, .inr (8, [.int (nI 20), .int (nI 9), .ref a_colds, .int s_colds])), (a_colds, .inl (E.2.1, (20 * 9), .inl f_colds)), (h_sketch, .inr (6, [.ref a_cnt])), (a_cnt, .inl (E.2.1, 64, .inl cnt))]) (d_X0_get E l  h_entries h_rules a_vals h_ents a_ents 200 vals now ents s_ents f_ents o_4 3 ok_ents o_6 hq) B w [14, 1, 2, 15, 16] [0, 3, 4, 5, 6, 7, 8, 9, 10, 11, 12, 13, 17, 18, 19, 20, 21] rfl rfl (by decide) (by decide) (by decide) 14 rfl rfl cv_X0_get kw_393 2 (by decide +kernel) ⟨Nat.le_of_ble_eq_true rfl, Nat.le_of_ble_eq_true rfl⟩ rfl hl.1 rfl (Nat.le_of_ble_eq_true rfl) dX6_mayComeIn_72 rfl rfl ⟨Nat.zero_le _, Nat.zero_le _⟩ (fun v w' H locs hpo w => ?_)
          clear hq
          obtain ⟨rfl, rfl⟩ := hpo
          have w : mW E A s [(h, .inr (5, [.ref h_rules, .ref h_ledger, .ref h_entries, .ref h_cold, .ref h_sketch, .int uses, .int usesInWindow, .int entriesSoFar, .int dirtySoFar])), (h_rules, .inr (4, [.ref a_vals, .int now])), (a_vals, .inl (E.2.1, 8, .inl vals)), (h_ledger, .inr (1, [.ref h_rules, .ref h_book, .ref h_told, .ref h_written, .ref h_late, .ref a_sums, .ref a_asum])), (h_book, .inr (8, [.int (nI 40), .int (nI 3), .ref a_book, .int s_book])), (a_book, .inl (E.2.1, (40 * 3), .inl f_book)), (h_told, .inr (8, [.int (nI 60), .int (nI 1), .ref a_told, .int s_told])), (a_told, .inl (E.2.1, (60 * 1), .inl f_told)), (h_written, .inr (8, [.int (nI 40), .int (nI 2), .ref a_written, .int s_written])), (a_written, .inl (E.2.1, (40 * 2), .inl f_written)), (h_late, .inr (8, [.int (nI 60), .int (nI 1), .ref a_late, .int s_late])), (a_late, .inl (E.2.1, (60 * 1), .inl f_late)), (a_sums, .inl (E.2.1, 14, .inl sums)), (a_asum, .inl (E.2.1, 64, .inl asum)), (h_entries, .inr (0, [.ref h_rules, .ref h_ents])), (h_ents, .inr (8, [.int (nI 200), .int (nI 9), .ref a_ents, .int s_ents])), (a_ents, .inl (E.2.1, (200 * 9), .inl f_ents)), (h_cold, .inr (0, [.ref h_rules, .ref h_colds])), (h_colds, .inr (8, [.int (nI 20), .int (nI 9), .ref a_colds, .int s_colds])), (a_colds, .inl (E.2.1, (20 * 9), .inl f_colds)), (h_sketch, .inr (6, [.ref a_cnt])), (a_cnt, .inl (E.2.1, 64, .inl cnt))] H locs := w.sub [0, 18, 19, 1, 2, 3, 4, 5, 6, 7, 8, 9, 10, 11, 17, 20, 21, 12, 13, 14, 15, 16] (by decide) rfl
          refine lv_aload_n hx hb dX6_mayComeIn_75 rfl (lv_at hl 2 rfl) ?_
          refine mx_get B w 0 fl_X6_34 rfl rfl dX6_mayComeIn_76 ?_
          refine lv_iload_n hx hb dX6_mayComeIn_79 rfl (lv_at hl 3 rfl) ?_
          obtain ⟨o_7, hq, hf⟩ := bd_e hf
          refine mx_callV (As := [.int x1]) (rest := [.int o_6]) (wr := [(h, .inr (5, [.ref h_rules, .ref h_ledger, .ref h_entries, .ref h_cold, .ref h_sketch, .int uses, .int usesInWindow, .int entriesSoFar, .int dirtySoFar])), (h_rules, .inr (4, [.ref a_vals, .int now])), (a_vals, .inl (E.2.1, 8, .inl vals)), (h_ledger, .inr (1, [.ref h_rules, .ref h_book, .ref h_told, .ref h_written, .ref h_late, .ref a_sums, .ref a_asum])), (h_book, .inr (8, [.int (nI 40), .int (nI 3), .ref a_book, .int s_book])), (a_book, .inl (E.2.1, (40 * 3), .inl f_book)), (h_told, .inr (8, [.int (nI 60), .int (nI 1), .ref a_told, .int s_told])), (a_told, .inl (E.2.1, (60 * 1), .inl f_told)), (h_written, .inr (8, [.int (nI 40), .int (nI 2), .ref a_written, .int s_written])), (a_written, .inl (E.2.1, (40 * 2), .inl f_written)), (h_late, .inr (8, [.int (nI 60), .int (nI 1), .ref a_late, .int s_late])), (a_late, .inl (E.2.1, (60 * 1), .inl f_late)), (a_sums, .inl (E.2.1, 14, .inl sums)), (a_asum, .inl (E.2.1, 64, .inl asum)), (h_entries, .inr (0, [.ref h_rules, .ref h_ents])), (h_ents, .inr (8, [.int (nI 200), .int (nI 9), .ref a_ents, .int s_ents])), (a_ents, .inl (E.2.1, (200 * 9), .inl f_ents)), (h_cold, .inr (0, [.ref h_rules, .ref h_colds])), (h_colds, .inr (8, [.int (nI 20), .int (nI 9), .ref a_colds, .int s_colds])), (a_colds, .inl (E.2.1, (20 * 9), .inl f_colds))]) (d_X7_least E l N h_sketch a_cnt cnt x1  o_7 hq) B w [20, 21] [0, 1, 2, 3, 4, 5, 6, 7, 8, 9, 10, 11, 12, 13, 14, 15, 16, 17, 18, 19] rfl rfl (by decide) (by decide) (by decide) 20 rfl rfl cv_X7_least kw_633 1 (by decide +kernel) ⟨Nat.le_of_ble_eq_true rfl, Nat.le_of_ble_eq_true rfl⟩ rfl hl.1 rfl (Nat.le_of_ble_eq_true rfl) dX6_mayComeIn_80 rfl rfl ⟨Nat.zero_le _, Nat.zero_le _⟩ (fun v w' H locs hpo w => ?_)
          clear hq
          obtain ⟨rfl, rfl⟩ := hpo
          have w : mW E A s [(h, .inr (5, [.ref h_rules, .ref h_ledger, .ref h_entries, .ref h_cold, .ref h_sketch, .int uses, .int usesInWindow, .int entriesSoFar, .int dirtySoFar])), (h_rules, .inr (4, [.ref a_vals, .int now])), (a_vals, .inl (E.2.1, 8, .inl vals)), (h_ledger, .inr (1, [.ref h_rules, .ref h_book, .ref h_told, .ref h_written, .ref h_late, .ref a_sums, .ref a_asum])), (h_book, .inr (8, [.int (nI 40), .int (nI 3), .ref a_book, .int s_book])), (a_book, .inl (E.2.1, (40 * 3), .inl f_book)), (h_told, .inr (8, [.int (nI 60), .int (nI 1), .ref a_told, .int s_told])), (a_told, .inl (E.2.1, (60 * 1), .inl f_told)), (h_written, .inr (8, [.int (nI 40), .int (nI 2), .ref a_written, .int s_written])), (a_written, .inl (E.2.1, (40 * 2), .inl f_written)), (h_late, .inr (8, [.int (nI 60), .int (nI 1), .ref a_late, .int s_late])), (a_late, .inl (E.2.1, (60 * 1), .inl f_late)), (a_sums, .inl (E.2.1, 14, .inl sums)), (a_asum, .inl (E.2.1, 64, .inl asum)), (h_entries, .inr (0, [.ref h_rules, .ref h_ents])), (h_ents, .inr (8, [.int (nI 200), .int (nI 9), .ref a_ents, .int s_ents])), (a_ents, .inl (E.2.1, (200 * 9), .inl f_ents)), (h_cold, .inr (0, [.ref h_rules, .ref h_colds])), (h_colds, .inr (8, [.int (nI 20), .int (nI 9), .ref a_colds, .int s_colds])), (a_colds, .inl (E.2.1, (20 * 9), .inl f_colds)), (h_sketch, .inr (6, [.ref a_cnt])), (a_cnt, .inl (E.2.1, 64, .inl cnt))] H locs := w
          refine lv_icmp_ge (tgt := 90) hx hb dX6_mayComeIn_83 (by decide) (fun hc => ?_) (fun hc => ?_)
          · have hf := it_t hc hf
            refine lv_iconst (v := 0) hx hb dX6_mayComeIn_90 (by decide) ?_
            cases hf
            exact mx_zret B w rfl ⟨rfl, rfl⟩ dX6_mayComeIn_91
          · have hf := it_f hc hf
            refine lv_iconst (v := 1) hx hb dX6_mayComeIn_86 (by decide) ?_
            refine lv_goto (tgt := 91) hx hb dX6_mayComeIn_87 (by decide) ?_
            cases hf
            exact mx_zret B w rfl ⟨rfl, rfl⟩ dX6_mayComeIn_91
      · have hf := it_f hc hf
        refine lv_iconst (v := 1) hx hb dX6_mayComeIn_40 (by decide) ?_
        cases hf
        exact mx_zret B w rfl ⟨rfl, rfl⟩ dX6_mayComeIn_41
  · have hf := it_f hc hf
    refine lv_iconst (v := 0) hx hb dX6_mayComeIn_14 (by decide) ?_
    cases hf
    exact mx_zret B w rfl ⟨rfl, rfl⟩ dX6_mayComeIn_15
-- X0_set
def po_X0_set (E : mE) (h : Nat) (h_rules : Nat) (a_vals : Nat) (h_rows : Nat) (a_rows : Nat) (dm : Nat) (vals : Nat → Int32) (now : Int32) (rows : Rows) (s_rows : Int32) (f_rows : Nat → Int32) (o : Rows) : Option Value → va_W → Prop := (fun (v : Option Value) (w' : va_W) => ∃ (s_rows' : Int32) (f_rows' : Nat → Int32), tb_ok dm 9 o s_rows' f_rows' ∧ v = none ∧ w' = [(h, .inr (0, [.ref h_rules, .ref h_rows])), (h_rules, .inr (4, [.ref a_vals, .int now])), (a_vals, .inl (E.2.1, 8, .inl vals)), (h_rows, .inr (8, [.int (nI dm), .int (nI 9), .ref a_rows, .int s_rows'])), (a_rows, .inl (E.2.1, (dm * 9), .inl f_rows'))])
noncomputable def F_X0_set (dm : Nat) (rows : Rows) (x1 : Int32) (x2 : Int32) (x3 : Int32) : Option (Rows) :=
  lt (tset rows x1 x2 x3) (fun o_1 =>
  some (o_1))
set_option maxHeartbeats 4000000 in
set_option maxRecDepth 100000 in
theorem d_X0_set (E : mE) (l : Launch) (h : Nat) (h_rules : Nat) (a_vals : Nat) (h_rows : Nat) (a_rows : Nat) (dm : Nat) (vals : Nat → Int32) (now : Int32) (rows : Rows) (s_rows : Int32) (f_rows : Nat → Int32) (x1 : Int32) (x2 : Int32) (x3 : Int32) (ok_rows : tb_ok dm 9 rows s_rows f_rows) (o : Rows) (hf : F_X0_set dm rows x1 x2 x3 = some o) : MX E l yX0_set cX0_set 4 none ({ frames := 1, cells := 0, slots := 0, locals := 25 } : Room) [.ref h, .int x1, .int x2, .int x3] [(h, .inr (0, [.ref h_rules, .ref h_rows])), (h_rules, .inr (4, [.ref a_vals, .int now])), (a_vals, .inl (E.2.1, 8, .inl vals)), (h_rows, .inr (8, [.int (nI dm), .int (nI 9), .ref a_rows, .int s_rows])), (a_rows, .inl (E.2.1, (dm * 9), .inl f_rows))] (po_X0_set E h h_rules a_vals h_rows a_rows dm vals now rows s_rows f_rows o) := by
  refine mx_intro (by decide +kernel) (Nat.le_of_ble_eq_true rfl) ?_
  intro p e s m args below meth c A Q ls B w hl
  obtain ⟨hx, hb, hml, hown, hts⟩ := id B.1
  unfold F_X0_set at hf
  have hl : lv_has ls 4 [(0, .ref h), (1, .int x1), (2, .int x2), (3, .int x3)] := hl
  refine lv_aload_n hx hb dX0_set_0 rfl (lv_at hl 0 rfl) ?_
  refine mx_get B w 0 fl_X0_20 rfl rfl dX0_set_1 ?_
  refine lv_iload_n hx hb dX0_set_4 rfl (lv_at hl 1 rfl) ?_
  refine lv_iload_n hx hb dX0_set_5 rfl (lv_at hl 2 rfl) ?_
  refine lv_iload_n hx hb dX0_set_6 rfl (lv_at hl 3 rfl) ?_
  obtain ⟨o_1, ev⟩ : ∃ y, y = tset rows x1 x2 x3 := ⟨_, rfl⟩
  have hf := lt_n ev hf
  refine mx_callV (As := [.int x1, .int x2, .int x3]) (rest := []) (wr := [(h, .inr (0, [.ref h_rules, .ref h_rows])), (h_rules, .inr (4, [.ref a_vals, .int now])), (a_vals, .inl (E.2.1, 8, .inl vals))]) (c_X9_set E l h_rows a_rows dm 9 rows s_rows f_rows x1 x2 x3 ok_rows o_1 ev) B w [3, 4] [0, 1, 2] rfl rfl (by decide) (by decide) (by decide) 3 rfl rfl cv_X9_set kw_405 3 (by decide +kernel) ⟨Nat.le_of_ble_eq_true rfl, Nat.le_of_ble_eq_true rfl⟩ rfl hl.1 rfl (Nat.le_of_ble_eq_true rfl) dX0_set_7 rfl rfl ⟨Nat.zero_le _, Nat.zero_le _⟩ (fun v w' H locs hpo w => ?_)
  clear ev
  obtain ⟨s_rows_2, f_rows_3, ok_rows, rfl, rfl⟩ := hpo
  have w : mW E A s [(h, .inr (0, [.ref h_rules, .ref h_rows])), (h_rules, .inr (4, [.ref a_vals, .int now])), (a_vals, .inl (E.2.1, 8, .inl vals)), (h_rows, .inr (8, [.int (nI dm), .int (nI 9), .ref a_rows, .int s_rows_2])), (a_rows, .inl (E.2.1, (dm * 9), .inl f_rows_3))] H locs := w
  cases hf
  exact mx_vret B w ⟨_, _, ok_rows, rfl, rfl⟩ dX0_set_10
