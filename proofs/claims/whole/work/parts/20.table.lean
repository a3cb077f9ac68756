abbrev cX9_size : ByteArray := prog_11_method_2_code
def yX9_size : MethodName := ⟨RX9, "size", "()I"⟩
theorem dX9_size_0 : decode cX9_size 0 = .ok (.aload_n 0, 1) := by decide +kernel
theorem dX9_size_1 : decode cX9_size 1 = .ok (.getfield 28, 3) := by decide +kernel
theorem dX9_size_4 : decode cX9_size 4 = .ok (.ireturn, 1) := by decide +kernel
theorem kw_121 : Cond.fieldLink "FrequencyShelf$Table" 28 "FrequencyShelf$Table" "size" "I" ∈ TB := tb_at 121 (by decide +kernel) (by decide +kernel)
theorem in_X9 : ∀ w ∈ u_ws RX9 TX9 4, w ∈ TB := by decide +kernel
theorem fl_X9_28 : mF RX9 28 8 3 := ⟨RX9, TX9, 4, tyX9, rfl, by decide, in_X9, kw_121, tyX9_ok, nmX9⟩
abbrev cX9_clear : ByteArray := prog_11_method_3_code
def yX9_clear : MethodName := ⟨RX9, "clea\x72", "()V"⟩
theorem dX9_clear_0 : decode cX9_clear 0 = .ok (.aload_n 0, 1) := by decide +kernel
theorem dX9_clear_1 : decode cX9_clear 1 = .ok (.iconst 0, 1) := by decide +kernel
theorem dX9_clear_2 : decode cX9_clear 2 = .ok (.putfield 28, 3) := by decide +kernel
theorem dX9_clear_5 : decode cX9_clear 5 = .ok (.return_, 1) := by decide +kernel
theorem fi_X9_3 : mFi 8 3 := fun _ _ _ h => by cases h; exact ⟨rfl, by decide +kernel⟩
abbrev cX9_get : ByteArray := prog_11_method_4_code
def yX9_get : MethodName := ⟨RX9, "get", "(II)I"⟩
theorem dX9_get_0 : decode cX9_get 0 = .ok (.iload_n 1, 1) := by decide +kernel
theorem dX9_get_1 : decode cX9_get 1 = .ok (.aload_n 0, 1) := by decide +kernel
theorem dX9_get_2 : decode cX9_get 2 = .ok (.getfield 21, 3) := by decide +kernel
theorem dX9_get_5 : decode cX9_get 5 = .ok (.imul, 1) := by decide +kernel
theorem dX9_get_6 : decode cX9_get 6 = .ok (.iload_n 2, 1) := by decide +kernel
theorem dX9_get_7 : decode cX9_get 7 = .ok (.iadd, 1) := by decide +kernel
theorem dX9_get_8 : decode cX9_get 8 = .ok (.istore_n 3, 1) := by decide +kernel
theorem dX9_get_9 : decode cX9_get 9 = .ok (.iload_n 1, 1) := by decide +kernel
theorem dX9_get_10 : decode cX9_get 10 = .ok (.ifCond .lt 27, 3) := by decide +kernel
theorem dX9_get_13 : decode cX9_get 13 = .ok (.iload_n 1, 1) := by decide +kernel
theorem dX9_get_14 : decode cX9_get 14 = .ok (.aload_n 0, 1) := by decide +kernel
theorem dX9_get_15 : decode cX9_get 15 = .ok (.getfield 28, 3) := by decide +kernel
theorem dX9_get_18 : decode cX9_get 18 = .ok (.if_icmp .ge 19, 3) := by decide +kernel
theorem dX9_get_21 : decode cX9_get 21 = .ok (.iload_n 2, 1) := by decide +kernel
theorem dX9_get_22 : decode cX9_get 22 = .ok (.ifCond .lt 15, 3) := by decide +kernel
theorem dX9_get_25 : decode cX9_get 25 = .ok (.iload_n 2, 1) := by decide +kernel
theorem dX9_get_26 : decode cX9_get 26 = .ok (.aload_n 0, 1) := by decide +kernel
theorem dX9_get_27 : decode cX9_get 27 = .ok (.getfield 21, 3) := by decide +kernel
theorem dX9_get_30 : decode cX9_get 30 = .ok (.if_icmp .ge 7, 3) := by decide +kernel
theorem dX9_get_33 : decode cX9_get 33 = .ok (.iconst 1, 1) := by decide +kernel
theorem dX9_get_34 : decode cX9_get 34 = .ok (.goto 4, 3) := by decide +kernel
theorem dX9_get_37 : decode cX9_get 37 = .ok (.iconst 0, 1) := by decide +kernel
theorem dX9_get_38 : decode cX9_get 38 = .ok (.istore 4, 2) := by decide +kernel
theorem dX9_get_40 : decode cX9_get 40 = .ok (.iload 4, 2) := by decide +kernel
theorem dX9_get_42 : decode cX9_get 42 = .ok (.ifCond .eq 25, 3) := by decide +kernel
theorem dX9_get_45 : decode cX9_get 45 = .ok (.iload_n 3, 1) := by decide +kernel
theorem dX9_get_46 : decode cX9_get 46 = .ok (.ifCond .lt 21, 3) := by decide +kernel
theorem dX9_get_49 : decode cX9_get 49 = .ok (.iload_n 3, 1) := by decide +kernel
theorem dX9_get_50 : decode cX9_get 50 = .ok (.aload_n 0, 1) := by decide +kernel
theorem dX9_get_51 : decode cX9_get 51 = .ok (.getfield 24, 3) := by decide +kernel
theorem dX9_get_54 : decode cX9_get 54 = .ok (.arraylength, 1) := by decide +kernel
theorem dX9_get_55 : decode cX9_get 55 = .ok (.if_icmp .ge 12, 3) := by decide +kernel
theorem dX9_get_58 : decode cX9_get 58 = .ok (.aload_n 0, 1) := by decide +kernel
theorem dX9_get_59 : decode cX9_get 59 = .ok (.getfield 24, 3) := by decide +kernel
theorem dX9_get_62 : decode cX9_get 62 = .ok (.iload_n 3, 1) := by decide +kernel
theorem dX9_get_63 : decode cX9_get 63 = .ok (.iaload, 1) := by decide +kernel
theorem dX9_get_64 : decode cX9_get 64 = .ok (.goto 4, 3) := by decide +kernel
theorem dX9_get_67 : decode cX9_get 67 = .ok (.iconst 0, 1) := by decide +kernel
theorem dX9_get_68 : decode cX9_get 68 = .ok (.ireturn, 1) := by decide +kernel
theorem kw_119 : Cond.fieldLink "FrequencyShelf$Table" 21 "FrequencyShelf$Table" "width" "I" ∈ TB := tb_at 119 (by decide +kernel) (by decide +kernel)
theorem fl_X9_21 : mF RX9 21 8 1 := ⟨RX9, TX9, 4, tyX9, rfl, by decide, in_X9, kw_119, tyX9_ok, nmX9⟩
theorem kw_120 : Cond.fieldLink "FrequencyShelf$Table" 24 "FrequencyShelf$Table" "cells" "[I" ∈ TB := tb_at 120 (by decide +kernel) (by decide +kernel)
theorem fl_X9_24 : mF RX9 24 8 2 := ⟨RX9, TX9, 4, tyX9, rfl, by decide, in_X9, kw_120, tyX9_ok, nmX9⟩
abbrev cX9_set : ByteArray := prog_11_method_5_code
def yX9_set : MethodName := ⟨RX9, "set", "(III)V"⟩
theorem dX9_set_0 : decode cX9_set 0 = .ok (.iload_n 1, 1) := by decide +kernel
theorem dX9_set_1 : decode cX9_set 1 = .ok (.aload_n 0, 1) := by decide +kernel
theorem dX9_set_2 : decode cX9_set 2 = .ok (.getfield 21, 3) := by decide +kernel
theorem dX9_set_5 : decode cX9_set 5 = .ok (.imul, 1) := by decide +kernel
theorem dX9_set_6 : decode cX9_set 6 = .ok (.iload_n 2, 1) := by decide +kernel
theorem dX9_set_7 : decode cX9_set 7 = .ok (.iadd, 1) := by decide +kernel
theorem dX9_set_8 : decode cX9_set 8 = .ok (.istore 4, 2) := by decide +kernel
theorem dX9_set_10 : decode cX9_set 10 = .ok (.iload_n 1, 1) := by decide +kernel
theorem dX9_set_11 : decode cX9_set 11 = .ok (.ifCond .lt 27, 3) := by decide +kernel
theorem dX9_set_14 : decode cX9_set 14 = .ok (.iload_n 1, 1) := by decide +kernel
theorem dX9_set_15 : decode cX9_set 15 = .ok (.aload_n 0, 1) := by decide +kernel
theorem dX9_set_16 : decode cX9_set 16 = .ok (.getfield 28, 3) := by decide +kernel
theorem dX9_set_19 : decode cX9_set 19 = .ok (.if_icmp .ge 19, 3) := by decide +kernel
theorem dX9_set_22 : decode cX9_set 22 = .ok (.iload_n 2, 1) := by decide +kernel
theorem dX9_set_23 : decode cX9_set 23 = .ok (.ifCond .lt 15, 3) := by decide +kernel
theorem dX9_set_26 : decode cX9_set 26 = .ok (.iload_n 2, 1) := by decide +kernel
theorem dX9_set_27 : decode cX9_set 27 = .ok (.aload_n 0, 1) := by decide +kernel
theorem dX9_set_28 : decode cX9_set 28 = .ok (.getfield 21, 3) := by decide +kernel
theorem dX9_set_31 : decode cX9_set 31 = .ok (.if_icmp .ge 7, 3) := by decide +kernel
theorem dX9_set_34 : decode cX9_set 34 = .ok (.iconst 1, 1) := by decide +kernel
theorem dX9_set_35 : decode cX9_set 35 = .ok (.goto 4, 3) := by decide +kernel
theorem dX9_set_38 : decode cX9_set 38 = .ok (.iconst 0, 1) := by decide +kernel
theorem dX9_set_39 : decode cX9_set 39 = .ok (.istore 5, 2) := by decide +kernel
theorem dX9_set_41 : decode cX9_set 41 = .ok (.iload 5, 2) := by decide +kernel
theorem dX9_set_43 : decode cX9_set 43 = .ok (.ifCond .eq 26, 3) := by decide +kernel
theorem dX9_set_46 : decode cX9_set 46 = .ok (.iload 4, 2) := by decide +kernel
theorem dX9_set_48 : decode cX9_set 48 = .ok (.ifCond .lt 21, 3) := by decide +kernel
theorem dX9_set_51 : decode cX9_set 51 = .ok (.iload 4, 2) := by decide +kernel
theorem dX9_set_53 : decode cX9_set 53 = .ok (.aload_n 0, 1) := by decide +kernel
theorem dX9_set_54 : decode cX9_set 54 = .ok (.getfield 24, 3) := by decide +kernel
theorem dX9_set_57 : decode cX9_set 57 = .ok (.arraylength, 1) := by decide +kernel
theorem dX9_set_58 : decode cX9_set 58 = .ok (.if_icmp .ge 11, 3) := by decide +kernel
theorem dX9_set_61 : decode cX9_set 61 = .ok (.aload_n 0, 1) := by decide +kernel
theorem dX9_set_62 : decode cX9_set 62 = .ok (.getfield 24, 3) := by decide +kernel
theorem dX9_set_65 : decode cX9_set 65 = .ok (.iload 4, 2) := by decide +kernel
theorem dX9_set_67 : decode cX9_set 67 = .ok (.iload_n 3, 1) := by decide +kernel
theorem dX9_set_68 : decode cX9_set 68 = .ok (.iastore, 1) := by decide +kernel
theorem dX9_set_69 : decode cX9_set 69 = .ok (.return_, 1) := by decide +kernel
abbrev cX9_find : ByteArray := prog_11_method_9_code
def yX9_find : MethodName := ⟨RX9, "find", "(III)I"⟩
theorem dX9_find_0 : decode cX9_find 0 = .ok (.iconst 0, 1) := by decide +kernel
theorem dX9_find_1 : decode cX9_find 1 = .ok (.istore 4, 2) := by decide +kernel
theorem dX9_find_3 : decode cX9_find 3 = .ok (.iconst 0, 1) := by decide +kernel
theorem dX9_find_4 : decode cX9_find 4 = .ok (.istore 5, 2) := by decide +kernel
theorem dX9_find_6 : decode cX9_find 6 = .ok (.iload 5, 2) := by decide +kernel
theorem dX9_find_8 : decode cX9_find 8 = .ok (.aload_n 0, 1) := by decide +kernel
theorem dX9_find_9 : decode cX9_find 9 = .ok (.getfield 28, 3) := by decide +kernel
theorem dX9_find_12 : decode cX9_find 12 = .ok (.if_icmp .ge 35, 3) := by decide +kernel
theorem dX9_find_15 : decode cX9_find 15 = .ok (.aload_n 0, 1) := by decide +kernel
theorem dX9_find_16 : decode cX9_find 16 = .ok (.iload 5, 2) := by decide +kernel
theorem dX9_find_18 : decode cX9_find 18 = .ok (.iload_n 1, 1) := by decide +kernel
theorem dX9_find_19 : decode cX9_find 19 = .ok (.invokevirtual 31, 3) := by decide +kernel
theorem dX9_find_22 : decode cX9_find 22 = .ok (.iload_n 2, 1) := by decide +kernel
theorem dX9_find_23 : decode cX9_find 23 = .ok (.if_icmp .eq 6, 3) := by decide +kernel
theorem dX9_find_26 : decode cX9_find 26 = .ok (.goto 15, 3) := by decide +kernel
theorem dX9_find_29 : decode cX9_find 29 = .ok (.iload 4, 2) := by decide +kernel
theorem dX9_find_31 : decode cX9_find 31 = .ok (.iload_n 3, 1) := by decide +kernel
theorem dX9_find_32 : decode cX9_find 32 = .ok (.if_icmp .ne 6, 3) := by decide +kernel
theorem dX9_find_35 : decode cX9_find 35 = .ok (.iload 5, 2) := by decide +kernel
theorem dX9_find_37 : decode cX9_find 37 = .ok (.ireturn, 1) := by decide +kernel
theorem dX9_find_38 : decode cX9_find 38 = .ok (.iinc 4 1, 3) := by decide +kernel
theorem dX9_find_41 : decode cX9_find 41 = .ok (.iinc 5 1, 3) := by decide +kernel
theorem dX9_find_44 : decode cX9_find 44 = .ok (.goto (-38), 3) := by decide +kernel
theorem dX9_find_47 : decode cX9_find 47 = .ok (.iconst (-1), 1) := by decide +kernel
theorem dX9_find_48 : decode cX9_find 48 = .ok (.ireturn, 1) := by decide +kernel
theorem kw_469 : Cond.methodLink "FrequencyShelf$Table" 31 yX9_get ∈ TB := tb_at 469 (by decide +kernel) (by decide +kernel)
theorem kw_371 : Cond.code yX9_get cX9_get 5 (some .int) ∈ TB := tb_at 371 (by decide +kernel) (by decide +kernel)
theorem kw_369 : Cond.instanceMethod yX9_get ∈ TB := tb_at 369 (by decide +kernel) (by decide +kernel)
theorem kw_370 : Cond.selects "FrequencyShelf$Table" yX9_get yX9_get ∈ TB := tb_at 370 (by decide +kernel) (by decide +kernel)
theorem kw_65 : Cond.initialized "FrequencyShelf$Table" ∈ TB := tb_at 65 (by decide +kernel) (by decide +kernel)
theorem cv_X9_get : Cond.code yX9_get cX9_get 5 (some .int) ∈ TB ∧ Cond.instanceMethod yX9_get ∈ TB ∧ Cond.selects "FrequencyShelf$Table" yX9_get yX9_get ∈ TB ∧ Cond.initialized "FrequencyShelf$Table" ∈ TB := ⟨kw_371, kw_369, kw_370, kw_65⟩
abbrev cX9_howMany : ByteArray := prog_11_method_10_code
def yX9_howMany : MethodName := ⟨RX9, "howMany", "(II)I"⟩
theorem dX9_howMany_0 : decode cX9_howMany 0 = .ok (.iconst 0, 1) := by decide +kernel
theorem dX9_howMany_1 : decode cX9_howMany 1 = .ok (.istore_n 3, 1) := by decide +kernel
theorem dX9_howMany_2 : decode cX9_howMany 2 = .ok (.iconst 0, 1) := by decide +kernel
theorem dX9_howMany_3 : decode cX9_howMany 3 = .ok (.istore 4, 2) := by decide +kernel
theorem dX9_howMany_5 : decode cX9_howMany 5 = .ok (.iload 4, 2) := by decide +kernel
theorem dX9_howMany_7 : decode cX9_howMany 7 = .ok (.aload_n 0, 1) := by decide +kernel
theorem dX9_howMany_8 : decode cX9_howMany 8 = .ok (.getfield 28, 3) := by decide +kernel
theorem dX9_howMany_11 : decode cX9_howMany 11 = .ok (.if_icmp .ge 23, 3) := by decide +kernel
theorem dX9_howMany_14 : decode cX9_howMany 14 = .ok (.aload_n 0, 1) := by decide +kernel
theorem dX9_howMany_15 : decode cX9_howMany 15 = .ok (.iload 4, 2) := by decide +kernel
theorem dX9_howMany_17 : decode cX9_howMany 17 = .ok (.iload_n 1, 1) := by decide +kernel
theorem dX9_howMany_18 : decode cX9_howMany 18 = .ok (.invokevirtual 31, 3) := by decide +kernel
theorem dX9_howMany_21 : decode cX9_howMany 21 = .ok (.iload_n 2, 1) := by decide +kernel
theorem dX9_howMany_22 : decode cX9_howMany 22 = .ok (.if_icmp .ne 6, 3) := by decide +kernel
theorem dX9_howMany_25 : decode cX9_howMany 25 = .ok (.iinc 3 1, 3) := by decide +kernel
theorem dX9_howMany_28 : decode cX9_howMany 28 = .ok (.iinc 4 1, 3) := by decide +kernel
theorem dX9_howMany_31 : decode cX9_howMany 31 = .ok (.goto (-26), 3) := by decide +kernel
theorem dX9_howMany_34 : decode cX9_howMany 34 = .ok (.iload_n 3, 1) := by decide +kernel
theorem dX9_howMany_35 : decode cX9_howMany 35 = .ok (.ireturn, 1) := by decide +kernel
abbrev cX9_remove : ByteArray := prog_11_method_7_code
def yX9_remove : MethodName := ⟨RX9, "remove", "(I)V"⟩
theorem dX9_remove_0 : decode cX9_remove 0 = .ok (.iload_n 1, 1) := by decide +kernel
theorem dX9_remove_1 : decode cX9_remove 1 = .ok (.ifCond .lt 11, 3) := by decide +kernel
theorem dX9_remove_4 : decode cX9_remove 4 = .ok (.iload_n 1, 1) := by decide +kernel
theorem dX9_remove_5 : decode cX9_remove 5 = .ok (.aload_n 0, 1) := by decide +kernel
theorem dX9_remove_6 : decode cX9_remove 6 = .ok (.getfield 28, 3) := by decide +kernel
theorem dX9_remove_9 : decode cX9_remove 9 = .ok (.if_icmp .lt 4, 3) := by decide +kernel
theorem dX9_remove_12 : decode cX9_remove 12 = .ok (.return_, 1) := by decide +kernel
theorem dX9_remove_13 : decode cX9_remove 13 = .ok (.iload_n 1, 1) := by decide +kernel
theorem dX9_remove_14 : decode cX9_remove 14 = .ok (.aload_n 0, 1) := by decide +kernel
theorem dX9_remove_15 : decode cX9_remove 15 = .ok (.getfield 21, 3) := by decide +kernel
theorem dX9_remove_18 : decode cX9_remove 18 = .ok (.imul, 1) := by decide +kernel
theorem dX9_remove_19 : decode cX9_remove 19 = .ok (.istore_n 2, 1) := by decide +kernel
theorem dX9_remove_20 : decode cX9_remove 20 = .ok (.iload_n 2, 1) := by decide +kernel
theorem dX9_remove_21 : decode cX9_remove 21 = .ok (.aload_n 0, 1) := by decide +kernel
theorem dX9_remove_22 : decode cX9_remove 22 = .ok (.getfield 21, 3) := by decide +kernel
theorem dX9_remove_25 : decode cX9_remove 25 = .ok (.iadd, 1) := by decide +kernel
theorem dX9_remove_26 : decode cX9_remove 26 = .ok (.aload_n 0, 1) := by decide +kernel
theorem dX9_remove_27 : decode cX9_remove 27 = .ok (.getfield 28, 3) := by decide +kernel
theorem dX9_remove_30 : decode cX9_remove 30 = .ok (.aload_n 0, 1) := by decide +kernel
theorem dX9_remove_31 : decode cX9_remove 31 = .ok (.getfield 21, 3) := by decide +kernel
theorem dX9_remove_34 : decode cX9_remove 34 = .ok (.imul, 1) := by decide +kernel
theorem dX9_remove_35 : decode cX9_remove 35 = .ok (.if_icmp .ge 40, 3) := by decide +kernel
theorem dX9_remove_38 : decode cX9_remove 38 = .ok (.iload_n 2, 1) := by decide +kernel
theorem dX9_remove_39 : decode cX9_remove 39 = .ok (.aload_n 0, 1) := by decide +kernel
theorem dX9_remove_40 : decode cX9_remove 40 = .ok (.getfield 21, 3) := by decide +kernel
theorem dX9_remove_43 : decode cX9_remove 43 = .ok (.iadd, 1) := by decide +kernel
theorem dX9_remove_44 : decode cX9_remove 44 = .ok (.aload_n 0, 1) := by decide +kernel
theorem dX9_remove_45 : decode cX9_remove 45 = .ok (.getfield 24, 3) := by decide +kernel
theorem dX9_remove_48 : decode cX9_remove 48 = .ok (.arraylength, 1) := by decide +kernel
theorem dX9_remove_49 : decode cX9_remove 49 = .ok (.if_icmp .ge 26, 3) := by decide +kernel
theorem dX9_remove_52 : decode cX9_remove 52 = .ok (.aload_n 0, 1) := by decide +kernel
theorem dX9_remove_53 : decode cX9_remove 53 = .ok (.getfield 24, 3) := by decide +kernel
theorem dX9_remove_56 : decode cX9_remove 56 = .ok (.iload_n 2, 1) := by decide +kernel
theorem dX9_remove_57 : decode cX9_remove 57 = .ok (.aload_n 0, 1) := by decide +kernel
theorem dX9_remove_58 : decode cX9_remove 58 = .ok (.getfield 24, 3) := by decide +kernel
theorem dX9_remove_61 : decode cX9_remove 61 = .ok (.iload_n 2, 1) := by decide +kernel
theorem dX9_remove_62 : decode cX9_remove 62 = .ok (.aload_n 0, 1) := by decide +kernel
theorem dX9_remove_63 : decode cX9_remove 63 = .ok (.getfield 21, 3) := by decide +kernel
theorem dX9_remove_66 : decode cX9_remove 66 = .ok (.iadd, 1) := by decide +kernel
theorem dX9_remove_67 : decode cX9_remove 67 = .ok (.iaload, 1) := by decide +kernel
theorem dX9_remove_68 : decode cX9_remove 68 = .ok (.iastore, 1) := by decide +kernel
theorem dX9_remove_69 : decode cX9_remove 69 = .ok (.iinc 2 1, 3) := by decide +kernel
theorem dX9_remove_72 : decode cX9_remove 72 = .ok (.goto (-52), 3) := by decide +kernel
theorem dX9_remove_75 : decode cX9_remove 75 = .ok (.aload_n 0, 1) := by decide +kernel
theorem dX9_remove_76 : decode cX9_remove 76 = .ok (.dup, 1) := by decide +kernel
theorem dX9_remove_77 : decode cX9_remove 77 = .ok (.getfield 28, 3) := by decide +kernel
theorem dX9_remove_80 : decode cX9_remove 80 = .ok (.iconst 1, 1) := by decide +kernel
theorem dX9_remove_81 : decode cX9_remove 81 = .ok (.isub, 1) := by decide +kernel
theorem dX9_remove_82 : decode cX9_remove 82 = .ok (.putfield 28, 3) := by decide +kernel
theorem dX9_remove_85 : decode cX9_remove 85 = .ok (.return_, 1) := by decide +kernel
abbrev cX9_removeAll : ByteArray := prog_11_method_8_code
def yX9_removeAll : MethodName := ⟨RX9, "removeAll", "(II)V"⟩
theorem dX9_removeAll_0 : decode cX9_removeAll 0 = .ok (.aload_n 0, 1) := by decide +kernel
theorem dX9_removeAll_1 : decode cX9_removeAll 1 = .ok (.getfield 28, 3) := by decide +kernel
theorem dX9_removeAll_4 : decode cX9_removeAll 4 = .ok (.iconst 1, 1) := by decide +kernel
theorem dX9_removeAll_5 : decode cX9_removeAll 5 = .ok (.isub, 1) := by decide +kernel
theorem dX9_removeAll_6 : decode cX9_removeAll 6 = .ok (.istore_n 3, 1) := by decide +kernel
theorem dX9_removeAll_7 : decode cX9_removeAll 7 = .ok (.iload_n 3, 1) := by decide +kernel
theorem dX9_removeAll_8 : decode cX9_removeAll 8 = .ok (.ifCond .lt 24, 3) := by decide +kernel
theorem dX9_removeAll_11 : decode cX9_removeAll 11 = .ok (.aload_n 0, 1) := by decide +kernel
theorem dX9_removeAll_12 : decode cX9_removeAll 12 = .ok (.iload_n 3, 1) := by decide +kernel
theorem dX9_removeAll_13 : decode cX9_removeAll 13 = .ok (.iload_n 1, 1) := by decide +kernel
theorem dX9_removeAll_14 : decode cX9_removeAll 14 = .ok (.invokevirtual 31, 3) := by decide +kernel
theorem dX9_removeAll_17 : decode cX9_removeAll 17 = .ok (.iload_n 2, 1) := by decide +kernel
theorem dX9_removeAll_18 : decode cX9_removeAll 18 = .ok (.if_icmp .ne 8, 3) := by decide +kernel
theorem dX9_removeAll_21 : decode cX9_removeAll 21 = .ok (.aload_n 0, 1) := by decide +kernel
theorem dX9_removeAll_22 : decode cX9_removeAll 22 = .ok (.iload_n 3, 1) := by decide +kernel
theorem dX9_removeAll_23 : decode cX9_removeAll 23 = .ok (.invokevirtual 34, 3) := by decide +kernel
theorem dX9_removeAll_26 : decode cX9_removeAll 26 = .ok (.iinc 3 (-1), 3) := by decide +kernel
theorem dX9_removeAll_29 : decode cX9_removeAll 29 = .ok (.goto (-22), 3) := by decide +kernel
theorem dX9_removeAll_32 : decode cX9_removeAll 32 = .ok (.return_, 1) := by decide +kernel
theorem kw_531 : Cond.methodLink "FrequencyShelf$Table" 34 yX9_remove ∈ TB := tb_at 531 (by decide +kernel) (by decide +kernel)
theorem kw_421 : Cond.code yX9_remove cX9_remove 3 none ∈ TB := tb_at 421 (by decide +kernel) (by decide +kernel)
theorem kw_419 : Cond.instanceMethod yX9_remove ∈ TB := tb_at 419 (by decide +kernel) (by decide +kernel)
theorem kw_420 : Cond.selects "FrequencyShelf$Table" yX9_remove yX9_remove ∈ TB := tb_at 420 (by decide +kernel) (by decide +kernel)
theorem cv_X9_remove : Cond.code yX9_remove cX9_remove 3 none ∈ TB ∧ Cond.instanceMethod yX9_remove ∈ TB ∧ Cond.selects "FrequencyShelf$Table" yX9_remove yX9_remove ∈ TB ∧ Cond.initialized "FrequencyShelf$Table" ∈ TB := ⟨kw_421, kw_419, kw_420, kw_65⟩
abbrev cX9_push : ByteArray := prog_11_method_6_code
def yX9_push : MethodName := ⟨RX9, "push", "(III)I"⟩
theorem dX9_push_0 : decode cX9_push 0 = .ok (.aload_n 0, 1) := by decide +kernel
theorem dX9_push_1 : decode cX9_push 1 = .ok (.getfield 28, 3) := by decide +kernel
theorem dX9_push_4 : decode cX9_push 4 = .ok (.aload_n 0, 1) := by decide +kernel
theorem dX9_push_5 : decode cX9_push 5 = .ok (.getfield 15, 3) := by decide +kernel
theorem dX9_push_8 : decode cX9_push 8 = .ok (.if_icmp .lt 56, 3) := by decide +kernel
theorem dX9_push_11 : decode cX9_push 11 = .ok (.iconst 0, 1) := by decide +kernel
theorem dX9_push_12 : decode cX9_push 12 = .ok (.istore 4, 2) := by decide +kernel
theorem dX9_push_14 : decode cX9_push 14 = .ok (.iload 4, 2) := by decide +kernel
theorem dX9_push_16 : decode cX9_push 16 = .ok (.aload_n 0, 1) := by decide +kernel
theorem dX9_push_17 : decode cX9_push 17 = .ok (.getfield 21, 3) := by decide +kernel
theorem dX9_push_20 : decode cX9_push 20 = .ok (.iadd, 1) := by decide +kernel
theorem dX9_push_21 : decode cX9_push 21 = .ok (.aload_n 0, 1) := by decide +kernel
theorem dX9_push_22 : decode cX9_push 22 = .ok (.getfield 24, 3) := by decide +kernel
theorem dX9_push_25 : decode cX9_push 25 = .ok (.arraylength, 1) := by decide +kernel
theorem dX9_push_26 : decode cX9_push 26 = .ok (.if_icmp .ge 28, 3) := by decide +kernel
theorem dX9_push_29 : decode cX9_push 29 = .ok (.aload_n 0, 1) := by decide +kernel
theorem dX9_push_30 : decode cX9_push 30 = .ok (.getfield 24, 3) := by decide +kernel
theorem dX9_push_33 : decode cX9_push 33 = .ok (.iload 4, 2) := by decide +kernel
theorem dX9_push_35 : decode cX9_push 35 = .ok (.aload_n 0, 1) := by decide +kernel
theorem dX9_push_36 : decode cX9_push 36 = .ok (.getfield 24, 3) := by decide +kernel
theorem dX9_push_39 : decode cX9_push 39 = .ok (.iload 4, 2) := by decide +kernel
theorem dX9_push_41 : decode cX9_push 41 = .ok (.aload_n 0, 1) := by decide +kernel
theorem dX9_push_42 : decode cX9_push 42 = .ok (.getfield 21, 3) := by decide +kernel
theorem dX9_push_45 : decode cX9_push 45 = .ok (.iadd, 1) := by decide +kernel
theorem dX9_push_46 : decode cX9_push 46 = .ok (.iaload, 1) := by decide +kernel
theorem dX9_push_47 : decode cX9_push 47 = .ok (.iastore, 1) := by decide +kernel
theorem dX9_push_48 : decode cX9_push 48 = .ok (.iinc 4 1, 3) := by decide +kernel
theorem dX9_push_51 : decode cX9_push 51 = .ok (.goto (-37), 3) := by decide +kernel
theorem dX9_push_54 : decode cX9_push 54 = .ok (.aload_n 0, 1) := by decide +kernel
theorem dX9_push_55 : decode cX9_push 55 = .ok (.aload_n 0, 1) := by decide +kernel
theorem dX9_push_56 : decode cX9_push 56 = .ok (.getfield 15, 3) := by decide +kernel
theorem dX9_push_59 : decode cX9_push 59 = .ok (.iconst 1, 1) := by decide +kernel
theorem dX9_push_60 : decode cX9_push 60 = .ok (.isub, 1) := by decide +kernel
theorem dX9_push_61 : decode cX9_push 61 = .ok (.putfield 28, 3) := by decide +kernel
theorem dX9_push_64 : decode cX9_push 64 = .ok (.aload_n 0, 1) := by decide +kernel
theorem dX9_push_65 : decode cX9_push 65 = .ok (.getfield 28, 3) := by decide +kernel
theorem dX9_push_68 : decode cX9_push 68 = .ok (.aload_n 0, 1) := by decide +kernel
theorem dX9_push_69 : decode cX9_push 69 = .ok (.getfield 21, 3) := by decide +kernel
theorem dX9_push_72 : decode cX9_push 72 = .ok (.imul, 1) := by decide +kernel
theorem dX9_push_73 : decode cX9_push 73 = .ok (.istore 4, 2) := by decide +kernel
theorem dX9_push_75 : decode cX9_push 75 = .ok (.iconst 0, 1) := by decide +kernel
theorem dX9_push_76 : decode cX9_push 76 = .ok (.istore 5, 2) := by decide +kernel
theorem dX9_push_78 : decode cX9_push 78 = .ok (.iload 5, 2) := by decide +kernel
theorem dX9_push_80 : decode cX9_push 80 = .ok (.aload_n 0, 1) := by decide +kernel
theorem dX9_push_81 : decode cX9_push 81 = .ok (.getfield 21, 3) := by decide +kernel
theorem dX9_push_84 : decode cX9_push 84 = .ok (.if_icmp .ge 62, 3) := by decide +kernel
theorem dX9_push_87 : decode cX9_push 87 = .ok (.iload 4, 2) := by decide +kernel
theorem dX9_push_89 : decode cX9_push 89 = .ok (.iload 5, 2) := by decide +kernel
theorem dX9_push_91 : decode cX9_push 91 = .ok (.iadd, 1) := by decide +kernel
theorem dX9_push_92 : decode cX9_push 92 = .ok (.aload_n 0, 1) := by decide +kernel
theorem dX9_push_93 : decode cX9_push 93 = .ok (.getfield 24, 3) := by decide +kernel
theorem dX9_push_96 : decode cX9_push 96 = .ok (.arraylength, 1) := by decide +kernel
theorem dX9_push_97 : decode cX9_push 97 = .ok (.if_icmp .ge 49, 3) := by decide +kernel
theorem dX9_push_100 : decode cX9_push 100 = .ok (.aload_n 0, 1) := by decide +kernel
theorem dX9_push_101 : decode cX9_push 101 = .ok (.getfield 24, 3) := by decide +kernel
theorem dX9_push_104 : decode cX9_push 104 = .ok (.iload 4, 2) := by decide +kernel
theorem dX9_push_106 : decode cX9_push 106 = .ok (.iload 5, 2) := by decide +kernel
theorem dX9_push_108 : decode cX9_push 108 = .ok (.iadd, 1) := by decide +kernel
theorem dX9_push_109 : decode cX9_push 109 = .ok (.iload 5, 2) := by decide +kernel
theorem dX9_push_111 : decode cX9_push 111 = .ok (.ifCond .ne 7, 3) := by decide +kernel
theorem dX9_push_114 : decode cX9_push 114 = .ok (.iload_n 1, 1) := by decide +kernel
theorem dX9_push_115 : decode cX9_push 115 = .ok (.goto 24, 3) := by decide +kernel
theorem dX9_push_118 : decode cX9_push 118 = .ok (.iload 5, 2) := by decide +kernel
theorem dX9_push_120 : decode cX9_push 120 = .ok (.iconst 1, 1) := by decide +kernel
theorem dX9_push_121 : decode cX9_push 121 = .ok (.if_icmp .ne 7, 3) := by decide +kernel
theorem dX9_push_124 : decode cX9_push 124 = .ok (.iload_n 2, 1) := by decide +kernel
theorem dX9_push_125 : decode cX9_push 125 = .ok (.goto 14, 3) := by decide +kernel
theorem dX9_push_128 : decode cX9_push 128 = .ok (.iload 5, 2) := by decide +kernel
theorem dX9_push_130 : decode cX9_push 130 = .ok (.iconst 2, 1) := by decide +kernel
theorem dX9_push_131 : decode cX9_push 131 = .ok (.if_icmp .ne 7, 3) := by decide +kernel
theorem dX9_push_134 : decode cX9_push 134 = .ok (.iload_n 3, 1) := by decide +kernel
theorem dX9_push_135 : decode cX9_push 135 = .ok (.goto 4, 3) := by decide +kernel
theorem dX9_push_138 : decode cX9_push 138 = .ok (.iconst 0, 1) := by decide +kernel
theorem dX9_push_139 : decode cX9_push 139 = .ok (.iastore, 1) := by decide +kernel
theorem dX9_push_140 : decode cX9_push 140 = .ok (.iinc 5 1, 3) := by decide +kernel
theorem dX9_push_143 : decode cX9_push 143 = .ok (.goto (-65), 3) := by decide +kernel
theorem dX9_push_146 : decode cX9_push 146 = .ok (.aload_n 0, 1) := by decide +kernel
theorem dX9_push_147 : decode cX9_push 147 = .ok (.dup, 1) := by decide +kernel
theorem dX9_push_148 : decode cX9_push 148 = .ok (.getfield 28, 3) := by decide +kernel
theorem dX9_push_151 : decode cX9_push 151 = .ok (.iconst 1, 1) := by decide +kernel
theorem dX9_push_152 : decode cX9_push 152 = .ok (.iadd, 1) := by decide +kernel
theorem dX9_push_153 : decode cX9_push 153 = .ok (.putfield 28, 3) := by decide +kernel
theorem dX9_push_156 : decode cX9_push 156 = .ok (.aload_n 0, 1) := by decide +kernel
theorem dX9_push_157 : decode cX9_push 157 = .ok (.getfield 28, 3) := by decide +kernel
theorem dX9_push_160 : decode cX9_push 160 = .ok (.iconst 1, 1) := by decide +kernel
theorem dX9_push_161 : decode cX9_push 161 = .ok (.isub, 1) := by decide +kernel
theorem dX9_push_162 : decode cX9_push 162 = .ok (.ireturn, 1) := by decide +kernel
theorem kw_118 : Cond.fieldLink "FrequencyShelf$Table" 15 "FrequencyShelf$Table" "most" "I" ∈ TB := tb_at 118 (by decide +kernel) (by decide +kernel)
theorem fl_X9_15 : mF RX9 15 8 0 := ⟨RX9, TX9, 4, tyX9, rfl, by decide, in_X9, kw_118, tyX9_ok, nmX9⟩
-- X9_size
def po_X9_size (E : mE) (h : Nat) (a : Nat) (L : Nat) (mo : Int32) (wi : Int32) (sz : Int32) (f : Nat → Int32)  (o : Int32) : Option Value → va_W → Prop := (fun (v : Option Value) (w' : va_W) => v = some (.int o) ∧ w' = [(h, .inr (8, [.int mo, .int wi, .ref a, .int sz])), (a, .inl (E.2.1, L, .inl f))])
noncomputable def F_X9_size (L : Nat) (sz : Int32)  : Option (Int32) :=
  some (sz)
set_option maxHeartbeats 4000000 in
set_option maxRecDepth 100000 in
theorem d_X9_size (E : mE) (l : Launch) (h : Nat) (a : Nat) (L : Nat) (mo : Int32) (wi : Int32) (sz : Int32) (f : Nat → Int32)    (o : Int32) (hf : F_X9_size L sz = some o) : MX E l yX9_size cX9_size 1 (some .int) ({ frames := 0, cells := 0, slots := 0, locals := 0 } : Room) [.ref h] [(h, .inr (8, [.int mo, .int wi, .ref a, .int sz])), (a, .inl (E.2.1, L, .inl f))] (po_X9_size E h a L mo wi sz f o) := by
  refine mx_intro (by decide +kernel) (Nat.le_of_ble_eq_true rfl) ?_
  intro p e s m args below meth c A Q ls B w hl
  obtain ⟨hx, hb, hml, hown, hts⟩ := id B.1
  unfold F_X9_size at hf
  have hl : lv_has ls 1 [(0, .ref h)] := hl
  refine lv_aload_n hx hb dX9_size_0 rfl (lv_at hl 0 rfl) ?_
  refine mx_get B w 0 fl_X9_28 rfl rfl dX9_size_1 ?_
  cases hf
  exact mx_iret B w ⟨rfl, rfl⟩ dX9_size_4
-- X9_clear
def po_X9_clear (E : mE) (h : Nat) (a : Nat) (L : Nat) (mo : Int32) (wi : Int32) (sz : Int32) (f : Nat → Int32)  (o : Int32) : Option Value → va_W → Prop := (fun (v : Option Value) (w' : va_W) => v = none ∧ w' = [(h, .inr (8, [.int mo, .int wi, .ref a, .int o])), (a, .inl (E.2.1, L, .inl f))])
noncomputable def F_X9_clear (L : Nat) (sz : Int32)  : Option (Int32) :=
  lt (0) (fun sz_1 =>
  some (sz_1))
set_option maxHeartbeats 4000000 in
set_option maxRecDepth 100000 in
theorem d_X9_clear (E : mE) (l : Launch) (h : Nat) (a : Nat) (L : Nat) (mo : Int32) (wi : Int32) (sz : Int32) (f : Nat → Int32)    (o : Int32) (hf : F_X9_clear L sz = some o) : MX E l yX9_clear cX9_clear 1 none ({ frames := 0, cells := 0, slots := 0, locals := 0 } : Room) [.ref h] [(h, .inr (8, [.int mo, .int wi, .ref a, .int sz])), (a, .inl (E.2.1, L, .inl f))] (po_X9_clear E h a L mo wi sz f o) := by
  refine mx_intro (by decide +kernel) (Nat.le_of_ble_eq_true rfl) ?_
  intro p e s m args below meth c A Q ls B w hl
  obtain ⟨hx, hb, hml, hown, hts⟩ := id B.1
  unfold F_X9_clear at hf
  have hl : lv_has ls 1 [(0, .ref h)] := hl
  refine lv_aload_n hx hb dX9_clear_0 rfl (lv_at hl 0 rfl) ?_
  refine lv_iconst (v := 0) hx hb dX9_clear_1 (by decide) ?_
  refine mx_puti B w 0 fl_X9_28 fi_X9_3 rfl (Nat.le_of_ble_eq_true rfl) dX9_clear_2 (fun sz_1 H locs ev w => ?_)
  have hf := lt_n ev hf; clear ev
  have w : mW E A s [(h, .inr (8, [.int mo, .int wi, .ref a, .int sz_1])), (a, .inl (E.2.1, L, .inl f))] H locs := w
  cases hf
  exact mx_vret B w ⟨rfl, rfl⟩ dX9_clear_5
-- X9_get
def po_X9_get (E : mE) (h : Nat) (a : Nat) (L : Nat) (mo : Int32) (wi : Int32) (sz : Int32) (f : Nat → Int32)  (o : Int32) : Option Value → va_W → Prop := (fun (v : Option Value) (w' : va_W) => v = some (.int o) ∧ w' = [(h, .inr (8, [.int mo, .int wi, .ref a, .int sz])), (a, .inl (E.2.1, L, .inl f))])
noncomputable def J_X9_get_38 (L : Nat)  (t0 : Int32) (x3 : Int32) (wi : Int32) (sz : Int32) (f : Nat → Int32) : Option (Int32) :=
  if (t0 = 0 : Prop) then
  some (0)
  else
  if (x3 < 0 : Prop) then
  some (0)
  else
  if ((nI L) ≤ x3 : Prop) then
  some (0)
  else
  ld f L x3 (fun v_2 =>
  some (v_2))
set_option maxHeartbeats 4000000 in
set_option maxRecDepth 100000 in
theorem j_X9_get_38 {E : mE} {l : Launch} {p : Program} {e : Env} {s : State} {m : MethodId} {args : Array Value} {below : List Frame} {meth : Method} {c : Code} {A : Nat → Prop} {Q : State → Prop} {h : Nat} {a : Nat} {L : Nat} {mo : Int32} {wi : Int32} {sz : Int32} {f : Nat → Int32}  {o : Int32} (B : mB E yX9_get cX9_get 5 (some .int) 0 0 (po_X9_get E h a L mo wi sz f o) p s m args below meth c A Q) {t0 : Int32} {x3 : Int32}     {H : Heap} {locs : List Loc} {ls : Array Slot} (hf : J_X9_get_38 L t0 x3 wi sz f = some o)  (w : mW E A s [(h, .inr (8, [.int mo, .int wi, .ref a, .int sz])), (a, .inl (E.2.1, L, .inl f))] H locs) (hl : lv_has ls 5 [(0, .ref h), (3, .int x3)]) : W p l e ({ frames := 0, cells := 0, slots := 0, locals := 0 } : Room) s m args below meth c H locs 0 0 Q (F0 m 38 ls [.int t0]) := by
  obtain ⟨hx, hb, hml, hown, hts⟩ := id B.1
  unfold J_X9_get_38 at hf
  refine lv_istore (lv' := [(4, .int t0), (0, .ref h), (3, .int x3)]) hx hb dX9_get_38 hl (by decide) rfl (fun ls hl => ?_)
  refine lv_iload hx hb dX9_get_40 (lv_at hl 0 rfl) ?_
  refine lv_if_eq (tgt := 67) hx hb dX9_get_42 (by decide) (fun hc => ?_) (fun hc => ?_)
  · have hf := it_t hc hf
    refine lv_iconst (v := 0) hx hb dX9_get_67 (by decide) ?_
    cases hf
    exact mx_iret B w ⟨rfl, rfl⟩ dX9_get_68
  · have hf := it_f hc hf
    refine lv_iload_n hx hb dX9_get_45 rfl (lv_at hl 2 rfl) ?_
    refine lv_if_lt (tgt := 67) hx hb dX9_get_46 (by decide) (fun hc => ?_) (fun hc => ?_)
    · have hf := it_t hc hf
      refine lv_iconst (v := 0) hx hb dX9_get_67 (by decide) ?_
      cases hf
      exact mx_iret B w ⟨rfl, rfl⟩ dX9_get_68
    · have hf := it_f hc hf
      refine lv_iload_n hx hb dX9_get_49 rfl (lv_at hl 2 rfl) ?_
      refine lv_aload_n hx hb dX9_get_50 rfl (lv_at hl 1 rfl) ?_
      refine mx_get B w 0 fl_X9_24 rfl rfl dX9_get_51 ?_
      refine mx_alen B w 1 rfl dX9_get_54 ?_
      refine lv_icmp_ge (tgt := 67) hx hb dX9_get_55 (by decide) (fun hc => ?_) (fun hc => ?_)
      · have hf := it_t hc hf
        refine lv_iconst (v := 0) hx hb dX9_get_67 (by decide) ?_
        cases hf
        exact mx_iret B w ⟨rfl, rfl⟩ dX9_get_68
      · have hf := it_f hc hf
        refine lv_aload_n hx hb dX9_get_58 rfl (lv_at hl 1 rfl) ?_
        refine mx_get B w 0 fl_X9_24 rfl rfl dX9_get_59 ?_
        refine lv_iload_n hx hb dX9_get_62 rfl (lv_at hl 2 rfl) ?_
        obtain ⟨hin, hf⟩ := ld_e hf
        refine mx_iald B w 1 rfl hin dX9_get_63 (fun v_2 ev => ?_)
        have hf := hf _ ev; clear ev
        refine lv_goto (tgt := 68) hx hb dX9_get_64 (by decide) ?_
        cases hf
        exact mx_iret B w ⟨rfl, rfl⟩ dX9_get_68
noncomputable def J_X9_get_37 (L : Nat)  (x3 : Int32) (wi : Int32) (sz : Int32) (f : Nat → Int32) : Option (Int32) :=
  J_X9_get_38 L 0 x3 wi sz f
set_option maxHeartbeats 4000000 in
set_option maxRecDepth 100000 in
theorem j_X9_get_37 {E : mE} {l : Launch} {p : Program} {e : Env} {s : State} {m : MethodId} {args : Array Value} {below : List Frame} {meth : Method} {c : Code} {A : Nat → Prop} {Q : State → Prop} {h : Nat} {a : Nat} {L : Nat} {mo : Int32} {wi : Int32} {sz : Int32} {f : Nat → Int32}  {o : Int32} (B : mB E yX9_get cX9_get 5 (some .int) 0 0 (po_X9_get E h a L mo wi sz f o) p s m args below meth c A Q) {x3 : Int32}     {H : Heap} {locs : List Loc} {ls : Array Slot} (hf : J_X9_get_37 L x3 wi sz f = some o)  (w : mW E A s [(h, .inr (8, [.int mo, .int wi, .ref a, .int sz])), (a, .inl (E.2.1, L, .inl f))] H locs) (hl : lv_has ls 5 [(0, .ref h), (3, .int x3)]) : W p l e ({ frames := 0, cells := 0, slots := 0, locals := 0 } : Room) s m args below meth c H locs 0 0 Q (F0 m 37 ls []) := by
  obtain ⟨hx, hb, hml, hown, hts⟩ := id B.1
  unfold J_X9_get_37 at hf
  refine lv_iconst (v := 0) hx hb dX9_get_37 (by decide) ?_
  exact j_X9_get_38 B   hf  w (lv_sub hl [0, 1] rfl)
noncomputable def F_X9_get (L : Nat) (wi : Int32) (sz : Int32) (f : Nat → Int32) (x1 : Int32) (x2 : Int32) : Option (Int32) :=
  lt ((x1 * wi) + x2) (fun x3_1 =>
  if (x1 < 0 : Prop) then
  J_X9_get_37 L x3_1 wi sz f
  else
  if (sz ≤ x1 : Prop) then
  J_X9_get_37 L x3_1 wi sz f
  else
  if (x2 < 0 : Prop) then
  J_X9_get_37 L x3_1 wi sz f
  else
  if (wi ≤ x2 : Prop) then
  J_X9_get_37 L x3_1 wi sz f
  else
  J_X9_get_38 L 1 x3_1 wi sz f)
set_option maxHeartbeats 4000000 in
set_option maxRecDepth 100000 in
theorem d_X9_get (E : mE) (l : Launch) (h : Nat) (a : Nat) (L : Nat) (mo : Int32) (wi : Int32) (sz : Int32) (f : Nat → Int32)  (x1 : Int32) (x2 : Int32)  (o : Int32) (hf : F_X9_get L wi sz f x1 x2 = some o) : MX E l yX9_get cX9_get 5 (some .int) ({ frames := 0, cells := 0, slots := 0, locals := 0 } : Room) [.ref h, .int x1, .int x2] [(h, .inr (8, [.int mo, .int wi, .ref a, .int sz])), (a, .inl (E.2.1, L, .inl f))] (po_X9_get E h a L mo wi sz f o) := by
  refine mx_intro (by decide +kernel) (Nat.le_of_ble_eq_true rfl) ?_
  intro p e s m args below meth c A Q ls B w hl
  obtain ⟨hx, hb, hml, hown, hts⟩ := id B.1
  unfold F_X9_get at hf
  have hl : lv_has ls 5 [(0, .ref h), (1, .int x1), (2, .int x2)] := hl
  refine lv_iload_n hx hb dX9_get_0 rfl (lv_at hl 1 rfl) ?_
  refine lv_aload_n hx hb dX9_get_1 rfl (lv_at hl 0 rfl) ?_
  refine mx_get B w 0 fl_X9_21 rfl rfl dX9_get_2 ?_
  refine lv_imul hx hb dX9_get_5 ?_
  refine lv_iload_n hx hb dX9_get_6 rfl (lv_at hl 2 rfl) ?_
  refine lv_iadd hx hb dX9_get_7 ?_
  refine lv_topi (fun x3_1 ev => ?_)
  have hf := lt_n ev hf; clear ev
  refine lv_istore_n (lv' := [(3, .int x3_1), (0, .ref h), (1, .int x1), (2, .int x2)]) hx hb dX9_get_8 rfl hl (by decide) rfl (fun ls hl => ?_)
  refine lv_iload_n hx hb dX9_get_9 rfl (lv_at hl 2 rfl) ?_
  refine lv_if_lt (tgt := 37) hx hb dX9_get_10 (by decide) (fun hc => ?_) (fun hc => ?_)
  · have hf := it_t hc hf
    exact j_X9_get_37 B   hf  w (lv_sub hl [1, 0] rfl)
  · have hf := it_f hc hf
    refine lv_iload_n hx hb dX9_get_13 rfl (lv_at hl 2 rfl) ?_
    refine lv_aload_n hx hb dX9_get_14 rfl (lv_at hl 1 rfl) ?_
    refine mx_get B w 0 fl_X9_28 rfl rfl dX9_get_15 ?_
    refine lv_icmp_ge (tgt := 37) hx hb dX9_get_18 (by decide) (fun hc => ?_) (fun hc => ?_)
    · have hf := it_t hc hf
      exact j_X9_get_37 B   hf  w (lv_sub hl [1, 0] rfl)
    · have hf := it_f hc hf
      refine lv_iload_n hx hb dX9_get_21 rfl (lv_at hl 3 rfl) ?_
      refine lv_if_lt (tgt := 37) hx hb dX9_get_22 (by decide) (fun hc => ?_) (fun hc => ?_)
      · have hf := it_t hc hf
        exact j_X9_get_37 B   hf  w (lv_sub hl [1, 0] rfl)
      · have hf := it_f hc hf
        refine lv_iload_n hx hb dX9_get_25 rfl (lv_at hl 3 rfl) ?_
        refine lv_aload_n hx hb dX9_get_26 rfl (lv_at hl 1 rfl) ?_
        refine mx_get B w 0 fl_X9_21 rfl rfl dX9_get_27 ?_
        refine lv_icmp_ge (tgt := 37) hx hb dX9_get_30 (by decide) (fun hc => ?_) (fun hc => ?_)
        · have hf := it_t hc hf
          exact j_X9_get_37 B   hf  w (lv_sub hl [1, 0] rfl)
        · have hf := it_f hc hf
          refine lv_iconst (v := 1) hx hb dX9_get_33 (by decide) ?_
          refine lv_goto (tgt := 38) hx hb dX9_get_34 (by decide) ?_
          exact j_X9_get_38 B   hf  w (lv_sub hl [1, 0] rfl)
-- X9_set
def po_X9_set (E : mE) (h : Nat) (a : Nat) (L : Nat) (mo : Int32) (wi : Int32) (sz : Int32) (f : Nat → Int32)  (o : (Nat → Int32)) : Option Value → va_W → Prop := (fun (v : Option Value) (w' : va_W) => v = none ∧ w' = [(h, .inr (8, [.int mo, .int wi, .ref a, .int sz])), (a, .inl (E.2.1, L, .inl o))])
noncomputable def J_X9_set_39 (L : Nat)  (t0 : Int32) (x3 : Int32) (x4 : Int32) (wi : Int32) (sz : Int32) (f : Nat → Int32) : Option ((Nat → Int32)) :=
  if (t0 = 0 : Prop) then
  some (f)
  else
  if (x4 < 0 : Prop) then
  some (f)
  else
  if ((nI L) ≤ x4 : Prop) then
  some (f)
  else
  sto f L x4 x3 (fun f_2 =>
  some (f_2))
set_option maxHeartbeats 4000000 in
set_option maxRecDepth 100000 in
theorem j_X9_set_39 {E : mE} {l : Launch} {p : Program} {e : Env} {s : State} {m : MethodId} {args : Array Value} {below : List Frame} {meth : Method} {c : Code} {A : Nat → Prop} {Q : State → Prop} {h : Nat} {a : Nat} {L : Nat} {mo : Int32} {wi : Int32} {sz : Int32} {f0 : Nat → Int32}  {o : (Nat → Int32)} (B : mB E yX9_set cX9_set 6 none 0 0 (po_X9_set E h a L mo wi sz f0 o) p s m args below meth c A Q) {t0 : Int32} {x3 : Int32} {x4 : Int32} {f : Nat → Int32}    {H : Heap} {locs : List Loc} {ls : Array Slot} (hf : J_X9_set_39 L t0 x3 x4 wi sz f = some o)  (w : mW E A s [(h, .inr (8, [.int mo, .int wi, .ref a, .int sz])), (a, .inl (E.2.1, L, .inl f))] H locs) (hl : lv_has ls 6 [(0, .ref h), (3, .int x3), (4, .int x4)]) : W p l e ({ frames := 0, cells := 0, slots := 0, locals := 0 } : Room) s m args below meth c H locs 0 0 Q (F0 m 39 ls [.int t0]) := by
  obtain ⟨hx, hb, hml, hown, hts⟩ := id B.1
  unfold J_X9_set_39 at hf
  refine lv_istore (lv' := [(5, .int t0), (0, .ref h), (3, .int x3), (4, .int x4)]) hx hb dX9_set_39 hl (by decide) rfl (fun ls hl => ?_)
  refine lv_iload hx hb dX9_set_41 (lv_at hl 0 rfl) ?_
  refine lv_if_eq (tgt := 69) hx hb dX9_set_43 (by decide) (fun hc => ?_) (fun hc => ?_)
  · have hf := it_t hc hf
    cases hf
    exact mx_vret B w ⟨rfl, rfl⟩ dX9_set_69
  · have hf := it_f hc hf
    refine lv_iload hx hb dX9_set_46 (lv_at hl 3 rfl) ?_
    refine lv_if_lt (tgt := 69) hx hb dX9_set_48 (by decide) (fun hc => ?_) (fun hc => ?_)
    · have hf := it_t hc hf
      cases hf
      exact mx_vret B w ⟨rfl, rfl⟩ dX9_set_69
    · have hf := it_f hc hf
      refine lv_iload hx hb dX9_set_51 (lv_at hl 3 rfl) ?_
      refine lv_aload_n hx hb dX9_set_53 rfl (lv_at hl 1 rfl) ?_
      refine mx_get B w 0 fl_X9_24 rfl rfl dX9_set_54 ?_
      refine mx_alen B w 1 rfl dX9_set_57 ?_
      refine lv_icmp_ge (tgt := 69) hx hb dX9_set_58 (by decide) (fun hc => ?_) (fun hc => ?_)
      · have hf := it_t hc hf
        cases hf
        exact mx_vret B w ⟨rfl, rfl⟩ dX9_set_69
      · have hf := it_f hc hf
        refine lv_aload_n hx hb dX9_set_61 rfl (lv_at hl 1 rfl) ?_
        refine mx_get B w 0 fl_X9_24 rfl rfl dX9_set_62 ?_
        refine lv_iload hx hb dX9_set_65 (lv_at hl 3 rfl) ?_
        refine lv_iload_n hx hb dX9_set_67 rfl (lv_at hl 2 rfl) ?_
        obtain ⟨hin, hf⟩ := sto_e hf
        refine mx_iast B w 1 rfl hin dX9_set_68 (fun f_2 H locs ev w => ?_)
        have hf := hf _ ev; clear ev
        have w : mW E A s [(h, .inr (8, [.int mo, .int wi, .ref a, .int sz])), (a, .inl (E.2.1, L, .inl f_2))] H locs := w
        cases hf
        exact mx_vret B w ⟨rfl, rfl⟩ dX9_set_69
noncomputable def J_X9_set_38 (L : Nat)  (x3 : Int32) (x4 : Int32) (wi : Int32) (sz : Int32) (f : Nat → Int32) : Option ((Nat → Int32)) :=
  J_X9_set_39 L 0 x3 x4 wi sz f
set_option maxHeartbeats 4000000 in
set_option maxRecDepth 100000 in
theorem j_X9_set_38 {E : mE} {l : Launch} {p : Program} {e : Env} {s : State} {m : MethodId} {args : Array Value} {below : List Frame} {meth : Method} {c : Code} {A : Nat → Prop} {Q : State → Prop} {h : Nat} {a : Nat} {L : Nat} {mo : Int32} {wi : Int32} {sz : Int32} {f0 : Nat → Int32}  {o : (Nat → Int32)} (B : mB E yX9_set cX9_set 6 none 0 0 (po_X9_set E h a L mo wi sz f0 o) p s m args below meth c A Q) {x3 : Int32} {x4 : Int32} {f : Nat → Int32}    {H : Heap} {locs : List Loc} {ls : Array Slot} (hf : J_X9_set_38 L x3 x4 wi sz f = some o)  (w : mW E A s [(h, .inr (8, [.int mo, .int wi, .ref a, .int sz])), (a, .inl (E.2.1, L, .inl f))] H locs) (hl : lv_has ls 6 [(0, .ref h), (3, .int x3), (4, .int x4)]) : W p l e ({ frames := 0, cells := 0, slots := 0, locals := 0 } : Room) s m args below meth c H locs 0 0 Q (F0 m 38 ls []) := by
  obtain ⟨hx, hb, hml, hown, hts⟩ := id B.1
  unfold J_X9_set_38 at hf
  refine lv_iconst (v := 0) hx hb dX9_set_38 (by decide) ?_
  exact j_X9_set_39 B   hf  w (lv_sub hl [0, 1, 2] rfl)
noncomputable def F_X9_set (L : Nat) (wi : Int32) (sz : Int32) (f : Nat → Int32) (x1 : Int32) (x2 : Int32) (x3 : Int32) : Option ((Nat → Int32)) :=
  lt ((x1 * wi) + x2) (fun x4_1 =>
  if (x1 < 0 : Prop) then
  J_X9_set_38 L x3 x4_1 wi sz f
  else
  if (sz ≤ x1 : Prop) then
  J_X9_set_38 L x3 x4_1 wi sz f
  else
  if (x2 < 0 : Prop) then
  J_X9_set_38 L x3 x4_1 wi sz f
  else
  if (wi ≤ x2 : Prop) then
  J_X9_set_38 L x3 x4_1 wi sz f
  else
  J_X9_set_39 L 1 x3 x4_1 wi sz f)
set_option maxHeartbeats 4000000 in
set_option maxRecDepth 100000 in
theorem d_X9_set (E : mE) (l : Launch) (h : Nat) (a : Nat) (L : Nat) (mo : Int32) (wi : Int32) (sz : Int32) (f : Nat → Int32)  (x1 : Int32) (x2 : Int32) (x3 : Int32)  (o : (Nat → Int32)) (hf : F_X9_set L wi sz f x1 x2 x3 = some o) : MX E l yX9_set cX9_set 6 none ({ frames := 0, cells := 0, slots := 0, locals := 0 } : Room) [.ref h, .int x1, .int x2, .int x3] [(h, .inr (8, [.int mo, .int wi, .ref a, .int sz])), (a, .inl (E.2.1, L, .inl f))] (po_X9_set E h a L mo wi sz f o) := by
  refine mx_intro (by decide +kernel) (Nat.le_of_ble_eq_true rfl) ?_
  intro p e s m args below meth c A Q ls B w hl
  obtain ⟨hx, hb, hml, hown, hts⟩ := id B.1
  unfold F_X9_set at hf
  have hl : lv_has ls 6 [(0, .ref h), (1, .int x1), (2, .int x2), (3, .int x3)] := hl
  refine lv_iload_n hx hb dX9_set_0 rfl (lv_at hl 1 rfl) ?_
  refine lv_aload_n hx hb dX9_set_1 rfl (lv_at hl 0 rfl) ?_
  refine mx_get B w 0 fl_X9_21 rfl rfl dX9_set_2 ?_
  refine lv_imul hx hb dX9_set_5 ?_
  refine lv_iload_n hx hb dX9_set_6 rfl (lv_at hl 2 rfl) ?_
  refine lv_iadd hx hb dX9_set_7 ?_
  refine lv_topi (fun x4_1 ev => ?_)
  have hf := lt_n ev hf; clear ev
  refine lv_istore (lv' := [(4, .int x4_1), (0, .ref h), (1, .int x1), (2, .int x2), (3, .int x3)]) hx hb dX9_set_8 hl (by decide) rfl (fun ls hl => ?_)
  refine lv_iload_n hx hb dX9_set_10 rfl (lv_at hl 2 rfl) ?_
  refine lv_if_lt (tgt := 38) hx hb dX9_set_11 (by decide) (fun hc => ?_) (fun hc => ?_)
  · have hf := it_t hc hf
    exact j_X9_set_38 B   hf  w (lv_sub hl [1, 4, 0] rfl)
  · have hf := it_f hc hf
    refine lv_iload_n hx hb dX9_set_14 rfl (lv_at hl 2 rfl) ?_
    refine lv_aload_n hx hb dX9_set_15 rfl (lv_at hl 1 rfl) ?_
    refine mx_get B w 0 fl_X9_28 rfl rfl dX9_set_16 ?_
    refine lv_icmp_ge (tgt := 38) hx hb dX9_set_19 (by decide) (fun hc => ?_) (fun hc => ?_)
    · have hf := it_t hc hf
      exact j_X9_set_38 B   hf  w (lv_sub hl [1, 4, 0] rfl)
    · have hf := it_f hc hf
      refine lv_iload_n hx hb dX9_set_22 rfl (lv_at hl 3 rfl) ?_
      refine lv_if_lt (tgt := 38) hx hb dX9_set_23 (by decide) (fun hc => ?_) (fun hc => ?_)
      · have hf := it_t hc hf
        exact j_X9_set_38 B   hf  w (lv_sub hl [1, 4, 0] rfl)
      · have hf := it_f hc hf
        refine lv_iload_n hx hb dX9_set_26 rfl (lv_at hl 3 rfl) ?_
        refine lv_aload_n hx hb dX9_set_27 rfl (lv_at hl 1 rfl) ?_
        refine mx_get B w 0 fl_X9_21 rfl rfl dX9_set_28 ?_
        refine lv_icmp_ge (tgt := 38) hx hb dX9_set_31 (by decide) (fun hc => ?_) (fun hc => ?_)
        · have hf := it_t hc hf
          exact j_X9_set_38 B   hf  w (lv_sub hl [1, 4, 0] rfl)
        · have hf := it_f hc hf
          refine lv_iconst (v := 1) hx hb dX9_set_34 (by decide) ?_
          refine lv_goto (tgt := 39) hx hb dX9_set_35 (by decide) ?_
          exact j_X9_set_39 B   hf  w (lv_sub hl [1, 4, 0] rfl)
-- X9_find
def po_X9_find (E : mE) (h : Nat) (a : Nat) (L : Nat) (mo : Int32) (wi : Int32) (sz : Int32) (f : Nat → Int32)  (o : Int32) : Option Value → va_W → Prop := (fun (v : Option Value) (w' : va_W) => v = some (.int o) ∧ w' = [(h, .inr (8, [.int mo, .int wi, .ref a, .int sz])), (a, .inl (E.2.1, L, .inl f))])
noncomputable def J_X9_find_41 (N : Nat) (L : Nat) (rec : Int32 → Int32 → Option (Int32)) (k47 : Unit → Option (Int32)) (k35 : Int32 → Option (Int32)) (x1 : Int32) (x2 : Int32) (x3 : Int32) (x4 : Int32) (x5 : Int32) (wi : Int32) (sz : Int32) (f : Nat → Int32) : Option (Int32) :=
  lt (x5 + 1) (fun x5_3 =>
  rec x4 x5_3)
set_option maxHeartbeats 4000000 in
set_option maxRecDepth 100000 in
theorem j_X9_find_41 {E : mE} {l : Launch} {p : Program} {e : Env} {s : State} {m : MethodId} {args : Array Value} {below : List Frame} {meth : Method} {c : Code} {A : Nat → Prop} {Q : State → Prop} {N : Nat} {h : Nat} {a : Nat} {L : Nat} {mo : Int32} {wi : Int32} {sz : Int32} {f : Nat → Int32}  {o : Int32} (B : mB E yX9_find cX9_find 6 (some .int) 0 0 (po_X9_find E h a L mo wi sz f o) p s m args below meth c A Q) {x1 : Int32} {x2 : Int32} {x3 : Int32} {x4 : Int32} {x5 : Int32}   (rec : Int32 → Int32 → Option (Int32)) (k47 : Unit → Option (Int32)) (k35 : Int32 → Option (Int32)) (hrec : ∀ (x4 : Int32) (x5 : Int32)   (H : Heap) (locs : List Loc) (ls : Array Slot), rec x4 x5 = some o → mW E A s [(h, .inr (8, [.int mo, .int wi, .ref a, .int sz])), (a, .inl (E.2.1, L, .inl f))] H locs → lv_has ls 6 [(0, .ref h), (1, .int x1), (2, .int x2), (3, .int x3), (4, .int x4), (5, .int x5)] → W p l e ({ frames := 1, cells := 0, slots := 0, locals := 24 } : Room) s m args below meth c H locs 0 0 Q (F0 m 6 ls [])) (hk47 : ∀    (H : Heap) (locs : List Loc) (ls : Array Slot), k47 () = some o → mW E A s [(h, .inr (8, [.int mo, .int wi, .ref a, .int sz])), (a, .inl (E.2.1, L, .inl f))] H locs → lv_has ls 6 [] → W p l e ({ frames := 1, cells := 0, slots := 0, locals := 24 } : Room) s m args below meth c H locs 0 0 Q (F0 m 47 ls [])) (hk35 : ∀ (x5 : Int32)   (H : Heap) (locs : List Loc) (ls : Array Slot), k35 x5 = some o → mW E A s [(h, .inr (8, [.int mo, .int wi, .ref a, .int sz])), (a, .inl (E.2.1, L, .inl f))] H locs → lv_has ls 6 [(5, .int x5)] → W p l e ({ frames := 1, cells := 0, slots := 0, locals := 24 } : Room) s m args below meth c H locs 0 0 Q (F0 m 35 ls [])) {H : Heap} {locs : List Loc} {ls : Array Slot} (hf : J_X9_find_41 N L rec k47 k35 x1 x2 x3 x4 x5 wi sz f = some o)  (w : mW E A s [(h, .inr (8, [.int mo, .int wi, .ref a, .int sz])), (a, .inl (E.2.1, L, .inl f))] H locs) (hl : lv_has ls 6 [(0, .ref h), (1, .int x1), (2, .int x2), (3, .int x3), (4, .int x4), (5, .int x5)]) : W p l e ({ frames := 1, cells := 0, slots := 0, locals := 24 } : Room) s m args below meth c H locs 0 0 Q (F0 m 41 ls []) := by
  obtain ⟨hx, hb, hml, hown, hts⟩ := id B.1
  unfold J_X9_find_41 at hf
  obtain ⟨x5_3, ev⟩ : ∃ y : Int32, y = x5 + 1 := ⟨_, rfl⟩
  refine lv_iinc (v := x5_3) (lv' := [(5, .int x5_3), (0, .ref h), (1, .int x1), (2, .int x2), (3, .int x3), (4, .int x4)]) hx hb dX9_find_41 hl (k := 5) rfl (by rw [ev]; rfl) (by decide) rfl (fun ls hl => ?_)
  have hf := lt_n ev hf; clear ev
  refine lv_goto (tgt := 6) hx hb dX9_find_44 (by decide) ?_
  exact hrec _ _ _ _ _ hf  w (lv_sub hl [1, 2, 3, 4, 5, 0] rfl)
noncomputable def K_X9_find_6 (N : Nat) (L : Nat) (rec : Int32 → Int32 → Option (Int32)) (k47 : Unit → Option (Int32)) (k35 : Int32 → Option (Int32)) (x1 : Int32) (x2 : Int32) (x3 : Int32) (wi : Int32) (sz : Int32) (f : Nat → Int32) (x4 : Int32) (x5 : Int32)  : Option (Int32) :=
  if (sz ≤ x5 : Prop) then
  k47 ()
  else
  bd (F_X9_get L wi sz f x5 x1) (fun o_1 =>
  if (o_1 = x2 : Prop) then
  if (x4 = x3 : Prop) then
  k35 x5
  else
  lt (x4 + 1) (fun x4_2 =>
  J_X9_find_41 N L rec k47 k35 x1 x2 x3 x4_2 x5 wi sz f)
  else
  J_X9_find_41 N L rec k47 k35 x1 x2 x3 x4 x5 wi sz f)
noncomputable def L_X9_find_6 (N : Nat) (L : Nat) (k47 : Unit → Option (Int32)) (k35 : Int32 → Option (Int32)) (x1 : Int32) (x2 : Int32) (x3 : Int32) (wi : Int32) (sz : Int32) (f : Nat → Int32) (n : Nat) : Int32 → Int32 → Option (Int32) :=
  Nat.rec (motive := fun _ => Int32 → Int32 → Option (Int32)) (fun _ _ => none) (fun _ rec => K_X9_find_6 N L rec k47 k35 x1 x2 x3 wi sz f) n
set_option maxHeartbeats 4000000 in
set_option maxRecDepth 100000 in
theorem l_X9_find_6 {E : mE} {l : Launch} {p : Program} {e : Env} {s : State} {m : MethodId} {args : Array Value} {below : List Frame} {meth : Method} {c : Code} {A : Nat → Prop} {Q : State → Prop} {N : Nat} {h : Nat} {a : Nat} {L : Nat} {mo : Int32} {wi : Int32} {sz : Int32} {f : Nat → Int32}  {o : Int32} (B : mB E yX9_find cX9_find 6 (some .int) 0 0 (po_X9_find E h a L mo wi sz f o) p s m args below meth c A Q)   {x1 : Int32} {x2 : Int32} {x3 : Int32} (k47 : Unit → Option (Int32)) (k35 : Int32 → Option (Int32))  (hk47 : ∀    (H : Heap) (locs : List Loc) (ls : Array Slot), k47 () = some o → mW E A s [(h, .inr (8, [.int mo, .int wi, .ref a, .int sz])), (a, .inl (E.2.1, L, .inl f))] H locs → lv_has ls 6 [] → W p l e ({ frames := 1, cells := 0, slots := 0, locals := 24 } : Room) s m args below meth c H locs 0 0 Q (F0 m 47 ls [])) (hk35 : ∀ (x5 : Int32)   (H : Heap) (locs : List Loc) (ls : Array Slot), k35 x5 = some o → mW E A s [(h, .inr (8, [.int mo, .int wi, .ref a, .int sz])), (a, .inl (E.2.1, L, .inl f))] H locs → lv_has ls 6 [(5, .int x5)] → W p l e ({ frames := 1, cells := 0, slots := 0, locals := 24 } : Room) s m args below meth c H locs 0 0 Q (F0 m 35 ls [])) : ∀ n : Nat, ∀ (x4 : Int32) (x5 : Int32)   (H : Heap) (locs : List Loc) (ls : Array Slot), L_X9_find_6 N L k47 k35 x1 x2 x3 wi sz f n x4 x5 = some o → mW E A s [(h, .inr (8, [.int mo, .int wi, .ref a, .int sz])), (a, .inl (E.2.1, L, .inl f))] H locs → lv_has ls 6 [(0, .ref h), (1, .int x1), (2, .int x2), (3, .int x3), (4, .int x4), (5, .int x5)] → W p l e ({ frames := 1, cells := 0, slots := 0, locals := 24 } : Room) s m args below meth c H locs 0 0 Q (F0 m 6 ls []) := by
  obtain ⟨hx, hb, hml, hown, hts⟩ := id B.1
  intro n
  induction n with
  | zero =>
    intro x4 x5 H locs ls hf w hl
    exact nomatch hf
  | succ n hrec =>
    intro x4 x5 H locs ls hf w hl
    have hf : K_X9_find_6 N L (L_X9_find_6 N L k47 k35 x1 x2 x3 wi sz f n) k47 k35 x1 x2 x3 wi sz f x4 x5 = some o := hf
    unfold K_X9_find_6 at hf
    refine lv_iload hx hb dX9_find_6 (lv_at hl 5 rfl) ?_
    refine lv_aload_n hx hb dX9_find_8 rfl (lv_at hl 0 rfl) ?_
    refine mx_get B w 0 fl_X9_28 rfl rfl dX9_find_9 ?_
    refine lv_icmp_ge (tgt := 47) hx hb dX9_find_12 (by decide) (fun hc => ?_) (fun hc => ?_)
    · have hf := it_t hc hf
      exact hk47 _ _ _ hf  w (lv_sub hl [] rfl)
    · have hf := it_f hc hf
      refine lv_aload_n hx hb dX9_find_15 rfl (lv_at hl 0 rfl) ?_
      refine lv_iload hx hb dX9_find_16 (lv_at hl 5 rfl) ?_
      refine lv_iload_n hx hb dX9_find_18 rfl (lv_at hl 1 rfl) ?_
      obtain ⟨o_1, hq, hf⟩ := bd_e hf
      refine mx_callV (As := [.int x5, .int x1]) (rest := []) (wr := []) (d_X9_get E l  h a L mo wi sz f x5 x1  o_1 hq) B w [0, 1] [] rfl rfl (by decide) (by decide) (by decide) 0 rfl rfl cv_X9_get kw_469 2 (by decide +kernel) ⟨Nat.le_of_ble_eq_true rfl, Nat.le_of_ble_eq_true rfl⟩ rfl hl.1 rfl (Nat.le_of_ble_eq_true rfl) dX9_find_19 rfl rfl ⟨Nat.zero_le _, Nat.zero_le _⟩ (fun v w' H locs hpo w => ?_)
      clear hq
      obtain ⟨rfl, rfl⟩ := hpo
      have w : mW E A s [(h, .inr (8, [.int mo, .int wi, .ref a, .int sz])), (a, .inl (E.2.1, L, .inl f))] H locs := w
      refine lv_iload_n hx hb dX9_find_22 rfl (lv_at hl 2 rfl) ?_
      refine lv_icmp_eq (tgt := 29) hx hb dX9_find_23 (by decide) (fun hc => ?_) (fun hc => ?_)
      · have hf := it_t hc hf
        refine lv_iload hx hb dX9_find_29 (lv_at hl 4 rfl) ?_
        refine lv_iload_n hx hb dX9_find_31 rfl (lv_at hl 3 rfl) ?_
        refine lv_icmp_ne (tgt := 38) hx hb dX9_find_32 (by decide) (fun hc => ?_) (fun hc => ?_)
        · have hf := it_f hc hf
          obtain ⟨x4_2, ev⟩ : ∃ y : Int32, y = x4 + 1 := ⟨_, rfl⟩
          refine lv_iinc (v := x4_2) (lv' := [(4, .int x4_2), (0, .ref h), (1, .int x1), (2, .int x2), (3, .int x3), (5, .int x5)]) hx hb dX9_find_38 hl (k := 4) rfl (by rw [ev]; rfl) (by decide) rfl (fun ls hl => ?_)
          have hf := lt_n ev hf; clear ev
          exact j_X9_find_41 B _ _ _ hrec hk47 hk35 hf  w (lv_sub hl [1, 2, 3, 4, 0, 5] rfl)
        · have hf := it_t hc hf
          exact hk35 _ _ _ _ hf  w (lv_sub hl [5] rfl)
      · have hf := it_f hc hf
        refine lv_goto (tgt := 41) hx hb dX9_find_26 (by decide) ?_
        exact j_X9_find_41 B _ _ _ hrec hk47 hk35 hf  w (lv_sub hl [0, 1, 2, 3, 4, 5] rfl)
noncomputable def F_X9_find (N : Nat) (L : Nat) (wi : Int32) (sz : Int32) (f : Nat → Int32) (x1 : Int32) (x2 : Int32) (x3 : Int32) : Option (Int32) :=
  L_X9_find_6 N L (fun _ => some ((-1))) (fun x5 => some (x5)) x1 x2 x3 wi sz f N 0 0
set_option maxHeartbeats 4000000 in
set_option maxRecDepth 100000 in
theorem d_X9_find (E : mE) (l : Launch) (N : Nat) (h : Nat) (a : Nat) (L : Nat) (mo : Int32) (wi : Int32) (sz : Int32) (f : Nat → Int32)  (x1 : Int32) (x2 : Int32) (x3 : Int32)  (o : Int32) (hf : F_X9_find N L wi sz f x1 x2 x3 = some o) : MX E l yX9_find cX9_find 6 (some .int) ({ frames := 1, cells := 0, slots := 0, locals := 24 } : Room) [.ref h, .int x1, .int x2, .int x3] [(h, .inr (8, [.int mo, .int wi, .ref a, .int sz])), (a, .inl (E.2.1, L, .inl f))] (po_X9_find E h a L mo wi sz f o) := by
  refine mx_intro (by decide +kernel) (Nat.le_of_ble_eq_true rfl) ?_
  intro p e s m args below meth c A Q ls B w hl
  obtain ⟨hx, hb, hml, hown, hts⟩ := id B.1
  unfold F_X9_find at hf
  have hl : lv_has ls 6 [(0, .ref h), (1, .int x1), (2, .int x2), (3, .int x3)] := hl
  refine lv_iconst (v := 0) hx hb dX9_find_0 (by decide) ?_
  refine lv_istore (lv' := [(4, .int 0), (0, .ref h), (1, .int x1), (2, .int x2), (3, .int x3)]) hx hb dX9_find_1 hl (by decide) rfl (fun ls hl => ?_)
  refine lv_iconst (v := 0) hx hb dX9_find_3 (by decide) ?_
  refine lv_istore (lv' := [(5, .int 0), (4, .int 0), (0, .ref h), (1, .int x1), (2, .int x2), (3, .int x3)]) hx hb dX9_find_4 hl (by decide) rfl (fun ls hl => ?_)
  refine l_X9_find_6 B _ _  ?_ ?_ N _ _ _ _ _ hf  w (lv_sub hl [2, 3, 4, 5, 1, 0] rfl)
  · intro H locs ls hf w hl
    refine lv_iconst (v := (-1)) hx hb dX9_find_47 (by decide) ?_
    cases hf
    exact mx_iret B w ⟨rfl, rfl⟩ dX9_find_48
  · intro x5 H locs ls hf w hl
    refine lv_iload hx hb dX9_find_35 (lv_at hl 0 rfl) ?_
    cases hf
    exact mx_iret B w ⟨rfl, rfl⟩ dX9_find_37
-- X9_howMany
def po_X9_howMany (E : mE) (h : Nat) (a : Nat) (L : Nat) (mo : Int32) (wi : Int32) (sz : Int32) (f : Nat → Int32)  (o : Int32) : Option Value → va_W → Prop := (fun (v : Option Value) (w' : va_W) => v = some (.int o) ∧ w' = [(h, .inr (8, [.int mo, .int wi, .ref a, .int sz])), (a, .inl (E.2.1, L, .inl f))])
noncomputable def J_X9_howMany_28 (N : Nat) (L : Nat) (rec : Int32 → Int32 → Option (Int32)) (k34 : Int32 → Option (Int32)) (x1 : Int32) (x2 : Int32) (x3 : Int32) (x4 : Int32) (wi : Int32) (sz : Int32) (f : Nat → Int32) : Option (Int32) :=
  lt (x4 + 1) (fun x4_2 =>
  rec x3 x4_2)
set_option maxHeartbeats 4000000 in
set_option maxRecDepth 100000 in
theorem j_X9_howMany_28 {E : mE} {l : Launch} {p : Program} {e : Env} {s : State} {m : MethodId} {args : Array Value} {below : List Frame} {meth : Method} {c : Code} {A : Nat → Prop} {Q : State → Prop} {N : Nat} {h : Nat} {a : Nat} {L : Nat} {mo : Int32} {wi : Int32} {sz : Int32} {f : Nat → Int32}  {o : Int32} (B : mB E yX9_howMany cX9_howMany 5 (some .int) 0 0 (po_X9_howMany E h a L mo wi sz f o) p s m args below meth c A Q) {x1 : Int32} {x2 : Int32} {x3 : Int32} {x4 : Int32}   (rec : Int32 → Int32 → Option (Int32)) (k34 : Int32 → Option (Int32)) (hrec : ∀ (x3 : Int32) (x4 : Int32)   (H : Heap) (locs : List Loc) (ls : Array Slot), rec x3 x4 = some o → mW E A s [(h, .inr (8, [.int mo, .int wi, .ref a, .int sz])), (a, .inl (E.2.1, L, .inl f))] H locs → lv_has ls 5 [(0, .ref h), (1, .int x1), (2, .int x2), (3, .int x3), (4, .int x4)] → W p l e ({ frames := 1, cells := 0, slots := 0, locals := 24 } : Room) s m args below meth c H locs 0 0 Q (F0 m 5 ls [])) (hk34 : ∀ (x3 : Int32)   (H : Heap) (locs : List Loc) (ls : Array Slot), k34 x3 = some o → mW E A s [(h, .inr (8, [.int mo, .int wi, .ref a, .int sz])), (a, .inl (E.2.1, L, .inl f))] H locs → lv_has ls 5 [(3, .int x3)] → W p l e ({ frames := 1, cells := 0, slots := 0, locals := 24 } : Room) s m args below meth c H locs 0 0 Q (F0 m 34 ls [])) {H : Heap} {locs : List Loc} {ls : Array Slot} (hf : J_X9_howMany_28 N L rec k34 x1 x2 x3 x4 wi sz f = some o)  (w : mW E A s [(h, .inr (8, [.int mo, .int wi, .ref a, .int sz])), (a, .inl (E.2.1, L, .inl f))] H locs) (hl : lv_has ls 5 [(0, .ref h), (1, .int x1), (2, .int x2), (3, .int x3), (4, .int x4)]) : W p l e ({ frames := 1, cells := 0, slots := 0, locals := 24 } : Room) s m args below meth c H locs 0 0 Q (F0 m 28 ls []) := by
  obtain ⟨hx, hb, hml, hown, hts⟩ := id B.1
  unfold J_X9_howMany_28 at hf
  obtain ⟨x4_2, ev⟩ : ∃ y : Int32, y = x4 + 1 := ⟨_, rfl⟩
  refine lv_iinc (v := x4_2) (lv' := [(4, .int x4_2), (0, .ref h), (1, .int x1), (2, .int x2), (3, .int x3)]) hx hb dX9_howMany_28 hl (k := 4) rfl (by rw [ev]; rfl) (by decide) rfl (fun ls hl => ?_)
  have hf := lt_n ev hf; clear ev
  refine lv_goto (tgt := 5) hx hb dX9_howMany_31 (by decide) ?_
  exact hrec _ _ _ _ _ hf  w (lv_sub hl [1, 2, 3, 4, 0] rfl)
noncomputable def K_X9_howMany_5 (N : Nat) (L : Nat) (rec : Int32 → Int32 → Option (Int32)) (k34 : Int32 → Option (Int32)) (x1 : Int32) (x2 : Int32) (wi : Int32) (sz : Int32) (f : Nat → Int32) (x3 : Int32) (x4 : Int32)  : Option (Int32) :=
  if (sz ≤ x4 : Prop) then
  k34 x3
  else
  bd (F_X9_get L wi sz f x4 x1) (fun o_1 =>
  if (o_1 = x2 : Prop) then
  lt (x3 + 1) (fun x3_3 =>
  J_X9_howMany_28 N L rec k34 x1 x2 x3_3 x4 wi sz f)
  else
  J_X9_howMany_28 N L rec k34 x1 x2 x3 x4 wi sz f)
noncomputable def L_X9_howMany_5 (N : Nat) (L : Nat) (k34 : Int32 → Option (Int32)) (x1 : Int32) (x2 : Int32) (wi : Int32) (sz : Int32) (f : Nat → Int32) (n : Nat) : Int32 → Int32 → Option (Int32) :=
  Nat.rec (motive := fun _ => Int32 → Int32 → Option (Int32)) (fun _ _ => none) (fun _ rec => K_X9_howMany_5 N L rec k34 x1 x2 wi sz f) n
set_option maxHeartbeats 4000000 in
set_option maxRecDepth 100000 in
theorem l_X9_howMany_5 {E : mE} {l : Launch} {p : Program} {e : Env} {s : State} {m : MethodId} {args : Array Value} {below : List Frame} {meth : Method} {c : Code} {A : Nat → Prop} {Q : State → Prop} {N : Nat} {h : Nat} {a : Nat} {L : Nat} {mo : Int32} {wi : Int32} {sz : Int32} {f : Nat → Int32}  {o : Int32} (B : mB E yX9_howMany cX9_howMany 5 (some .int) 0 0 (po_X9_howMany E h a L mo wi sz f o) p s m args below meth c A Q)   {x1 : Int32} {x2 : Int32} (k34 : Int32 → Option (Int32))  (hk34 : ∀ (x3 : Int32)   (H : Heap) (locs : List Loc) (ls : Array Slot), k34 x3 = some o → mW E A s [(h, .inr (8, [.int mo, .int wi, .ref a, .int sz])), (a, .inl (E.2.1, L, .inl f))] H locs → lv_has ls 5 [(3, .int x3)] → W p l e ({ frames := 1, cells := 0, slots := 0, locals := 24 } : Room) s m args below meth c H locs 0 0 Q (F0 m 34 ls [])) : ∀ n : Nat, ∀ (x3 : Int32) (x4 : Int32)   (H : Heap) (locs : List Loc) (ls : Array Slot), L_X9_howMany_5 N L k34 x1 x2 wi sz f n x3 x4 = some o → mW E A s [(h, .inr (8, [.int mo, .int wi, .ref a, .int sz])), (a, .inl (E.2.1, L, .inl f))] H locs → lv_has ls 5 [(0, .ref h), (1, .int x1), (2, .int x2), (3, .int x3), (4, .int x4)] → W p l e ({ frames := 1, cells := 0, slots := 0, locals := 24 } : Room) s m args below meth c H locs 0 0 Q (F0 m 5 ls []) := by
  obtain ⟨hx, hb, hml, hown, hts⟩ := id B.1
  intro n
  induction n with
  | zero =>
    intro x3 x4 H locs ls hf w hl
    exact nomatch hf
  | succ n hrec =>
    intro x3 x4 H locs ls hf w hl
    have hf : K_X9_howMany_5 N L (L_X9_howMany_5 N L k34 x1 x2 wi sz f n) k34 x1 x2 wi sz f x3 x4 = some o := hf
    unfold K_X9_howMany_5 at hf
    refine lv_iload hx hb dX9_howMany_5 (lv_at hl 4 rfl) ?_
    refine lv_aload_n hx hb dX9_howMany_7 rfl (lv_at hl 0 rfl) ?_
    refine mx_get B w 0 fl_X9_28 rfl rfl dX9_howMany_8 ?_
    refine lv_icmp_ge (tgt := 34) hx hb dX9_howMany_11 (by decide) (fun hc => ?_) (fun hc => ?_)
    · have hf := it_t hc hf
      exact hk34 _ _ _ _ hf  w (lv_sub hl [3] rfl)
    · have hf := it_f hc hf
      refine lv_aload_n hx hb dX9_howMany_14 rfl (lv_at hl 0 rfl) ?_
      refine lv_iload hx hb dX9_howMany_15 (lv_at hl 4 rfl) ?_
      refine lv_iload_n hx hb dX9_howMany_17 rfl (lv_at hl 1 rfl) ?_
      obtain ⟨o_1, hq, hf⟩ := bd_e hf
      refine mx_callV (As := [.int x4, .int x1]) (rest := []) (wr := []) (d_X9_get E l  h a L mo wi sz f x4 x1  o_1 hq) B w [0, 1] [] rfl rfl (by decide) (by decide) (by decide) 0 rfl rfl cv_X9_get kw_469 2 (by decide +kernel) ⟨Nat.le_of_ble_eq_true rfl, Nat.le_of_ble_eq_true rfl⟩ rfl hl.1 rfl (Nat.le_of_ble_eq_true rfl) dX9_howMany_18 rfl rfl ⟨Nat.zero_le _, Nat.zero_le _⟩ (fun v w' H locs hpo w => ?_)
      clear hq
      obtain ⟨rfl, rfl⟩ := hpo
      have w : mW E A s [(h, .inr (8, [.int mo, .int wi, .ref a, .int sz])), (a, .inl (E.2.1, L, .inl f))] H locs := w
      refine lv_iload_n hx hb dX9_howMany_21 rfl (lv_at hl 2 rfl) ?_
      refine lv_icmp_ne (tgt := 28) hx hb dX9_howMany_22 (by decide) (fun hc => ?_) (fun hc => ?_)
      · have hf := it_f hc hf
        exact j_X9_howMany_28 B _ _ hrec hk34 hf  w (lv_sub hl [0, 1, 2, 3, 4] rfl)
      · have hf := it_t hc hf
        obtain ⟨x3_3, ev⟩ : ∃ y : Int32, y = x3 + 1 := ⟨_, rfl⟩
        refine lv_iinc (v := x3_3) (lv' := [(3, .int x3_3), (0, .ref h), (1, .int x1), (2, .int x2), (4, .int x4)]) hx hb dX9_howMany_25 hl (k := 3) rfl (by rw [ev]; rfl) (by decide) rfl (fun ls hl => ?_)
        have hf := lt_n ev hf; clear ev
        exact j_X9_howMany_28 B _ _ hrec hk34 hf  w (lv_sub hl [1, 2, 3, 0, 4] rfl)
noncomputable def F_X9_howMany (N : Nat) (L : Nat) (wi : Int32) (sz : Int32) (f : Nat → Int32) (x1 : Int32) (x2 : Int32) : Option (Int32) :=
  L_X9_howMany_5 N L (fun x3 => some (x3)) x1 x2 wi sz f N 0 0
set_option maxHeartbeats 4000000 in
set_option maxRecDepth 100000 in
theorem d_X9_howMany (E : mE) (l : Launch) (N : Nat) (h : Nat) (a : Nat) (L : Nat) (mo : Int32) (wi : Int32) (sz : Int32) (f : Nat → Int32)  (x1 : Int32) (x2 : Int32)  (o : Int32) (hf : F_X9_howMany N L wi sz f x1 x2 = some o) : MX E l yX9_howMany cX9_howMany 5 (some .int) ({ frames := 1, cells := 0, slots := 0, locals := 24 } : Room) [.ref h, .int x1, .int x2] [(h, .inr (8, [.int mo, .int wi, .ref a, .int sz])), (a, .inl (E.2.1, L, .inl f))] (po_X9_howMany E h a L mo wi sz f o) := by
  refine mx_intro (by decide +kernel) (Nat.le_of_ble_eq_true rfl) ?_
  intro p e s m args below meth c A Q ls B w hl
  obtain ⟨hx, hb, hml, hown, hts⟩ := id B.1
  unfold F_X9_howMany at hf
  have hl : lv_has ls 5 [(0, .ref h), (1, .int x1), (2, .int x2)] := hl
  refine lv_iconst (v := 0) hx hb dX9_howMany_0 (by decide) ?_
  refine lv_istore_n (lv' := [(3, .int 0), (0, .ref h), (1, .int x1), (2, .int x2)]) hx hb dX9_howMany_1 rfl hl (by decide) rfl (fun ls hl => ?_)
  refine lv_iconst (v := 0) hx hb dX9_howMany_2 (by decide) ?_
  refine lv_istore (lv' := [(4, .int 0), (3, .int 0), (0, .ref h), (1, .int x1), (2, .int x2)]) hx hb dX9_howMany_3 hl (by decide) rfl (fun ls hl => ?_)
  refine l_X9_howMany_5 B _  ?_ N _ _ _ _ _ hf  w (lv_sub hl [2, 3, 4, 1, 0] rfl)
  · intro x3 H locs ls hf w hl
    refine lv_iload_n hx hb dX9_howMany_34 rfl (lv_at hl 0 rfl) ?_
    cases hf
    exact mx_iret B w ⟨rfl, rfl⟩ dX9_howMany_35
-- X9_remove
def po_X9_remove (E : mE) (h : Nat) (a : Nat) (L : Nat) (mo : Int32) (wi : Int32) (sz : Int32) (f : Nat → Int32)  (o : Int32 × (Nat → Int32)) : Option Value → va_W → Prop := (fun (v : Option Value) (w' : va_W) => v = none ∧ w' = [(h, .inr (8, [.int mo, .int wi, .ref a, .int o.1])), (a, .inl (E.2.1, L, .inl o.2))])
noncomputable def K_X9_remove_20 (N : Nat) (L : Nat) (rec : Int32 → (Nat → Int32) → (Option (Int32 × (Nat → Int32)))) (k75 : (Nat → Int32) → (Option (Int32 × (Nat → Int32))))  (wi : Int32) (sz : Int32) (x2 : Int32) (f : Nat → Int32) : Option (Int32 × (Nat → Int32)) :=
  if ((sz * wi) ≤ (x2 + wi) : Prop) then
  k75 f
  else
  if ((nI L) ≤ (x2 + wi) : Prop) then
  k75 f
  else
  ld f L (x2 + wi) (fun v_2 =>
  sto f L x2 v_2 (fun f_3 =>
  lt (x2 + 1) (fun x2_4 =>
  rec x2_4 f_3)))
noncomputable def L_X9_remove_20 (N : Nat) (L : Nat) (k75 : (Nat → Int32) → (Option (Int32 × (Nat → Int32))))  (wi : Int32) (sz : Int32) (n : Nat) : Int32 → (Nat → Int32) → (Option (Int32 × (Nat → Int32))) :=
  Nat.rec (motive := fun _ => Int32 → (Nat → Int32) → (Option (Int32 × (Nat → Int32)))) (fun _ _ => none) (fun _ rec => K_X9_remove_20 N L rec k75 wi sz) n
set_option maxHeartbeats 4000000 in
set_option maxRecDepth 100000 in
theorem l_X9_remove_20 {E : mE} {l : Launch} {p : Program} {e : Env} {s : State} {m : MethodId} {args : Array Value} {below : List Frame} {meth : Method} {c : Code} {A : Nat → Prop} {Q : State → Prop} {N : Nat} {h : Nat} {a : Nat} {L : Nat} {mo : Int32} {wi : Int32} {sz0 : Int32} {f0 : Nat → Int32}  {o : Int32 × (Nat → Int32)} (B : mB E yX9_remove cX9_remove 3 none 0 0 (po_X9_remove E h a L mo wi sz0 f0 o) p s m args below meth c A Q) {sz : Int32}   (k75 : (Nat → Int32) → (Option (Int32 × (Nat → Int32))))  (hk75 : ∀  (f : Nat → Int32)  (H : Heap) (locs : List Loc) (ls : Array Slot), k75 f = some o → mW E A s [(h, .inr (8, [.int mo, .int wi, .ref a, .int sz])), (a, .inl (E.2.1, L, .inl f))] H locs → lv_has ls 3 [(0, .ref h)] → W p l e ({ frames := 0, cells := 0, slots := 0, locals := 0 } : Room) s m args below meth c H locs 0 0 Q (F0 m 75 ls [])) : ∀ n : Nat, ∀ (x2 : Int32) (f : Nat → Int32)  (H : Heap) (locs : List Loc) (ls : Array Slot), L_X9_remove_20 N L k75 wi sz n x2 f = some o → mW E A s [(h, .inr (8, [.int mo, .int wi, .ref a, .int sz])), (a, .inl (E.2.1, L, .inl f))] H locs → lv_has ls 3 [(0, .ref h), (2, .int x2)] → W p l e ({ frames := 0, cells := 0, slots := 0, locals := 0 } : Room) s m args below meth c H locs 0 0 Q (F0 m 20 ls []) := by
  obtain ⟨hx, hb, hml, hown, hts⟩ := id B.1
  intro n
  induction n with
  | zero =>
    intro x2 f H locs ls hf w hl
    exact nomatch hf
  | succ n hrec =>
    intro x2 f H locs ls hf w hl
    have hf : K_X9_remove_20 N L (L_X9_remove_20 N L k75 wi sz n) k75 wi sz x2 f = some o := hf
    unfold K_X9_remove_20 at hf
    refine lv_iload_n hx hb dX9_remove_20 rfl (lv_at hl 1 rfl) ?_
    refine lv_aload_n hx hb dX9_remove_21 rfl (lv_at hl 0 rfl) ?_
    refine mx_get B w 0 fl_X9_21 rfl rfl dX9_remove_22 ?_
    refine lv_iadd hx hb dX9_remove_25 ?_
    refine lv_aload_n hx hb dX9_remove_26 rfl (lv_at hl 0 rfl) ?_
    refine mx_get B w 0 fl_X9_28 rfl rfl dX9_remove_27 ?_
    refine lv_aload_n hx hb dX9_remove_30 rfl (lv_at hl 0 rfl) ?_
    refine mx_get B w 0 fl_X9_21 rfl rfl dX9_remove_31 ?_
    refine lv_imul hx hb dX9_remove_34 ?_
    refine lv_icmp_ge (tgt := 75) hx hb dX9_remove_35 (by decide) (fun hc => ?_) (fun hc => ?_)
    · have hf := it_t hc hf
      exact hk75 _ _ _ _ hf  w (lv_sub hl [0] rfl)
    · have hf := it_f hc hf
      refine lv_iload_n hx hb dX9_remove_38 rfl (lv_at hl 1 rfl) ?_
      refine lv_aload_n hx hb dX9_remove_39 rfl (lv_at hl 0 rfl) ?_
      refine mx_get B w 0 fl_X9_21 rfl rfl dX9_remove_40 ?_
      refine lv_iadd hx hb dX9_remove_43 ?_
      refine lv_aload_n hx hb dX9_remove_44 rfl (lv_at hl 0 rfl) ?_
      refine mx_get B w 0 fl_X9_24 rfl rfl dX9_remove_45 ?_
      refine mx_alen B w 1 rfl dX9_remove_48 ?_
      refine lv_icmp_ge (tgt := 75) hx hb dX9_remove_49 (by decide) (fun hc => ?_) (fun hc => ?_)
      · have hf := it_t hc hf
        exact hk75 _ _ _ _ hf  w (lv_sub hl [0] rfl)
      · have hf := it_f hc hf
        refine lv_aload_n hx hb dX9_remove_52 rfl (lv_at hl 0 rfl) ?_
        refine mx_get B w 0 fl_X9_24 rfl rfl dX9_remove_53 ?_
        refine lv_iload_n hx hb dX9_remove_56 rfl (lv_at hl 1 rfl) ?_
        refine lv_aload_n hx hb dX9_remove_57 rfl (lv_at hl 0 rfl) ?_
        refine mx_get B w 0 fl_X9_24 rfl rfl dX9_remove_58 ?_
        refine lv_iload_n hx hb dX9_remove_61 rfl (lv_at hl 1 rfl) ?_
        refine lv_aload_n hx hb dX9_remove_62 rfl (lv_at hl 0 rfl) ?_
        refine mx_get B w 0 fl_X9_21 rfl rfl dX9_remove_63 ?_
        refine lv_iadd hx hb dX9_remove_66 ?_
        obtain ⟨hin, hf⟩ := ld_e hf
        refine mx_iald B w 1 rfl hin dX9_remove_67 (fun v_2 ev => ?_)
        have hf := hf _ ev; clear ev
        obtain ⟨hin, hf⟩ := sto_e hf
        refine mx_iast B w 1 rfl hin dX9_remove_68 (fun f_3 H locs ev w => ?_)
        have hf := hf _ ev; clear ev
        have w : mW E A s [(h, .inr (8, [.int mo, .int wi, .ref a, .int sz])), (a, .inl (E.2.1, L, .inl f_3))] H locs := w
        obtain ⟨x2_4, ev⟩ : ∃ y : Int32, y = x2 + 1 := ⟨_, rfl⟩
        refine lv_iinc (v := x2_4) (lv' := [(2, .int x2_4), (0, .ref h)]) hx hb dX9_remove_69 hl (k := 1) rfl (by rw [ev]; rfl) (by decide) rfl (fun ls hl => ?_)
        have hf := lt_n ev hf; clear ev
        refine lv_goto (tgt := 20) hx hb dX9_remove_72 (by decide) ?_
        exact hrec _ _ _ _ _ hf  w (lv_sub hl [1, 0] rfl)
noncomputable def J_X9_remove_75 (N : Nat) (L : Nat)   (wi : Int32) (sz : Int32) (f : Nat → Int32) : Option (Int32 × (Nat → Int32)) :=
  lt ((sz - 1)) (fun sz_5 =>
  some (sz_5, f))
set_option maxHeartbeats 4000000 in
set_option maxRecDepth 100000 in
theorem j_X9_remove_75 {E : mE} {l : Launch} {p : Program} {e : Env} {s : State} {m : MethodId} {args : Array Value} {below : List Frame} {meth : Method} {c : Code} {A : Nat → Prop} {Q : State → Prop} {N : Nat} {h : Nat} {a : Nat} {L : Nat} {mo : Int32} {wi : Int32} {sz0 : Int32} {f0 : Nat → Int32}  {o : Int32 × (Nat → Int32)} (B : mB E yX9_remove cX9_remove 3 none 0 0 (po_X9_remove E h a L mo wi sz0 f0 o) p s m args below meth c A Q)  {sz : Int32} {f : Nat → Int32}    {H : Heap} {locs : List Loc} {ls : Array Slot} (hf : J_X9_remove_75 N L wi sz f = some o)  (w : mW E A s [(h, .inr (8, [.int mo, .int wi, .ref a, .int sz])), (a, .inl (E.2.1, L, .inl f))] H locs) (hl : lv_has ls 3 [(0, .ref h)]) : W p l e ({ frames := 0, cells := 0, slots := 0, locals := 0 } : Room) s m args below meth c H locs 0 0 Q (F0 m 75 ls []) := by
  obtain ⟨hx, hb, hml, hown, hts⟩ := id B.1
  unfold J_X9_remove_75 at hf
  refine lv_aload_n hx hb dX9_remove_75 rfl (lv_at hl 0 rfl) ?_
  refine lv_dup hx hb dX9_remove_76 rfl ?_
  refine mx_get B w 0 fl_X9_28 rfl rfl dX9_remove_77 ?_
  refine lv_iconst (v := 1) hx hb dX9_remove_80 (by decide) ?_
  refine lv_isub hx hb dX9_remove_81 ?_
  refine mx_puti B w 0 fl_X9_28 fi_X9_3 rfl (Nat.le_of_ble_eq_true rfl) dX9_remove_82 (fun sz_5 H locs ev w => ?_)
  have hf := lt_n ev hf; clear ev
  have w : mW E A s [(h, .inr (8, [.int mo, .int wi, .ref a, .int sz_5])), (a, .inl (E.2.1, L, .inl f))] H locs := w
  cases hf
  exact mx_vret B w ⟨rfl, rfl⟩ dX9_remove_85
noncomputable def F_X9_remove (N : Nat) (L : Nat) (wi : Int32) (sz : Int32) (f : Nat → Int32) (x1 : Int32) : Option (Int32 × (Nat → Int32)) :=
  if (x1 < 0 : Prop) then
  some (sz, f)
  else
  if (x1 < sz : Prop) then
  lt (x1 * wi) (fun x2_1 =>
  L_X9_remove_20 N L (fun f => J_X9_remove_75 N L wi sz f) wi sz N x2_1 f)
  else
  some (sz, f)
set_option maxHeartbeats 4000000 in
set_option maxRecDepth 100000 in
theorem d_X9_remove (E : mE) (l : Launch) (N : Nat) (h : Nat) (a : Nat) (L : Nat) (mo : Int32) (wi : Int32) (sz : Int32) (f : Nat → Int32)  (x1 : Int32)  (o : Int32 × (Nat → Int32)) (hf : F_X9_remove N L wi sz f x1 = some o) : MX E l yX9_remove cX9_remove 3 none ({ frames := 0, cells := 0, slots := 0, locals := 0 } : Room) [.ref h, .int x1] [(h, .inr (8, [.int mo, .int wi, .ref a, .int sz])), (a, .inl (E.2.1, L, .inl f))] (po_X9_remove E h a L mo wi sz f o) := by
  refine mx_intro (by decide +kernel) (Nat.le_of_ble_eq_true rfl) ?_
  intro p e s m args below meth c A Q ls B w hl
  obtain ⟨hx, hb, hml, hown, hts⟩ := id B.1
  unfold F_X9_remove at hf
  have hl : lv_has ls 3 [(0, .ref h), (1, .int x1)] := hl
  refine lv_iload_n hx hb dX9_remove_0 rfl (lv_at hl 1 rfl) ?_
  refine lv_if_lt (tgt := 12) hx hb dX9_remove_1 (by decide) (fun hc => ?_) (fun hc => ?_)
  · have hf := it_t hc hf
    cases hf
    exact mx_vret B w ⟨rfl, rfl⟩ dX9_remove_12
  · have hf := it_f hc hf
    refine lv_iload_n hx hb dX9_remove_4 rfl (lv_at hl 1 rfl) ?_
    refine lv_aload_n hx hb dX9_remove_5 rfl (lv_at hl 0 rfl) ?_
    refine mx_get B w 0 fl_X9_28 rfl rfl dX9_remove_6 ?_
    refine lv_icmp_lt (tgt := 13) hx hb dX9_remove_9 (by decide) (fun hc => ?_) (fun hc => ?_)
    · have hf := it_t hc hf
      refine lv_iload_n hx hb dX9_remove_13 rfl (lv_at hl 1 rfl) ?_
      refine lv_aload_n hx hb dX9_remove_14 rfl (lv_at hl 0 rfl) ?_
      refine mx_get B w 0 fl_X9_21 rfl rfl dX9_remove_15 ?_
      refine lv_imul hx hb dX9_remove_18 ?_
      refine lv_topi (fun x2_1 ev => ?_)
      have hf := lt_n ev hf; clear ev
      refine lv_istore_n (lv' := [(2, .int x2_1), (0, .ref h), (1, .int x1)]) hx hb dX9_remove_19 rfl hl (by decide) rfl (fun ls hl => ?_)
      refine l_X9_remove_20 B _  ?_ N _ _ _ _ _ hf  w (lv_sub hl [1, 0] rfl)
      · intro f H locs ls hf w hl
        exact j_X9_remove_75 B   hf  w (lv_sub hl [0] rfl)
    · have hf := it_f hc hf
      cases hf
      exact mx_vret B w ⟨rfl, rfl⟩ dX9_remove_12
-- X9_removeAll
def po_X9_removeAll (E : mE) (h : Nat) (a : Nat) (L : Nat) (mo : Int32) (wi : Int32) (sz : Int32) (f : Nat → Int32)  (o : Int32 × (Nat → Int32)) : Option Value → va_W → Prop := (fun (v : Option Value) (w' : va_W) => v = none ∧ w' = [(h, .inr (8, [.int mo, .int wi, .ref a, .int o.1])), (a, .inl (E.2.1, L, .inl o.2))])
noncomputable def J_X9_removeAll_26 (N : Nat) (L : Nat) (rec : Int32 → Int32 → (Nat → Int32) → (Option (Int32 × (Nat → Int32)))) (k32 : Int32 → (Nat → Int32) → (Option (Int32 × (Nat → Int32)))) (x1 : Int32) (x2 : Int32) (x3 : Int32) (wi : Int32) (sz : Int32) (f : Nat → Int32) : Option (Int32 × (Nat → Int32)) :=
  lt (x3 + (-1)) (fun x3_3 =>
  rec x3_3 sz f)
set_option maxHeartbeats 4000000 in
set_option maxRecDepth 100000 in
theorem j_X9_removeAll_26 {E : mE} {l : Launch} {p : Program} {e : Env} {s : State} {m : MethodId} {args : Array Value} {below : List Frame} {meth : Method} {c : Code} {A : Nat → Prop} {Q : State → Prop} {N : Nat} {h : Nat} {a : Nat} {L : Nat} {mo : Int32} {wi : Int32} {sz0 : Int32} {f0 : Nat → Int32}  {o : Int32 × (Nat → Int32)} (B : mB E yX9_removeAll cX9_removeAll 4 none 0 0 (po_X9_removeAll E h a L mo wi sz0 f0 o) p s m args below meth c A Q) {x1 : Int32} {x2 : Int32} {x3 : Int32} {sz : Int32} {f : Nat → Int32}  (rec : Int32 → Int32 → (Nat → Int32) → (Option (Int32 × (Nat → Int32)))) (k32 : Int32 → (Nat → Int32) → (Option (Int32 × (Nat → Int32)))) (hrec : ∀ (x3 : Int32) (sz : Int32) (f : Nat → Int32)  (H : Heap) (locs : List Loc) (ls : Array Slot), rec x3 sz f = some o → mW E A s [(h, .inr (8, [.int mo, .int wi, .ref a, .int sz])), (a, .inl (E.2.1, L, .inl f))] H locs → lv_has ls 4 [(0, .ref h), (1, .int x1), (2, .int x2), (3, .int x3)] → W p l e ({ frames := 1, cells := 0, slots := 0, locals := 24 } : Room) s m args below meth c H locs 0 0 Q (F0 m 7 ls [])) (hk32 : ∀  (sz : Int32) (f : Nat → Int32)  (H : Heap) (locs : List Loc) (ls : Array Slot), k32 sz f = some o → mW E A s [(h, .inr (8, [.int mo, .int wi, .ref a, .int sz])), (a, .inl (E.2.1, L, .inl f))] H locs → lv_has ls 4 [] → W p l e ({ frames := 1, cells := 0, slots := 0, locals := 24 } : Room) s m args below meth c H locs 0 0 Q (F0 m 32 ls [])) {H : Heap} {locs : List Loc} {ls : Array Slot} (hf : J_X9_removeAll_26 N L rec k32 x1 x2 x3 wi sz f = some o)  (w : mW E A s [(h, .inr (8, [.int mo, .int wi, .ref a, .int sz])), (a, .inl (E.2.1, L, .inl f))] H locs) (hl : lv_has ls 4 [(0, .ref h), (1, .int x1), (2, .int x2), (3, .int x3)]) : W p l e ({ frames := 1, cells := 0, slots := 0, locals := 24 } : Room) s m args below meth c H locs 0 0 Q (F0 m 26 ls []) := by
  obtain ⟨hx, hb, hml, hown, hts⟩ := id B.1
  unfold J_X9_removeAll_26 at hf
  obtain ⟨x3_3, ev⟩ : ∃ y : Int32, y = x3 + (-1) := ⟨_, rfl⟩
  refine lv_iinc (v := x3_3) (lv' := [(3, .int x3_3), (0, .ref h), (1, .int x1), (2, .int x2)]) hx hb dX9_removeAll_26 hl (k := 3) rfl (by rw [ev]; rfl) (by decide) rfl (fun ls hl => ?_)
  have hf := lt_n ev hf; clear ev
  refine lv_goto (tgt := 7) hx hb dX9_removeAll_29 (by decide) ?_
  exact hrec _ _ _ _ _ _ hf  w (lv_sub hl [1, 2, 3, 0] rfl)
noncomputable def K_X9_removeAll_7 (N : Nat) (L : Nat) (rec : Int32 → Int32 → (Nat → Int32) → (Option (Int32 × (Nat → Int32)))) (k32 : Int32 → (Nat → Int32) → (Option (Int32 × (Nat → Int32)))) (x1 : Int32) (x2 : Int32) (wi : Int32) (x3 : Int32) (sz : Int32) (f : Nat → Int32) : Option (Int32 × (Nat → Int32)) :=
  if (x3 < 0 : Prop) then
  k32 sz f
  else
  bd (F_X9_get L wi sz f x3 x1) (fun o_2 =>
  if (o_2 = x2 : Prop) then
  bd (F_X9_remove N L wi sz f x3) (fun o_4 =>
  J_X9_removeAll_26 N L rec k32 x1 x2 x3 wi o_4.1 o_4.2)
  else
  J_X9_removeAll_26 N L rec k32 x1 x2 x3 wi sz f)
noncomputable def L_X9_removeAll_7 (N : Nat) (L : Nat) (k32 : Int32 → (Nat → Int32) → (Option (Int32 × (Nat → Int32)))) (x1 : Int32) (x2 : Int32) (wi : Int32) (n : Nat) : Int32 → Int32 → (Nat → Int32) → (Option (Int32 × (Nat → Int32))) :=
  Nat.rec (motive := fun _ => Int32 → Int32 → (Nat → Int32) → (Option (Int32 × (Nat → Int32)))) (fun _ _ _ => none) (fun _ rec => K_X9_removeAll_7 N L rec k32 x1 x2 wi) n
set_option maxHeartbeats 4000000 in
set_option maxRecDepth 100000 in
theorem l_X9_removeAll_7 {E : mE} {l : Launch} {p : Program} {e : Env} {s : State} {m : MethodId} {args : Array Value} {below : List Frame} {meth : Method} {c : Code} {A : Nat → Prop} {Q : State → Prop} {N : Nat} {h : Nat} {a : Nat} {L : Nat} {mo : Int32} {wi : Int32} {sz0 : Int32} {f0 : Nat → Int32}  {o : Int32 × (Nat → Int32)} (B : mB E yX9_removeAll cX9_removeAll 4 none 0 0 (po_X9_removeAll E h a L mo wi sz0 f0 o) p s m args below meth c A Q)   {x1 : Int32} {x2 : Int32} (k32 : Int32 → (Nat → Int32) → (Option (Int32 × (Nat → Int32))))  (hk32 : ∀  (sz : Int32) (f : Nat → Int32)  (H : Heap) (locs : List Loc) (ls : Array Slot), k32 sz f = some o → mW E A s [(h, .inr (8, [.int mo, .int wi, .ref a, .int sz])), (a, .inl (E.2.1, L, .inl f))] H locs → lv_has ls 4 [] → W p l e ({ frames := 1, cells := 0, slots := 0, locals := 24 } : Room) s m args below meth c H locs 0 0 Q (F0 m 32 ls [])) : ∀ n : Nat, ∀ (x3 : Int32) (sz : Int32) (f : Nat → Int32)  (H : Heap) (locs : List Loc) (ls : Array Slot), L_X9_removeAll_7 N L k32 x1 x2 wi n x3 sz f = some o → mW E A s [(h, .inr (8, [.int mo, .int wi, .ref a, .int sz])), (a, .inl (E.2.1, L, .inl f))] H locs → lv_has ls 4 [(0, .ref h), (1, .int x1), (2, .int x2), (3, .int x3)] → W p l e ({ frames := 1, cells := 0, slots := 0, locals := 24 } : Room) s m args below meth c H locs 0 0 Q (F0 m 7 ls []) := by
  obtain ⟨hx, hb, hml, hown, hts⟩ := id B.1
  intro n
  induction n with
  | zero =>
    intro x3 sz f H locs ls hf w hl
    exact nomatch hf
  | succ n hrec =>
    intro x3 sz f H locs ls hf w hl
    have hf : K_X9_removeAll_7 N L (L_X9_removeAll_7 N L k32 x1 x2 wi n) k32 x1 x2 wi x3 sz f = some o := hf
    unfold K_X9_removeAll_7 at hf
    refine lv_iload_n hx hb dX9_removeAll_7 rfl (lv_at hl 3 rfl) ?_
    refine lv_if_lt (tgt := 32) hx hb dX9_removeAll_8 (by decide) (fun hc => ?_) (fun hc => ?_)
    · have hf := it_t hc hf
      exact hk32 _ _ _ _ _ hf  w (lv_sub hl [] rfl)
    · have hf := it_f hc hf
      refine lv_aload_n hx hb dX9_removeAll_11 rfl (lv_at hl 0 rfl) ?_
      refine lv_iload_n hx hb dX9_removeAll_12 rfl (lv_at hl 3 rfl) ?_
      refine lv_iload_n hx hb dX9_removeAll_13 rfl (lv_at hl 1 rfl) ?_
      obtain ⟨o_2, hq, hf⟩ := bd_e hf
      refine mx_callV (As := [.int x3, .int x1]) (rest := []) (wr := []) (d_X9_get E l  h a L mo wi sz f x3 x1  o_2 hq) B w [0, 1] [] rfl rfl (by decide) (by decide) (by decide) 0 rfl rfl cv_X9_get kw_469 2 (by decide +kernel) ⟨Nat.le_of_ble_eq_true rfl, Nat.le_of_ble_eq_true rfl⟩ rfl hl.1 rfl (Nat.le_of_ble_eq_true rfl) dX9_removeAll_14 rfl rfl ⟨Nat.zero_le _, Nat.zero_le _⟩ (fun v w' H locs hpo w => ?_)
      clear hq
      obtain ⟨rfl, rfl⟩ := hpo
      have w : mW E A s [(h, .inr (8, [.int mo, .int wi, .ref a, .int sz])), (a, .inl (E.2.1, L, .inl f))] H locs := w
      refine lv_iload_n hx hb dX9_removeAll_17 rfl (lv_at hl 2 rfl) ?_
      refine lv_icmp_ne (tgt := 26) hx hb dX9_removeAll_18 (by decide) (fun hc => ?_) (fun hc => ?_)
      · have hf := it_f hc hf
        exact j_X9_removeAll_26 B _ _ hrec hk32 hf  w (lv_sub hl [0, 1, 2, 3] rfl)
      · have hf := it_t hc hf
        refine lv_aload_n hx hb dX9_removeAll_21 rfl (lv_at hl 0 rfl) ?_
        refine lv_iload_n hx hb dX9_removeAll_22 rfl (lv_at hl 3 rfl) ?_
        obtain ⟨o_4, hq, hf⟩ := bd_e hf
        refine mx_callV (As := [.int x3]) (rest := []) (wr := []) (d_X9_remove E l N h a L mo wi sz f x3  o_4 hq) B w [0, 1] [] rfl rfl (by decide) (by decide) (by decide) 0 rfl rfl cv_X9_remove kw_531 1 (by decide +kernel) ⟨Nat.le_of_ble_eq_true rfl, Nat.le_of_ble_eq_true rfl⟩ rfl hl.1 rfl (Nat.le_of_ble_eq_true rfl) dX9_removeAll_23 rfl rfl ⟨Nat.zero_le _, Nat.zero_le _⟩ (fun v w' H locs hpo w => ?_)
        clear hq
        obtain ⟨rfl, rfl⟩ := hpo
        have w : mW E A s [(h, .inr (8, [.int mo, .int wi, .ref a, .int o_4.1])), (a, .inl (E.2.1, L, .inl o_4.2))] H locs := w
        exact j_X9_removeAll_26 B _ _ hrec hk32 hf  w (lv_sub hl [0, 1, 2, 3] rfl)
noncomputable def F_X9_removeAll (N : Nat) (L : Nat) (wi : Int32) (sz : Int32) (f : Nat → Int32) (x1 : Int32) (x2 : Int32) : Option (Int32 × (Nat → Int32)) :=
  lt (sz - 1) (fun x3_1 =>
  L_X9_removeAll_7 N L (fun sz f => some (sz, f)) x1 x2 wi N x3_1 sz f)
set_option maxHeartbeats 4000000 in
set_option maxRecDepth 100000 in
theorem d_X9_removeAll (E : mE) (l : Launch) (N : Nat) (h : Nat) (a : Nat) (L : Nat) (mo : Int32) (wi : Int32) (sz : Int32) (f : Nat → Int32)  (x1 : Int32) (x2 : Int32)  (o : Int32 × (Nat → Int32)) (hf : F_X9_removeAll N L wi sz f x1 x2 = some o) : MX E l yX9_removeAll cX9_removeAll 4 none ({ frames := 1, cells := 0, slots := 0, locals := 24 } : Room) [.ref h, .int x1, .int x2] [(h, .inr (8, [.int mo, .int wi, .ref a, .int sz])), (a, .inl (E.2.1, L, .inl f))] (po_X9_removeAll E h a L mo wi sz f o) := by
  refine mx_intro (by decide +kernel) (Nat.le_of_ble_eq_true rfl) ?_
  intro p e s m args below meth c A Q ls B w hl
  obtain ⟨hx, hb, hml, hown, hts⟩ := id B.1
  unfold F_X9_removeAll at hf
  have hl : lv_has ls 4 [(0, .ref h), (1, .int x1), (2, .int x2)] := hl
  refine lv_aload_n hx hb dX9_removeAll_0 rfl (lv_at hl 0 rfl) ?_
  refine mx_get B w 0 fl_X9_28 rfl rfl dX9_removeAll_1 ?_
  refine lv_iconst (v := 1) hx hb dX9_removeAll_4 (by decide) ?_
  refine lv_isub hx hb dX9_removeAll_5 ?_
  refine lv_topi (fun x3_1 ev => ?_)
  have hf := lt_n ev hf; clear ev
  refine lv_istore_n (lv' := [(3, .int x3_1), (0, .ref h), (1, .int x1), (2, .int x2)]) hx hb dX9_removeAll_6 rfl hl (by decide) rfl (fun ls hl => ?_)
  refine l_X9_removeAll_7 B _  ?_ N _ _ _ _ _ _ hf  w (lv_sub hl [1, 2, 3, 0] rfl)
  · intro sz f H locs ls hf w hl
    cases hf
    exact mx_vret B w ⟨rfl, rfl⟩ dX9_removeAll_32
-- X9_push
def po_X9_push (E : mE) (h : Nat) (a : Nat) (L : Nat) (mo : Int32) (wi : Int32) (sz : Int32) (f : Nat → Int32)  (o : Int32 × Int32 × (Nat → Int32)) : Option Value → va_W → Prop := (fun (v : Option Value) (w' : va_W) => v = some (.int o.1) ∧ w' = [(h, .inr (8, [.int mo, .int wi, .ref a, .int o.2.1])), (a, .inl (E.2.1, L, .inl o.2.2))])
noncomputable def J_X9_push_139 (N : Nat) (L : Nat) (rec : Int32 → (Nat → Int32) → (Option (Int32 × Int32 × (Nat → Int32)))) (k146 : (Nat → Int32) → (Option (Int32 × Int32 × (Nat → Int32)))) (t1 : Int32) (t2 : Int32) (x1 : Int32) (x2 : Int32) (x3 : Int32) (x4 : Int32) (x5 : Int32) (mo : Int32) (wi : Int32) (sz : Int32) (f : Nat → Int32) : Option (Int32 × Int32 × (Nat → Int32)) :=
  sto f L t1 t2 (fun f_2 =>
  lt (x5 + 1) (fun x5_3 =>
  rec x5_3 f_2))
set_option maxHeartbeats 4000000 in
set_option maxRecDepth 100000 in
theorem j_X9_push_139 {E : mE} {l : Launch} {p : Program} {e : Env} {s : State} {m : MethodId} {args : Array Value} {below : List Frame} {meth : Method} {c : Code} {A : Nat → Prop} {Q : State → Prop} {N : Nat} {h : Nat} {a : Nat} {L : Nat} {mo : Int32} {wi : Int32} {sz0 : Int32} {f0 : Nat → Int32}  {o : Int32 × Int32 × (Nat → Int32)} (B : mB E yX9_push cX9_push 6 (some .int) 0 0 (po_X9_push E h a L mo wi sz0 f0 o) p s m args below meth c A Q) {t1 : Int32} {t2 : Int32} {x1 : Int32} {x2 : Int32} {x3 : Int32} {x4 : Int32} {x5 : Int32} {sz : Int32} {f : Nat → Int32}  (rec : Int32 → (Nat → Int32) → (Option (Int32 × Int32 × (Nat → Int32)))) (k146 : (Nat → Int32) → (Option (Int32 × Int32 × (Nat → Int32)))) (hrec : ∀ (x5 : Int32) (f : Nat → Int32)  (H : Heap) (locs : List Loc) (ls : Array Slot), rec x5 f = some o → mW E A s [(h, .inr (8, [.int mo, .int wi, .ref a, .int sz])), (a, .inl (E.2.1, L, .inl f))] H locs → lv_has ls 6 [(0, .ref h), (1, .int x1), (2, .int x2), (3, .int x3), (4, .int x4), (5, .int x5)] → W p l e ({ frames := 0, cells := 0, slots := 0, locals := 0 } : Room) s m args below meth c H locs 0 0 Q (F0 m 78 ls [])) (hk146 : ∀  (f : Nat → Int32)  (H : Heap) (locs : List Loc) (ls : Array Slot), k146 f = some o → mW E A s [(h, .inr (8, [.int mo, .int wi, .ref a, .int sz])), (a, .inl (E.2.1, L, .inl f))] H locs → lv_has ls 6 [(0, .ref h)] → W p l e ({ frames := 0, cells := 0, slots := 0, locals := 0 } : Room) s m args below meth c H locs 0 0 Q (F0 m 146 ls [])) {H : Heap} {locs : List Loc} {ls : Array Slot} (hf : J_X9_push_139 N L rec k146 t1 t2 x1 x2 x3 x4 x5 mo wi sz f = some o)  (w : mW E A s [(h, .inr (8, [.int mo, .int wi, .ref a, .int sz])), (a, .inl (E.2.1, L, .inl f))] H locs) (hl : lv_has ls 6 [(0, .ref h), (1, .int x1), (2, .int x2), (3, .int x3), (4, .int x4), (5, .int x5)]) : W p l e ({ frames := 0, cells := 0, slots := 0, locals := 0 } : Room) s m args below meth c H locs 0 0 Q (F0 m 139 ls [.int t2, .int t1, .ref a]) := by
  obtain ⟨hx, hb, hml, hown, hts⟩ := id B.1
  unfold J_X9_push_139 at hf
  obtain ⟨hin, hf⟩ := sto_e hf
  refine mx_iast B w 1 rfl hin dX9_push_139 (fun f_2 H locs ev w => ?_)
  have hf := hf _ ev; clear ev
  have w : mW E A s [(h, .inr (8, [.int mo, .int wi, .ref a, .int sz])), (a, .inl (E.2.1, L, .inl f_2))] H locs := w
  obtain ⟨x5_3, ev⟩ : ∃ y : Int32, y = x5 + 1 := ⟨_, rfl⟩
  refine lv_iinc (v := x5_3) (lv' := [(5, .int x5_3), (0, .ref h), (1, .int x1), (2, .int x2), (3, .int x3), (4, .int x4)]) hx hb dX9_push_140 hl (k := 5) rfl (by rw [ev]; rfl) (by decide) rfl (fun ls hl => ?_)
  have hf := lt_n ev hf; clear ev
  refine lv_goto (tgt := 78) hx hb dX9_push_143 (by decide) ?_
  exact hrec _ _ _ _ _ hf  w (lv_sub hl [1, 2, 3, 4, 5, 0] rfl)
noncomputable def K_X9_push_78 (N : Nat) (L : Nat) (rec : Int32 → (Nat → Int32) → (Option (Int32 × Int32 × (Nat → Int32)))) (k146 : (Nat → Int32) → (Option (Int32 × Int32 × (Nat → Int32)))) (x1 : Int32) (x2 : Int32) (x3 : Int32) (x4 : Int32) (mo : Int32) (wi : Int32) (sz : Int32) (x5 : Int32) (f : Nat → Int32) : Option (Int32 × Int32 × (Nat → Int32)) :=
  if (wi ≤ x5 : Prop) then
  k146 f
  else
  if ((nI L) ≤ (x4 + x5) : Prop) then
  k146 f
  else
  if (x5 = 0 : Prop) then
  J_X9_push_139 N L rec k146 (x4 + x5) x1 x1 x2 x3 x4 x5 mo wi sz f
  else
  if (x5 = 1 : Prop) then
  J_X9_push_139 N L rec k146 (x4 + x5) x2 x1 x2 x3 x4 x5 mo wi sz f
  else
  if (x5 = 2 : Prop) then
  J_X9_push_139 N L rec k146 (x4 + x5) x3 x1 x2 x3 x4 x5 mo wi sz f
  else
  J_X9_push_139 N L rec k146 (x4 + x5) 0 x1 x2 x3 x4 x5 mo wi sz f
noncomputable def L_X9_push_78 (N : Nat) (L : Nat) (k146 : (Nat → Int32) → (Option (Int32 × Int32 × (Nat → Int32)))) (x1 : Int32) (x2 : Int32) (x3 : Int32) (x4 : Int32) (mo : Int32) (wi : Int32) (sz : Int32) (n : Nat) : Int32 → (Nat → Int32) → (Option (Int32 × Int32 × (Nat → Int32))) :=
  Nat.rec (motive := fun _ => Int32 → (Nat → Int32) → (Option (Int32 × Int32 × (Nat → Int32)))) (fun _ _ => none) (fun _ rec => K_X9_push_78 N L rec k146 x1 x2 x3 x4 mo wi sz) n
set_option maxHeartbeats 4000000 in
set_option maxRecDepth 100000 in
theorem l_X9_push_78 {E : mE} {l : Launch} {p : Program} {e : Env} {s : State} {m : MethodId} {args : Array Value} {below : List Frame} {meth : Method} {c : Code} {A : Nat → Prop} {Q : State → Prop} {N : Nat} {h : Nat} {a : Nat} {L : Nat} {mo : Int32} {wi : Int32} {sz0 : Int32} {f0 : Nat → Int32}  {o : Int32 × Int32 × (Nat → Int32)} (B : mB E yX9_push cX9_push 6 (some .int) 0 0 (po_X9_push E h a L mo wi sz0 f0 o) p s m args below meth c A Q) {sz : Int32}  {x1 : Int32} {x2 : Int32} {x3 : Int32} {x4 : Int32} (k146 : (Nat → Int32) → (Option (Int32 × Int32 × (Nat → Int32))))  (hk146 : ∀  (f : Nat → Int32)  (H : Heap) (locs : List Loc) (ls : Array Slot), k146 f = some o → mW E A s [(h, .inr (8, [.int mo, .int wi, .ref a, .int sz])), (a, .inl (E.2.1, L, .inl f))] H locs → lv_has ls 6 [(0, .ref h)] → W p l e ({ frames := 0, cells := 0, slots := 0, locals := 0 } : Room) s m args below meth c H locs 0 0 Q (F0 m 146 ls [])) : ∀ n : Nat, ∀ (x5 : Int32) (f : Nat → Int32)  (H : Heap) (locs : List Loc) (ls : Array Slot), L_X9_push_78 N L k146 x1 x2 x3 x4 mo wi sz n x5 f = some o → mW E A s [(h, .inr (8, [.int mo, .int wi, .ref a, .int sz])), (a, .inl (E.2.1, L, .inl f))] H locs → lv_has ls 6 [(0, .ref h), (1, .int x1), (2, .int x2), (3, .int x3), (4, .int x4), (5, .int x5)] → W p l e ({ frames := 0, cells := 0, slots := 0, locals := 0 } : Room) s m args below meth c H locs 0 0 Q (F0 m 78 ls []) := by
  obtain ⟨hx, hb, hml, hown, hts⟩ := id B.1
  intro n
  induction n with
  | zero =>
    intro x5 f H locs ls hf w hl
    exact nomatch hf
  | succ n hrec =>
    intro x5 f H locs ls hf w hl
    have hf : K_X9_push_78 N L (L_X9_push_78 N L k146 x1 x2 x3 x4 mo wi sz n) k146 x1 x2 x3 x4 mo wi sz x5 f = some o := hf
    unfold K_X9_push_78 at hf
    refine lv_iload hx hb dX9_push_78 (lv_at hl 5 rfl) ?_
    refine lv_aload_n hx hb dX9_push_80 rfl (lv_at hl 0 rfl) ?_
    refine mx_get B w 0 fl_X9_21 rfl rfl dX9_push_81 ?_
    refine lv_icmp_ge (tgt := 146) hx hb dX9_push_84 (by decide) (fun hc => ?_) (fun hc => ?_)
    · have hf := it_t hc hf
      exact hk146 _ _ _ _ hf  w (lv_sub hl [0] rfl)
    · have hf := it_f hc hf
      refine lv_iload hx hb dX9_push_87 (lv_at hl 4 rfl) ?_
      refine lv_iload hx hb dX9_push_89 (lv_at hl 5 rfl) ?_
      refine lv_iadd hx hb dX9_push_91 ?_
      refine lv_aload_n hx hb dX9_push_92 rfl (lv_at hl 0 rfl) ?_
      refine mx_get B w 0 fl_X9_24 rfl rfl dX9_push_93 ?_
      refine mx_alen B w 1 rfl dX9_push_96 ?_
      refine lv_icmp_ge (tgt := 146) hx hb dX9_push_97 (by decide) (fun hc => ?_) (fun hc => ?_)
      · have hf := it_t hc hf
        exact hk146 _ _ _ _ hf  w (lv_sub hl [0] rfl)
      · have hf := it_f hc hf
        refine lv_aload_n hx hb dX9_push_100 rfl (lv_at hl 0 rfl) ?_
        refine mx_get B w 0 fl_X9_24 rfl rfl dX9_push_101 ?_
        refine lv_iload hx hb dX9_push_104 (lv_at hl 4 rfl) ?_
        refine lv_iload hx hb dX9_push_106 (lv_at hl 5 rfl) ?_
        refine lv_iadd hx hb dX9_push_108 ?_
        refine lv_iload hx hb dX9_push_109 (lv_at hl 5 rfl) ?_
        refine lv_if_ne (tgt := 118) hx hb dX9_push_111 (by decide) (fun hc => ?_) (fun hc => ?_)
        · have hf := it_f hc hf
          refine lv_iload hx hb dX9_push_118 (lv_at hl 5 rfl) ?_
          refine lv_iconst (v := 1) hx hb dX9_push_120 (by decide) ?_
          refine lv_icmp_ne (tgt := 128) hx hb dX9_push_121 (by decide) (fun hc => ?_) (fun hc => ?_)
          · have hf := it_f hc hf
            refine lv_iload hx hb dX9_push_128 (lv_at hl 5 rfl) ?_
            refine lv_iconst (v := 2) hx hb dX9_push_130 (by decide) ?_
            refine lv_icmp_ne (tgt := 138) hx hb dX9_push_131 (by decide) (fun hc => ?_) (fun hc => ?_)
            · have hf := it_f hc hf
              refine lv_iconst (v := 0) hx hb dX9_push_138 (by decide) ?_
              exact j_X9_push_139 B _ _ hrec hk146 hf  w (lv_sub hl [0, 1, 2, 3, 4, 5] rfl)
            · have hf := it_t hc hf
              refine lv_iload_n hx hb dX9_push_134 rfl (lv_at hl 3 rfl) ?_
              refine lv_goto (tgt := 139) hx hb dX9_push_135 (by decide) ?_
              exact j_X9_push_139 B _ _ hrec hk146 hf  w (lv_sub hl [0, 1, 2, 3, 4, 5] rfl)
          · have hf := it_t hc hf
            refine lv_iload_n hx hb dX9_push_124 rfl (lv_at hl 2 rfl) ?_
            refine lv_goto (tgt := 139) hx hb dX9_push_125 (by decide) ?_
            exact j_X9_push_139 B _ _ hrec hk146 hf  w (lv_sub hl [0, 1, 2, 3, 4, 5] rfl)
        · have hf := it_t hc hf
          refine lv_iload_n hx hb dX9_push_114 rfl (lv_at hl 1 rfl) ?_
          refine lv_goto (tgt := 139) hx hb dX9_push_115 (by decide) ?_
          exact j_X9_push_139 B _ _ hrec hk146 hf  w (lv_sub hl [0, 1, 2, 3, 4, 5] rfl)
noncomputable def J_X9_push_146 (N : Nat) (L : Nat)   (mo : Int32) (wi : Int32) (sz : Int32) (f : Nat → Int32) : Option (Int32 × Int32 × (Nat → Int32)) :=
  lt ((sz + 1)) (fun sz_4 =>
  some (sz_4 - 1, sz_4, f))
set_option maxHeartbeats 4000000 in
set_option maxRecDepth 100000 in
theorem j_X9_push_146 {E : mE} {l : Launch} {p : Program} {e : Env} {s : State} {m : MethodId} {args : Array Value} {below : List Frame} {meth : Method} {c : Code} {A : Nat → Prop} {Q : State → Prop} {N : Nat} {h : Nat} {a : Nat} {L : Nat} {mo : Int32} {wi : Int32} {sz0 : Int32} {f0 : Nat → Int32}  {o : Int32 × Int32 × (Nat → Int32)} (B : mB E yX9_push cX9_push 6 (some .int) 0 0 (po_X9_push E h a L mo wi sz0 f0 o) p s m args below meth c A Q)  {sz : Int32} {f : Nat → Int32}    {H : Heap} {locs : List Loc} {ls : Array Slot} (hf : J_X9_push_146 N L mo wi sz f = some o)  (w : mW E A s [(h, .inr (8, [.int mo, .int wi, .ref a, .int sz])), (a, .inl (E.2.1, L, .inl f))] H locs) (hl : lv_has ls 6 [(0, .ref h)]) : W p l e ({ frames := 0, cells := 0, slots := 0, locals := 0 } : Room) s m args below meth c H locs 0 0 Q (F0 m 146 ls []) := by
  obtain ⟨hx, hb, hml, hown, hts⟩ := id B.1
  unfold J_X9_push_146 at hf
  refine lv_aload_n hx hb dX9_push_146 rfl (lv_at hl 0 rfl) ?_
  refine lv_dup hx hb dX9_push_147 rfl ?_
  refine mx_get B w 0 fl_X9_28 rfl rfl dX9_push_148 ?_
  refine lv_iconst (v := 1) hx hb dX9_push_151 (by decide) ?_
  refine lv_iadd hx hb dX9_push_152 ?_
  refine mx_puti B w 0 fl_X9_28 fi_X9_3 rfl (Nat.le_of_ble_eq_true rfl) dX9_push_153 (fun sz_4 H locs ev w => ?_)
  have hf := lt_n ev hf; clear ev
  have w : mW E A s [(h, .inr (8, [.int mo, .int wi, .ref a, .int sz_4])), (a, .inl (E.2.1, L, .inl f))] H locs := w
  refine lv_aload_n hx hb dX9_push_156 rfl (lv_at hl 0 rfl) ?_
  refine mx_get B w 0 fl_X9_28 rfl rfl dX9_push_157 ?_
  refine lv_iconst (v := 1) hx hb dX9_push_160 (by decide) ?_
  refine lv_isub hx hb dX9_push_161 ?_
  cases hf
  exact mx_iret B w ⟨rfl, rfl⟩ dX9_push_162
noncomputable def J_X9_push_64 (N : Nat) (L : Nat)  (x1 : Int32) (x2 : Int32) (x3 : Int32) (mo : Int32) (wi : Int32) (sz : Int32) (f : Nat → Int32) : Option (Int32 × Int32 × (Nat → Int32)) :=
  lt (sz * wi) (fun x4_1 =>
  L_X9_push_78 N L (fun f => J_X9_push_146 N L mo wi sz f) x1 x2 x3 x4_1 mo wi sz N 0 f)
set_option maxHeartbeats 4000000 in
set_option maxRecDepth 100000 in
theorem j_X9_push_64 {E : mE} {l : Launch} {p : Program} {e : Env} {s : State} {m : MethodId} {args : Array Value} {below : List Frame} {meth : Method} {c : Code} {A : Nat → Prop} {Q : State → Prop} {N : Nat} {h : Nat} {a : Nat} {L : Nat} {mo : Int32} {wi : Int32} {sz0 : Int32} {f0 : Nat → Int32}  {o : Int32 × Int32 × (Nat → Int32)} (B : mB E yX9_push cX9_push 6 (some .int) 0 0 (po_X9_push E h a L mo wi sz0 f0 o) p s m args below meth c A Q) {x1 : Int32} {x2 : Int32} {x3 : Int32} {sz : Int32} {f : Nat → Int32}    {H : Heap} {locs : List Loc} {ls : Array Slot} (hf : J_X9_push_64 N L x1 x2 x3 mo wi sz f = some o)  (w : mW E A s [(h, .inr (8, [.int mo, .int wi, .ref a, .int sz])), (a, .inl (E.2.1, L, .inl f))] H locs) (hl : lv_has ls 6 [(0, .ref h), (1, .int x1), (2, .int x2), (3, .int x3)]) : W p l e ({ frames := 0, cells := 0, slots := 0, locals := 0 } : Room) s m args below meth c H locs 0 0 Q (F0 m 64 ls []) := by
  obtain ⟨hx, hb, hml, hown, hts⟩ := id B.1
  unfold J_X9_push_64 at hf
  refine lv_aload_n hx hb dX9_push_64 rfl (lv_at hl 0 rfl) ?_
  refine mx_get B w 0 fl_X9_28 rfl rfl dX9_push_65 ?_
  refine lv_aload_n hx hb dX9_push_68 rfl (lv_at hl 0 rfl) ?_
  refine mx_get B w 0 fl_X9_21 rfl rfl dX9_push_69 ?_
  refine lv_imul hx hb dX9_push_72 ?_
  refine lv_topi (fun x4_1 ev => ?_)
  have hf := lt_n ev hf; clear ev
  refine lv_istore (lv' := [(4, .int x4_1), (0, .ref h), (1, .int x1), (2, .int x2), (3, .int x3)]) hx hb dX9_push_73 hl (by decide) rfl (fun ls hl => ?_)
  refine lv_iconst (v := 0) hx hb dX9_push_75 (by decide) ?_
  refine lv_istore (lv' := [(5, .int 0), (4, .int x4_1), (0, .ref h), (1, .int x1), (2, .int x2), (3, .int x3)]) hx hb dX9_push_76 hl (by decide) rfl (fun ls hl => ?_)
  refine l_X9_push_78 B _  ?_ N _ _ _ _ _ hf  w (lv_sub hl [2, 3, 4, 5, 1, 0] rfl)
  · intro f H locs ls hf w hl
    exact j_X9_push_146 B   hf  w (lv_sub hl [0] rfl)
noncomputable def K_X9_push_14 (N : Nat) (L : Nat) (rec : Int32 → (Nat → Int32) → (Option (Int32 × Int32 × (Nat → Int32)))) (k54 : (Nat → Int32) → (Option (Int32 × Int32 × (Nat → Int32)))) (x1 : Int32) (x2 : Int32) (x3 : Int32) (mo : Int32) (wi : Int32) (sz : Int32) (x4 : Int32) (f : Nat → Int32) : Option (Int32 × Int32 × (Nat → Int32)) :=
  if ((nI L) ≤ (x4 + wi) : Prop) then
  k54 f
  else
  ld f L (x4 + wi) (fun v_5 =>
  sto f L x4 v_5 (fun f_6 =>
  lt (x4 + 1) (fun x4_7 =>
  rec x4_7 f_6)))
noncomputable def L_X9_push_14 (N : Nat) (L : Nat) (k54 : (Nat → Int32) → (Option (Int32 × Int32 × (Nat → Int32)))) (x1 : Int32) (x2 : Int32) (x3 : Int32) (mo : Int32) (wi : Int32) (sz : Int32) (n : Nat) : Int32 → (Nat → Int32) → (Option (Int32 × Int32 × (Nat → Int32))) :=
  Nat.rec (motive := fun _ => Int32 → (Nat → Int32) → (Option (Int32 × Int32 × (Nat → Int32)))) (fun _ _ => none) (fun _ rec => K_X9_push_14 N L rec k54 x1 x2 x3 mo wi sz) n
set_option maxHeartbeats 4000000 in
set_option maxRecDepth 100000 in
theorem l_X9_push_14 {E : mE} {l : Launch} {p : Program} {e : Env} {s : State} {m : MethodId} {args : Array Value} {below : List Frame} {meth : Method} {c : Code} {A : Nat → Prop} {Q : State → Prop} {N : Nat} {h : Nat} {a : Nat} {L : Nat} {mo : Int32} {wi : Int32} {sz0 : Int32} {f0 : Nat → Int32}  {o : Int32 × Int32 × (Nat → Int32)} (B : mB E yX9_push cX9_push 6 (some .int) 0 0 (po_X9_push E h a L mo wi sz0 f0 o) p s m args below meth c A Q) {sz : Int32}  {x1 : Int32} {x2 : Int32} {x3 : Int32} (k54 : (Nat → Int32) → (Option (Int32 × Int32 × (Nat → Int32))))  (hk54 : ∀  (f : Nat → Int32)  (H : Heap) (locs : List Loc) (ls : Array Slot), k54 f = some o → mW E A s [(h, .inr (8, [.int mo, .int wi, .ref a, .int sz])), (a, .inl (E.2.1, L, .inl f))] H locs → lv_has ls 6 [(0, .ref h), (1, .int x1), (2, .int x2), (3, .int x3)] → W p l e ({ frames := 0, cells := 0, slots := 0, locals := 0 } : Room) s m args below meth c H locs 0 0 Q (F0 m 54 ls [])) : ∀ n : Nat, ∀ (x4 : Int32) (f : Nat → Int32)  (H : Heap) (locs : List Loc) (ls : Array Slot), L_X9_push_14 N L k54 x1 x2 x3 mo wi sz n x4 f = some o → mW E A s [(h, .inr (8, [.int mo, .int wi, .ref a, .int sz])), (a, .inl (E.2.1, L, .inl f))] H locs → lv_has ls 6 [(0, .ref h), (1, .int x1), (2, .int x2), (3, .int x3), (4, .int x4)] → W p l e ({ frames := 0, cells := 0, slots := 0, locals := 0 } : Room) s m args below meth c H locs 0 0 Q (F0 m 14 ls []) := by
  obtain ⟨hx, hb, hml, hown, hts⟩ := id B.1
  intro n
  induction n with
  | zero =>
    intro x4 f H locs ls hf w hl
    exact nomatch hf
  | succ n hrec =>
    intro x4 f H locs ls hf w hl
    have hf : K_X9_push_14 N L (L_X9_push_14 N L k54 x1 x2 x3 mo wi sz n) k54 x1 x2 x3 mo wi sz x4 f = some o := hf
    unfold K_X9_push_14 at hf
    refine lv_iload hx hb dX9_push_14 (lv_at hl 4 rfl) ?_
    refine lv_aload_n hx hb dX9_push_16 rfl (lv_at hl 0 rfl) ?_
    refine mx_get B w 0 fl_X9_21 rfl rfl dX9_push_17 ?_
    refine lv_iadd hx hb dX9_push_20 ?_
    refine lv_aload_n hx hb dX9_push_21 rfl (lv_at hl 0 rfl) ?_
    refine mx_get B w 0 fl_X9_24 rfl rfl dX9_push_22 ?_
    refine mx_alen B w 1 rfl dX9_push_25 ?_
    refine lv_icmp_ge (tgt := 54) hx hb dX9_push_26 (by decide) (fun hc => ?_) (fun hc => ?_)
    · have hf := it_t hc hf
      exact hk54 _ _ _ _ hf  w (lv_sub hl [0, 1, 2, 3] rfl)
    · have hf := it_f hc hf
      refine lv_aload_n hx hb dX9_push_29 rfl (lv_at hl 0 rfl) ?_
      refine mx_get B w 0 fl_X9_24 rfl rfl dX9_push_30 ?_
      refine lv_iload hx hb dX9_push_33 (lv_at hl 4 rfl) ?_
      refine lv_aload_n hx hb dX9_push_35 rfl (lv_at hl 0 rfl) ?_
      refine mx_get B w 0 fl_X9_24 rfl rfl dX9_push_36 ?_
      refine lv_iload hx hb dX9_push_39 (lv_at hl 4 rfl) ?_
      refine lv_aload_n hx hb dX9_push_41 rfl (lv_at hl 0 rfl) ?_
      refine mx_get B w 0 fl_X9_21 rfl rfl dX9_push_42 ?_
      refine lv_iadd hx hb dX9_push_45 ?_
      obtain ⟨hin, hf⟩ := ld_e hf
      refine mx_iald B w 1 rfl hin dX9_push_46 (fun v_5 ev => ?_)
      have hf := hf _ ev; clear ev
      obtain ⟨hin, hf⟩ := sto_e hf
      refine mx_iast B w 1 rfl hin dX9_push_47 (fun f_6 H locs ev w => ?_)
      have hf := hf _ ev; clear ev
      have w : mW E A s [(h, .inr (8, [.int mo, .int wi, .ref a, .int sz])), (a, .inl (E.2.1, L, .inl f_6))] H locs := w
      obtain ⟨x4_7, ev⟩ : ∃ y : Int32, y = x4 + 1 := ⟨_, rfl⟩
      refine lv_iinc (v := x4_7) (lv' := [(4, .int x4_7), (0, .ref h), (1, .int x1), (2, .int x2), (3, .int x3)]) hx hb dX9_push_48 hl (k := 4) rfl (by rw [ev]; rfl) (by decide) rfl (fun ls hl => ?_)
      have hf := lt_n ev hf; clear ev
      refine lv_goto (tgt := 14) hx hb dX9_push_51 (by decide) ?_
      exact hrec _ _ _ _ _ hf  w (lv_sub hl [1, 2, 3, 4, 0] rfl)
noncomputable def F_X9_push (N : Nat) (L : Nat) (mo : Int32) (wi : Int32) (sz : Int32) (f : Nat → Int32) (x1 : Int32) (x2 : Int32) (x3 : Int32) : Option (Int32 × Int32 × (Nat → Int32)) :=
  if (sz < mo : Prop) then
  J_X9_push_64 N L x1 x2 x3 mo wi sz f
  else
  L_X9_push_14 N L (fun f => lt ((mo - 1)) (fun sz_8 =>
  J_X9_push_64 N L x1 x2 x3 mo wi sz_8 f)) x1 x2 x3 mo wi sz N 0 f
set_option maxHeartbeats 4000000 in
set_option maxRecDepth 100000 in
theorem d_X9_push (E : mE) (l : Launch) (N : Nat) (h : Nat) (a : Nat) (L : Nat) (mo : Int32) (wi : Int32) (sz : Int32) (f : Nat → Int32)  (x1 : Int32) (x2 : Int32) (x3 : Int32)  (o : Int32 × Int32 × (Nat → Int32)) (hf : F_X9_push N L mo wi sz f x1 x2 x3 = some o) : MX E l yX9_push cX9_push 6 (some .int) ({ frames := 0, cells := 0, slots := 0, locals := 0 } : Room) [.ref h, .int x1, .int x2, .int x3] [(h, .inr (8, [.int mo, .int wi, .ref a, .int sz])), (a, .inl (E.2.1, L, .inl f))] (po_X9_push E h a L mo wi sz f o) := by
  refine mx_intro (by decide +kernel) (Nat.le_of_ble_eq_true rfl) ?_
  intro p e s m args below meth c A Q ls B w hl
  obtain ⟨hx, hb, hml, hown, hts⟩ := id B.1
  unfold F_X9_push at hf
  have hl : lv_has ls 6 [(0, .ref h), (1, .int x1), (2, .int x2), (3, .int x3)] := hl
  refine lv_aload_n hx hb dX9_push_0 rfl (lv_at hl 0 rfl) ?_
  refine mx_get B w 0 fl_X9_28 rfl rfl dX9_push_1 ?_
  refine lv_aload_n hx hb dX9_push_4 rfl (lv_at hl 0 rfl) ?_
  refine mx_get B w 0 fl_X9_15 rfl rfl dX9_push_5 ?_
  refine lv_icmp_lt (tgt := 64) hx hb dX9_push_8 (by decide) (fun hc => ?_) (fun hc => ?_)
  · have hf := it_t hc hf
    exact j_X9_push_64 B   hf  w (lv_sub hl [0, 1, 2, 3] rfl)
  · have hf := it_f hc hf
    refine lv_iconst (v := 0) hx hb dX9_push_11 (by decide) ?_
    refine lv_istore (lv' := [(4, .int 0), (0, .ref h), (1, .int x1), (2, .int x2), (3, .int x3)]) hx hb dX9_push_12 hl (by decide) rfl (fun ls hl => ?_)
    refine l_X9_push_14 B _  ?_ N _ _ _ _ _ hf  w (lv_sub hl [1, 2, 3, 4, 0] rfl)
    · intro f H locs ls hf w hl
      refine lv_aload_n hx hb dX9_push_54 rfl (lv_at hl 0 rfl) ?_
      refine lv_aload_n hx hb dX9_push_55 rfl (lv_at hl 0 rfl) ?_
      refine mx_get B w 0 fl_X9_15 rfl rfl dX9_push_56 ?_
      refine lv_iconst (v := 1) hx hb dX9_push_59 (by decide) ?_
      refine lv_isub hx hb dX9_push_60 ?_
      refine mx_puti B w 0 fl_X9_28 fi_X9_3 rfl (Nat.le_of_ble_eq_true rfl) dX9_push_61 (fun sz_8 H locs ev w => ?_)
      have hf := lt_n ev hf; clear ev
      have w : mW E A s [(h, .inr (8, [.int mo, .int wi, .ref a, .int sz_8])), (a, .inl (E.2.1, L, .inl f))] H locs := w
      exact j_X9_push_64 B   hf  w (lv_sub hl [0, 1, 2, 3] rfl)
