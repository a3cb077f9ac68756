abbrev cJ5_ensureCapacityInternal_d00df : ByteArray := prog_15_method_9_code
def yJ5_ensureCapacityInternal_d00df : MethodName := ⟨RJ5, "ensureCapacityInternal", "(I)V"⟩
theorem dJ5_ensureCapacityInternal_d00df_0 : decode cJ5_ensureCapacityInternal_d00df 0 = .ok (.aload_n 0, 1) := by decide +kernel
theorem dJ5_ensureCapacityInternal_d00df_1 : decode cJ5_ensureCapacityInternal_d00df 1 = .ok (.getfield 15, 3) := by decide +kernel
theorem dJ5_ensureCapacityInternal_d00df_4 : decode cJ5_ensureCapacityInternal_d00df 4 = .ok (.arraylength, 1) := by decide +kernel
theorem dJ5_ensureCapacityInternal_d00df_5 : decode cJ5_ensureCapacityInternal_d00df 5 = .ok (.aload_n 0, 1) := by decide +kernel
theorem dJ5_ensureCapacityInternal_d00df_6 : decode cJ5_ensureCapacityInternal_d00df 6 = .ok (.getfield 22, 3) := by decide +kernel
theorem dJ5_ensureCapacityInternal_d00df_9 : decode cJ5_ensureCapacityInternal_d00df 9 = .ok (.ishr, 1) := by decide +kernel
theorem dJ5_ensureCapacityInternal_d00df_10 : decode cJ5_ensureCapacityInternal_d00df 10 = .ok (.istore_n 2, 1) := by decide +kernel
theorem dJ5_ensureCapacityInternal_d00df_11 : decode cJ5_ensureCapacityInternal_d00df 11 = .ok (.iload_n 1, 1) := by decide +kernel
theorem dJ5_ensureCapacityInternal_d00df_12 : decode cJ5_ensureCapacityInternal_d00df 12 = .ok (.iload_n 2, 1) := by decide +kernel
theorem dJ5_ensureCapacityInternal_d00df_13 : decode cJ5_ensureCapacityInternal_d00df 13 = .ok (.isub, 1) := by decide +kernel
theorem dJ5_ensureCapacityInternal_d00df_14 : decode cJ5_ensureCapacityInternal_d00df 14 = .ok (.ifCond .le 24, 3) := by decide +kernel
theorem dJ5_ensureCapacityInternal_d00df_17 : decode cJ5_ensureCapacityInternal_d00df 17 = .ok (.aload_n 0, 1) := by decide +kernel
theorem dJ5_ensureCapacityInternal_d00df_18 : decode cJ5_ensureCapacityInternal_d00df 18 = .ok (.aload_n 0, 1) := by decide +kernel
theorem dJ5_ensureCapacityInternal_d00df_19 : decode cJ5_ensureCapacityInternal_d00df 19 = .ok (.getfield 15, 3) := by decide +kernel
theorem dJ5_ensureCapacityInternal_d00df_22 : decode cJ5_ensureCapacityInternal_d00df 22 = .ok (.aload_n 0, 1) := by decide +kernel
theorem dJ5_ensureCapacityInternal_d00df_23 : decode cJ5_ensureCapacityInternal_d00df 23 = .ok (.iload_n 1, 1) := by decide +kernel
theorem dJ5_ensureCapacityInternal_d00df_24 : decode cJ5_ensureCapacityInternal_d00df 24 = .ok (.invokevirtual 104, 3) := by decide +kernel
theorem dJ5_ensureCapacityInternal_d00df_27 : decode cJ5_ensureCapacityInternal_d00df 27 = .ok (.aload_n 0, 1) := by decide +kernel
theorem dJ5_ensureCapacityInternal_d00df_28 : decode cJ5_ensureCapacityInternal_d00df 28 = .ok (.getfield 22, 3) := by decide +kernel
theorem dJ5_ensureCapacityInternal_d00df_31 : decode cJ5_ensureCapacityInternal_d00df 31 = .ok (.ishl, 1) := by decide +kernel
theorem dJ5_ensureCapacityInternal_d00df_32 : decode cJ5_ensureCapacityInternal_d00df 32 = .ok (.invokestatic 108, 3) := by decide +kernel
theorem dJ5_ensureCapacityInternal_d00df_35 : decode cJ5_ensureCapacityInternal_d00df 35 = .ok (.putfield 15, 3) := by decide +kernel
theorem dJ5_ensureCapacityInternal_d00df_38 : decode cJ5_ensureCapacityInternal_d00df 38 = .ok (.return_, 1) := by decide +kernel
abbrev cJ5_append_3fe6f : ByteArray := prog_15_method_31_code
def yJ5_append_3fe6f : MethodName := ⟨RJ5, "append", "(C)Ljava/lang/AbstractStringBuilder;"⟩
theorem dJ5_append_3fe6f_0 : decode cJ5_append_3fe6f 0 = .ok (.aload_n 0, 1) := by decide +kernel
theorem dJ5_append_3fe6f_1 : decode cJ5_append_3fe6f 1 = .ok (.aload_n 0, 1) := by decide +kernel
theorem dJ5_append_3fe6f_2 : decode cJ5_append_3fe6f 2 = .ok (.getfield 79, 3) := by decide +kernel
theorem dJ5_append_3fe6f_5 : decode cJ5_append_3fe6f 5 = .ok (.iconst 1, 1) := by decide +kernel
theorem dJ5_append_3fe6f_6 : decode cJ5_append_3fe6f 6 = .ok (.iadd, 1) := by decide +kernel
theorem dJ5_append_3fe6f_7 : decode cJ5_append_3fe6f 7 = .ok (.invokevirtual 100, 3) := by decide +kernel
theorem dJ5_append_3fe6f_10 : decode cJ5_append_3fe6f 10 = .ok (.aload_n 0, 1) := by decide +kernel
theorem dJ5_append_3fe6f_11 : decode cJ5_append_3fe6f 11 = .ok (.invokevirtual 83, 3) := by decide +kernel
theorem dJ5_append_3fe6f_14 : decode cJ5_append_3fe6f 14 = .ok (.ifCond .eq 31, 3) := by decide +kernel
theorem dJ5_append_3fe6f_17 : decode cJ5_append_3fe6f 17 = .ok (.iload_n 1, 1) := by decide +kernel
theorem dJ5_append_3fe6f_18 : decode cJ5_append_3fe6f 18 = .ok (.invokestatic 191, 3) := by decide +kernel
theorem dJ5_append_3fe6f_21 : decode cJ5_append_3fe6f 21 = .ok (.ifCond .eq 24, 3) := by decide +kernel
theorem dJ5_append_3fe6f_24 : decode cJ5_append_3fe6f 24 = .ok (.aload_n 0, 1) := by decide +kernel
theorem dJ5_append_3fe6f_25 : decode cJ5_append_3fe6f 25 = .ok (.getfield 15, 3) := by decide +kernel
theorem dJ5_append_3fe6f_28 : decode cJ5_append_3fe6f 28 = .ok (.aload_n 0, 1) := by decide +kernel
theorem dJ5_append_3fe6f_29 : decode cJ5_append_3fe6f 29 = .ok (.dup, 1) := by decide +kernel
theorem dJ5_append_3fe6f_30 : decode cJ5_append_3fe6f 30 = .ok (.getfield 79, 3) := by decide +kernel
theorem dJ5_append_3fe6f_33 : decode cJ5_append_3fe6f 33 = .ok (.dup_x1, 1) := by decide +kernel
theorem dJ5_append_3fe6f_34 : decode cJ5_append_3fe6f 34 = .ok (.iconst 1, 1) := by decide +kernel
theorem dJ5_append_3fe6f_35 : decode cJ5_append_3fe6f 35 = .ok (.iadd, 1) := by decide +kernel
theorem dJ5_append_3fe6f_36 : decode cJ5_append_3fe6f 36 = .ok (.putfield 79, 3) := by decide +kernel
theorem dJ5_append_3fe6f_39 : decode cJ5_append_3fe6f 39 = .ok (.iload_n 1, 1) := by decide +kernel
theorem dJ5_append_3fe6f_40 : decode cJ5_append_3fe6f 40 = .ok (.i2b, 1) := by decide +kernel
theorem dJ5_append_3fe6f_41 : decode cJ5_append_3fe6f 41 = .ok (.bastore, 1) := by decide +kernel
theorem dJ5_append_3fe6f_42 : decode cJ5_append_3fe6f 42 = .ok (.goto 33, 3) := by decide +kernel
theorem dJ5_append_3fe6f_45 : decode cJ5_append_3fe6f 45 = .ok (.aload_n 0, 1) := by decide +kernel
theorem dJ5_append_3fe6f_46 : decode cJ5_append_3fe6f 46 = .ok (.invokevirtual 83, 3) := by decide +kernel
theorem dJ5_append_3fe6f_49 : decode cJ5_append_3fe6f 49 = .ok (.ifCond .eq 7, 3) := by decide +kernel
theorem dJ5_append_3fe6f_52 : decode cJ5_append_3fe6f 52 = .ok (.aload_n 0, 1) := by decide +kernel
theorem dJ5_append_3fe6f_53 : decode cJ5_append_3fe6f 53 = .ok (.invokevirtual 195, 3) := by decide +kernel
theorem dJ5_append_3fe6f_56 : decode cJ5_append_3fe6f 56 = .ok (.aload_n 0, 1) := by decide +kernel
theorem dJ5_append_3fe6f_57 : decode cJ5_append_3fe6f 57 = .ok (.getfield 15, 3) := by decide +kernel
theorem dJ5_append_3fe6f_60 : decode cJ5_append_3fe6f 60 = .ok (.aload_n 0, 1) := by decide +kernel
theorem dJ5_append_3fe6f_61 : decode cJ5_append_3fe6f 61 = .ok (.dup, 1) := by decide +kernel
theorem dJ5_append_3fe6f_62 : decode cJ5_append_3fe6f 62 = .ok (.getfield 79, 3) := by decide +kernel
theorem dJ5_append_3fe6f_65 : decode cJ5_append_3fe6f 65 = .ok (.dup_x1, 1) := by decide +kernel
theorem dJ5_append_3fe6f_66 : decode cJ5_append_3fe6f 66 = .ok (.iconst 1, 1) := by decide +kernel
theorem dJ5_append_3fe6f_67 : decode cJ5_append_3fe6f 67 = .ok (.iadd, 1) := by decide +kernel
theorem dJ5_append_3fe6f_68 : decode cJ5_append_3fe6f 68 = .ok (.putfield 79, 3) := by decide +kernel
theorem dJ5_append_3fe6f_71 : decode cJ5_append_3fe6f 71 = .ok (.iload_n 1, 1) := by decide +kernel
theorem dJ5_append_3fe6f_72 : decode cJ5_append_3fe6f 72 = .ok (.invokestatic 197, 3) := by decide +kernel
theorem dJ5_append_3fe6f_75 : decode cJ5_append_3fe6f 75 = .ok (.aload_n 0, 1) := by decide +kernel
theorem dJ5_append_3fe6f_76 : decode cJ5_append_3fe6f 76 = .ok (.areturn, 1) := by decide +kernel
abbrev cJ5_append_c97b9 : ByteArray := prog_15_method_32_code
def yJ5_append_c97b9 : MethodName := ⟨RJ5, "append", "(I)Ljava/lang/AbstractStringBuilder;"⟩
theorem dJ5_append_c97b9_0 : decode cJ5_append_c97b9 0 = .ok (.aload_n 0, 1) := by decide +kernel
theorem dJ5_append_c97b9_1 : decode cJ5_append_c97b9 1 = .ok (.getfield 79, 3) := by decide +kernel
theorem dJ5_append_c97b9_4 : decode cJ5_append_c97b9 4 = .ok (.istore_n 2, 1) := by decide +kernel
theorem dJ5_append_c97b9_5 : decode cJ5_append_c97b9 5 = .ok (.iload_n 2, 1) := by decide +kernel
theorem dJ5_append_c97b9_6 : decode cJ5_append_c97b9 6 = .ok (.iload_n 1, 1) := by decide +kernel
theorem dJ5_append_c97b9_7 : decode cJ5_append_c97b9 7 = .ok (.invokestatic 245, 3) := by decide +kernel
theorem dJ5_append_c97b9_10 : decode cJ5_append_c97b9 10 = .ok (.iadd, 1) := by decide +kernel
theorem dJ5_append_c97b9_11 : decode cJ5_append_c97b9 11 = .ok (.istore_n 3, 1) := by decide +kernel
theorem dJ5_append_c97b9_12 : decode cJ5_append_c97b9 12 = .ok (.aload_n 0, 1) := by decide +kernel
theorem dJ5_append_c97b9_13 : decode cJ5_append_c97b9 13 = .ok (.iload_n 3, 1) := by decide +kernel
theorem dJ5_append_c97b9_14 : decode cJ5_append_c97b9 14 = .ok (.invokevirtual 100, 3) := by decide +kernel
theorem dJ5_append_c97b9_17 : decode cJ5_append_c97b9 17 = .ok (.aload_n 0, 1) := by decide +kernel
theorem dJ5_append_c97b9_18 : decode cJ5_append_c97b9 18 = .ok (.invokevirtual 83, 3) := by decide +kernel
theorem dJ5_append_c97b9_21 : decode cJ5_append_c97b9 21 = .ok (.ifCond .eq 16, 3) := by decide +kernel
theorem dJ5_append_c97b9_24 : decode cJ5_append_c97b9 24 = .ok (.iload_n 1, 1) := by decide +kernel
theorem dJ5_append_c97b9_25 : decode cJ5_append_c97b9 25 = .ok (.iload_n 3, 1) := by decide +kernel
theorem dJ5_append_c97b9_26 : decode cJ5_append_c97b9 26 = .ok (.aload_n 0, 1) := by decide +kernel
theorem dJ5_append_c97b9_27 : decode cJ5_append_c97b9 27 = .ok (.getfield 15, 3) := by decide +kernel
theorem dJ5_append_c97b9_30 : decode cJ5_append_c97b9 30 = .ok (.invokestatic 248, 3) := by decide +kernel
theorem dJ5_append_c97b9_33 : decode cJ5_append_c97b9 33 = .ok (.pop, 1) := by decide +kernel
theorem dJ5_append_c97b9_34 : decode cJ5_append_c97b9 34 = .ok (.goto 14, 3) := by decide +kernel
theorem dJ5_append_c97b9_37 : decode cJ5_append_c97b9 37 = .ok (.iload_n 1, 1) := by decide +kernel
theorem dJ5_append_c97b9_38 : decode cJ5_append_c97b9 38 = .ok (.iload_n 2, 1) := by decide +kernel
theorem dJ5_append_c97b9_39 : decode cJ5_append_c97b9 39 = .ok (.iload_n 3, 1) := by decide +kernel
theorem dJ5_append_c97b9_40 : decode cJ5_append_c97b9 40 = .ok (.aload_n 0, 1) := by decide +kernel
theorem dJ5_append_c97b9_41 : decode cJ5_append_c97b9 41 = .ok (.getfield 15, 3) := by decide +kernel
theorem dJ5_append_c97b9_44 : decode cJ5_append_c97b9 44 = .ok (.invokestatic 251, 3) := by decide +kernel
theorem dJ5_append_c97b9_47 : decode cJ5_append_c97b9 47 = .ok (.pop, 1) := by decide +kernel
theorem dJ5_append_c97b9_48 : decode cJ5_append_c97b9 48 = .ok (.aload_n 0, 1) := by decide +kernel
theorem dJ5_append_c97b9_49 : decode cJ5_append_c97b9 49 = .ok (.iload_n 3, 1) := by decide +kernel
theorem dJ5_append_c97b9_50 : decode cJ5_append_c97b9 50 = .ok (.putfield 79, 3) := by decide +kernel
theorem dJ5_append_c97b9_53 : decode cJ5_append_c97b9 53 = .ok (.aload_n 0, 1) := by decide +kernel
theorem dJ5_append_c97b9_54 : decode cJ5_append_c97b9 54 = .ok (.areturn, 1) := by decide +kernel
abbrev cJ5_append_cf1ce : ByteArray := prog_15_method_22_code
def yJ5_append_cf1ce : MethodName := ⟨RJ5, "append", "(Ljava/lang/String;)Ljava/lang/AbstractStringBuilder;"⟩
theorem dJ5_append_cf1ce_0 : decode cJ5_append_cf1ce 0 = .ok (.aload_n 1, 1) := by decide +kernel
theorem dJ5_append_cf1ce_1 : decode cJ5_append_cf1ce 1 = .ok (.ifnonnull 8, 3) := by decide +kernel
theorem dJ5_append_cf1ce_4 : decode cJ5_append_cf1ce 4 = .ok (.aload_n 0, 1) := by decide +kernel
theorem dJ5_append_cf1ce_5 : decode cJ5_append_cf1ce 5 = .ok (.invokevirtual 204, 3) := by decide +kernel
theorem dJ5_append_cf1ce_8 : decode cJ5_append_cf1ce 8 = .ok (.areturn, 1) := by decide +kernel
theorem dJ5_append_cf1ce_9 : decode cJ5_append_cf1ce 9 = .ok (.aload_n 1, 1) := by decide +kernel
theorem dJ5_append_cf1ce_10 : decode cJ5_append_cf1ce 10 = .ok (.invokevirtual 32, 3) := by decide +kernel
theorem dJ5_append_cf1ce_13 : decode cJ5_append_cf1ce 13 = .ok (.istore_n 2, 1) := by decide +kernel
theorem dJ5_append_cf1ce_14 : decode cJ5_append_cf1ce 14 = .ok (.aload_n 0, 1) := by decide +kernel
theorem dJ5_append_cf1ce_15 : decode cJ5_append_cf1ce 15 = .ok (.aload_n 0, 1) := by decide +kernel
theorem dJ5_append_cf1ce_16 : decode cJ5_append_cf1ce 16 = .ok (.getfield 79, 3) := by decide +kernel
theorem dJ5_append_cf1ce_19 : decode cJ5_append_cf1ce 19 = .ok (.iload_n 2, 1) := by decide +kernel
theorem dJ5_append_cf1ce_20 : decode cJ5_append_cf1ce 20 = .ok (.iadd, 1) := by decide +kernel
theorem dJ5_append_cf1ce_21 : decode cJ5_append_cf1ce 21 = .ok (.invokevirtual 100, 3) := by decide +kernel
theorem dJ5_append_cf1ce_24 : decode cJ5_append_cf1ce 24 = .ok (.aload_n 0, 1) := by decide +kernel
theorem dJ5_append_cf1ce_25 : decode cJ5_append_cf1ce 25 = .ok (.aload_n 0, 1) := by decide +kernel
theorem dJ5_append_cf1ce_26 : decode cJ5_append_cf1ce 26 = .ok (.getfield 79, 3) := by decide +kernel
theorem dJ5_append_cf1ce_29 : decode cJ5_append_cf1ce 29 = .ok (.aload_n 1, 1) := by decide +kernel
theorem dJ5_append_cf1ce_30 : decode cJ5_append_cf1ce 30 = .ok (.invokevirtual 208, 3) := by decide +kernel
theorem dJ5_append_cf1ce_33 : decode cJ5_append_cf1ce 33 = .ok (.aload_n 0, 1) := by decide +kernel
theorem dJ5_append_cf1ce_34 : decode cJ5_append_cf1ce 34 = .ok (.dup, 1) := by decide +kernel
theorem dJ5_append_cf1ce_35 : decode cJ5_append_cf1ce 35 = .ok (.getfield 79, 3) := by decide +kernel
theorem dJ5_append_cf1ce_38 : decode cJ5_append_cf1ce 38 = .ok (.iload_n 2, 1) := by decide +kernel
theorem dJ5_append_cf1ce_39 : decode cJ5_append_cf1ce 39 = .ok (.iadd, 1) := by decide +kernel
theorem dJ5_append_cf1ce_40 : decode cJ5_append_cf1ce 40 = .ok (.putfield 79, 3) := by decide +kernel
theorem dJ5_append_cf1ce_43 : decode cJ5_append_cf1ce 43 = .ok (.aload_n 0, 1) := by decide +kernel
theorem dJ5_append_cf1ce_44 : decode cJ5_append_cf1ce 44 = .ok (.areturn, 1) := by decide +kernel
abbrev cJ5_putStringAt_47b60 : ByteArray := prog_15_method_73_code
def yJ5_putStringAt_47b60 : MethodName := ⟨RJ5, "putStringAt", "(ILjava/lang/String;)V"⟩
theorem dJ5_putStringAt_47b60_0 : decode cJ5_putStringAt_47b60 0 = .ok (.aload_n 0, 1) := by decide +kernel
theorem dJ5_putStringAt_47b60_1 : decode cJ5_putStringAt_47b60 1 = .ok (.aload_n 2, 1) := by decide +kernel
theorem dJ5_putStringAt_47b60_2 : decode cJ5_putStringAt_47b60 2 = .ok (.invokevirtual 397, 3) := by decide +kernel
theorem dJ5_putStringAt_47b60_5 : decode cJ5_putStringAt_47b60 5 = .ok (.aload_n 2, 1) := by decide +kernel
theorem dJ5_putStringAt_47b60_6 : decode cJ5_putStringAt_47b60 6 = .ok (.aload_n 0, 1) := by decide +kernel
theorem dJ5_putStringAt_47b60_7 : decode cJ5_putStringAt_47b60 7 = .ok (.getfield 15, 3) := by decide +kernel
theorem dJ5_putStringAt_47b60_10 : decode cJ5_putStringAt_47b60 10 = .ok (.iload_n 1, 1) := by decide +kernel
theorem dJ5_putStringAt_47b60_11 : decode cJ5_putStringAt_47b60 11 = .ok (.aload_n 0, 1) := by decide +kernel
theorem dJ5_putStringAt_47b60_12 : decode cJ5_putStringAt_47b60 12 = .ok (.getfield 22, 3) := by decide +kernel
theorem dJ5_putStringAt_47b60_15 : decode cJ5_putStringAt_47b60 15 = .ok (.invokevirtual 399, 3) := by decide +kernel
theorem dJ5_putStringAt_47b60_18 : decode cJ5_putStringAt_47b60 18 = .ok (.return_, 1) := by decide +kernel
abbrev cJ5_inflateIfNeededFor_a7421 : ByteArray := prog_15_method_71_code
def yJ5_inflateIfNeededFor_a7421 : MethodName := ⟨RJ5, "inflateIfNeededFo\x72", "(Ljava/lang/String;)V"⟩
theorem dJ5_inflateIfNeededFor_a7421_0 : decode cJ5_inflateIfNeededFor_a7421 0 = .ok (.getstatic 18, 3) := by decide +kernel
theorem dJ5_inflateIfNeededFor_a7421_3 : decode cJ5_inflateIfNeededFor_a7421 3 = .ok (.ifCond .eq 18, 3) := by decide +kernel
theorem dJ5_inflateIfNeededFor_a7421_6 : decode cJ5_inflateIfNeededFor_a7421 6 = .ok (.aload_n 0, 1) := by decide +kernel
theorem dJ5_inflateIfNeededFor_a7421_7 : decode cJ5_inflateIfNeededFor_a7421 7 = .ok (.getfield 22, 3) := by decide +kernel
theorem dJ5_inflateIfNeededFor_a7421_10 : decode cJ5_inflateIfNeededFor_a7421 10 = .ok (.aload_n 1, 1) := by decide +kernel
theorem dJ5_inflateIfNeededFor_a7421_11 : decode cJ5_inflateIfNeededFor_a7421 11 = .ok (.invokevirtual 40, 3) := by decide +kernel
theorem dJ5_inflateIfNeededFor_a7421_14 : decode cJ5_inflateIfNeededFor_a7421 14 = .ok (.if_icmp .eq 7, 3) := by decide +kernel
theorem dJ5_inflateIfNeededFor_a7421_17 : decode cJ5_inflateIfNeededFor_a7421 17 = .ok (.aload_n 0, 1) := by decide +kernel
theorem dJ5_inflateIfNeededFor_a7421_18 : decode cJ5_inflateIfNeededFor_a7421 18 = .ok (.invokevirtual 195, 3) := by decide +kernel
theorem dJ5_inflateIfNeededFor_a7421_21 : decode cJ5_inflateIfNeededFor_a7421 21 = .ok (.return_, 1) := by decide +kernel
abbrev cJ0_getBytes_840e7 : ByteArray := prog_19_method_147_code
def yJ0_getBytes_840e7 : MethodName := ⟨RJ0, "getBytes", "([BIB)V"⟩
theorem dJ0_getBytes_840e7_0 : decode cJ0_getBytes_840e7 0 = .ok (.aload_n 0, 1) := by decide +kernel
theorem dJ0_getBytes_840e7_1 : decode cJ0_getBytes_840e7 1 = .ok (.invokevirtual 335, 3) := by decide +kernel
theorem dJ0_getBytes_840e7_4 : decode cJ0_getBytes_840e7 4 = .ok (.iload_n 3, 1) := by decide +kernel
theorem dJ0_getBytes_840e7_5 : decode cJ0_getBytes_840e7 5 = .ok (.if_icmp .ne 23, 3) := by decide +kernel
theorem dJ0_getBytes_840e7_8 : decode cJ0_getBytes_840e7 8 = .ok (.aload_n 0, 1) := by decide +kernel
theorem dJ0_getBytes_840e7_9 : decode cJ0_getBytes_840e7 9 = .ok (.getfield 9, 3) := by decide +kernel
theorem dJ0_getBytes_840e7_12 : decode cJ0_getBytes_840e7 12 = .ok (.iconst 0, 1) := by decide +kernel
theorem dJ0_getBytes_840e7_13 : decode cJ0_getBytes_840e7 13 = .ok (.aload_n 1, 1) := by decide +kernel
theorem dJ0_getBytes_840e7_14 : decode cJ0_getBytes_840e7 14 = .ok (.iload_n 2, 1) := by decide +kernel
theorem dJ0_getBytes_840e7_15 : decode cJ0_getBytes_840e7 15 = .ok (.iload_n 3, 1) := by decide +kernel
theorem dJ0_getBytes_840e7_16 : decode cJ0_getBytes_840e7 16 = .ok (.ishl, 1) := by decide +kernel
theorem dJ0_getBytes_840e7_17 : decode cJ0_getBytes_840e7 17 = .ok (.aload_n 0, 1) := by decide +kernel
theorem dJ0_getBytes_840e7_18 : decode cJ0_getBytes_840e7 18 = .ok (.getfield 9, 3) := by decide +kernel
theorem dJ0_getBytes_840e7_21 : decode cJ0_getBytes_840e7 21 = .ok (.arraylength, 1) := by decide +kernel
theorem dJ0_getBytes_840e7_22 : decode cJ0_getBytes_840e7 22 = .ok (.invokestatic 212, 3) := by decide +kernel
theorem dJ0_getBytes_840e7_25 : decode cJ0_getBytes_840e7 25 = .ok (.goto 18, 3) := by decide +kernel
theorem dJ0_getBytes_840e7_28 : decode cJ0_getBytes_840e7 28 = .ok (.aload_n 0, 1) := by decide +kernel
theorem dJ0_getBytes_840e7_29 : decode cJ0_getBytes_840e7 29 = .ok (.getfield 9, 3) := by decide +kernel
theorem dJ0_getBytes_840e7_32 : decode cJ0_getBytes_840e7 32 = .ok (.iconst 0, 1) := by decide +kernel
theorem dJ0_getBytes_840e7_33 : decode cJ0_getBytes_840e7 33 = .ok (.aload_n 1, 1) := by decide +kernel
theorem dJ0_getBytes_840e7_34 : decode cJ0_getBytes_840e7 34 = .ok (.iload_n 2, 1) := by decide +kernel
theorem dJ0_getBytes_840e7_35 : decode cJ0_getBytes_840e7 35 = .ok (.aload_n 0, 1) := by decide +kernel
theorem dJ0_getBytes_840e7_36 : decode cJ0_getBytes_840e7 36 = .ok (.getfield 9, 3) := by decide +kernel
theorem dJ0_getBytes_840e7_39 : decode cJ0_getBytes_840e7 39 = .ok (.arraylength, 1) := by decide +kernel
theorem dJ0_getBytes_840e7_40 : decode cJ0_getBytes_840e7 40 = .ok (.invokestatic 106, 3) := by decide +kernel
theorem dJ0_getBytes_840e7_43 : decode cJ0_getBytes_840e7 43 = .ok (.return_, 1) := by decide +kernel
abbrev cJ4_append_cf468 : ByteArray := prog_20_method_14_code
def yJ4_append_cf468 : MethodName := ⟨RJ4, "append", "(C)Ljava/lang/StringBuilder;"⟩
theorem dJ4_append_cf468_0 : decode cJ4_append_cf468 0 = .ok (.aload_n 0, 1) := by decide +kernel
theorem dJ4_append_cf468_1 : decode cJ4_append_cf468 1 = .ok (.iload_n 1, 1) := by decide +kernel
theorem dJ4_append_cf468_2 : decode cJ4_append_cf468 2 = .ok (.invokespecial 50, 3) := by decide +kernel
theorem dJ4_append_cf468_5 : decode cJ4_append_cf468 5 = .ok (.pop, 1) := by decide +kernel
theorem dJ4_append_cf468_6 : decode cJ4_append_cf468 6 = .ok (.aload_n 0, 1) := by decide +kernel
theorem dJ4_append_cf468_7 : decode cJ4_append_cf468 7 = .ok (.areturn, 1) := by decide +kernel
abbrev cJ4_append_bf812 : ByteArray := prog_20_method_15_code
def yJ4_append_bf812 : MethodName := ⟨RJ4, "append", "(I)Ljava/lang/StringBuilder;"⟩
theorem dJ4_append_bf812_0 : decode cJ4_append_bf812 0 = .ok (.aload_n 0, 1) := by decide +kernel
theorem dJ4_append_bf812_1 : decode cJ4_append_bf812 1 = .ok (.iload_n 1, 1) := by decide +kernel
theorem dJ4_append_bf812_2 : decode cJ4_append_bf812 2 = .ok (.invokespecial 53, 3) := by decide +kernel
theorem dJ4_append_bf812_5 : decode cJ4_append_bf812 5 = .ok (.pop, 1) := by decide +kernel
theorem dJ4_append_bf812_6 : decode cJ4_append_bf812 6 = .ok (.aload_n 0, 1) := by decide +kernel
theorem dJ4_append_bf812_7 : decode cJ4_append_bf812 7 = .ok (.areturn, 1) := by decide +kernel
abbrev cJ4_append_15ec4 : ByteArray := prog_20_method_7_code
def yJ4_append_15ec4 : MethodName := ⟨RJ4, "append", "(Ljava/lang/String;)Ljava/lang/StringBuilder;"⟩
theorem dJ4_append_15ec4_0 : decode cJ4_append_15ec4 0 = .ok (.aload_n 0, 1) := by decide +kernel
theorem dJ4_append_15ec4_1 : decode cJ4_append_15ec4 1 = .ok (.aload_n 1, 1) := by decide +kernel
theorem dJ4_append_15ec4_2 : decode cJ4_append_15ec4 2 = .ok (.invokespecial 29, 3) := by decide +kernel
theorem dJ4_append_15ec4_5 : decode cJ4_append_15ec4 5 = .ok (.pop, 1) := by decide +kernel
theorem dJ4_append_15ec4_6 : decode cJ4_append_15ec4 6 = .ok (.aload_n 0, 1) := by decide +kernel
theorem dJ4_append_15ec4_7 : decode cJ4_append_15ec4 7 = .ok (.areturn, 1) := by decide +kernel
abbrev cJ4_length_8abf5 : ByteArray := prog_20_method_93_code
def yJ4_length_8abf5 : MethodName := ⟨RJ4, "length", "()I"⟩
theorem dJ4_length_8abf5_0 : decode cJ4_length_8abf5 0 = .ok (.aload_n 0, 1) := by decide +kernel
theorem dJ4_length_8abf5_1 : decode cJ4_length_8abf5 1 = .ok (.invokespecial 343, 3) := by decide +kernel
theorem dJ4_length_8abf5_4 : decode cJ4_length_8abf5 4 = .ok (.ireturn, 1) := by decide +kernel
abbrev cJ5_charAt_5068e : ByteArray := prog_15_method_14_code
def yJ5_charAt_5068e : MethodName := ⟨RJ5, "charAt", "(I)C"⟩
theorem dJ5_charAt_5068e_0 : decode cJ5_charAt_5068e 0 = .ok (.aload_n 0, 1) := by decide +kernel
theorem dJ5_charAt_5068e_1 : decode cJ5_charAt_5068e 1 = .ok (.getfield 22, 3) := by decide +kernel
theorem dJ5_charAt_5068e_4 : decode cJ5_charAt_5068e 4 = .ok (.istore_n 2, 1) := by decide +kernel
theorem dJ5_charAt_5068e_5 : decode cJ5_charAt_5068e 5 = .ok (.aload_n 0, 1) := by decide +kernel
theorem dJ5_charAt_5068e_6 : decode cJ5_charAt_5068e 6 = .ok (.getfield 15, 3) := by decide +kernel
theorem dJ5_charAt_5068e_9 : decode cJ5_charAt_5068e 9 = .ok (.astore_n 3, 1) := by decide +kernel
theorem dJ5_charAt_5068e_10 : decode cJ5_charAt_5068e 10 = .ok (.aload_n 0, 1) := by decide +kernel
theorem dJ5_charAt_5068e_11 : decode cJ5_charAt_5068e 11 = .ok (.getfield 79, 3) := by decide +kernel
theorem dJ5_charAt_5068e_14 : decode cJ5_charAt_5068e 14 = .ok (.aload_n 3, 1) := by decide +kernel
theorem dJ5_charAt_5068e_15 : decode cJ5_charAt_5068e 15 = .ok (.arraylength, 1) := by decide +kernel
theorem dJ5_charAt_5068e_16 : decode cJ5_charAt_5068e 16 = .ok (.iload_n 2, 1) := by decide +kernel
theorem dJ5_charAt_5068e_17 : decode cJ5_charAt_5068e 17 = .ok (.ishr, 1) := by decide +kernel
theorem dJ5_charAt_5068e_18 : decode cJ5_charAt_5068e 18 = .ok (.invokestatic 138, 3) := by decide +kernel
theorem dJ5_charAt_5068e_21 : decode cJ5_charAt_5068e 21 = .ok (.istore 4, 2) := by decide +kernel
theorem dJ5_charAt_5068e_23 : decode cJ5_charAt_5068e 23 = .ok (.iload_n 1, 1) := by decide +kernel
theorem dJ5_charAt_5068e_24 : decode cJ5_charAt_5068e 24 = .ok (.iload 4, 2) := by decide +kernel
theorem dJ5_charAt_5068e_26 : decode cJ5_charAt_5068e 26 = .ok (.invokestatic 144, 3) := by decide +kernel
theorem dJ5_charAt_5068e_29 : decode cJ5_charAt_5068e 29 = .ok (.iload_n 2, 1) := by decide +kernel
theorem dJ5_charAt_5068e_30 : decode cJ5_charAt_5068e 30 = .ok (.ifCond .ne 12, 3) := by decide +kernel
theorem dJ5_charAt_5068e_33 : decode cJ5_charAt_5068e 33 = .ok (.aload_n 3, 1) := by decide +kernel
theorem dJ5_charAt_5068e_34 : decode cJ5_charAt_5068e 34 = .ok (.iload_n 1, 1) := by decide +kernel
theorem dJ5_charAt_5068e_35 : decode cJ5_charAt_5068e 35 = .ok (.baload, 1) := by decide +kernel
theorem dJ5_charAt_5068e_36 : decode cJ5_charAt_5068e 36 = .ok (.sipush 255, 3) := by decide +kernel
theorem dJ5_charAt_5068e_39 : decode cJ5_charAt_5068e 39 = .ok (.iand, 1) := by decide +kernel
theorem dJ5_charAt_5068e_40 : decode cJ5_charAt_5068e 40 = .ok (.i2c, 1) := by decide +kernel
theorem dJ5_charAt_5068e_41 : decode cJ5_charAt_5068e 41 = .ok (.ireturn, 1) := by decide +kernel
theorem dJ5_charAt_5068e_42 : decode cJ5_charAt_5068e 42 = .ok (.aload_n 3, 1) := by decide +kernel
theorem dJ5_charAt_5068e_43 : decode cJ5_charAt_5068e 43 = .ok (.iload_n 1, 1) := by decide +kernel
theorem dJ5_charAt_5068e_44 : decode cJ5_charAt_5068e 44 = .ok (.invokestatic 148, 3) := by decide +kernel
theorem dJ5_charAt_5068e_47 : decode cJ5_charAt_5068e 47 = .ok (.ireturn, 1) := by decide +kernel
abbrev cJ4_charAt_5068e : ByteArray := prog_20_method_88_code
def yJ4_charAt_5068e : MethodName := ⟨RJ4, "charAt", "(I)C"⟩
theorem dJ4_charAt_5068e_0 : decode cJ4_charAt_5068e 0 = .ok (.aload_n 0, 1) := by decide +kernel
theorem dJ4_charAt_5068e_1 : decode cJ4_charAt_5068e 1 = .ok (.iload_n 1, 1) := by decide +kernel
theorem dJ4_charAt_5068e_2 : decode cJ4_charAt_5068e 2 = .ok (.invokespecial 329, 3) := by decide +kernel
theorem dJ4_charAt_5068e_5 : decode cJ4_charAt_5068e 5 = .ok (.ireturn, 1) := by decide +kernel
abbrev cJ5_init_d00df : ByteArray := prog_15_method_2_code
def yJ5_init_d00df : MethodName := ⟨RJ5, "<init>", "(I)V"⟩
theorem dJ5_init_d00df_0 : decode cJ5_init_d00df 0 = .ok (.aload_n 0, 1) := by decide +kernel
theorem dJ5_init_d00df_1 : decode cJ5_init_d00df 1 = .ok (.invokespecial 3, 3) := by decide +kernel
theorem dJ5_init_d00df_4 : decode cJ5_init_d00df 4 = .ok (.getstatic 18, 3) := by decide +kernel
theorem dJ5_init_d00df_7 : decode cJ5_init_d00df 7 = .ok (.ifCond .eq 18, 3) := by decide +kernel
theorem dJ5_init_d00df_10 : decode cJ5_init_d00df 10 = .ok (.aload_n 0, 1) := by decide +kernel
theorem dJ5_init_d00df_11 : decode cJ5_init_d00df 11 = .ok (.iload_n 1, 1) := by decide +kernel
theorem dJ5_init_d00df_12 : decode cJ5_init_d00df 12 = .ok (.newarray .byte, 2) := by decide +kernel
theorem dJ5_init_d00df_14 : decode cJ5_init_d00df 14 = .ok (.putfield 15, 3) := by decide +kernel
theorem dJ5_init_d00df_17 : decode cJ5_init_d00df 17 = .ok (.aload_n 0, 1) := by decide +kernel
theorem dJ5_init_d00df_18 : decode cJ5_init_d00df 18 = .ok (.iconst 0, 1) := by decide +kernel
theorem dJ5_init_d00df_19 : decode cJ5_init_d00df 19 = .ok (.putfield 22, 3) := by decide +kernel
theorem dJ5_init_d00df_22 : decode cJ5_init_d00df 22 = .ok (.goto 16, 3) := by decide +kernel
theorem dJ5_init_d00df_25 : decode cJ5_init_d00df 25 = .ok (.aload_n 0, 1) := by decide +kernel
theorem dJ5_init_d00df_26 : decode cJ5_init_d00df 26 = .ok (.iload_n 1, 1) := by decide +kernel
theorem dJ5_init_d00df_27 : decode cJ5_init_d00df 27 = .ok (.invokestatic 26, 3) := by decide +kernel
theorem dJ5_init_d00df_30 : decode cJ5_init_d00df 30 = .ok (.putfield 15, 3) := by decide +kernel
theorem dJ5_init_d00df_33 : decode cJ5_init_d00df 33 = .ok (.aload_n 0, 1) := by decide +kernel
theorem dJ5_init_d00df_34 : decode cJ5_init_d00df 34 = .ok (.iconst 1, 1) := by decide +kernel
theorem dJ5_init_d00df_35 : decode cJ5_init_d00df 35 = .ok (.putfield 22, 3) := by decide +kernel
theorem dJ5_init_d00df_38 : decode cJ5_init_d00df 38 = .ok (.return_, 1) := by decide +kernel
abbrev cJ4_init_da8c8 : ByteArray := prog_20_method_1_code
def yJ4_init_da8c8 : MethodName := ⟨RJ4, "<init>", "()V"⟩
theorem dJ4_init_da8c8_0 : decode cJ4_init_da8c8 0 = .ok (.aload_n 0, 1) := by decide +kernel
theorem dJ4_init_da8c8_1 : decode cJ4_init_da8c8 1 = .ok (.bipush 16, 2) := by decide +kernel
theorem dJ4_init_da8c8_3 : decode cJ4_init_da8c8 3 = .ok (.invokespecial 1, 3) := by decide +kernel
theorem dJ4_init_da8c8_6 : decode cJ4_init_da8c8 6 = .ok (.return_, 1) := by decide +kernel
theorem kl_min_J5 : Cond.methodLink RJ5 138 Lib.Math.min.name ∈ TB := tb_at 1138 (by decide +kernel) (by decide +kernel)
theorem kw_971 : Cond.code yJ5_newCapacity_0f7a4 cJ5_newCapacity_0f7a4 6 (some .int) ∈ TB := tb_at 971 (by decide +kernel) (by decide +kernel)
theorem kw_970 : Cond.instanceMethod yJ5_newCapacity_0f7a4 ∈ TB := tb_at 970 (by decide +kernel) (by decide +kernel)
theorem kw_77 : Cond.initialized "java/lang/AbstractStringBuilde\x72" ∈ TB := tb_at 77 (by decide +kernel) (by decide +kernel)
theorem kw_998 : Cond.selects "java/lang/StringBuilde\x72" yJ5_isLatin1_aae02 yJ5_isLatin1_aae02 ∈ TB := tb_at 998 (by decide +kernel) (by decide +kernel)
theorem kw_968 : Cond.methodLink "java/lang/AbstractStringBuilde\x72" 104 yJ5_newCapacity_0f7a4 ∈ TB := tb_at 968 (by decide +kernel) (by decide +kernel)
theorem kc_J7_copyOf_9075b : Cond.code yJ7_copyOf_9075b cJ7_copyOf_9075b 3 (some (.array .byte)) ∈ TB := tb_at 983 (by decide +kernel) (by decide +kernel)
theorem kw_982 : Cond.static yJ7_copyOf_9075b ∈ TB := tb_at 982 (by decide +kernel) (by decide +kernel)
theorem kw_82 : Cond.initialized "java/util/Arrays" ∈ TB := tb_at 82 (by decide +kernel) (by decide +kernel)
theorem kw_981 : Cond.methodLink "java/lang/AbstractStringBuilde\x72" 108 yJ7_copyOf_9075b ∈ TB := tb_at 981 (by decide +kernel) (by decide +kernel)
theorem kw_967 : Cond.code yJ5_ensureCapacityInternal_d00df cJ5_ensureCapacityInternal_d00df 3 none ∈ TB := tb_at 967 (by decide +kernel) (by decide +kernel)
theorem kw_966 : Cond.instanceMethod yJ5_ensureCapacityInternal_d00df ∈ TB := tb_at 966 (by decide +kernel) (by decide +kernel)
theorem kw_964 : Cond.methodLink "java/lang/AbstractStringBuilde\x72" 100 yJ5_ensureCapacityInternal_d00df ∈ TB := tb_at 964 (by decide +kernel) (by decide +kernel)
theorem kw_999 : Cond.code yJ5_isLatin1_aae02 cJ5_isLatin1_aae02 1 (some .boolean) ∈ TB := tb_at 999 (by decide +kernel) (by decide +kernel)
theorem kw_997 : Cond.sameMethod "java/lang/AbstractStringBuilde\x72" "java/lang/AbstractStringBuilde\x72" "isLatin1" "()Z" ∈ TB := tb_at 997 (by decide +kernel) (by decide +kernel)
theorem kw_996 : Cond.instanceMethod yJ5_isLatin1_aae02 ∈ TB := tb_at 996 (by decide +kernel) (by decide +kernel)
theorem kw_995 : Cond.methodLink "java/lang/AbstractStringBuilde\x72" 83 yJ5_isLatin1_aae02 ∈ TB := tb_at 995 (by decide +kernel) (by decide +kernel)
theorem kw_1002 : Cond.code yJ1_canEncode_fc78d cJ1_canEncode_fc78d 1 (some .boolean) ∈ TB := tb_at 1002 (by decide +kernel) (by decide +kernel)
theorem kw_1001 : Cond.static yJ1_canEncode_fc78d ∈ TB := tb_at 1001 (by decide +kernel) (by decide +kernel)
theorem kw_1000 : Cond.methodLink "java/lang/AbstractStringBuilde\x72" 191 yJ1_canEncode_fc78d ∈ TB := tb_at 1000 (by decide +kernel) (by decide +kernel)
theorem fi_J4_3 : mFi 12 3 := fun _ _ _ h => by cases h; exact ⟨rfl, by decide +kernel⟩
theorem kc_J5_append_3fe6f : Cond.code yJ5_append_3fe6f cJ5_append_3fe6f 2 (some (.object "java/lang/AbstractStringBuilde\x72")) ∈ TB := tb_at 963 (by decide +kernel) (by decide +kernel)
theorem kw_1674 : Cond.sameMethod "java/lang/AbstractStringBuilde\x72" "java/lang/AbstractStringBuilde\x72" "append" "(C)Ljava/lang/AbstractStringBuilder;" ∈ TB := tb_at 1674 (by decide +kernel) (by decide +kernel)
theorem kw_949 : Cond.superclass "java/lang/StringBuilde\x72" "java/lang/AbstractStringBuilde\x72" ∈ TB := tb_at 949 (by decide +kernel) (by decide +kernel)
theorem kw_962 : Cond.instanceMethod yJ5_append_3fe6f ∈ TB := tb_at 962 (by decide +kernel) (by decide +kernel)
theorem kw_961 : Cond.methodLink "java/lang/StringBuilde\x72" 50 yJ5_append_3fe6f ∈ TB := tb_at 961 (by decide +kernel) (by decide +kernel)
theorem kw_1057 : Cond.code yJ6_stringSize_0f7a4 cJ6_stringSize_0f7a4 4 (some .int) ∈ TB := tb_at 1057 (by decide +kernel) (by decide +kernel)
theorem kw_1056 : Cond.static yJ6_stringSize_0f7a4 ∈ TB := tb_at 1056 (by decide +kernel) (by decide +kernel)
theorem kw_86 : Cond.initialized "java/lang/Intege\x72" ∈ TB := tb_at 86 (by decide +kernel) (by decide +kernel)
theorem kw_1055 : Cond.methodLink "java/lang/AbstractStringBuilde\x72" 245 yJ6_stringSize_0f7a4 ∈ TB := tb_at 1055 (by decide +kernel) (by decide +kernel)
theorem kw_1060 : Cond.code yJ6_getChars_ba4f3 cJ6_getChars_ba4f3 7 (some .int) ∈ TB := tb_at 1060 (by decide +kernel) (by decide +kernel)
theorem kw_1059 : Cond.static yJ6_getChars_ba4f3 ∈ TB := tb_at 1059 (by decide +kernel) (by decide +kernel)
theorem kw_1058 : Cond.methodLink "java/lang/AbstractStringBuilde\x72" 248 yJ6_getChars_ba4f3 ∈ TB := tb_at 1058 (by decide +kernel) (by decide +kernel)
theorem kc_J5_append_c97b9 : Cond.code yJ5_append_c97b9 cJ5_append_c97b9 4 (some (.object "java/lang/AbstractStringBuilde\x72")) ∈ TB := tb_at 1054 (by decide +kernel) (by decide +kernel)
theorem kw_1678 : Cond.sameMethod "java/lang/AbstractStringBuilde\x72" "java/lang/AbstractStringBuilde\x72" "append" "(I)Ljava/lang/AbstractStringBuilder;" ∈ TB := tb_at 1678 (by decide +kernel) (by decide +kernel)
theorem kw_1053 : Cond.instanceMethod yJ5_append_c97b9 ∈ TB := tb_at 1053 (by decide +kernel) (by decide +kernel)
theorem kw_1052 : Cond.methodLink "java/lang/StringBuilde\x72" 53 yJ5_append_c97b9 ∈ TB := tb_at 1052 (by decide +kernel) (by decide +kernel)
theorem kw_1114 : Cond.methodLink "java/lang/AbstractStringBuilde\x72" 40 yJ0_coder_7d493 ∈ TB := tb_at 1114 (by decide +kernel) (by decide +kernel)
theorem kw_1113 : Cond.code yJ5_inflateIfNeededFor_a7421 cJ5_inflateIfNeededFor_a7421 2 none ∈ TB := tb_at 1113 (by decide +kernel) (by decide +kernel)
theorem kw_1112 : Cond.instanceMethod yJ5_inflateIfNeededFor_a7421 ∈ TB := tb_at 1112 (by decide +kernel) (by decide +kernel)
theorem kw_1110 : Cond.methodLink "java/lang/AbstractStringBuilde\x72" 397 yJ5_inflateIfNeededFor_a7421 ∈ TB := tb_at 1110 (by decide +kernel) (by decide +kernel)
theorem kw_1118 : Cond.code yJ0_getBytes_840e7 cJ0_getBytes_840e7 4 none ∈ TB := tb_at 1118 (by decide +kernel) (by decide +kernel)
theorem kw_1116 : Cond.instanceMethod yJ0_getBytes_840e7 ∈ TB := tb_at 1116 (by decide +kernel) (by decide +kernel)
theorem kw_1117 : Cond.selects "java/lang/String" yJ0_getBytes_840e7 yJ0_getBytes_840e7 ∈ TB := tb_at 1117 (by decide +kernel) (by decide +kernel)
theorem kw_1115 : Cond.methodLink "java/lang/AbstractStringBuilde\x72" 399 yJ0_getBytes_840e7 ∈ TB := tb_at 1115 (by decide +kernel) (by decide +kernel)
theorem kw_1097 : Cond.methodLink "java/lang/AbstractStringBuilde\x72" 32 yJ0_length_8abf5 ∈ TB := tb_at 1097 (by decide +kernel) (by decide +kernel)
theorem kw_1109 : Cond.code yJ5_putStringAt_47b60 cJ5_putStringAt_47b60 3 none ∈ TB := tb_at 1109 (by decide +kernel) (by decide +kernel)
theorem kw_1108 : Cond.instanceMethod yJ5_putStringAt_47b60 ∈ TB := tb_at 1108 (by decide +kernel) (by decide +kernel)
theorem kw_1106 : Cond.methodLink "java/lang/AbstractStringBuilde\x72" 208 yJ5_putStringAt_47b60 ∈ TB := tb_at 1106 (by decide +kernel) (by decide +kernel)
theorem kc_J5_append_cf1ce : Cond.code yJ5_append_cf1ce cJ5_append_cf1ce 3 (some (.object "java/lang/AbstractStringBuilde\x72")) ∈ TB := tb_at 1089 (by decide +kernel) (by decide +kernel)
theorem kw_1679 : Cond.sameMethod "java/lang/AbstractStringBuilde\x72" "java/lang/AbstractStringBuilde\x72" "append" "(Ljava/lang/String;)Ljava/lang/AbstractStringBuilder;" ∈ TB := tb_at 1679 (by decide +kernel) (by decide +kernel)
theorem kw_1088 : Cond.instanceMethod yJ5_append_cf1ce ∈ TB := tb_at 1088 (by decide +kernel) (by decide +kernel)
theorem kw_1087 : Cond.methodLink "java/lang/StringBuilde\x72" 29 yJ5_append_cf1ce ∈ TB := tb_at 1087 (by decide +kernel) (by decide +kernel)
theorem kw_1130 : Cond.code yJ5_length_8abf5 cJ5_length_8abf5 1 (some .int) ∈ TB := tb_at 1130 (by decide +kernel) (by decide +kernel)
theorem kw_1683 : Cond.sameMethod "java/lang/AbstractStringBuilde\x72" "java/lang/AbstractStringBuilde\x72" "length" "()I" ∈ TB := tb_at 1683 (by decide +kernel) (by decide +kernel)
theorem kw_1129 : Cond.instanceMethod yJ5_length_8abf5 ∈ TB := tb_at 1129 (by decide +kernel) (by decide +kernel)
theorem kw_1128 : Cond.methodLink "java/lang/StringBuilde\x72" 343 yJ5_length_8abf5 ∈ TB := tb_at 1128 (by decide +kernel) (by decide +kernel)
theorem kw_1139 : Cond.methodLink "java/lang/AbstractStringBuilde\x72" 144 yJ0_checkIndex_df160 ∈ TB := tb_at 1139 (by decide +kernel) (by decide +kernel)
theorem kw_1137 : Cond.code yJ5_charAt_5068e cJ5_charAt_5068e 5 (some .char) ∈ TB := tb_at 1137 (by decide +kernel) (by decide +kernel)
theorem kw_1684 : Cond.sameMethod "java/lang/AbstractStringBuilde\x72" "java/lang/AbstractStringBuilde\x72" "charAt" "(I)C" ∈ TB := tb_at 1684 (by decide +kernel) (by decide +kernel)
theorem kw_1136 : Cond.instanceMethod yJ5_charAt_5068e ∈ TB := tb_at 1136 (by decide +kernel) (by decide +kernel)
theorem kw_1135 : Cond.methodLink "java/lang/StringBuilde\x72" 329 yJ5_charAt_5068e ∈ TB := tb_at 1135 (by decide +kernel) (by decide +kernel)
theorem fz_J4_1 : mFz 12 1 .byte := fun _ _ _ h => by cases h; exact ⟨rfl, by decide +kernel⟩
theorem kw_927 : Cond.code yJ5_init_d00df cJ5_init_d00df 2 none ∈ TB := tb_at 927 (by decide +kernel) (by decide +kernel)
theorem kw_926 : Cond.instanceMethod yJ5_init_d00df ∈ TB := tb_at 926 (by decide +kernel) (by decide +kernel)
theorem kw_925 : Cond.methodLink "java/lang/StringBuilde\x72" 1 yJ5_init_d00df ∈ TB := tb_at 925 (by decide +kernel) (by decide +kernel)
/-! ===== StringBuilder over a list of bytes ===== -/
section SBG
variable {E : mE} {p : Program} {l : Launch} {e : Env} {R : Room} {s : State} {m : MethodId} {args : Array Value} {below : List Frame} {meth : Method} {c : Code} {H : Heap} {locs : List Loc} {cells slots mc ms : Nat} {Q : State → Prop} {pc : Nat} {ls : Array Slot} {rest st0 : List Value} {A : Nat → Prop} {ws wc wr : va_W} {y y2 : MethodName} {bc bc2 : ByteArray} {mL mL2 index : Nat} {rt rt2 : Option FieldType} {rm : Room} {post post2 : Option Value → va_W → Prop} {As av : List Value} {a b : Nat}
theorem mx_callVG (M : MX E l y2 bc2 mL2 rt2 rm (.ref b :: As) wc post2) (B : mB E y bc mL rt mc ms post p s m args below meth c A Q) (w : mW E A s ws H locs)
    (isC isR : List Nat) (hC : isC.map (fun i => ws[i]?) = wc.map some) (hR : isR.map (fun i => ws[i]?) = wr.map some) (hnC : va_nd isC = true) (hn : va_nd isR = true) (hdis : ∀ i ∈ isR, i ∉ isC)
    (q0 : Nat) {C : String} {TT : u_T} {N ci : Nat} {fs : List Value} (hc : CL[ci]? = some (C, TT, N)) (he : ws[q0]? = some (b, .inr (ci, fs)))
    (hw : Cond.code y2 bc2 mL2 rt2 ∈ TB ∧ Cond.instanceMethod y2 ∈ TB ∧ Cond.selects C y2 y2 ∈ TB ∧ Cond.initialized C ∈ TB) (hlk : Cond.methodLink y.cls index y2 ∈ TB) (n : Nat)
    (hd : y2.cls = C ∧ y2.cls ≠ "java/lang/invoke/MethodHandle" ∧ y2.cls ≠ "java/lang/invoke/VarHandle" ∧ (parseMethodDescriptor y2.desc).map (fun d => d.parameters.length) = some n) (hR2 : rm.frames + 1 ≤ R.frames ∧ 8 + (mL2 + 11) + rm.locals ≤ R.locals)
    (hn2 : As.length = n) (hsz : ls.size = mL) (hstack : st0 = As.reverse ++ .ref b :: rest) (hroom : (rest.map fun v => v.category).sum ≤ 8) (hdg : decode bc pc = .ok (.invokevirtual index, 3)) {cells2 slots2 : Nat} (hc2 : cells + rm.cells = cells2) (hs2 : slots + rm.slots = slots2) (hf : cells2 ≤ R.cells ∧ slots2 ≤ R.slots)
    (kk : ∀ (v : Option Value) (w' : va_W) (H1 : Heap) (locs1 : List Loc), post2 v w' → mW E A s (wr ++ w') H1 locs1 → W p l e R s m args below meth c H1 locs1 cells2 slots2 Q (F0 m (pc + 3) ls (v.toList ++ rest))) : W p l e R s m args below meth c H locs cells slots Q (F0 m pc ls st0) := by
  subst hc2
  subst hs2
  exact mc_callV (D := mD E) (Z := mZ E) M B.1 (fun _ h => h) B.2.2.2.1 (mZ_ok E) B.2.2.2.2.2.1 B.2.2.2.2.1 w.1 w.2.1 w.2.2 isC isR hC hR hnC hn hdis hc he hw hlk n hd hR2 hn2 hsz hstack hroom hdg hf (fun v w' H1 locs1 h1 h2 h3 h4 => kk v w' H1 locs1 h1 ⟨h2, h3, h4⟩)
theorem mx_callSG (M : MX E l y2 bc2 mL2 rt2 rm As wc post2) (B : mB E y bc mL rt mc ms post p s m args below meth c A Q) (w : mW E A s ws H locs)
    (isC isR : List Nat) (hC : isC.map (fun i => ws[i]?) = wc.map some) (hR : isR.map (fun i => ws[i]?) = wr.map some) (hnC : va_nd isC = true) (hn : va_nd isR = true) (hdis : ∀ i ∈ isR, i ∉ isC)
    (hw : Cond.code y2 bc2 mL2 rt2 ∈ TB ∧ Cond.static y2 ∈ TB ∧ Cond.initialized y2.cls ∈ TB) (hlk : Cond.methodLink y.cls index y2 ∈ TB) (n : Nat)
    (hd : y2.cls ≠ "java/lang/invoke/MethodHandle" ∧ y2.cls ≠ "java/lang/invoke/VarHandle" ∧ (parseMethodDescriptor y2.desc).map (fun d => d.parameters.length) = some n) (hR2 : rm.frames + 1 ≤ R.frames ∧ 8 + (mL2 + 11) + rm.locals ≤ R.locals)
    (hn2 : As.length = n) (hsz : ls.size = mL) (hstack : st0 = As.reverse ++ rest) (hroom : (rest.map fun v => v.category).sum ≤ 8) (hdg : decode bc pc = .ok (.invokestatic index, 3)) {cells2 slots2 : Nat} (hc2 : cells + rm.cells = cells2) (hs2 : slots + rm.slots = slots2) (hf : cells2 ≤ R.cells ∧ slots2 ≤ R.slots)
    (kk : ∀ (v : Option Value) (w' : va_W) (H1 : Heap) (locs1 : List Loc), post2 v w' → mW E A s (wr ++ w') H1 locs1 → W p l e R s m args below meth c H1 locs1 cells2 slots2 Q (F0 m (pc + 3) ls (v.toList ++ rest))) : W p l e R s m args below meth c H locs cells slots Q (F0 m pc ls st0) := by
  have hts := B.1.2.2.2.2
  have hF := va_free (wc := wc) w.2.1 w.2.2 B.2.2.2.1 isC hC
  have wc1 : mW E A s wc H locs := w.sub isC hnC hC
  have hG : GoodIn TB (.code y2 bc2 mL2 rt2 :: TB) := tb_good (fun _ h => h) hw.1
  subst hc2
  subst hs2
  exact mc_after (D := mD E) (g := F0 m pc ls st0) (av := As) (va_runS (As := As) (rest := rest) B.1 (M H.size) ⟨callB_of n hts hG rfl rfl rfl (hts _ hw.2.2) (hts _ hlk) hd hR2, hts _ hw.2.1⟩ ⟨mc_blind (mZ_ok E), fun U hU hW => mc_pre (mZ_ok E) B.2.2.2.2.2.1 B.2.2.2.2.1 w.2.2 wc1.1 wc1.2.1 hF U hU hW⟩ rfl hn2 hsz hstack (lv_room hroom) hdg hf) w.1 w.2.1 w.2.2 isC isR hC hR hn hdis hF (fun v w' H1 locs1 h1 h2 h3 h4 => kk v w' H1 locs1 h1 ⟨h2, h3, h4⟩)
end SBG
abbrev SBw (E : mE) (h a cap : Nat) (f : Nat → Int32) (n : Nat) : va_W := [(h, .inr (12, [.ref a, .int (0 : Int32), .int (0 : Int32), .int (nI n)])), (a, .inl (E.2.2.1, cap, .inl f))]
def fb (f : Nat → Int32) (cap : Nat) : Prop := ∀ i, i < cap → fits .byte (.int (f i)) = true
def SBI (cap : Nat) (f : Nat → Int32) (bs : List Int32) : Prop := (cap = 16 ∨ cap = 34) ∧ bs.length ≤ cap ∧ (∀ i, i < bs.length → f i = bs.getD i 0) ∧ fb f cap
def SBP (E : mE) (h : Nat) (bs : List Int32) (w' : va_W) : Prop := ∃ a cap f, w' = SBw E h a cap f bs.length ∧ SBI cap f bs
theorem sb_le : ∀ k, k < 35 → (nI k - nI 16 ≤ 0 ↔ k ≤ 16) ∧ (nI k - nI 34 ≤ 0 ↔ k ≤ 34) := by decide +kernel
theorem sb_nc : ∀ k, k < 35 → 16 < k → nI 16 + imx ((nI k <<< ((0 : Int32) &&& 31)) - nI 16) (nI 16 + ((2 : Int32) <<< ((0 : Int32) &&& 31))) = 34 := by decide +kernel
theorem sb_bytes : ∀ x, x < 128 → (nI x).toInt8.toInt32 = nI x ∧ vp_nar .byte (nI x) = nI x ∧ fits .byte (.int (nI x)) = true ∧ ¬ 255 < nI x ∧ (((nI x) &&& 255).toUInt32 % 65536).toInt32 = nI x ∧ narrow .char (.int (nI x)) = .int (nI x) := by decide +kernel
theorem nc_some {k : Nat} (h1 : 16 < k) (h2 : k ≤ 34) : F_J5_newCapacity_0f7a4 16 (nI k) = some 34 := by
  have hx := sb_nc k (by omega) h1
  have e8 : F_J8_newLength_cabcc (nI 16) ((nI k <<< ((0 : Int32) &&& 31)) - nI 16) (nI 16 + ((2 : Int32) <<< ((0 : Int32) &&& 31))) = some 34 := by
    show ck (¬ (nI 16 + imx ((nI k <<< ((0 : Int32) &&& 31)) - nI 16) (nI 16 + ((2 : Int32) <<< ((0 : Int32) &&& 31))) ≤ 0)) (ck (¬ (2147483639 < nI 16 + imx ((nI k <<< ((0 : Int32) &&& 31)) - nI 16) (nI 16 + ((2 : Int32) <<< ((0 : Int32) &&& 31))))) (some (nI 16 + imx ((nI k <<< ((0 : Int32) &&& 31)) - nI 16) (nI 16 + ((2 : Int32) <<< ((0 : Int32) &&& 31)))))) = some 34
    rw [hx, ck_t (by decide), ck_t (by decide)]
  show bd (F_J8_newLength_cabcc (nI 16) ((nI k <<< ((0 : Int32) &&& 31)) - nI 16) (nI 16 + ((2 : Int32) <<< ((0 : Int32) &&& 31)))) _ = _
  rw [bd_t e8, ck_t (by decide)]
  decide
theorem isl_some (L : Nat) : F_J5_isLatin1_aae02 L = some 1 := by
  unfold F_J5_isLatin1_aae02
  rw [ck_t (by decide), ck_t rfl]
theorem ce_some {x : Nat} (h : x < 128) : F_J1_canEncode_fc78d (nI x) = some 1 := by
  unfold F_J1_canEncode_fc78d
  rw [if_neg (sb_bytes x h).2.2.2.1]
theorem sb_add (n k : Nat) : nI n + nI k = nI (n + k) := nI_add n k
set_option maxHeartbeats 4000000 in
theorem t_ens (E : mE) (l : Launch) (h a cap : Nat) (f : Nat → Int32) (n k : Nat) (hc : cap = 16 ∨ cap = 34) (hk : k ≤ 34) (hfit : fb f cap) : MX E l yJ5_ensureCapacityInternal_d00df cJ5_ensureCapacityInternal_d00df 3 none ({ frames := 3, cells := 1, slots := 34, locals := 82 } : Room) [.ref h, .int (nI k)] (SBw E h a cap f n) (fun v w' => v = none ∧ ∃ a' cap' f', w' = SBw E h a' cap' f' n ∧ (cap' = 16 ∨ cap' = 34) ∧ k ≤ cap' ∧ (∀ i, i < cap → f' i = f i) ∧ fb f' cap') := by
  refine mx_intro (by decide +kernel) (Nat.le_of_ble_eq_true rfl) ?_
  intro p e s m args below meth c A Q ls B w hl
  obtain ⟨hx, hb, hml, hown, hts⟩ := id B.1
  have hl : lv_has ls 3 [(0, .ref h), (1, .int (nI k))] := hl
  refine lv_aload_n hx hb dJ5_ensureCapacityInternal_d00df_0 rfl (lv_at hl 0 rfl) ?_
  refine mx_get B w 0 fl_J5_15 rfl rfl dJ5_ensureCapacityInternal_d00df_1 ?_
  refine mx_alenb B w 1 rfl dJ5_ensureCapacityInternal_d00df_4 ?_
  refine lv_aload_n hx hb dJ5_ensureCapacityInternal_d00df_5 rfl (lv_at hl 0 rfl) ?_
  refine mx_get B w 0 fl_J5_22 rfl rfl dJ5_ensureCapacityInternal_d00df_6 ?_
  refine lv_ishr hx hb dJ5_ensureCapacityInternal_d00df_9 ?_
  have e0 : nI cap >>> ((0 : Int32) &&& 31) = nI cap := by rcases hc with rfl | rfl <;> decide
  refine W.eq (g2 := F0 m 10 ls [.int (nI cap)]) (congrArg (fun z => F0 m 10 ls [.int z]) e0) ?_
  refine lv_istore_n (lv' := [(2, .int (nI cap)), (0, .ref h), (1, .int (nI k))]) hx hb dJ5_ensureCapacityInternal_d00df_10 rfl hl (by decide) rfl (fun ls hl => ?_)
  refine lv_iload_n hx hb dJ5_ensureCapacityInternal_d00df_11 rfl (lv_at hl 2 rfl) ?_
  refine lv_iload_n hx hb dJ5_ensureCapacityInternal_d00df_12 rfl (lv_at hl 0 rfl) ?_
  refine lv_isub hx hb dJ5_ensureCapacityInternal_d00df_13 ?_
  refine lv_if_le (tgt := 38) hx hb dJ5_ensureCapacityInternal_d00df_14 (by decide) (fun hc0 => ?_) (fun hc0 => ?_)
  · have hkc : k ≤ cap := by
      rcases hc with rfl | rfl
      · exact (sb_le k (by omega)).1.mp hc0
      · exact hk
    refine W.widen (k := 1) (n := 34) (by omega) (by omega) ?_
    exact mx_vret B w ⟨rfl, a, cap, f, rfl, hc, hkc, fun _ _ => rfl, hfit⟩ dJ5_ensureCapacityInternal_d00df_38
  · have hg : cap = 16 ∧ 16 < k := by
      rcases hc with rfl | rfl
      · exact ⟨rfl, Nat.lt_of_not_le (fun z => hc0 ((sb_le k (by omega)).1.mpr z))⟩
      · exact absurd ((sb_le k (by omega)).2.mpr hk) hc0
    obtain ⟨rfl, hk2⟩ := hg
    refine lv_aload_n hx hb dJ5_ensureCapacityInternal_d00df_17 rfl (lv_at hl 1 rfl) ?_
    refine lv_aload_n hx hb dJ5_ensureCapacityInternal_d00df_18 rfl (lv_at hl 1 rfl) ?_
    refine mx_get B w 0 fl_J5_15 rfl rfl dJ5_ensureCapacityInternal_d00df_19 ?_
    refine lv_aload_n hx hb dJ5_ensureCapacityInternal_d00df_22 rfl (lv_at hl 1 rfl) ?_
    refine lv_iload_n hx hb dJ5_ensureCapacityInternal_d00df_23 rfl (lv_at hl 2 rfl) ?_
    refine mx_callP (As := [.int (nI k)]) (rest := [.ref a, .ref h]) (wr := []) (d_J5_newCapacity_0f7a4 E l h a 16 0 (nI n) f (nI k) 34 (nc_some hk2 hk)) B w [0, 1] [] rfl rfl rfl rfl (by decide) 0 rfl rfl ⟨kw_971, kw_970, kw_77, kw_998⟩ (by simp [sPriv, yJ5_newCapacity_0f7a4, RJ5]) rfl kw_968 1 (by decide +kernel) ⟨Nat.le_of_ble_eq_true rfl, Nat.le_of_ble_eq_true rfl⟩ rfl hl.1 rfl (Nat.le_of_ble_eq_true rfl) dJ5_ensureCapacityInternal_d00df_24 rfl rfl ⟨Nat.zero_le _, Nat.zero_le _⟩ (fun v w' H locs hpo w => ?_)
    obtain ⟨rfl, rfl⟩ := hpo
    have w : mW E A s (SBw E h a 16 f n) H locs := w
    refine lv_aload_n hx hb dJ5_ensureCapacityInternal_d00df_27 rfl (lv_at hl 1 rfl) ?_
    refine mx_get B w 0 fl_J5_22 rfl rfl dJ5_ensureCapacityInternal_d00df_28 ?_
    refine lv_ishl hx hb dJ5_ensureCapacityInternal_d00df_31 ?_
    refine W.eq (g2 := F0 m 32 ls [.int (nI 34), .ref a, .ref h]) (congrArg (fun z => F0 m 32 ls [.int z, .ref a, .ref h]) (by decide)) ?_
    refine mx_callSG (As := [.ref a, .int (nI 34)]) (rest := [.ref h]) (wr := [(h, .inr (12, [.ref a, .int (0 : Int32), .int (0 : Int32), .int (nI n)]))]) (t_copyOf E l a 16 34 f (by decide) (by decide) hfit) B w [1] [0] rfl rfl (by decide) (by decide) (by decide) ⟨kc_J7_copyOf_9075b, kw_982, kw_82⟩ kw_981 2 (by decide +kernel) ⟨Nat.le_of_ble_eq_true rfl, Nat.le_of_ble_eq_true rfl⟩ rfl hl.1 rfl (Nat.le_of_ble_eq_true rfl) dJ5_ensureCapacityInternal_d00df_32 rfl rfl ⟨Nat.le_refl _, Nat.le_refl _⟩ (fun v w' H locs hpo w => ?_)
    obtain ⟨q, rfl, rfl⟩ := hpo
    have w : mW E A s [(h, .inr (12, [.ref a, .int (0 : Int32), .int (0 : Int32), .int (nI n)])), (a, .inl (E.2.2.1, 16, .inl f)), (q, .inl (E.2.2.1, 34, .inl (va_cpy f (fun _ => 0) 0 0 16)))] H locs := w
    refine mx_putv (ty := .array .byte) B w 0 fl_J5_15 (fun _ _ _ h => by cases h; exact ⟨rfl, by decide +kernel, rfl⟩) rfl (Nat.le_of_ble_eq_true rfl) rfl rfl dJ5_ensureCapacityInternal_d00df_35 (fun H locs w => ?_)
    have w : mW E A s (SBw E h q 34 (va_cpy f (fun _ => 0) 0 0 16) n) H locs := w.sub [0, 2] (by decide) rfl
    refine mx_vret B w ⟨rfl, q, 34, _, rfl, Or.inr rfl, hk, fun i hi => ?_, fun i hi => ?_⟩ dJ5_ensureCapacityInternal_d00df_38
    · unfold va_cpy
      rw [if_pos ⟨Nat.zero_le _, by omega⟩, Nat.zero_add, Nat.sub_zero]
    · unfold va_cpy
      by_cases hi2 : i < 16
      · rw [if_pos ⟨Nat.zero_le _, by omega⟩, Nat.zero_add, Nat.sub_zero]
        exact hfit i hi2
      · rw [if_neg (by omega)]
        rfl
theorem SBI.app {cap cap' : Nat} {f f' g : Nat → Int32} {bs ds : List Int32} (hI : SBI cap f bs) (hc' : cap' = 16 ∨ cap' = 34) (hk : bs.length + ds.length ≤ cap') (hs : ∀ i, i < cap → f' i = f i) (hb' : fb f' cap') (hg : ∀ i, g i = if bs.length ≤ i ∧ i < bs.length + ds.length then ds.getD (i - bs.length) 0 else f' i) (hd : ∀ j, j < ds.length → fits .byte (.int (ds.getD j 0)) = true) : SBI cap' g (bs ++ ds) := by
  obtain ⟨h1, h2, h3, h4⟩ := hI
  refine ⟨hc', by rw [List.length_append]; exact hk, fun i hi => ?_, fun i hi => ?_⟩
  · rw [List.length_append] at hi
    rw [hg i]
    by_cases z : bs.length ≤ i
    · rw [if_pos ⟨z, hi⟩]
      simp only [List.getD_eq_getElem?_getD]
      rw [List.getElem?_append_right z]
    · rw [if_neg (by omega), hs i (by omega), h3 i (by omega)]
      simp only [List.getD_eq_getElem?_getD]
      rw [List.getElem?_append_left (by omega)]
  · rw [hg i]
    by_cases z : bs.length ≤ i ∧ i < bs.length + ds.length
    · rw [if_pos z]
      exact hd _ (by omega)
    · rw [if_neg z]
      exact hb' i hi
set_option maxHeartbeats 4000000 in
theorem t_ac5 (E : mE) (l : Launch) (h a cap : Nat) (f : Nat → Int32) (bs : List Int32) (hI : SBI cap f bs) (hk : bs.length + 1 ≤ 34) (x : Nat) (hx7 : x < 128) : MX E l yJ5_append_3fe6f cJ5_append_3fe6f 2 (some (.object "java/lang/AbstractStringBuilde\x72")) ({ frames := 4, cells := 1, slots := 34, locals := 104 } : Room) [.ref h, .int (nI x)] (SBw E h a cap f bs.length) (fun v w' => v = some (.ref h) ∧ SBP E h (bs ++ [nI x]) w') := by
  refine mx_intro (by decide +kernel) (Nat.le_of_ble_eq_true rfl) ?_
  intro p e s m args below meth c A Q ls B w hl
  obtain ⟨hx, hb, hml, hown, hts⟩ := id B.1
  obtain ⟨hx1, hx2, hx3, hx4, hx5, hx6⟩ := sb_bytes x hx7
  have hl : lv_has ls 2 [(0, .ref h), (1, .int (nI x))] := hl
  refine lv_aload_n hx hb dJ5_append_3fe6f_0 rfl (lv_at hl 0 rfl) ?_
  refine lv_aload_n hx hb dJ5_append_3fe6f_1 rfl (lv_at hl 0 rfl) ?_
  refine mx_get B w 0 fl_J5_79 rfl rfl dJ5_append_3fe6f_2 ?_
  refine lv_iconst (v := 1) hx hb dJ5_append_3fe6f_5 (by decide) ?_
  refine lv_iadd hx hb dJ5_append_3fe6f_6 ?_
  refine W.eq (g2 := F0 m 7 ls [.int (nI (bs.length + 1)), .ref h]) (congrArg (fun z => F0 m 7 ls [.int z, .ref h]) (sb_add bs.length 1)) ?_
  refine mx_callP (As := [.int (nI (bs.length + 1))]) (rest := []) (wr := []) (t_ens E l h a cap f bs.length (bs.length + 1) hI.1 hk hI.2.2.2) B w [0, 1] [] rfl rfl rfl rfl (by decide) 0 rfl rfl ⟨kw_967, kw_966, kw_77, kw_998⟩ (by simp [sPriv, yJ5_ensureCapacityInternal_d00df, RJ5]) rfl kw_964 1 (by decide +kernel) ⟨Nat.le_of_ble_eq_true rfl, Nat.le_of_ble_eq_true rfl⟩ rfl hl.1 rfl (Nat.le_of_ble_eq_true rfl) dJ5_append_3fe6f_7 rfl rfl ⟨Nat.le_refl _, Nat.le_refl _⟩ (fun v w' H locs hpo w => ?_)
  obtain ⟨rfl, a', cap', f', rfl, hc', hk', hs', hb'⟩ := hpo
  have w : mW E A s (SBw E h a' cap' f' bs.length) H locs := w
  refine lv_aload_n hx hb dJ5_append_3fe6f_10 rfl (lv_at hl 0 rfl) ?_
  refine mx_callU (As := []) (rest := []) (wr := []) (d_J5_isLatin1_aae02 E l h a' cap' 0 (nI bs.length) f' 1 (isl_some _)) B w [0, 1] [] rfl rfl rfl rfl (by decide) 0 rfl rfl ⟨kw_999, kw_997, kw_998, kw_996, kw_77⟩ kw_995 0 (by decide +kernel) ⟨Nat.le_of_ble_eq_true rfl, Nat.le_of_ble_eq_true rfl⟩ rfl hl.1 rfl (Nat.le_of_ble_eq_true rfl) dJ5_append_3fe6f_11 rfl rfl ⟨Nat.le_refl _, Nat.le_refl _⟩ (fun v w' H locs hpo w => ?_)
  obtain ⟨rfl, rfl⟩ := hpo
  have w : mW E A s (SBw E h a' cap' f' bs.length) H locs := w
  refine lv_if_eq (tgt := 45) hx hb dJ5_append_3fe6f_14 (by decide) (fun hc => absurd hc (by decide)) (fun _ => ?_)
  refine lv_iload_n hx hb dJ5_append_3fe6f_17 rfl (lv_at hl 1 rfl) ?_
  refine mx_callSG (As := [.int (nI x)]) (rest := []) (wr := SBw E h a' cap' f' bs.length) (d_J1_canEncode_fc78d E l (nI x) 1 (ce_some hx7)) B w [] [0, 1] rfl rfl rfl rfl (by decide) ⟨kw_1002, kw_1001, kw_84⟩ kw_1000 1 (by decide +kernel) ⟨Nat.le_of_ble_eq_true rfl, Nat.le_of_ble_eq_true rfl⟩ rfl hl.1 rfl (Nat.le_of_ble_eq_true rfl) dJ5_append_3fe6f_18 rfl rfl ⟨Nat.le_refl _, Nat.le_refl _⟩ (fun v w' H locs hpo w => ?_)
  obtain ⟨rfl, rfl⟩ := hpo
  have w : mW E A s (SBw E h a' cap' f' bs.length) H locs := w
  refine lv_if_eq (tgt := 45) hx hb dJ5_append_3fe6f_21 (by decide) (fun hc => absurd hc (by decide)) (fun _ => ?_)
  refine lv_aload_n hx hb dJ5_append_3fe6f_24 rfl (lv_at hl 0 rfl) ?_
  refine mx_get B w 0 fl_J5_15 rfl rfl dJ5_append_3fe6f_25 ?_
  refine lv_aload_n hx hb dJ5_append_3fe6f_28 rfl (lv_at hl 0 rfl) ?_
  refine lv_dup hx hb dJ5_append_3fe6f_29 rfl ?_
  refine mx_get B w 0 fl_J5_79 rfl rfl dJ5_append_3fe6f_30 ?_
  refine lv_dup_x1 hx hb dJ5_append_3fe6f_33 rfl rfl ?_
  refine lv_iconst (v := 1) hx hb dJ5_append_3fe6f_34 (by decide) ?_
  refine lv_iadd hx hb dJ5_append_3fe6f_35 ?_
  refine mx_puti B w 0 fl_J5_79 fi_J4_3 rfl (Nat.le_of_ble_eq_true rfl) dJ5_append_3fe6f_36 (fun x' H locs ev w => ?_)
  have ev : x' = nI (bs.length + 1) := ev.trans (sb_add bs.length 1)
  subst ev
  have w : mW E A s (SBw E h a' cap' f' (bs.length + 1)) H locs := w
  refine lv_iload_n hx hb dJ5_append_3fe6f_39 rfl (lv_at hl 1 rfl) ?_
  refine lv_i2b (v := nI x) hx hb dJ5_append_3fe6f_40 hx1 ?_
  refine mx_bast B w 1 rfl (vp_in_nI (by omega) (by omega)) dJ5_append_3fe6f_41 (fun g H locs ev w => ?_)
  rw [nI_clamp (by omega), hx2] at ev
  have w : mW E A s (SBw E h a' cap' g (bs.length + 1)) H locs := w
  refine lv_goto (tgt := 75) hx hb dJ5_append_3fe6f_42 (by decide) ?_
  refine lv_aload_n hx hb dJ5_append_3fe6f_75 rfl (lv_at hl 0 rfl) ?_
  refine mx_aret B (Or.inl ⟨_, rfl⟩) w ⟨rfl, a', cap', g, by rw [List.length_append]; rfl, SBI.app hI hc' hk' hs' hb' (fun i => ?_) (fun j hj => ?_)⟩ dJ5_append_3fe6f_76
  · subst ev
    unfold upd
    by_cases z : i = bs.length
    · subst z
      rw [if_pos rfl, if_pos ⟨Nat.le_refl _, Nat.lt_succ_self _⟩, Nat.sub_self]
      rfl
    · rw [if_neg z, if_neg (by rw [List.length_singleton]; omega)]
  · have : j = 0 := by rw [List.length_singleton] at hj; omega
    subst this
    exact hx3
set_option maxHeartbeats 4000000 in
theorem t_ac (E : mE) (l : Launch) (h a cap : Nat) (f : Nat → Int32) (bs : List Int32) (hI : SBI cap f bs) (hk : bs.length + 1 ≤ 34) (x : Nat) (hx7 : x < 128) : MX E l yJ4_append_cf468 cJ4_append_cf468 2 (some (.object "java/lang/StringBuilde\x72")) ({ frames := 5, cells := 1, slots := 34, locals := 125 } : Room) [.ref h, .int (nI x)] (SBw E h a cap f bs.length) (fun v w' => v = some (.ref h) ∧ SBP E h (bs ++ [nI x]) w') := by
  refine mx_intro (by decide +kernel) (Nat.le_of_ble_eq_true rfl) ?_
  intro p e s m args below meth c A Q ls B w hl
  obtain ⟨hx, hb, hml, hown, hts⟩ := id B.1
  have hl : lv_has ls 2 [(0, .ref h), (1, .int (nI x))] := hl
  refine lv_aload_n hx hb dJ4_append_cf468_0 rfl (lv_at hl 0 rfl) ?_
  refine lv_iload_n hx hb dJ4_append_cf468_1 rfl (lv_at hl 1 rfl) ?_
  refine mx_callSU (As := [.int (nI x)]) (rest := []) (wr := []) (t_ac5 E l h a cap f bs hI hk x hx7) B w [0, 1] [] rfl rfl rfl rfl (by decide) 0 rfl rfl ⟨kc_J5_append_3fe6f, kw_1674, kw_949, kw_962, kw_77⟩ kw_961 1 (by decide +kernel) ⟨Nat.le_of_ble_eq_true rfl, Nat.le_of_ble_eq_true rfl⟩ rfl hl.1 rfl (Nat.le_of_ble_eq_true rfl) dJ4_append_cf468_2 rfl rfl ⟨Nat.le_refl _, Nat.le_refl _⟩ (fun v w' H locs hpo w => ?_)
  obtain ⟨rfl, hpo⟩ := hpo
  have w : mW E A s w' H locs := w
  refine lv_pop hx hb dJ4_append_cf468_5 rfl ?_
  refine lv_aload_n hx hb dJ4_append_cf468_6 rfl (lv_at hl 0 rfl) ?_
  exact mx_aret B (Or.inl ⟨_, rfl⟩) w ⟨rfl, hpo⟩ dJ4_append_cf468_7
/-- a number's digits: how many, and what getChars writes -/
def NumOK (N x : Nat) (ds : List Int32) : Prop := F_J6_stringSize_0f7a4 N (nI x) = some (nI ds.length) ∧ (∀ (cap k : Nat) (f : Nat → Int32), k + ds.length ≤ cap → cap ≤ 34 → ∃ (r : Int32) (g : Nat → Int32), F_J6_getChars_ba4f3 N cap f (nI x) (nI (k + ds.length)) = some (r, g) ∧ ∀ i, g i = if k ≤ i ∧ i < k + ds.length then ds.getD (i - k) 0 else f i) ∧ ∀ j, j < ds.length → fits .byte (.int (ds.getD j 0)) = true
set_option maxHeartbeats 4000000 in
theorem t_ai5 (E : mE) (l : Launch) (h a cap : Nat) (f : Nat → Int32) (bs : List Int32) (hI : SBI cap f bs) (N x : Nat) (ds : List Int32) (hN : NumOK N x ds) (hk : bs.length + ds.length ≤ 34) : MX E l yJ5_append_c97b9 cJ5_append_c97b9 4 (some (.object "java/lang/AbstractStringBuilde\x72")) ({ frames := 4, cells := 1, slots := 34, locals := 104 } : Room) [.ref h, .int (nI x)] (SBw E h a cap f bs.length) (fun v w' => v = some (.ref h) ∧ SBP E h (bs ++ ds) w') := by
  refine mx_intro (by decide +kernel) (Nat.le_of_ble_eq_true rfl) ?_
  intro p e s m args below meth c A Q ls B w hl
  obtain ⟨hx, hb, hml, hown, hts⟩ := id B.1
  obtain ⟨hn1, hn2, hn3⟩ := hN
  have hl : lv_has ls 4 [(0, .ref h), (1, .int (nI x))] := hl
  refine lv_aload_n hx hb dJ5_append_c97b9_0 rfl (lv_at hl 0 rfl) ?_
  refine mx_get B w 0 fl_J5_79 rfl rfl dJ5_append_c97b9_1 ?_
  refine lv_istore_n (lv' := [(2, .int (nI bs.length)), (0, .ref h), (1, .int (nI x))]) hx hb dJ5_append_c97b9_4 rfl hl (by decide) rfl (fun ls hl => ?_)
  refine lv_iload_n hx hb dJ5_append_c97b9_5 rfl (lv_at hl 0 rfl) ?_
  refine lv_iload_n hx hb dJ5_append_c97b9_6 rfl (lv_at hl 2 rfl) ?_
  refine mx_callSG (As := [.int (nI x)]) (rest := [.int (nI bs.length)]) (wr := SBw E h a cap f bs.length) (d_J6_stringSize_0f7a4 E l N (nI x) (nI ds.length) hn1) B w [] [0, 1] rfl rfl rfl rfl (by decide) ⟨kw_1057, kw_1056, kw_86⟩ kw_1055 1 (by decide +kernel) ⟨Nat.le_of_ble_eq_true rfl, Nat.le_of_ble_eq_true rfl⟩ rfl hl.1 rfl (Nat.le_of_ble_eq_true rfl) dJ5_append_c97b9_7 rfl rfl ⟨Nat.zero_le _, Nat.zero_le _⟩ (fun v w' H locs hpo w => ?_)
  obtain ⟨rfl, rfl⟩ := hpo
  have w : mW E A s (SBw E h a cap f bs.length) H locs := w
  refine lv_iadd hx hb dJ5_append_c97b9_10 ?_
  refine W.eq (g2 := F0 m 11 ls [.int (nI (bs.length + ds.length))]) (congrArg (fun z => F0 m 11 ls [.int z]) (sb_add bs.length ds.length)) ?_
  refine lv_istore_n (lv' := [(3, .int (nI (bs.length + ds.length))), (2, .int (nI bs.length)), (0, .ref h), (1, .int (nI x))]) hx hb dJ5_append_c97b9_11 rfl hl (by decide) rfl (fun ls hl => ?_)
  refine lv_aload_n hx hb dJ5_append_c97b9_12 rfl (lv_at hl 2 rfl) ?_
  refine lv_iload_n hx hb dJ5_append_c97b9_13 rfl (lv_at hl 0 rfl) ?_
  refine mx_callP (As := [.int (nI (bs.length + ds.length))]) (rest := []) (wr := []) (t_ens E l h a cap f bs.length (bs.length + ds.length) hI.1 hk hI.2.2.2) B w [0, 1] [] rfl rfl rfl rfl (by decide) 0 rfl rfl ⟨kw_967, kw_966, kw_77, kw_998⟩ (by simp [sPriv, yJ5_ensureCapacityInternal_d00df, RJ5]) rfl kw_964 1 (by decide +kernel) ⟨Nat.le_of_ble_eq_true rfl, Nat.le_of_ble_eq_true rfl⟩ rfl hl.1 rfl (Nat.le_of_ble_eq_true rfl) dJ5_append_c97b9_14 rfl rfl ⟨Nat.le_refl _, Nat.le_refl _⟩ (fun v w' H locs hpo w => ?_)
  obtain ⟨rfl, a', cap', f', rfl, hc', hk', hs', hb'⟩ := hpo
  have w : mW E A s (SBw E h a' cap' f' bs.length) H locs := w
  refine lv_aload_n hx hb dJ5_append_c97b9_17 rfl (lv_at hl 2 rfl) ?_
  refine mx_callU (As := []) (rest := []) (wr := []) (d_J5_isLatin1_aae02 E l h a' cap' 0 (nI bs.length) f' 1 (isl_some _)) B w [0, 1] [] rfl rfl rfl rfl (by decide) 0 rfl rfl ⟨kw_999, kw_997, kw_998, kw_996, kw_77⟩ kw_995 0 (by decide +kernel) ⟨Nat.le_of_ble_eq_true rfl, Nat.le_of_ble_eq_true rfl⟩ rfl hl.1 rfl (Nat.le_of_ble_eq_true rfl) dJ5_append_c97b9_18 rfl rfl ⟨Nat.le_refl _, Nat.le_refl _⟩ (fun v w' H locs hpo w => ?_)
  obtain ⟨rfl, rfl⟩ := hpo
  have w : mW E A s (SBw E h a' cap' f' bs.length) H locs := w
  refine lv_if_eq (tgt := 37) hx hb dJ5_append_c97b9_21 (by decide) (fun hc => absurd hc (by decide)) (fun _ => ?_)
  refine lv_iload_n hx hb dJ5_append_c97b9_24 rfl (lv_at hl 3 rfl) ?_
  refine lv_iload_n hx hb dJ5_append_c97b9_25 rfl (lv_at hl 0 rfl) ?_
  refine lv_aload_n hx hb dJ5_append_c97b9_26 rfl (lv_at hl 2 rfl) ?_
  refine mx_get B w 0 fl_J5_15 rfl rfl dJ5_append_c97b9_27 ?_
  obtain ⟨r, g, hg1, hg2⟩ := hn2 cap' bs.length f' hk' (by omega)
  refine mx_callSG (As := [.int (nI x), .int (nI (bs.length + ds.length)), .ref a']) (rest := []) (wr := [(h, .inr (12, [.ref a', .int (0 : Int32), .int (0 : Int32), .int (nI bs.length)]))]) (d_J6_getChars_ba4f3 E l N a' cap' f' (nI x) (nI (bs.length + ds.length)) (r, g) hg1) B w [1] [0] rfl rfl rfl rfl (by decide) ⟨kw_1060, kw_1059, kw_86⟩ kw_1058 3 (by decide +kernel) ⟨Nat.le_of_ble_eq_true rfl, Nat.le_of_ble_eq_true rfl⟩ rfl hl.1 rfl (Nat.le_of_ble_eq_true rfl) dJ5_append_c97b9_30 rfl rfl ⟨Nat.le_refl _, Nat.le_refl _⟩ (fun v w' H locs hpo w => ?_)
  obtain ⟨rfl, rfl⟩ := hpo
  have w : mW E A s (SBw E h a' cap' g bs.length) H locs := w
  refine lv_pop hx hb dJ5_append_c97b9_33 rfl ?_
  refine lv_goto (tgt := 48) hx hb dJ5_append_c97b9_34 (by decide) ?_
  refine lv_aload_n hx hb dJ5_append_c97b9_48 rfl (lv_at hl 2 rfl) ?_
  refine lv_iload_n hx hb dJ5_append_c97b9_49 rfl (lv_at hl 0 rfl) ?_
  refine mx_puti B w 0 fl_J5_79 fi_J4_3 rfl (Nat.le_of_ble_eq_true rfl) dJ5_append_c97b9_50 (fun x' H locs ev w => ?_)
  subst ev
  have w : mW E A s (SBw E h a' cap' g (bs.length + ds.length)) H locs := w
  refine lv_aload_n hx hb dJ5_append_c97b9_53 rfl (lv_at hl 2 rfl) ?_
  exact mx_aret B (Or.inl ⟨_, rfl⟩) w ⟨rfl, a', cap', g, by rw [List.length_append], SBI.app hI hc' hk' hs' hb' hg2 hn3⟩ dJ5_append_c97b9_54
set_option maxHeartbeats 4000000 in
theorem t_ai (E : mE) (l : Launch) (h a cap : Nat) (f : Nat → Int32) (bs : List Int32) (hI : SBI cap f bs) (N x : Nat) (ds : List Int32) (hN : NumOK N x ds) (hk : bs.length + ds.length ≤ 34) : MX E l yJ4_append_bf812 cJ4_append_bf812 2 (some (.object "java/lang/StringBuilde\x72")) ({ frames := 5, cells := 1, slots := 34, locals := 127 } : Room) [.ref h, .int (nI x)] (SBw E h a cap f bs.length) (fun v w' => v = some (.ref h) ∧ SBP E h (bs ++ ds) w') := by
  refine mx_intro (by decide +kernel) (Nat.le_of_ble_eq_true rfl) ?_
  intro p e s m args below meth c A Q ls B w hl
  obtain ⟨hx, hb, hml, hown, hts⟩ := id B.1
  have hl : lv_has ls 2 [(0, .ref h), (1, .int (nI x))] := hl
  refine lv_aload_n hx hb dJ4_append_bf812_0 rfl (lv_at hl 0 rfl) ?_
  refine lv_iload_n hx hb dJ4_append_bf812_1 rfl (lv_at hl 1 rfl) ?_
  refine mx_callSU (As := [.int (nI x)]) (rest := []) (wr := []) (t_ai5 E l h a cap f bs hI N x ds hN hk) B w [0, 1] [] rfl rfl rfl rfl (by decide) 0 rfl rfl ⟨kc_J5_append_c97b9, kw_1678, kw_949, kw_1053, kw_77⟩ kw_1052 1 (by decide +kernel) ⟨Nat.le_of_ble_eq_true rfl, Nat.le_of_ble_eq_true rfl⟩ rfl hl.1 rfl (Nat.le_of_ble_eq_true rfl) dJ4_append_bf812_2 rfl rfl ⟨Nat.le_refl _, Nat.le_refl _⟩ (fun v w' H locs hpo w => ?_)
  obtain ⟨rfl, hpo⟩ := hpo
  have w : mW E A s w' H locs := w
  refine lv_pop hx hb dJ4_append_bf812_5 rfl ?_
  refine lv_aload_n hx hb dJ4_append_bf812_6 rfl (lv_at hl 0 rfl) ?_
  exact mx_aret B (Or.inl ⟨_, rfl⟩) w ⟨rfl, hpo⟩ dJ4_append_bf812_7
theorem st_ok : ∀ i, i < 5 → (sByt.getD i []).length = sLen.getD i 0 ∧ sLen.getD i 0 ≤ 6 ∧ ∀ j, j < 6 → fits .byte (.int ((sByt.getD i []).getD j 0)) = true := by decide +kernel
theorem sb_shl : ∀ n, n < 35 → nI n <<< ((0 : Int32) &&& 31) = nI n := by decide +kernel
set_option maxHeartbeats 4000000 in
theorem t_inf (E : mE) (l : Launch) (h a cap : Nat) (f : Nat → Int32) (n : Nat) (i : Nat) (hi : i < 5) : MX E l yJ5_inflateIfNeededFor_a7421 cJ5_inflateIfNeededFor_a7421 2 none ({ frames := 1, cells := 0, slots := 0, locals := 20 } : Room) [.ref h, .ref (E.2.2.2 (10 + i))] (SBw E h a cap f n) (fun v w' => v = none ∧ w' = SBw E h a cap f n) := by
  refine mx_intro (by decide +kernel) (Nat.le_of_ble_eq_true rfl) ?_
  intro p e s m args below meth c A Q ls B w hl
  obtain ⟨hx, hb, hml, hown, hts⟩ := id B.1
  have hl : lv_has ls 2 [(0, .ref h), (1, .ref (E.2.2.2 (10 + i)))] := hl
  refine va_gets hx hb (B.2.2.2.2.2.1.2.2.2.2.1) w.2.2 hown (hts _ kw_929) (fun _ h => h) dJ5_inflateIfNeededFor_a7421_0 ?_
  refine lv_if_eq (tgt := 21) hx hb dJ5_inflateIfNeededFor_a7421_3 (by decide) (fun hc => absurd hc (by decide)) (fun _ => ?_)
  refine lv_aload_n hx hb dJ5_inflateIfNeededFor_a7421_6 rfl (lv_at hl 0 rfl) ?_
  refine mx_get B w 0 fl_J5_22 rfl rfl dJ5_inflateIfNeededFor_a7421_7 ?_
  refine lv_aload_n hx hb dJ5_inflateIfNeededFor_a7421_10 rfl (lv_at hl 1 rfl) ?_
  refine mx_callK i hi (As := []) (rest := [.int 0]) (wr := SBw E h a cap f n) (t_J0_coder_7d493 E l i hi) B w [] [0, 1] rfl rfl rfl rfl (by decide) ⟨kw_1104, kw_1102, kw_1103, kw_79⟩ kw_1114 0 (by decide +kernel) ⟨Nat.le_of_ble_eq_true rfl, Nat.le_of_ble_eq_true rfl⟩ rfl hl.1 rfl (Nat.le_of_ble_eq_true rfl) dJ5_inflateIfNeededFor_a7421_11 rfl rfl ⟨Nat.zero_le _, Nat.zero_le _⟩ (fun v w' H locs hpo w => ?_)
  obtain ⟨rfl, rfl⟩ := hpo
  have w : mW E A s (SBw E h a cap f n) H locs := w
  refine lv_icmp_eq (tgt := 21) hx hb dJ5_inflateIfNeededFor_a7421_14 (by decide) (fun _ => ?_) (fun hc => absurd rfl hc)
  exact mx_vret B w ⟨rfl, rfl⟩ dJ5_inflateIfNeededFor_a7421_21
theorem ksy_l0 : Cond.methodLink RJ0 212 arraycopyName ∈ TB := tb_at 1119 (by decide +kernel) (by decide +kernel)
set_option maxHeartbeats 4000000 in
theorem t_gb (E : mE) (l : Launch) (a cap : Nat) (f : Nat → Int32) (n : Nat) (i : Nat) (hi : i < 5) (hn : n + sLen.getD i 0 ≤ cap) (hc : cap ≤ 34) : MX E l yJ0_getBytes_840e7 cJ0_getBytes_840e7 4 none ({ frames := 1, cells := 0, slots := 0, locals := 60 } : Room) [.ref (E.2.2.2 (10 + i)), .ref a, .int (nI n), .int 0] [(a, .inl (E.2.2.1, cap, .inl f))] (fun v w' => v = none ∧ w' = [(a, .inl (E.2.2.1, cap, .inl (va_cpy (fun j => (sByt.getD i []).getD j 0) f 0 n (sLen.getD i 0))))]) := by
  refine mx_intro (by decide +kernel) (Nat.le_of_ble_eq_true rfl) ?_
  intro p e s m args below meth c A Q ls B w hl
  obtain ⟨hx, hb, hml, hown, hts⟩ := id B.1
  obtain ⟨hst1, hst2, hst3⟩ := st_ok i hi
  have hl : lv_has ls 4 [(0, .ref (E.2.2.2 (10 + i))), (1, .ref a), (2, .int (nI n)), (3, .int 0)] := hl
  refine lv_aload_n hx hb dJ0_getBytes_840e7_0 rfl (lv_at hl 0 rfl) ?_
  refine mx_callK i hi (As := []) (rest := []) (wr := [(a, .inl (E.2.2.1, cap, .inl f))]) (t_J0_coder_7d493 E l i hi) B w [] [0] rfl rfl rfl rfl (by decide) ⟨kw_1104, kw_1102, kw_1103, kw_79⟩ kw_1101 0 (by decide +kernel) ⟨Nat.le_of_ble_eq_true rfl, Nat.le_of_ble_eq_true rfl⟩ rfl hl.1 rfl (Nat.le_of_ble_eq_true rfl) dJ0_getBytes_840e7_1 rfl rfl ⟨Nat.zero_le _, Nat.zero_le _⟩ (fun v w' H locs hpo w => ?_)
  obtain ⟨rfl, rfl⟩ := hpo
  have w : mW E A s [(a, .inl (E.2.2.1, cap, .inl f))] H locs := w
  refine lv_iload_n hx hb dJ0_getBytes_840e7_4 rfl (lv_at hl 3 rfl) ?_
  refine lv_icmp_ne (tgt := 28) hx hb dJ0_getBytes_840e7_5 (by decide) (fun hc => absurd rfl hc) (fun _ => ?_)
  refine lv_aload_n hx hb dJ0_getBytes_840e7_8 rfl (lv_at hl 0 rfl) ?_
  refine vk_getf hx hb ((B.2.2.2.2.2.1.2.2.2.2.2.2.2.2.1.1 i hi).2.2.1) w.2.2 hown (hts _ kw_1685) (fun _ h => h) dJ0_getBytes_840e7_9 ?_
  refine lv_iconst (v := 0) hx hb dJ0_getBytes_840e7_12 (by decide) ?_
  refine lv_aload_n hx hb dJ0_getBytes_840e7_13 rfl (lv_at hl 1 rfl) ?_
  refine lv_iload_n hx hb dJ0_getBytes_840e7_14 rfl (lv_at hl 2 rfl) ?_
  refine lv_iload_n hx hb dJ0_getBytes_840e7_15 rfl (lv_at hl 3 rfl) ?_
  refine lv_ishl hx hb dJ0_getBytes_840e7_16 ?_
  refine W.eq (g2 := F0 m 17 ls [.int (nI n), .ref a, .int 0, .ref (E.2.2.2 (20 + i))]) (congrArg (fun z => F0 m 17 ls [.int z, .ref a, .int 0, .ref (E.2.2.2 (20 + i))]) (sb_shl n (by omega))) ?_
  refine lv_aload_n hx hb dJ0_getBytes_840e7_17 rfl (lv_at hl 0 rfl) ?_
  refine vk_getf hx hb ((B.2.2.2.2.2.1.2.2.2.2.2.2.2.2.1.1 i hi).2.2.1) w.2.2 hown (hts _ kw_1685) (fun _ h => h) dJ0_getBytes_840e7_18 ?_
  refine va_tlen (v := nI (sLen.getD i 0)) hx hb ((B.2.2.2.2.2.1.2.2.2.2.2.2.2.2.1.1 i hi).2.2.2) w.2.2 rfl dJ0_getBytes_840e7_21 ?_
  refine vk_copyt (D := (mD E).1) (cl := (mD E).2.1) (tys := (mD E).2.2) hx hb (by rw [hml]; exact hl.1.symm) hown (hts _ ksy_l0) (hts _ kac_nat) (hts _ kac_stat) (hts _ kac_ini) B.2.2.2.2.1 w.1 w.2.1 w.2.2 (f := fun j => (sByt.getD i []).getD j 0) ((B.2.2.2.2.2.1.2.2.2.2.2.2.2.2.1.1 i hi).2.2.2) 0 1 rfl rfl (by decide) (nI_pos (by omega)) (nI_pos (by omega)) (by rw [cl0, Nat.zero_add, nI_clamp (by omega)]; exact Nat.le_refl _) (by rw [nI_clamp (by omega), nI_clamp (by omega)]; exact hn) (fun j hj => by rw [nI_clamp (by omega)] at hj; rw [cl0, Nat.zero_add]; exact hst3 j (by omega)) (Nat.le_of_ble_eq_true rfl) (Nat.le_of_ble_eq_true rfl) dJ0_getBytes_840e7_22 (fun H1 locs1 g1 g2 g3 => ?_)
  have w2 : mW E A s [(a, .inl (E.2.2.1, cap, .inl (va_cpy (fun j => (sByt.getD i []).getD j 0) f 0 n (sLen.getD i 0))))] H1 locs1 := by
    have e1 : (nI (sLen.getD i 0)).toNatClampNeg = sLen.getD i 0 := nI_clamp (by omega)
    have e2 : (nI n).toNatClampNeg = n := nI_clamp (by omega)
    rw [cl0, e1, e2] at g1 g2
    exact ⟨g1, g2, g3⟩
  refine lv_goto (tgt := 43) hx hb dJ0_getBytes_840e7_25 (by decide) ?_
  exact mx_vret B w2 ⟨rfl, rfl⟩ dJ0_getBytes_840e7_43
set_option maxHeartbeats 4000000 in
theorem t_ps (E : mE) (l : Launch) (h a cap : Nat) (f : Nat → Int32) (n : Nat) (i : Nat) (hi : i < 5) (hn : n + sLen.getD i 0 ≤ cap) (hc : cap ≤ 34) : MX E l yJ5_putStringAt_47b60 cJ5_putStringAt_47b60 3 none ({ frames := 2, cells := 0, slots := 0, locals := 83 } : Room) [.ref h, .int (nI n), .ref (E.2.2.2 (10 + i))] (SBw E h a cap f n) (fun v w' => v = none ∧ w' = SBw E h a cap (va_cpy (fun j => (sByt.getD i []).getD j 0) f 0 n (sLen.getD i 0)) n) := by
  refine mx_intro (by decide +kernel) (Nat.le_of_ble_eq_true rfl) ?_
  intro p e s m args below meth c A Q ls B w hl
  obtain ⟨hx, hb, hml, hown, hts⟩ := id B.1
  have hl : lv_has ls 3 [(0, .ref h), (1, .int (nI n)), (2, .ref (E.2.2.2 (10 + i)))] := hl
  refine lv_aload_n hx hb dJ5_putStringAt_47b60_0 rfl (lv_at hl 0 rfl) ?_
  refine lv_aload_n hx hb dJ5_putStringAt_47b60_1 rfl (lv_at hl 2 rfl) ?_
  refine mx_callP (As := [.ref (E.2.2.2 (10 + i))]) (rest := []) (wr := []) (t_inf E l h a cap f n i hi) B w [0, 1] [] rfl rfl rfl rfl (by decide) 0 rfl rfl ⟨kw_1113, kw_1112, kw_77, kw_998⟩ (by simp [sPriv, yJ5_inflateIfNeededFor_a7421, RJ5]) rfl kw_1110 1 (by decide +kernel) ⟨Nat.le_of_ble_eq_true rfl, Nat.le_of_ble_eq_true rfl⟩ rfl hl.1 rfl (Nat.le_of_ble_eq_true rfl) dJ5_putStringAt_47b60_2 rfl rfl ⟨Nat.zero_le _, Nat.zero_le _⟩ (fun v w' H locs hpo w => ?_)
  obtain ⟨rfl, rfl⟩ := hpo
  have w : mW E A s (SBw E h a cap f n) H locs := w
  refine lv_aload_n hx hb dJ5_putStringAt_47b60_5 rfl (lv_at hl 2 rfl) ?_
  refine lv_aload_n hx hb dJ5_putStringAt_47b60_6 rfl (lv_at hl 0 rfl) ?_
  refine mx_get B w 0 fl_J5_15 rfl rfl dJ5_putStringAt_47b60_7 ?_
  refine lv_iload_n hx hb dJ5_putStringAt_47b60_10 rfl (lv_at hl 1 rfl) ?_
  refine lv_aload_n hx hb dJ5_putStringAt_47b60_11 rfl (lv_at hl 0 rfl) ?_
  refine mx_get B w 0 fl_J5_22 rfl rfl dJ5_putStringAt_47b60_12 ?_
  refine mx_callK i hi (As := [.ref a, .int (nI n), .int 0]) (rest := []) (wr := [(h, .inr (12, [.ref a, .int (0 : Int32), .int (0 : Int32), .int (nI n)]))]) (t_gb E l a cap f n i hi hn hc) B w [1] [0] rfl rfl rfl rfl (by decide) ⟨kw_1118, kw_1116, kw_1117, kw_79⟩ kw_1115 3 (by decide +kernel) ⟨Nat.le_of_ble_eq_true rfl, Nat.le_of_ble_eq_true rfl⟩ rfl hl.1 rfl (Nat.le_of_ble_eq_true rfl) dJ5_putStringAt_47b60_15 rfl rfl ⟨Nat.zero_le _, Nat.zero_le _⟩ (fun v w' H locs hpo w => ?_)
  obtain ⟨rfl, rfl⟩ := hpo
  exact mx_vret B w ⟨rfl, rfl⟩ dJ5_putStringAt_47b60_18
set_option maxHeartbeats 4000000 in
theorem t_as5 (E : mE) (l : Launch) (h a cap : Nat) (f : Nat → Int32) (bs : List Int32) (hI : SBI cap f bs) (i : Nat) (hi : i < 5) (hk : bs.length + sLen.getD i 0 ≤ 34) : MX E l yJ5_append_cf1ce cJ5_append_cf1ce 3 (some (.object "java/lang/AbstractStringBuilde\x72")) ({ frames := 4, cells := 1, slots := 34, locals := 105 } : Room) [.ref h, .ref (E.2.2.2 (10 + i))] (SBw E h a cap f bs.length) (fun v w' => v = some (.ref h) ∧ SBP E h (bs ++ sByt.getD i []) w') := by
  refine mx_intro (by decide +kernel) (Nat.le_of_ble_eq_true rfl) ?_
  intro p e s m args below meth c A Q ls B w hl
  obtain ⟨hx, hb, hml, hown, hts⟩ := id B.1
  obtain ⟨hst1, hst2, hst3⟩ := st_ok i hi
  have hl : lv_has ls 3 [(0, .ref h), (1, .ref (E.2.2.2 (10 + i)))] := hl
  refine lv_aload_n hx hb dJ5_append_cf1ce_0 rfl (lv_at hl 1 rfl) ?_
  refine lv_ifnonnull (tgt := 9) hx hb dJ5_append_cf1ce_1 (by decide) ?_
  refine lv_aload_n hx hb dJ5_append_cf1ce_9 rfl (lv_at hl 1 rfl) ?_
  refine mx_callK i hi (As := []) (rest := []) (wr := SBw E h a cap f bs.length) (t_J0_length_8abf5 E l i hi) B w [] [0, 1] rfl rfl rfl rfl (by decide) ⟨kw_1100, kw_1098, kw_1099, kw_79⟩ kw_1097 0 (by decide +kernel) ⟨Nat.le_of_ble_eq_true rfl, Nat.le_of_ble_eq_true rfl⟩ rfl hl.1 rfl (Nat.le_of_ble_eq_true rfl) dJ5_append_cf1ce_10 rfl rfl ⟨Nat.zero_le _, Nat.zero_le _⟩ (fun v w' H locs hpo w => ?_)
  obtain ⟨rfl, rfl⟩ := hpo
  have w : mW E A s (SBw E h a cap f bs.length) H locs := w
  refine lv_istore_n (lv' := [(2, .int (nI (sLen.getD i 0))), (0, .ref h), (1, .ref (E.2.2.2 (10 + i)))]) hx hb dJ5_append_cf1ce_13 rfl hl (by decide) rfl (fun ls hl => ?_)
  refine lv_aload_n hx hb dJ5_append_cf1ce_14 rfl (lv_at hl 1 rfl) ?_
  refine lv_aload_n hx hb dJ5_append_cf1ce_15 rfl (lv_at hl 1 rfl) ?_
  refine mx_get B w 0 fl_J5_79 rfl rfl dJ5_append_cf1ce_16 ?_
  refine lv_iload_n hx hb dJ5_append_cf1ce_19 rfl (lv_at hl 0 rfl) ?_
  refine lv_iadd hx hb dJ5_append_cf1ce_20 ?_
  refine W.eq (g2 := F0 m 21 ls [.int (nI (bs.length + sLen.getD i 0)), .ref h]) (congrArg (fun z => F0 m 21 ls [.int z, .ref h]) (sb_add bs.length (sLen.getD i 0))) ?_
  refine mx_callP (As := [.int (nI (bs.length + sLen.getD i 0))]) (rest := []) (wr := []) (t_ens E l h a cap f bs.length (bs.length + sLen.getD i 0) hI.1 hk hI.2.2.2) B w [0, 1] [] rfl rfl rfl rfl (by decide) 0 rfl rfl ⟨kw_967, kw_966, kw_77, kw_998⟩ (by simp [sPriv, yJ5_ensureCapacityInternal_d00df, RJ5]) rfl kw_964 1 (by decide +kernel) ⟨Nat.le_of_ble_eq_true rfl, Nat.le_of_ble_eq_true rfl⟩ rfl hl.1 rfl (Nat.le_of_ble_eq_true rfl) dJ5_append_cf1ce_21 rfl rfl ⟨Nat.le_refl _, Nat.le_refl _⟩ (fun v w' H locs hpo w => ?_)
  obtain ⟨rfl, a', cap', f', rfl, hc', hk', hs', hb'⟩ := hpo
  have w : mW E A s (SBw E h a' cap' f' bs.length) H locs := w
  refine lv_aload_n hx hb dJ5_append_cf1ce_24 rfl (lv_at hl 1 rfl) ?_
  refine lv_aload_n hx hb dJ5_append_cf1ce_25 rfl (lv_at hl 1 rfl) ?_
  refine mx_get B w 0 fl_J5_79 rfl rfl dJ5_append_cf1ce_26 ?_
  refine lv_aload_n hx hb dJ5_append_cf1ce_29 rfl (lv_at hl 2 rfl) ?_
  refine mx_callP (As := [.int (nI bs.length), .ref (E.2.2.2 (10 + i))]) (rest := []) (wr := []) (t_ps E l h a' cap' f' bs.length i hi hk' (by omega)) B w [0, 1] [] rfl rfl rfl rfl (by decide) 0 rfl rfl ⟨kw_1109, kw_1108, kw_77, kw_998⟩ (by simp [sPriv, yJ5_putStringAt_47b60, RJ5]) rfl kw_1106 2 (by decide +kernel) ⟨Nat.le_of_ble_eq_true rfl, Nat.le_of_ble_eq_true rfl⟩ rfl hl.1 rfl (Nat.le_of_ble_eq_true rfl) dJ5_append_cf1ce_30 rfl rfl ⟨Nat.le_refl _, Nat.le_refl _⟩ (fun v w' H locs hpo w => ?_)
  obtain ⟨rfl, rfl⟩ := hpo
  have w : mW E A s (SBw E h a' cap' (va_cpy (fun j => (sByt.getD i []).getD j 0) f' 0 bs.length (sLen.getD i 0)) bs.length) H locs := w
  refine lv_aload_n hx hb dJ5_append_cf1ce_33 rfl (lv_at hl 1 rfl) ?_
  refine lv_dup hx hb dJ5_append_cf1ce_34 rfl ?_
  refine mx_get B w 0 fl_J5_79 rfl rfl dJ5_append_cf1ce_35 ?_
  refine lv_iload_n hx hb dJ5_append_cf1ce_38 rfl (lv_at hl 0 rfl) ?_
  refine lv_iadd hx hb dJ5_append_cf1ce_39 ?_
  refine mx_puti B w 0 fl_J5_79 fi_J4_3 rfl (Nat.le_of_ble_eq_true rfl) dJ5_append_cf1ce_40 (fun x' H locs ev w => ?_)
  have ev : x' = nI (bs.length + sLen.getD i 0) := ev.trans (sb_add bs.length (sLen.getD i 0))
  subst ev
  have w : mW E A s (SBw E h a' cap' (va_cpy (fun j => (sByt.getD i []).getD j 0) f' 0 bs.length (sLen.getD i 0)) (bs.length + sLen.getD i 0)) H locs := w
  refine lv_aload_n hx hb dJ5_append_cf1ce_43 rfl (lv_at hl 1 rfl) ?_
  refine mx_aret B (Or.inl ⟨_, rfl⟩) w ⟨rfl, a', cap', _, by rw [List.length_append, hst1], SBI.app hI hc' (by rw [hst1]; exact hk') hs' hb' (fun j => ?_) (fun j hj => hst3 j (by omega))⟩ dJ5_append_cf1ce_44
  unfold va_cpy
  rw [hst1, Nat.zero_add]
set_option maxHeartbeats 4000000 in
theorem t_as (E : mE) (l : Launch) (h a cap : Nat) (f : Nat → Int32) (bs : List Int32) (hI : SBI cap f bs) (i : Nat) (hi : i < 5) (hk : bs.length + sLen.getD i 0 ≤ 34) : MX E l yJ4_append_15ec4 cJ4_append_15ec4 2 (some (.object "java/lang/StringBuilde\x72")) ({ frames := 5, cells := 1, slots := 34, locals := 127 } : Room) [.ref h, .ref (E.2.2.2 (10 + i))] (SBw E h a cap f bs.length) (fun v w' => v = some (.ref h) ∧ SBP E h (bs ++ sByt.getD i []) w') := by
  refine mx_intro (by decide +kernel) (Nat.le_of_ble_eq_true rfl) ?_
  intro p e s m args below meth c A Q ls B w hl
  obtain ⟨hx, hb, hml, hown, hts⟩ := id B.1
  have hl : lv_has ls 2 [(0, .ref h), (1, .ref (E.2.2.2 (10 + i)))] := hl
  refine lv_aload_n hx hb dJ4_append_15ec4_0 rfl (lv_at hl 0 rfl) ?_
  refine lv_aload_n hx hb dJ4_append_15ec4_1 rfl (lv_at hl 1 rfl) ?_
  refine mx_callSU (As := [.ref (E.2.2.2 (10 + i))]) (rest := []) (wr := []) (t_as5 E l h a cap f bs hI i hi hk) B w [0, 1] [] rfl rfl rfl rfl (by decide) 0 rfl rfl ⟨kc_J5_append_cf1ce, kw_1679, kw_949, kw_1088, kw_77⟩ kw_1087 1 (by decide +kernel) ⟨Nat.le_of_ble_eq_true rfl, Nat.le_of_ble_eq_true rfl⟩ rfl hl.1 rfl (Nat.le_of_ble_eq_true rfl) dJ4_append_15ec4_2 rfl rfl ⟨Nat.le_refl _, Nat.le_refl _⟩ (fun v w' H locs hpo w => ?_)
  obtain ⟨rfl, hpo⟩ := hpo
  have w : mW E A s w' H locs := w
  refine lv_pop hx hb dJ4_append_15ec4_5 rfl ?_
  refine lv_aload_n hx hb dJ4_append_15ec4_6 rfl (lv_at hl 0 rfl) ?_
  exact mx_aret B (Or.inl ⟨_, rfl⟩) w ⟨rfl, hpo⟩ dJ4_append_15ec4_7
set_option maxHeartbeats 4000000 in
theorem t_ln (E : mE) (l : Launch) (h a cap : Nat) (f : Nat → Int32) (n : Nat) : MX E l yJ4_length_8abf5 cJ4_length_8abf5 1 (some .int) ({ frames := 1, cells := 0, slots := 0, locals := 20 } : Room) [.ref h] (SBw E h a cap f n) (fun v w' => v = some (.int (nI n)) ∧ w' = SBw E h a cap f n) := by
  refine mx_intro (by decide +kernel) (Nat.le_of_ble_eq_true rfl) ?_
  intro p e s m args below meth c A Q ls B w hl
  obtain ⟨hx, hb, hml, hown, hts⟩ := id B.1
  have hl : lv_has ls 1 [(0, .ref h)] := hl
  refine lv_aload_n hx hb dJ4_length_8abf5_0 rfl (lv_at hl 0 rfl) ?_
  refine mx_callSU (As := []) (rest := []) (wr := []) (d_J5_length_8abf5 E l h a cap 0 (nI n) f (nI n) rfl) B w [0, 1] [] rfl rfl rfl rfl (by decide) 0 rfl rfl ⟨kw_1130, kw_1683, kw_949, kw_1129, kw_77⟩ kw_1128 0 (by decide +kernel) ⟨Nat.le_of_ble_eq_true rfl, Nat.le_of_ble_eq_true rfl⟩ rfl hl.1 rfl (Nat.le_of_ble_eq_true rfl) dJ4_length_8abf5_1 rfl rfl ⟨Nat.le_refl _, Nat.le_refl _⟩ (fun v w' H locs hpo w => ?_)
  obtain ⟨rfl, rfl⟩ := hpo
  exact mx_iret B w ⟨rfl, rfl⟩ dJ4_length_8abf5_4
set_option maxHeartbeats 4000000 in
theorem t_ca5 (E : mE) (l : Launch) (h a cap : Nat) (f : Nat → Int32) (n : Nat) (hc : cap = 16 ∨ cap = 34) (hn : n ≤ cap) (j x : Nat) (hj : j < n) (hfj : f j = nI x) (hx7 : x < 128) : MX E l yJ5_charAt_5068e cJ5_charAt_5068e 5 (some .char) ({ frames := 2, cells := 0, slots := 0, locals := 43 } : Room) [.ref h, .int (nI j)] (SBw E h a cap f n) (fun v w' => v = some (.int (nI x)) ∧ w' = SBw E h a cap f n) := by
  refine mx_intro (by decide +kernel) (Nat.le_of_ble_eq_true rfl) ?_
  intro p e s m args below meth c A Q ls B w hl
  obtain ⟨hx, hb, hml, hown, hts⟩ := id B.1
  obtain ⟨hx1, hx2, hx3, hx4, hx5, hx6⟩ := sb_bytes x hx7
  have hl : lv_has ls 5 [(0, .ref h), (1, .int (nI j))] := hl
  refine lv_aload_n hx hb dJ5_charAt_5068e_0 rfl (lv_at hl 0 rfl) ?_
  refine mx_get B w 0 fl_J5_22 rfl rfl dJ5_charAt_5068e_1 ?_
  refine lv_istore_n (lv' := [(2, .int 0), (0, .ref h), (1, .int (nI j))]) hx hb dJ5_charAt_5068e_4 rfl hl (by decide) rfl (fun ls hl => ?_)
  refine lv_aload_n hx hb dJ5_charAt_5068e_5 rfl (lv_at hl 1 rfl) ?_
  refine mx_get B w 0 fl_J5_15 rfl rfl dJ5_charAt_5068e_6 ?_
  refine lv_astore_n (lv' := [(3, .ref a), (2, .int 0), (0, .ref h), (1, .int (nI j))]) hx hb dJ5_charAt_5068e_9 rfl hl (by decide) rfl (fun ls hl => ?_)
  refine lv_aload_n hx hb dJ5_charAt_5068e_10 rfl (lv_at hl 2 rfl) ?_
  refine mx_get B w 0 fl_J5_79 rfl rfl dJ5_charAt_5068e_11 ?_
  refine lv_aload_n hx hb dJ5_charAt_5068e_14 rfl (lv_at hl 0 rfl) ?_
  refine mx_alenb B w 1 rfl dJ5_charAt_5068e_15 ?_
  refine lv_iload_n hx hb dJ5_charAt_5068e_16 rfl (lv_at hl 1 rfl) ?_
  refine lv_ishr hx hb dJ5_charAt_5068e_17 ?_
  have e0 : nI cap >>> ((0 : Int32) &&& 31) = nI cap := by rcases hc with rfl | rfl <;> decide
  refine W.eq (g2 := F0 m 18 ls [.int (nI cap), .int (nI n)]) (congrArg (fun z => F0 m 18 ls [.int z, .int (nI n)]) e0) ?_
  refine va_mmin hx hb (by rw [hml]; exact hl.1.symm) hown (hts _ kl_min_J5) (hts _ kw_static_min) (hts _ kw_init_math) (hts _ kw_code_min) (Nat.le_of_ble_eq_true rfl) (Nat.le_of_ble_eq_true rfl) (Nat.le_of_ble_eq_true rfl) (Nat.le_of_ble_eq_true rfl) dJ5_charAt_5068e_18 ?_
  have emin : (if nI cap < nI n then nI cap else nI n) = nI n := if_neg (fun z => by have := (nI_ltI (by omega) (by omega)).mp z; omega)
  refine W.eq (g2 := F0 m 21 ls [.int (nI n)]) (congrArg (fun z => F0 m 21 ls [.int z]) emin) ?_
  refine lv_istore (lv' := [(4, .int (nI n)), (3, .ref a), (2, .int 0), (0, .ref h), (1, .int (nI j))]) hx hb dJ5_charAt_5068e_21 hl (by decide) rfl (fun ls hl => ?_)
  refine lv_iload_n hx hb dJ5_charAt_5068e_23 rfl (lv_at hl 4 rfl) ?_
  refine lv_iload hx hb dJ5_charAt_5068e_24 (lv_at hl 0 rfl) ?_
  refine mx_callSG (As := [.int (nI j), .int (nI n)]) (rest := []) (wr := SBw E h a cap f n) (t_J0_checkIndex_df160 E l (nI j) (nI n) (nI_pos (by omega)) ((nI_ltI (by omega) (by omega)).mpr hj)) B w [] [0, 1] rfl rfl rfl rfl (by decide) ⟨kw_1044, kw_1043, kw_79⟩ kw_1139 2 (by decide +kernel) ⟨Nat.le_of_ble_eq_true rfl, Nat.le_of_ble_eq_true rfl⟩ rfl hl.1 rfl (Nat.le_of_ble_eq_true rfl) dJ5_charAt_5068e_26 rfl rfl ⟨Nat.zero_le _, Nat.zero_le _⟩ (fun v w' H locs hpo w => ?_)
  obtain ⟨rfl, rfl⟩ := hpo
  have w : mW E A s (SBw E h a cap f n) H locs := w
  refine lv_iload_n hx hb dJ5_charAt_5068e_29 rfl (lv_at hl 2 rfl) ?_
  refine lv_if_ne (tgt := 42) hx hb dJ5_charAt_5068e_30 (by decide) (fun hc => absurd rfl hc) (fun _ => ?_)
  refine lv_aload_n hx hb dJ5_charAt_5068e_33 rfl (lv_at hl 1 rfl) ?_
  refine lv_iload_n hx hb dJ5_charAt_5068e_34 rfl (lv_at hl 4 rfl) ?_
  refine mx_bald B w 1 rfl (vp_in_nI (by omega) (by omega)) dJ5_charAt_5068e_35 (fun v ev => ?_)
  rw [nI_clamp (by omega), hfj] at ev
  subst ev
  refine lv_sipush (v := 255) hx hb dJ5_charAt_5068e_36 (by decide) ?_
  refine lv_iand hx hb dJ5_charAt_5068e_39 ?_
  refine lv_i2c (v := nI x) hx hb dJ5_charAt_5068e_40 hx5 ?_
  exact mx_nret B w hx6 ⟨rfl, rfl⟩ dJ5_charAt_5068e_41
set_option maxHeartbeats 4000000 in
theorem t_ca (E : mE) (l : Launch) (h a cap : Nat) (f : Nat → Int32) (n : Nat) (hc : cap = 16 ∨ cap = 34) (hn : n ≤ cap) (j x : Nat) (hj : j < n) (hfj : f j = nI x) (hx7 : x < 128) : MX E l yJ4_charAt_5068e cJ4_charAt_5068e 2 (some .char) ({ frames := 3, cells := 0, slots := 0, locals := 67 } : Room) [.ref h, .int (nI j)] (SBw E h a cap f n) (fun v w' => v = some (.int (nI x)) ∧ w' = SBw E h a cap f n) := by
  refine mx_intro (by decide +kernel) (Nat.le_of_ble_eq_true rfl) ?_
  intro p e s m args below meth c A Q ls B w hl
  obtain ⟨hx, hb, hml, hown, hts⟩ := id B.1
  have hl : lv_has ls 2 [(0, .ref h), (1, .int (nI j))] := hl
  refine lv_aload_n hx hb dJ4_charAt_5068e_0 rfl (lv_at hl 0 rfl) ?_
  refine lv_iload_n hx hb dJ4_charAt_5068e_1 rfl (lv_at hl 1 rfl) ?_
  refine mx_callSU (As := [.int (nI j)]) (rest := []) (wr := []) (t_ca5 E l h a cap f n hc hn j x hj hfj hx7) B w [0, 1] [] rfl rfl rfl rfl (by decide) 0 rfl rfl ⟨kw_1137, kw_1684, kw_949, kw_1136, kw_77⟩ kw_1135 1 (by decide +kernel) ⟨Nat.le_of_ble_eq_true rfl, Nat.le_of_ble_eq_true rfl⟩ rfl hl.1 rfl (Nat.le_of_ble_eq_true rfl) dJ4_charAt_5068e_2 rfl rfl ⟨Nat.le_refl _, Nat.le_refl _⟩ (fun v w' H locs hpo w => ?_)
  obtain ⟨rfl, rfl⟩ := hpo
  exact mx_nret B w (sb_bytes x hx7).2.2.2.2.2 ⟨rfl, rfl⟩ dJ4_charAt_5068e_5
theorem ko_J5 : Cond.methodLink RJ5 3 Lib.objectInit ∈ TB := tb_at 928 (by decide +kernel) (by decide +kernel)
set_option maxHeartbeats 4000000 in
theorem t_in5 (E : mE) (l : Launch) (h : Nat) : MX E l yJ5_init_d00df cJ5_init_d00df 2 none ({ frames := 1, cells := 1, slots := 16, locals := 20 } : Room) [.ref h, .int (nI 16)] [(h, .inr (12, [.null, .int (0 : Int32), .int (0 : Int32), .int (0 : Int32)]))] (fun v w' => v = none ∧ ∃ q, w' = SBw E h q 16 (fun _ => 0) 0) := by
  refine mx_intro (by decide +kernel) (Nat.le_of_ble_eq_true rfl) ?_
  intro p e s m args below meth c A Q ls B w hl
  obtain ⟨hx, hb, hml, hown, hts⟩ := id B.1
  have hl : lv_has ls 2 [(0, .ref h), (1, .int (nI 16))] := hl
  refine lv_aload_n hx hb dJ5_init_d00df_0 rfl (lv_at hl 0 rfl) ?_
  refine mx_obj B ko_J5 ko_inst ko_code hl.1 dJ5_init_d00df_1 (Nat.le_of_ble_eq_true rfl) (Nat.le_of_ble_eq_true rfl) ?_
  refine va_gets hx hb (B.2.2.2.2.2.1.2.2.2.2.1) w.2.2 hown (hts _ kw_929) (fun _ h => h) dJ5_init_d00df_4 ?_
  refine lv_if_eq (tgt := 25) hx hb dJ5_init_d00df_7 (by decide) (fun hc => absurd hc (by decide)) (fun _ => ?_)
  refine lv_aload_n hx hb dJ5_init_d00df_10 rfl (lv_at hl 0 rfl) ?_
  refine lv_iload_n hx hb dJ5_init_d00df_11 rfl (lv_at hl 1 rfl) ?_
  refine mx_newb B w (N' := 16) ka_byte (nI_pos (by omega)) (nI_clamp (by omega)) (by omega) (Nat.le_refl 1) (Nat.le_refl 16) dJ5_init_d00df_12 (fun q H w => ?_)
  have w : mW E A s [(h, .inr (12, [.null, .int (0 : Int32), .int (0 : Int32), .int (0 : Int32)])), (q, .inl (E.2.2.1, 16, .inl (fun _ => 0)))] _ _ := w
  refine mx_putv (ty := .array .byte) B w 0 fl_J5_15 (fun _ _ _ h => by cases h; exact ⟨rfl, by decide +kernel, rfl⟩) rfl (Nat.le_of_ble_eq_true rfl) rfl rfl dJ5_init_d00df_14 (fun H locs w => ?_)
  have w : mW E A s (SBw E h q 16 (fun _ => 0) 0) H locs := w
  refine lv_aload_n hx hb dJ5_init_d00df_17 rfl (lv_at hl 0 rfl) ?_
  refine lv_iconst (v := 0) hx hb dJ5_init_d00df_18 (by decide) ?_
  refine mx_putz B w 0 fl_J5_22 fz_J4_1 rfl (Nat.le_of_ble_eq_true rfl) rfl rfl dJ5_init_d00df_19 (fun x' H locs ev w => ?_)
  subst ev
  have w : mW E A s (SBw E h q 16 (fun _ => 0) 0) H locs := w
  refine lv_goto (tgt := 38) hx hb dJ5_init_d00df_22 (by decide) ?_
  exact mx_vret B w ⟨rfl, q, rfl⟩ dJ5_init_d00df_38
set_option maxHeartbeats 4000000 in
theorem t_in4 (E : mE) (l : Launch) (h : Nat) : MX E l yJ4_init_da8c8 cJ4_init_da8c8 1 none ({ frames := 2, cells := 1, slots := 16, locals := 41 } : Room) [.ref h] [(h, .inr (12, [.null, .int (0 : Int32), .int (0 : Int32), .int (0 : Int32)]))] (fun v w' => v = none ∧ ∃ q, w' = SBw E h q 16 (fun _ => 0) 0) := by
  refine mx_intro (by decide +kernel) (Nat.le_of_ble_eq_true rfl) ?_
  intro p e s m args below meth c A Q ls B w hl
  obtain ⟨hx, hb, hml, hown, hts⟩ := id B.1
  have hl : lv_has ls 1 [(0, .ref h)] := hl
  refine lv_aload_n hx hb dJ4_init_da8c8_0 rfl (lv_at hl 0 rfl) ?_
  refine lv_bipush (v := 16) hx hb dJ4_init_da8c8_1 (by decide) ?_
  refine mx_callI (As := [.int 16]) (rest := []) (wr := []) (t_in5 E l h) B w [0] [] rfl rfl rfl rfl (by decide) ⟨kw_927, kw_926, kw_77⟩ kw_925 1 rfl (by decide +kernel) ⟨Nat.le_of_ble_eq_true rfl, Nat.le_of_ble_eq_true rfl⟩ rfl hl.1 rfl (Nat.le_of_ble_eq_true rfl) dJ4_init_da8c8_3 rfl rfl ⟨Nat.le_refl _, Nat.le_refl _⟩ (fun v w' H locs hpo w => ?_)
  obtain ⟨rfl, q, rfl⟩ := hpo
  exact mx_vret B w ⟨rfl, q, rfl⟩ dJ4_init_da8c8_6
theorem SBI.nil : SBI 16 (fun _ => 0) [] := ⟨Or.inl rfl, Nat.zero_le _, fun i hi => absurd hi (Nat.not_lt_zero _), fun _ _ => rfl⟩
