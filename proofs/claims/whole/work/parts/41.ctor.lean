abbrev cX9_init : ByteArray := prog_11_method_1_code
def yX9_init : MethodName := ⟨RX9, "<init>", "(II)V"⟩
theorem dX9_init_0 : decode cX9_init 0 = .ok (.aload_n 0, 1) := by decide +kernel
theorem dX9_init_1 : decode cX9_init 1 = .ok (.invokespecial 3, 3) := by decide +kernel
theorem dX9_init_4 : decode cX9_init 4 = .ok (.aload_n 0, 1) := by decide +kernel
theorem dX9_init_5 : decode cX9_init 5 = .ok (.iconst 1, 1) := by decide +kernel
theorem dX9_init_6 : decode cX9_init 6 = .ok (.iload_n 1, 1) := by decide +kernel
theorem dX9_init_7 : decode cX9_init 7 = .ok (.invokestatic 9, 3) := by decide +kernel
theorem dX9_init_10 : decode cX9_init 10 = .ok (.putfield 15, 3) := by decide +kernel
theorem dX9_init_13 : decode cX9_init 13 = .ok (.aload_n 0, 1) := by decide +kernel
theorem dX9_init_14 : decode cX9_init 14 = .ok (.iconst 1, 1) := by decide +kernel
theorem dX9_init_15 : decode cX9_init 15 = .ok (.iload_n 2, 1) := by decide +kernel
theorem dX9_init_16 : decode cX9_init 16 = .ok (.invokestatic 9, 3) := by decide +kernel
theorem dX9_init_19 : decode cX9_init 19 = .ok (.putfield 21, 3) := by decide +kernel
theorem dX9_init_22 : decode cX9_init 22 = .ok (.aload_n 0, 1) := by decide +kernel
theorem dX9_init_23 : decode cX9_init 23 = .ok (.aload_n 0, 1) := by decide +kernel
theorem dX9_init_24 : decode cX9_init 24 = .ok (.getfield 15, 3) := by decide +kernel
theorem dX9_init_27 : decode cX9_init 27 = .ok (.aload_n 0, 1) := by decide +kernel
theorem dX9_init_28 : decode cX9_init 28 = .ok (.getfield 21, 3) := by decide +kernel
theorem dX9_init_31 : decode cX9_init 31 = .ok (.imul, 1) := by decide +kernel
theorem dX9_init_32 : decode cX9_init 32 = .ok (.newarray .int, 2) := by decide +kernel
theorem dX9_init_34 : decode cX9_init 34 = .ok (.putfield 24, 3) := by decide +kernel
theorem dX9_init_37 : decode cX9_init 37 = .ok (.aload_n 0, 1) := by decide +kernel
theorem dX9_init_38 : decode cX9_init 38 = .ok (.iconst 0, 1) := by decide +kernel
theorem dX9_init_39 : decode cX9_init 39 = .ok (.putfield 28, 3) := by decide +kernel
theorem dX9_init_42 : decode cX9_init 42 = .ok (.return_, 1) := by decide +kernel
theorem ko_X9 : Cond.methodLink RX9 3 Lib.objectInit ∈ TB := tb_at 114 (by decide +kernel) (by decide +kernel)
theorem ko_inst : Cond.instanceMethod Lib.objectInit ∈ TB := tb_at 93 (by decide +kernel) (by decide +kernel)
theorem ko_code : Cond.code Lib.objectInit ⟨#[0xb1]⟩ 1 none ∈ TB := tb_at 94 (by decide +kernel) (by decide +kernel)
theorem kw_static_max : Cond.static Lib.Math.max.name ∈ TB := tb_at 116 (by decide +kernel) (by decide +kernel)
theorem kw_code_max : Cond.code Lib.Math.max.name Lib.Math.max.code 2 (some .int) ∈ TB := tb_at 117 (by decide +kernel) (by decide +kernel)
theorem kl_max_X9 : Cond.methodLink RX9 9 Lib.Math.max.name ∈ TB := tb_at 115 (by decide +kernel) (by decide +kernel)
theorem ff_X9_0 : mFf RX9 8 0 true .int := fun _ _ _ h => by cases h; exact ⟨rfl, by decide +kernel, rfl⟩
theorem ff_X9_1 : mFf RX9 8 1 true .int := fun _ _ _ h => by cases h; exact ⟨rfl, by decide +kernel, rfl⟩
theorem ka_int : Cond.arrayClass .int ∈ TB := tb_at 108 (by decide +kernel) (by decide +kernel)
theorem ff_X9_2 : mFf RX9 8 2 true (.array .int) := fun _ _ _ h => by cases h; exact ⟨rfl, by decide +kernel, rfl⟩
theorem ff_X9_3 : mFf RX9 8 3 false .int := fun _ _ _ h => by cases h; exact ⟨rfl, by decide +kernel, rfl⟩
abbrev cX5_init : ByteArray := prog_7_method_1_code
def yX5_init : MethodName := ⟨RX5, "<init>", "()V"⟩
theorem dX5_init_0 : decode cX5_init 0 = .ok (.aload_n 0, 1) := by decide +kernel
theorem dX5_init_1 : decode cX5_init 1 = .ok (.invokespecial 1, 3) := by decide +kernel
theorem dX5_init_4 : decode cX5_init 4 = .ok (.aload_n 0, 1) := by decide +kernel
theorem dX5_init_5 : decode cX5_init 5 = .ok (.bipush 8, 2) := by decide +kernel
theorem dX5_init_7 : decode cX5_init 7 = .ok (.newarray .int, 2) := by decide +kernel
theorem dX5_init_9 : decode cX5_init 9 = .ok (.dup, 1) := by decide +kernel
theorem dX5_init_10 : decode cX5_init 10 = .ok (.iconst 0, 1) := by decide +kernel
theorem dX5_init_11 : decode cX5_init 11 = .ok (.bipush 20, 2) := by decide +kernel
theorem dX5_init_13 : decode cX5_init 13 = .ok (.iastore, 1) := by decide +kernel
theorem dX5_init_14 : decode cX5_init 14 = .ok (.dup, 1) := by decide +kernel
theorem dX5_init_15 : decode cX5_init 15 = .ok (.iconst 1, 1) := by decide +kernel
theorem dX5_init_16 : decode cX5_init 16 = .ok (.bipush 16, 2) := by decide +kernel
theorem dX5_init_18 : decode cX5_init 18 = .ok (.iastore, 1) := by decide +kernel
theorem dX5_init_19 : decode cX5_init 19 = .ok (.dup, 1) := by decide +kernel
theorem dX5_init_20 : decode cX5_init 20 = .ok (.iconst 2, 1) := by decide +kernel
theorem dX5_init_21 : decode cX5_init 21 = .ok (.iconst 0, 1) := by decide +kernel
theorem dX5_init_22 : decode cX5_init 22 = .ok (.iastore, 1) := by decide +kernel
theorem dX5_init_23 : decode cX5_init 23 = .ok (.dup, 1) := by decide +kernel
theorem dX5_init_24 : decode cX5_init 24 = .ok (.iconst 3, 1) := by decide +kernel
theorem dX5_init_25 : decode cX5_init 25 = .ok (.iconst 0, 1) := by decide +kernel
theorem dX5_init_26 : decode cX5_init 26 = .ok (.iastore, 1) := by decide +kernel
theorem dX5_init_27 : decode cX5_init 27 = .ok (.dup, 1) := by decide +kernel
theorem dX5_init_28 : decode cX5_init 28 = .ok (.iconst 4, 1) := by decide +kernel
theorem dX5_init_29 : decode cX5_init 29 = .ok (.iconst 2, 1) := by decide +kernel
theorem dX5_init_30 : decode cX5_init 30 = .ok (.iastore, 1) := by decide +kernel
theorem dX5_init_31 : decode cX5_init 31 = .ok (.dup, 1) := by decide +kernel
theorem dX5_init_32 : decode cX5_init 32 = .ok (.iconst 5, 1) := by decide +kernel
theorem dX5_init_33 : decode cX5_init 33 = .ok (.iconst 0, 1) := by decide +kernel
theorem dX5_init_34 : decode cX5_init 34 = .ok (.iastore, 1) := by decide +kernel
theorem dX5_init_35 : decode cX5_init 35 = .ok (.dup, 1) := by decide +kernel
theorem dX5_init_36 : decode cX5_init 36 = .ok (.bipush 6, 2) := by decide +kernel
theorem dX5_init_38 : decode cX5_init 38 = .ok (.iconst 0, 1) := by decide +kernel
theorem dX5_init_39 : decode cX5_init 39 = .ok (.iastore, 1) := by decide +kernel
theorem dX5_init_40 : decode cX5_init 40 = .ok (.dup, 1) := by decide +kernel
theorem dX5_init_41 : decode cX5_init 41 = .ok (.bipush 7, 2) := by decide +kernel
theorem dX5_init_43 : decode cX5_init 43 = .ok (.iconst 0, 1) := by decide +kernel
theorem dX5_init_44 : decode cX5_init 44 = .ok (.iastore, 1) := by decide +kernel
theorem dX5_init_45 : decode cX5_init 45 = .ok (.putfield 7, 3) := by decide +kernel
theorem dX5_init_48 : decode cX5_init 48 = .ok (.aload_n 0, 1) := by decide +kernel
theorem dX5_init_49 : decode cX5_init 49 = .ok (.iconst 0, 1) := by decide +kernel
theorem dX5_init_50 : decode cX5_init 50 = .ok (.putfield 13, 3) := by decide +kernel
theorem dX5_init_53 : decode cX5_init 53 = .ok (.return_, 1) := by decide +kernel
theorem ko_X5 : Cond.methodLink RX5 1 Lib.objectInit ∈ TB := tb_at 154 (by decide +kernel) (by decide +kernel)
theorem ff_X5_0 : mFf RX5 4 0 true (.array .int) := fun _ _ _ h => by cases h; exact ⟨rfl, by decide +kernel, rfl⟩
theorem ff_X5_1 : mFf RX5 4 1 false .int := fun _ _ _ h => by cases h; exact ⟨rfl, by decide +kernel, rfl⟩
abbrev cX7_init : ByteArray := prog_9_method_1_code
def yX7_init : MethodName := ⟨RX7, "<init>", "()V"⟩
theorem dX7_init_0 : decode cX7_init 0 = .ok (.aload_n 0, 1) := by decide +kernel
theorem dX7_init_1 : decode cX7_init 1 = .ok (.invokespecial 1, 3) := by decide +kernel
theorem dX7_init_4 : decode cX7_init 4 = .ok (.aload_n 0, 1) := by decide +kernel
theorem dX7_init_5 : decode cX7_init 5 = .ok (.bipush 64, 2) := by decide +kernel
theorem dX7_init_7 : decode cX7_init 7 = .ok (.newarray .int, 2) := by decide +kernel
theorem dX7_init_9 : decode cX7_init 9 = .ok (.putfield 9, 3) := by decide +kernel
theorem dX7_init_12 : decode cX7_init 12 = .ok (.return_, 1) := by decide +kernel
theorem ko_X7 : Cond.methodLink RX7 1 Lib.objectInit ∈ TB := tb_at 222 (by decide +kernel) (by decide +kernel)
theorem ff_X7_0 : mFf RX7 6 0 true (.array .int) := fun _ _ _ h => by cases h; exact ⟨rfl, by decide +kernel, rfl⟩
abbrev cX10_init : ByteArray := prog_12_method_1_code
def yX10_init : MethodName := ⟨RX10, "<init>", "()V"⟩
theorem dX10_init_0 : decode cX10_init 0 = .ok (.aload_n 0, 1) := by decide +kernel
theorem dX10_init_1 : decode cX10_init 1 = .ok (.invokespecial 3, 3) := by decide +kernel
theorem dX10_init_4 : decode cX10_init 4 = .ok (.aload_n 0, 1) := by decide +kernel
theorem dX10_init_5 : decode cX10_init 5 = .ok (.bipush 60, 2) := by decide +kernel
theorem dX10_init_7 : decode cX10_init 7 = .ok (.newarray .int, 2) := by decide +kernel
theorem dX10_init_9 : decode cX10_init 9 = .ok (.putfield 11, 3) := by decide +kernel
theorem dX10_init_12 : decode cX10_init 12 = .ok (.aload_n 0, 1) := by decide +kernel
theorem dX10_init_13 : decode cX10_init 13 = .ok (.iconst 0, 1) := by decide +kernel
theorem dX10_init_14 : decode cX10_init 14 = .ok (.putfield 15, 3) := by decide +kernel
theorem dX10_init_17 : decode cX10_init 17 = .ok (.return_, 1) := by decide +kernel
theorem ko_X10 : Cond.methodLink RX10 3 Lib.objectInit ∈ TB := tb_at 100 (by decide +kernel) (by decide +kernel)
theorem ff_X10_0 : mFf RX10 9 0 true (.array .int) := fun _ _ _ h => by cases h; exact ⟨rfl, by decide +kernel, rfl⟩
theorem ff_X10_1 : mFf RX10 9 1 false .int := fun _ _ _ h => by cases h; exact ⟨rfl, by decide +kernel, rfl⟩
abbrev cX4_init : ByteArray := prog_6_method_1_code
def yX4_init : MethodName := ⟨RX4, "<init>", "()V"⟩
theorem dX4_init_0 : decode cX4_init 0 = .ok (.aload_n 0, 1) := by decide +kernel
theorem dX4_init_1 : decode cX4_init 1 = .ok (.invokespecial 3, 3) := by decide +kernel
theorem dX4_init_4 : decode cX4_init 4 = .ok (.aload_n 0, 1) := by decide +kernel
theorem dX4_init_5 : decode cX4_init 5 = .ok (.new 9, 3) := by decide +kernel
theorem dX4_init_8 : decode cX4_init 8 = .ok (.dup, 1) := by decide +kernel
theorem dX4_init_9 : decode cX4_init 9 = .ok (.bipush 12, 2) := by decide +kernel
theorem dX4_init_11 : decode cX4_init 11 = .ok (.iconst 3, 1) := by decide +kernel
theorem dX4_init_12 : decode cX4_init 12 = .ok (.invokespecial 11, 3) := by decide +kernel
theorem dX4_init_15 : decode cX4_init 15 = .ok (.putfield 14, 3) := by decide +kernel
theorem dX4_init_18 : decode cX4_init 18 = .ok (.return_, 1) := by decide +kernel
theorem ko_X4 : Cond.methodLink RX4 3 Lib.objectInit ∈ TB := tb_at 136 (by decide +kernel) (by decide +kernel)
theorem kw_137 : Cond.classLink "FrequencyShelf$Replays" 9 "FrequencyShelf$Table" ∈ TB := tb_at 137 (by decide +kernel) (by decide +kernel)
theorem kw_110 : Cond.instantiable "FrequencyShelf$Table" 4 ∈ TB := tb_at 110 (by decide +kernel) (by decide +kernel)
theorem kw_113 : Cond.code yX9_init cX9_init 3 none ∈ TB := tb_at 113 (by decide +kernel) (by decide +kernel)
theorem kw_112 : Cond.instanceMethod yX9_init ∈ TB := tb_at 112 (by decide +kernel) (by decide +kernel)
theorem kw_138 : Cond.methodLink "FrequencyShelf$Replays" 11 yX9_init ∈ TB := tb_at 138 (by decide +kernel) (by decide +kernel)
theorem ff_X4_0 : mFf RX4 3 0 true (.object "FrequencyShelf$Table") := fun _ _ _ h => by cases h; exact ⟨rfl, by decide +kernel, rfl⟩
abbrev cX0_init : ByteArray := prog_2_method_1_code
def yX0_init : MethodName := ⟨RX0, "<init>", "(ILFrequencyShelf$Rules;)V"⟩
theorem dX0_init_0 : decode cX0_init 0 = .ok (.aload_n 0, 1) := by decide +kernel
theorem dX0_init_1 : decode cX0_init 1 = .ok (.invokespecial 3, 3) := by decide +kernel
theorem dX0_init_4 : decode cX0_init 4 = .ok (.aload_n 0, 1) := by decide +kernel
theorem dX0_init_5 : decode cX0_init 5 = .ok (.aload_n 2, 1) := by decide +kernel
theorem dX0_init_6 : decode cX0_init 6 = .ok (.putfield 9, 3) := by decide +kernel
theorem dX0_init_9 : decode cX0_init 9 = .ok (.aload_n 0, 1) := by decide +kernel
theorem dX0_init_10 : decode cX0_init 10 = .ok (.new 15, 3) := by decide +kernel
theorem dX0_init_13 : decode cX0_init 13 = .ok (.dup, 1) := by decide +kernel
theorem dX0_init_14 : decode cX0_init 14 = .ok (.iload_n 1, 1) := by decide +kernel
theorem dX0_init_15 : decode cX0_init 15 = .ok (.bipush 9, 2) := by decide +kernel
theorem dX0_init_17 : decode cX0_init 17 = .ok (.invokespecial 17, 3) := by decide +kernel
theorem dX0_init_20 : decode cX0_init 20 = .ok (.putfield 20, 3) := by decide +kernel
theorem dX0_init_23 : decode cX0_init 23 = .ok (.return_, 1) := by decide +kernel
theorem ko_X0 : Cond.methodLink RX0 3 Lib.objectInit ∈ TB := tb_at 207 (by decide +kernel) (by decide +kernel)
theorem ff_X0_0 : mFf RX0 0 0 true (.object "FrequencyShelf$Rules") := fun _ _ _ h => by cases h; exact ⟨rfl, by decide +kernel, rfl⟩
theorem kw_208 : Cond.classLink "FrequencyShelf$Entries" 15 "FrequencyShelf$Table" ∈ TB := tb_at 208 (by decide +kernel) (by decide +kernel)
theorem kw_209 : Cond.methodLink "FrequencyShelf$Entries" 17 yX9_init ∈ TB := tb_at 209 (by decide +kernel) (by decide +kernel)
theorem ff_X0_1 : mFf RX0 0 1 true (.object "FrequencyShelf$Table") := fun _ _ _ h => by cases h; exact ⟨rfl, by decide +kernel, rfl⟩
abbrev cX2_init : ByteArray := prog_4_method_1_code
def yX2_init : MethodName := ⟨RX2, "<init>", "(LFrequencyShelf$Rules;)V"⟩
theorem dX2_init_0 : decode cX2_init 0 = .ok (.aload_n 0, 1) := by decide +kernel
theorem dX2_init_1 : decode cX2_init 1 = .ok (.invokespecial 3, 3) := by decide +kernel
theorem dX2_init_4 : decode cX2_init 4 = .ok (.aload_n 0, 1) := by decide +kernel
theorem dX2_init_5 : decode cX2_init 5 = .ok (.aload_n 1, 1) := by decide +kernel
theorem dX2_init_6 : decode cX2_init 6 = .ok (.putfield 9, 3) := by decide +kernel
theorem dX2_init_9 : decode cX2_init 9 = .ok (.aload_n 0, 1) := by decide +kernel
theorem dX2_init_10 : decode cX2_init 10 = .ok (.new 15, 3) := by decide +kernel
theorem dX2_init_13 : decode cX2_init 13 = .ok (.dup, 1) := by decide +kernel
theorem dX2_init_14 : decode cX2_init 14 = .ok (.bipush 40, 2) := by decide +kernel
theorem dX2_init_16 : decode cX2_init 16 = .ok (.iconst 3, 1) := by decide +kernel
theorem dX2_init_17 : decode cX2_init 17 = .ok (.invokespecial 17, 3) := by decide +kernel
theorem dX2_init_20 : decode cX2_init 20 = .ok (.putfield 20, 3) := by decide +kernel
theorem dX2_init_23 : decode cX2_init 23 = .ok (.aload_n 0, 1) := by decide +kernel
theorem dX2_init_24 : decode cX2_init 24 = .ok (.new 15, 3) := by decide +kernel
theorem dX2_init_27 : decode cX2_init 27 = .ok (.dup, 1) := by decide +kernel
theorem dX2_init_28 : decode cX2_init 28 = .ok (.bipush 60, 2) := by decide +kernel
theorem dX2_init_30 : decode cX2_init 30 = .ok (.iconst 1, 1) := by decide +kernel
theorem dX2_init_31 : decode cX2_init 31 = .ok (.invokespecial 17, 3) := by decide +kernel
theorem dX2_init_34 : decode cX2_init 34 = .ok (.putfield 24, 3) := by decide +kernel
theorem dX2_init_37 : decode cX2_init 37 = .ok (.aload_n 0, 1) := by decide +kernel
theorem dX2_init_38 : decode cX2_init 38 = .ok (.new 15, 3) := by decide +kernel
theorem dX2_init_41 : decode cX2_init 41 = .ok (.dup, 1) := by decide +kernel
theorem dX2_init_42 : decode cX2_init 42 = .ok (.bipush 40, 2) := by decide +kernel
theorem dX2_init_44 : decode cX2_init 44 = .ok (.iconst 2, 1) := by decide +kernel
theorem dX2_init_45 : decode cX2_init 45 = .ok (.invokespecial 17, 3) := by decide +kernel
theorem dX2_init_48 : decode cX2_init 48 = .ok (.putfield 27, 3) := by decide +kernel
theorem dX2_init_51 : decode cX2_init 51 = .ok (.aload_n 0, 1) := by decide +kernel
theorem dX2_init_52 : decode cX2_init 52 = .ok (.new 15, 3) := by decide +kernel
theorem dX2_init_55 : decode cX2_init 55 = .ok (.dup, 1) := by decide +kernel
theorem dX2_init_56 : decode cX2_init 56 = .ok (.bipush 60, 2) := by decide +kernel
theorem dX2_init_58 : decode cX2_init 58 = .ok (.iconst 1, 1) := by decide +kernel
theorem dX2_init_59 : decode cX2_init 59 = .ok (.invokespecial 17, 3) := by decide +kernel
theorem dX2_init_62 : decode cX2_init 62 = .ok (.putfield 30, 3) := by decide +kernel
theorem dX2_init_65 : decode cX2_init 65 = .ok (.aload_n 0, 1) := by decide +kernel
theorem dX2_init_66 : decode cX2_init 66 = .ok (.bipush 14, 2) := by decide +kernel
theorem dX2_init_68 : decode cX2_init 68 = .ok (.newarray .int, 2) := by decide +kernel
theorem dX2_init_70 : decode cX2_init 70 = .ok (.putfield 33, 3) := by decide +kernel
theorem dX2_init_73 : decode cX2_init 73 = .ok (.aload_n 0, 1) := by decide +kernel
theorem dX2_init_74 : decode cX2_init 74 = .ok (.bipush 64, 2) := by decide +kernel
theorem dX2_init_76 : decode cX2_init 76 = .ok (.newarray .int, 2) := by decide +kernel
theorem dX2_init_78 : decode cX2_init 78 = .ok (.putfield 37, 3) := by decide +kernel
theorem dX2_init_81 : decode cX2_init 81 = .ok (.return_, 1) := by decide +kernel
theorem ko_X2 : Cond.methodLink RX2 3 Lib.objectInit ∈ TB := tb_at 167 (by decide +kernel) (by decide +kernel)
theorem ff_X2_0 : mFf RX2 1 0 true (.object "FrequencyShelf$Rules") := fun _ _ _ h => by cases h; exact ⟨rfl, by decide +kernel, rfl⟩
theorem kw_168 : Cond.classLink "FrequencyShelf$Ledge\x72" 15 "FrequencyShelf$Table" ∈ TB := tb_at 168 (by decide +kernel) (by decide +kernel)
theorem kw_169 : Cond.methodLink "FrequencyShelf$Ledge\x72" 17 yX9_init ∈ TB := tb_at 169 (by decide +kernel) (by decide +kernel)
theorem ff_X2_1 : mFf RX2 1 1 true (.object "FrequencyShelf$Table") := fun _ _ _ h => by cases h; exact ⟨rfl, by decide +kernel, rfl⟩
theorem ff_X2_2 : mFf RX2 1 2 true (.object "FrequencyShelf$Table") := fun _ _ _ h => by cases h; exact ⟨rfl, by decide +kernel, rfl⟩
theorem ff_X2_3 : mFf RX2 1 3 true (.object "FrequencyShelf$Table") := fun _ _ _ h => by cases h; exact ⟨rfl, by decide +kernel, rfl⟩
theorem ff_X2_4 : mFf RX2 1 4 true (.object "FrequencyShelf$Table") := fun _ _ _ h => by cases h; exact ⟨rfl, by decide +kernel, rfl⟩
theorem ff_X2_5 : mFf RX2 1 5 true (.array .int) := fun _ _ _ h => by cases h; exact ⟨rfl, by decide +kernel, rfl⟩
theorem ff_X2_6 : mFf RX2 1 6 true (.array .int) := fun _ _ _ h => by cases h; exact ⟨rfl, by decide +kernel, rfl⟩
abbrev cX3_init : ByteArray := prog_5_method_1_code
def yX3_init : MethodName := ⟨RX3, "<init>", "(LFrequencyShelf$Rules;LFrequencyShelf$Ledger;)V"⟩
theorem dX3_init_0 : decode cX3_init 0 = .ok (.aload_n 0, 1) := by decide +kernel
theorem dX3_init_1 : decode cX3_init 1 = .ok (.invokespecial 3, 3) := by decide +kernel
theorem dX3_init_4 : decode cX3_init 4 = .ok (.aload_n 0, 1) := by decide +kernel
theorem dX3_init_5 : decode cX3_init 5 = .ok (.aload_n 1, 1) := by decide +kernel
theorem dX3_init_6 : decode cX3_init 6 = .ok (.putfield 9, 3) := by decide +kernel
theorem dX3_init_9 : decode cX3_init 9 = .ok (.aload_n 0, 1) := by decide +kernel
theorem dX3_init_10 : decode cX3_init 10 = .ok (.aload_n 2, 1) := by decide +kernel
theorem dX3_init_11 : decode cX3_init 11 = .ok (.putfield 15, 3) := by decide +kernel
theorem dX3_init_14 : decode cX3_init 14 = .ok (.aload_n 0, 1) := by decide +kernel
theorem dX3_init_15 : decode cX3_init 15 = .ok (.new 19, 3) := by decide +kernel
theorem dX3_init_18 : decode cX3_init 18 = .ok (.dup, 1) := by decide +kernel
theorem dX3_init_19 : decode cX3_init 19 = .ok (.sipush 256, 3) := by decide +kernel
theorem dX3_init_22 : decode cX3_init 22 = .ok (.iconst 3, 1) := by decide +kernel
theorem dX3_init_23 : decode cX3_init 23 = .ok (.invokespecial 21, 3) := by decide +kernel
theorem dX3_init_26 : decode cX3_init 26 = .ok (.putfield 24, 3) := by decide +kernel
theorem dX3_init_29 : decode cX3_init 29 = .ok (.aload_n 0, 1) := by decide +kernel
theorem dX3_init_30 : decode cX3_init 30 = .ok (.new 19, 3) := by decide +kernel
theorem dX3_init_33 : decode cX3_init 33 = .ok (.dup, 1) := by decide +kernel
theorem dX3_init_34 : decode cX3_init 34 = .ok (.sipush 256, 3) := by decide +kernel
theorem dX3_init_37 : decode cX3_init 37 = .ok (.iconst 2, 1) := by decide +kernel
theorem dX3_init_38 : decode cX3_init 38 = .ok (.invokespecial 21, 3) := by decide +kernel
theorem dX3_init_41 : decode cX3_init 41 = .ok (.putfield 28, 3) := by decide +kernel
theorem dX3_init_44 : decode cX3_init 44 = .ok (.aload_n 0, 1) := by decide +kernel
theorem dX3_init_45 : decode cX3_init 45 = .ok (.new 19, 3) := by decide +kernel
theorem dX3_init_48 : decode cX3_init 48 = .ok (.dup, 1) := by decide +kernel
theorem dX3_init_49 : decode cX3_init 49 = .ok (.sipush 192, 3) := by decide +kernel
theorem dX3_init_52 : decode cX3_init 52 = .ok (.iconst 3, 1) := by decide +kernel
theorem dX3_init_53 : decode cX3_init 53 = .ok (.invokespecial 21, 3) := by decide +kernel
theorem dX3_init_56 : decode cX3_init 56 = .ok (.putfield 31, 3) := by decide +kernel
theorem dX3_init_59 : decode cX3_init 59 = .ok (.return_, 1) := by decide +kernel
theorem ko_X3 : Cond.methodLink RX3 3 Lib.objectInit ∈ TB := tb_at 263 (by decide +kernel) (by decide +kernel)
theorem ff_X3_0 : mFf RX3 2 0 true (.object "FrequencyShelf$Rules") := fun _ _ _ h => by cases h; exact ⟨rfl, by decide +kernel, rfl⟩
theorem ff_X3_1 : mFf RX3 2 1 true (.object "FrequencyShelf$Ledge\x72") := fun _ _ _ h => by cases h; exact ⟨rfl, by decide +kernel, rfl⟩
theorem kw_264 : Cond.classLink "FrequencyShelf$Loads" 19 "FrequencyShelf$Table" ∈ TB := tb_at 264 (by decide +kernel) (by decide +kernel)
theorem kw_265 : Cond.methodLink "FrequencyShelf$Loads" 21 yX9_init ∈ TB := tb_at 265 (by decide +kernel) (by decide +kernel)
theorem ff_X3_2 : mFf RX3 2 2 true (.object "FrequencyShelf$Table") := fun _ _ _ h => by cases h; exact ⟨rfl, by decide +kernel, rfl⟩
theorem ff_X3_3 : mFf RX3 2 3 true (.object "FrequencyShelf$Table") := fun _ _ _ h => by cases h; exact ⟨rfl, by decide +kernel, rfl⟩
theorem ff_X3_4 : mFf RX3 2 4 true (.object "FrequencyShelf$Table") := fun _ _ _ h => by cases h; exact ⟨rfl, by decide +kernel, rfl⟩
abbrev cX6_init : ByteArray := prog_8_method_1_code
def yX6_init : MethodName := ⟨RX6, "<init>", "(LFrequencyShelf$Rules;LFrequencyShelf$Ledger;)V"⟩
theorem dX6_init_0 : decode cX6_init 0 = .ok (.aload_n 0, 1) := by decide +kernel
theorem dX6_init_1 : decode cX6_init 1 = .ok (.invokespecial 3, 3) := by decide +kernel
theorem dX6_init_4 : decode cX6_init 4 = .ok (.aload_n 0, 1) := by decide +kernel
theorem dX6_init_5 : decode cX6_init 5 = .ok (.aload_n 1, 1) := by decide +kernel
theorem dX6_init_6 : decode cX6_init 6 = .ok (.putfield 9, 3) := by decide +kernel
theorem dX6_init_9 : decode cX6_init 9 = .ok (.aload_n 0, 1) := by decide +kernel
theorem dX6_init_10 : decode cX6_init 10 = .ok (.aload_n 2, 1) := by decide +kernel
theorem dX6_init_11 : decode cX6_init 11 = .ok (.putfield 15, 3) := by decide +kernel
theorem dX6_init_14 : decode cX6_init 14 = .ok (.aload_n 0, 1) := by decide +kernel
theorem dX6_init_15 : decode cX6_init 15 = .ok (.new 19, 3) := by decide +kernel
theorem dX6_init_18 : decode cX6_init 18 = .ok (.dup, 1) := by decide +kernel
theorem dX6_init_19 : decode cX6_init 19 = .ok (.sipush 200, 3) := by decide +kernel
theorem dX6_init_22 : decode cX6_init 22 = .ok (.aload_n 1, 1) := by decide +kernel
theorem dX6_init_23 : decode cX6_init 23 = .ok (.invokespecial 21, 3) := by decide +kernel
theorem dX6_init_26 : decode cX6_init 26 = .ok (.putfield 24, 3) := by decide +kernel
theorem dX6_init_29 : decode cX6_init 29 = .ok (.aload_n 0, 1) := by decide +kernel
theorem dX6_init_30 : decode cX6_init 30 = .ok (.new 19, 3) := by decide +kernel
theorem dX6_init_33 : decode cX6_init 33 = .ok (.dup, 1) := by decide +kernel
theorem dX6_init_34 : decode cX6_init 34 = .ok (.bipush 20, 2) := by decide +kernel
theorem dX6_init_36 : decode cX6_init 36 = .ok (.aload_n 1, 1) := by decide +kernel
theorem dX6_init_37 : decode cX6_init 37 = .ok (.invokespecial 21, 3) := by decide +kernel
theorem dX6_init_40 : decode cX6_init 40 = .ok (.putfield 28, 3) := by decide +kernel
theorem dX6_init_43 : decode cX6_init 43 = .ok (.aload_n 0, 1) := by decide +kernel
theorem dX6_init_44 : decode cX6_init 44 = .ok (.new 31, 3) := by decide +kernel
theorem dX6_init_47 : decode cX6_init 47 = .ok (.dup, 1) := by decide +kernel
theorem dX6_init_48 : decode cX6_init 48 = .ok (.invokespecial 33, 3) := by decide +kernel
theorem dX6_init_51 : decode cX6_init 51 = .ok (.putfield 34, 3) := by decide +kernel
theorem dX6_init_54 : decode cX6_init 54 = .ok (.aload_n 0, 1) := by decide +kernel
theorem dX6_init_55 : decode cX6_init 55 = .ok (.iconst 0, 1) := by decide +kernel
theorem dX6_init_56 : decode cX6_init 56 = .ok (.putfield 38, 3) := by decide +kernel
theorem dX6_init_59 : decode cX6_init 59 = .ok (.aload_n 0, 1) := by decide +kernel
theorem dX6_init_60 : decode cX6_init 60 = .ok (.iconst 0, 1) := by decide +kernel
theorem dX6_init_61 : decode cX6_init 61 = .ok (.putfield 42, 3) := by decide +kernel
theorem dX6_init_64 : decode cX6_init 64 = .ok (.aload_n 0, 1) := by decide +kernel
theorem dX6_init_65 : decode cX6_init 65 = .ok (.iconst 0, 1) := by decide +kernel
theorem dX6_init_66 : decode cX6_init 66 = .ok (.putfield 45, 3) := by decide +kernel
theorem dX6_init_69 : decode cX6_init 69 = .ok (.aload_n 0, 1) := by decide +kernel
theorem dX6_init_70 : decode cX6_init 70 = .ok (.iconst 0, 1) := by decide +kernel
theorem dX6_init_71 : decode cX6_init 71 = .ok (.putfield 48, 3) := by decide +kernel
theorem dX6_init_74 : decode cX6_init 74 = .ok (.return_, 1) := by decide +kernel
theorem ko_X6 : Cond.methodLink RX6 3 Lib.objectInit ∈ TB := tb_at 201 (by decide +kernel) (by decide +kernel)
theorem ff_X6_0 : mFf RX6 5 0 true (.object "FrequencyShelf$Rules") := fun _ _ _ h => by cases h; exact ⟨rfl, by decide +kernel, rfl⟩
theorem ff_X6_1 : mFf RX6 5 1 true (.object "FrequencyShelf$Ledge\x72") := fun _ _ _ h => by cases h; exact ⟨rfl, by decide +kernel, rfl⟩
theorem kw_202 : Cond.classLink "FrequencyShelf$Shelf" 19 "FrequencyShelf$Entries" ∈ TB := tb_at 202 (by decide +kernel) (by decide +kernel)
theorem kw_203 : Cond.instantiable "FrequencyShelf$Entries" 2 ∈ TB := tb_at 203 (by decide +kernel) (by decide +kernel)
theorem kw_206 : Cond.code yX0_init cX0_init 3 none ∈ TB := tb_at 206 (by decide +kernel) (by decide +kernel)
theorem kw_205 : Cond.instanceMethod yX0_init ∈ TB := tb_at 205 (by decide +kernel) (by decide +kernel)
theorem kw_204 : Cond.methodLink "FrequencyShelf$Shelf" 21 yX0_init ∈ TB := tb_at 204 (by decide +kernel) (by decide +kernel)
theorem ff_X6_2 : mFf RX6 5 2 true (.object "FrequencyShelf$Entries") := fun _ _ _ h => by cases h; exact ⟨rfl, by decide +kernel, rfl⟩
theorem ff_X6_3 : mFf RX6 5 3 true (.object "FrequencyShelf$Entries") := fun _ _ _ h => by cases h; exact ⟨rfl, by decide +kernel, rfl⟩
theorem kw_217 : Cond.classLink "FrequencyShelf$Shelf" 31 "FrequencyShelf$Sketch" ∈ TB := tb_at 217 (by decide +kernel) (by decide +kernel)
theorem kw_218 : Cond.instantiable "FrequencyShelf$Sketch" 1 ∈ TB := tb_at 218 (by decide +kernel) (by decide +kernel)
theorem kw_221 : Cond.code yX7_init cX7_init 1 none ∈ TB := tb_at 221 (by decide +kernel) (by decide +kernel)
theorem kw_220 : Cond.instanceMethod yX7_init ∈ TB := tb_at 220 (by decide +kernel) (by decide +kernel)
theorem kw_219 : Cond.methodLink "FrequencyShelf$Shelf" 33 yX7_init ∈ TB := tb_at 219 (by decide +kernel) (by decide +kernel)
theorem ff_X6_4 : mFf RX6 5 4 true (.object "FrequencyShelf$Sketch") := fun _ _ _ h => by cases h; exact ⟨rfl, by decide +kernel, rfl⟩
theorem ff_X6_5 : mFf RX6 5 5 false .int := fun _ _ _ h => by cases h; exact ⟨rfl, by decide +kernel, rfl⟩
theorem ff_X6_6 : mFf RX6 5 6 false .int := fun _ _ _ h => by cases h; exact ⟨rfl, by decide +kernel, rfl⟩
theorem ff_X6_7 : mFf RX6 5 7 false .int := fun _ _ _ h => by cases h; exact ⟨rfl, by decide +kernel, rfl⟩
theorem ff_X6_8 : mFf RX6 5 8 false .int := fun _ _ _ h => by cases h; exact ⟨rfl, by decide +kernel, rfl⟩
abbrev cX8_init : ByteArray := prog_10_method_1_code
def yX8_init : MethodName := ⟨RX8, "<init>", "()V"⟩
theorem dX8_init_0 : decode cX8_init 0 = .ok (.aload_n 0, 1) := by decide +kernel
theorem dX8_init_1 : decode cX8_init 1 = .ok (.invokespecial 1, 3) := by decide +kernel
theorem dX8_init_4 : decode cX8_init 4 = .ok (.aload_n 0, 1) := by decide +kernel
theorem dX8_init_5 : decode cX8_init 5 = .ok (.new 7, 3) := by decide +kernel
theorem dX8_init_8 : decode cX8_init 8 = .ok (.dup, 1) := by decide +kernel
theorem dX8_init_9 : decode cX8_init 9 = .ok (.invokespecial 9, 3) := by decide +kernel
theorem dX8_init_12 : decode cX8_init 12 = .ok (.putfield 10, 3) := by decide +kernel
theorem dX8_init_15 : decode cX8_init 15 = .ok (.aload_n 0, 1) := by decide +kernel
theorem dX8_init_16 : decode cX8_init 16 = .ok (.new 16, 3) := by decide +kernel
theorem dX8_init_19 : decode cX8_init 19 = .ok (.dup, 1) := by decide +kernel
theorem dX8_init_20 : decode cX8_init 20 = .ok (.aload_n 0, 1) := by decide +kernel
theorem dX8_init_21 : decode cX8_init 21 = .ok (.getfield 10, 3) := by decide +kernel
theorem dX8_init_24 : decode cX8_init 24 = .ok (.invokespecial 18, 3) := by decide +kernel
theorem dX8_init_27 : decode cX8_init 27 = .ok (.putfield 21, 3) := by decide +kernel
theorem dX8_init_30 : decode cX8_init 30 = .ok (.aload_n 0, 1) := by decide +kernel
theorem dX8_init_31 : decode cX8_init 31 = .ok (.new 25, 3) := by decide +kernel
theorem dX8_init_34 : decode cX8_init 34 = .ok (.dup, 1) := by decide +kernel
theorem dX8_init_35 : decode cX8_init 35 = .ok (.aload_n 0, 1) := by decide +kernel
theorem dX8_init_36 : decode cX8_init 36 = .ok (.getfield 10, 3) := by decide +kernel
theorem dX8_init_39 : decode cX8_init 39 = .ok (.aload_n 0, 1) := by decide +kernel
theorem dX8_init_40 : decode cX8_init 40 = .ok (.getfield 21, 3) := by decide +kernel
theorem dX8_init_43 : decode cX8_init 43 = .ok (.invokespecial 27, 3) := by decide +kernel
theorem dX8_init_46 : decode cX8_init 46 = .ok (.putfield 30, 3) := by decide +kernel
theorem dX8_init_49 : decode cX8_init 49 = .ok (.aload_n 0, 1) := by decide +kernel
theorem dX8_init_50 : decode cX8_init 50 = .ok (.new 34, 3) := by decide +kernel
theorem dX8_init_53 : decode cX8_init 53 = .ok (.dup, 1) := by decide +kernel
theorem dX8_init_54 : decode cX8_init 54 = .ok (.aload_n 0, 1) := by decide +kernel
theorem dX8_init_55 : decode cX8_init 55 = .ok (.getfield 10, 3) := by decide +kernel
theorem dX8_init_58 : decode cX8_init 58 = .ok (.aload_n 0, 1) := by decide +kernel
theorem dX8_init_59 : decode cX8_init 59 = .ok (.getfield 21, 3) := by decide +kernel
theorem dX8_init_62 : decode cX8_init 62 = .ok (.invokespecial 36, 3) := by decide +kernel
theorem dX8_init_65 : decode cX8_init 65 = .ok (.putfield 37, 3) := by decide +kernel
theorem dX8_init_68 : decode cX8_init 68 = .ok (.return_, 1) := by decide +kernel
theorem ko_X8 : Cond.methodLink RX8 1 Lib.objectInit ∈ TB := tb_at 148 (by decide +kernel) (by decide +kernel)
theorem kw_149 : Cond.classLink "FrequencyShelf$State" 7 "FrequencyShelf$Rules" ∈ TB := tb_at 149 (by decide +kernel) (by decide +kernel)
theorem kw_150 : Cond.instantiable "FrequencyShelf$Rules" 2 ∈ TB := tb_at 150 (by decide +kernel) (by decide +kernel)
theorem kw_153 : Cond.code yX5_init cX5_init 1 none ∈ TB := tb_at 153 (by decide +kernel) (by decide +kernel)
theorem kw_152 : Cond.instanceMethod yX5_init ∈ TB := tb_at 152 (by decide +kernel) (by decide +kernel)
theorem kw_151 : Cond.methodLink "FrequencyShelf$State" 9 yX5_init ∈ TB := tb_at 151 (by decide +kernel) (by decide +kernel)
theorem kw_284 : Cond.fieldLink "FrequencyShelf$State" 10 "FrequencyShelf$State" "rules" "LFrequencyShelf$Rules;" ∈ TB := tb_at 284 (by decide +kernel) (by decide +kernel)
theorem in_X8 : ∀ w ∈ u_ws RX8 TX8 4, w ∈ TB := by decide +kernel
theorem fl_X8_10 : mF RX8 10 7 0 := ⟨RX8, TX8, 4, tyX8, rfl, by decide, in_X8, kw_284, tyX8_ok, nmX8⟩
theorem ff_X8_0 : mFf RX8 7 0 true (.object "FrequencyShelf$Rules") := fun _ _ _ h => by cases h; exact ⟨rfl, by decide +kernel, rfl⟩
theorem kw_162 : Cond.classLink "FrequencyShelf$State" 16 "FrequencyShelf$Ledge\x72" ∈ TB := tb_at 162 (by decide +kernel) (by decide +kernel)
theorem kw_163 : Cond.instantiable "FrequencyShelf$Ledge\x72" 7 ∈ TB := tb_at 163 (by decide +kernel) (by decide +kernel)
theorem kw_166 : Cond.code yX2_init cX2_init 2 none ∈ TB := tb_at 166 (by decide +kernel) (by decide +kernel)
theorem kw_165 : Cond.instanceMethod yX2_init ∈ TB := tb_at 165 (by decide +kernel) (by decide +kernel)
theorem kw_164 : Cond.methodLink "FrequencyShelf$State" 18 yX2_init ∈ TB := tb_at 164 (by decide +kernel) (by decide +kernel)
theorem kw_286 : Cond.fieldLink "FrequencyShelf$State" 21 "FrequencyShelf$State" "ledge\x72" "LFrequencyShelf$Ledger;" ∈ TB := tb_at 286 (by decide +kernel) (by decide +kernel)
theorem fl_X8_21 : mF RX8 21 7 1 := ⟨RX8, TX8, 4, tyX8, rfl, by decide, in_X8, kw_286, tyX8_ok, nmX8⟩
theorem ff_X8_1 : mFf RX8 7 1 true (.object "FrequencyShelf$Ledge\x72") := fun _ _ _ h => by cases h; exact ⟨rfl, by decide +kernel, rfl⟩
theorem kw_196 : Cond.classLink "FrequencyShelf$State" 25 "FrequencyShelf$Shelf" ∈ TB := tb_at 196 (by decide +kernel) (by decide +kernel)
theorem kw_197 : Cond.instantiable "FrequencyShelf$Shelf" 9 ∈ TB := tb_at 197 (by decide +kernel) (by decide +kernel)
theorem kw_200 : Cond.code yX6_init cX6_init 3 none ∈ TB := tb_at 200 (by decide +kernel) (by decide +kernel)
theorem kw_199 : Cond.instanceMethod yX6_init ∈ TB := tb_at 199 (by decide +kernel) (by decide +kernel)
theorem kw_198 : Cond.methodLink "FrequencyShelf$State" 27 yX6_init ∈ TB := tb_at 198 (by decide +kernel) (by decide +kernel)
theorem kw_288 : Cond.fieldLink "FrequencyShelf$State" 30 "FrequencyShelf$State" "shelf" "LFrequencyShelf$Shelf;" ∈ TB := tb_at 288 (by decide +kernel) (by decide +kernel)
theorem fl_X8_30 : mF RX8 30 7 2 := ⟨RX8, TX8, 4, tyX8, rfl, by decide, in_X8, kw_288, tyX8_ok, nmX8⟩
theorem ff_X8_2 : mFf RX8 7 2 true (.object "FrequencyShelf$Shelf") := fun _ _ _ h => by cases h; exact ⟨rfl, by decide +kernel, rfl⟩
theorem kw_258 : Cond.classLink "FrequencyShelf$State" 34 "FrequencyShelf$Loads" ∈ TB := tb_at 258 (by decide +kernel) (by decide +kernel)
theorem kw_259 : Cond.instantiable "FrequencyShelf$Loads" 5 ∈ TB := tb_at 259 (by decide +kernel) (by decide +kernel)
theorem kw_262 : Cond.code yX3_init cX3_init 3 none ∈ TB := tb_at 262 (by decide +kernel) (by decide +kernel)
theorem kw_261 : Cond.instanceMethod yX3_init ∈ TB := tb_at 261 (by decide +kernel) (by decide +kernel)
theorem kw_260 : Cond.methodLink "FrequencyShelf$State" 36 yX3_init ∈ TB := tb_at 260 (by decide +kernel) (by decide +kernel)
theorem kw_290 : Cond.fieldLink "FrequencyShelf$State" 37 "FrequencyShelf$State" "loads" "LFrequencyShelf$Loads;" ∈ TB := tb_at 290 (by decide +kernel) (by decide +kernel)
theorem fl_X8_37 : mF RX8 37 7 3 := ⟨RX8, TX8, 4, tyX8, rfl, by decide, in_X8, kw_290, tyX8_ok, nmX8⟩
theorem ff_X8_3 : mFf RX8 7 3 true (.object "FrequencyShelf$Loads") := fun _ _ _ h => by cases h; exact ⟨rfl, by decide +kernel, rfl⟩
abbrev cX11_init : ByteArray := prog_1_method_1_code
def yX11_init : MethodName := ⟨RX11, "<init>", "()V"⟩
theorem dX11_init_0 : decode cX11_init 0 = .ok (.aload_n 0, 1) := by decide +kernel
theorem dX11_init_1 : decode cX11_init 1 = .ok (.invokespecial 1, 3) := by decide +kernel
theorem dX11_init_4 : decode cX11_init 4 = .ok (.aload_n 0, 1) := by decide +kernel
theorem dX11_init_5 : decode cX11_init 5 = .ok (.new 7, 3) := by decide +kernel
theorem dX11_init_8 : decode cX11_init 8 = .ok (.dup, 1) := by decide +kernel
theorem dX11_init_9 : decode cX11_init 9 = .ok (.invokespecial 9, 3) := by decide +kernel
theorem dX11_init_12 : decode cX11_init 12 = .ok (.putfield 10, 3) := by decide +kernel
theorem dX11_init_15 : decode cX11_init 15 = .ok (.aload_n 0, 1) := by decide +kernel
theorem dX11_init_16 : decode cX11_init 16 = .ok (.new 16, 3) := by decide +kernel
theorem dX11_init_19 : decode cX11_init 19 = .ok (.dup, 1) := by decide +kernel
theorem dX11_init_20 : decode cX11_init 20 = .ok (.bipush 30, 2) := by decide +kernel
theorem dX11_init_22 : decode cX11_init 22 = .ok (.iconst 1, 1) := by decide +kernel
theorem dX11_init_23 : decode cX11_init 23 = .ok (.invokespecial 18, 3) := by decide +kernel
theorem dX11_init_26 : decode cX11_init 26 = .ok (.putfield 21, 3) := by decide +kernel
theorem dX11_init_29 : decode cX11_init 29 = .ok (.aload_n 0, 1) := by decide +kernel
theorem dX11_init_30 : decode cX11_init 30 = .ok (.new 25, 3) := by decide +kernel
theorem dX11_init_33 : decode cX11_init 33 = .ok (.dup, 1) := by decide +kernel
theorem dX11_init_34 : decode cX11_init 34 = .ok (.invokespecial 27, 3) := by decide +kernel
theorem dX11_init_37 : decode cX11_init 37 = .ok (.putfield 28, 3) := by decide +kernel
theorem dX11_init_40 : decode cX11_init 40 = .ok (.aload_n 0, 1) := by decide +kernel
theorem dX11_init_41 : decode cX11_init 41 = .ok (.new 32, 3) := by decide +kernel
theorem dX11_init_44 : decode cX11_init 44 = .ok (.dup, 1) := by decide +kernel
theorem dX11_init_45 : decode cX11_init 45 = .ok (.invokespecial 34, 3) := by decide +kernel
theorem dX11_init_48 : decode cX11_init 48 = .ok (.putfield 35, 3) := by decide +kernel
theorem dX11_init_51 : decode cX11_init 51 = .ok (.aload_n 0, 1) := by decide +kernel
theorem dX11_init_52 : decode cX11_init 52 = .ok (.aload_n 0, 1) := by decide +kernel
theorem dX11_init_53 : decode cX11_init 53 = .ok (.getfield 35, 3) := by decide +kernel
theorem dX11_init_56 : decode cX11_init 56 = .ok (.getfield 39, 3) := by decide +kernel
theorem dX11_init_59 : decode cX11_init 59 = .ok (.putfield 43, 3) := by decide +kernel
theorem dX11_init_62 : decode cX11_init 62 = .ok (.aload_n 0, 1) := by decide +kernel
theorem dX11_init_63 : decode cX11_init 63 = .ok (.aload_n 0, 1) := by decide +kernel
theorem dX11_init_64 : decode cX11_init 64 = .ok (.getfield 35, 3) := by decide +kernel
theorem dX11_init_67 : decode cX11_init 67 = .ok (.getfield 44, 3) := by decide +kernel
theorem dX11_init_70 : decode cX11_init 70 = .ok (.putfield 48, 3) := by decide +kernel
theorem dX11_init_73 : decode cX11_init 73 = .ok (.aload_n 0, 1) := by decide +kernel
theorem dX11_init_74 : decode cX11_init 74 = .ok (.aload_n 0, 1) := by decide +kernel
theorem dX11_init_75 : decode cX11_init 75 = .ok (.getfield 35, 3) := by decide +kernel
theorem dX11_init_78 : decode cX11_init 78 = .ok (.getfield 49, 3) := by decide +kernel
theorem dX11_init_81 : decode cX11_init 81 = .ok (.putfield 53, 3) := by decide +kernel
theorem dX11_init_84 : decode cX11_init 84 = .ok (.aload_n 0, 1) := by decide +kernel
theorem dX11_init_85 : decode cX11_init 85 = .ok (.aload_n 0, 1) := by decide +kernel
theorem dX11_init_86 : decode cX11_init 86 = .ok (.getfield 35, 3) := by decide +kernel
theorem dX11_init_89 : decode cX11_init 89 = .ok (.getfield 54, 3) := by decide +kernel
theorem dX11_init_92 : decode cX11_init 92 = .ok (.putfield 58, 3) := by decide +kernel
theorem dX11_init_95 : decode cX11_init 95 = .ok (.aload_n 0, 1) := by decide +kernel
theorem dX11_init_96 : decode cX11_init 96 = .ok (.aconst_null, 1) := by decide +kernel
theorem dX11_init_97 : decode cX11_init 97 = .ok (.putfield 59, 3) := by decide +kernel
theorem dX11_init_100 : decode cX11_init 100 = .ok (.return_, 1) := by decide +kernel
theorem ko_X11 : Cond.methodLink RX11 1 Lib.objectInit ∈ TB := tb_at 92 (by decide +kernel) (by decide +kernel)
theorem kw_95 : Cond.classLink "FrequencyShelf" 7 "FrequencyShelf$Tape" ∈ TB := tb_at 95 (by decide +kernel) (by decide +kernel)
theorem kw_96 : Cond.instantiable "FrequencyShelf$Tape" 2 ∈ TB := tb_at 96 (by decide +kernel) (by decide +kernel)
theorem kw_99 : Cond.code yX10_init cX10_init 1 none ∈ TB := tb_at 99 (by decide +kernel) (by decide +kernel)
theorem kw_98 : Cond.instanceMethod yX10_init ∈ TB := tb_at 98 (by decide +kernel) (by decide +kernel)
theorem kw_97 : Cond.methodLink "FrequencyShelf" 9 yX10_init ∈ TB := tb_at 97 (by decide +kernel) (by decide +kernel)
theorem ff_X11_0 : mFf RX11 10 0 true (.object "FrequencyShelf$Tape") := fun _ _ _ h => by cases h; exact ⟨rfl, by decide +kernel, rfl⟩
theorem kw_109 : Cond.classLink "FrequencyShelf" 16 "FrequencyShelf$Table" ∈ TB := tb_at 109 (by decide +kernel) (by decide +kernel)
theorem kw_111 : Cond.methodLink "FrequencyShelf" 18 yX9_init ∈ TB := tb_at 111 (by decide +kernel) (by decide +kernel)
theorem ff_X11_1 : mFf RX11 10 1 true (.object "FrequencyShelf$Table") := fun _ _ _ h => by cases h; exact ⟨rfl, by decide +kernel, rfl⟩
theorem kw_131 : Cond.classLink "FrequencyShelf" 25 "FrequencyShelf$Replays" ∈ TB := tb_at 131 (by decide +kernel) (by decide +kernel)
theorem kw_132 : Cond.instantiable "FrequencyShelf$Replays" 1 ∈ TB := tb_at 132 (by decide +kernel) (by decide +kernel)
theorem kw_135 : Cond.code yX4_init cX4_init 1 none ∈ TB := tb_at 135 (by decide +kernel) (by decide +kernel)
theorem kw_134 : Cond.instanceMethod yX4_init ∈ TB := tb_at 134 (by decide +kernel) (by decide +kernel)
theorem kw_133 : Cond.methodLink "FrequencyShelf" 27 yX4_init ∈ TB := tb_at 133 (by decide +kernel) (by decide +kernel)
theorem ff_X11_2 : mFf RX11 10 2 true (.object "FrequencyShelf$Replays") := fun _ _ _ h => by cases h; exact ⟨rfl, by decide +kernel, rfl⟩
theorem kw_143 : Cond.classLink "FrequencyShelf" 32 "FrequencyShelf$State" ∈ TB := tb_at 143 (by decide +kernel) (by decide +kernel)
theorem kw_144 : Cond.instantiable "FrequencyShelf$State" 4 ∈ TB := tb_at 144 (by decide +kernel) (by decide +kernel)
theorem kw_68 : Cond.initialized "FrequencyShelf$State" ∈ TB := tb_at 68 (by decide +kernel) (by decide +kernel)
theorem kw_147 : Cond.code yX8_init cX8_init 1 none ∈ TB := tb_at 147 (by decide +kernel) (by decide +kernel)
theorem kw_146 : Cond.instanceMethod yX8_init ∈ TB := tb_at 146 (by decide +kernel) (by decide +kernel)
theorem kw_145 : Cond.methodLink "FrequencyShelf" 34 yX8_init ∈ TB := tb_at 145 (by decide +kernel) (by decide +kernel)
theorem kw_304 : Cond.fieldLink "FrequencyShelf" 35 "FrequencyShelf" "at" "LFrequencyShelf$State;" ∈ TB := tb_at 304 (by decide +kernel) (by decide +kernel)
theorem fl_X11_35 : mF RX11 35 10 3 := ⟨RX11, TX11, 9, tyX11, rfl, by decide, in_X11, kw_304, tyX11_ok, nmX11⟩
theorem ff_X11_3 : mFf RX11 10 3 true (.object "FrequencyShelf$State") := fun _ _ _ h => by cases h; exact ⟨rfl, by decide +kernel, rfl⟩
theorem fl_X11_39 : mFN RX11 39 7 0 := ⟨RX8, TX8, 4, tyX8, rfl, by decide, in_X8, ⟨rfl, by decide⟩, tyX8_ok, nmX8⟩
theorem ff_X11_4 : mFf RX11 10 4 true (.object "FrequencyShelf$Rules") := fun _ _ _ h => by cases h; exact ⟨rfl, by decide +kernel, rfl⟩
theorem fl_X11_44 : mFN RX11 44 7 1 := ⟨RX8, TX8, 4, tyX8, rfl, by decide, in_X8, ⟨rfl, by decide⟩, tyX8_ok, nmX8⟩
theorem ff_X11_5 : mFf RX11 10 5 true (.object "FrequencyShelf$Ledge\x72") := fun _ _ _ h => by cases h; exact ⟨rfl, by decide +kernel, rfl⟩
theorem fl_X11_49 : mFN RX11 49 7 2 := ⟨RX8, TX8, 4, tyX8, rfl, by decide, in_X8, ⟨rfl, by decide⟩, tyX8_ok, nmX8⟩
theorem ff_X11_6 : mFf RX11 10 6 true (.object "FrequencyShelf$Shelf") := fun _ _ _ h => by cases h; exact ⟨rfl, by decide +kernel, rfl⟩
theorem fl_X11_54 : mFN RX11 54 7 3 := ⟨RX8, TX8, 4, tyX8, rfl, by decide, in_X8, ⟨rfl, by decide⟩, tyX8_ok, nmX8⟩
theorem ff_X11_7 : mFf RX11 10 7 true (.object "FrequencyShelf$Loads") := fun _ _ _ h => by cases h; exact ⟨rfl, by decide +kernel, rfl⟩
theorem kw_309 : Cond.fieldLink "FrequencyShelf" 59 "FrequencyShelf" "kept" "LFrequencyShelf$State;" ∈ TB := tb_at 309 (by decide +kernel) (by decide +kernel)
theorem fl_X11_59 : mF RX11 59 10 8 := ⟨RX11, TX11, 9, tyX11, rfl, by decide, in_X11, kw_309, tyX11_ok, nmX11⟩
theorem ff_X11_8 : mFf RX11 10 8 false (.object "FrequencyShelf$State") := fun _ _ _ h => by cases h; exact ⟨rfl, by decide +kernel, rfl⟩
abbrev cX12_init : ByteArray := prog_14_method_1_code
def yX12_init : MethodName := ⟨RX12, "<init>", "()V"⟩
theorem dX12_init_0 : decode cX12_init 0 = .ok (.aload_n 0, 1) := by decide +kernel
theorem dX12_init_1 : decode cX12_init 1 = .ok (.invokespecial 3, 3) := by decide +kernel
theorem dX12_init_4 : decode cX12_init 4 = .ok (.aload_n 0, 1) := by decide +kernel
theorem dX12_init_5 : decode cX12_init 5 = .ok (.sipush 8787, 3) := by decide +kernel
theorem dX12_init_8 : decode cX12_init 8 = .ok (.newarray .int, 2) := by decide +kernel
theorem dX12_init_10 : decode cX12_init 10 = .ok (.putfield 9, 3) := by decide +kernel
theorem dX12_init_13 : decode cX12_init 13 = .ok (.aload_n 0, 1) := by decide +kernel
theorem dX12_init_14 : decode cX12_init 14 = .ok (.sipush 8787, 3) := by decide +kernel
theorem dX12_init_17 : decode cX12_init 17 = .ok (.newarray .int, 2) := by decide +kernel
theorem dX12_init_19 : decode cX12_init 19 = .ok (.putfield 13, 3) := by decide +kernel
theorem dX12_init_22 : decode cX12_init 22 = .ok (.aload_n 0, 1) := by decide +kernel
theorem dX12_init_23 : decode cX12_init 23 = .ok (.bipush 60, 2) := by decide +kernel
theorem dX12_init_25 : decode cX12_init 25 = .ok (.newarray .byte, 2) := by decide +kernel
theorem dX12_init_27 : decode cX12_init 27 = .ok (.putfield 16, 3) := by decide +kernel
theorem dX12_init_30 : decode cX12_init 30 = .ok (.aload_n 0, 1) := by decide +kernel
theorem dX12_init_31 : decode cX12_init 31 = .ok (.bipush 40, 2) := by decide +kernel
theorem dX12_init_33 : decode cX12_init 33 = .ok (.newarray .int, 2) := by decide +kernel
theorem dX12_init_35 : decode cX12_init 35 = .ok (.putfield 20, 3) := by decide +kernel
theorem dX12_init_38 : decode cX12_init 38 = .ok (.aload_n 0, 1) := by decide +kernel
theorem dX12_init_39 : decode cX12_init 39 = .ok (.bipush 60, 2) := by decide +kernel
theorem dX12_init_41 : decode cX12_init 41 = .ok (.newarray .int, 2) := by decide +kernel
theorem dX12_init_43 : decode cX12_init 43 = .ok (.putfield 23, 3) := by decide +kernel
theorem dX12_init_46 : decode cX12_init 46 = .ok (.aload_n 0, 1) := by decide +kernel
theorem dX12_init_47 : decode cX12_init 47 = .ok (.bipush 12, 2) := by decide +kernel
theorem dX12_init_49 : decode cX12_init 49 = .ok (.newarray .int, 2) := by decide +kernel
theorem dX12_init_51 : decode cX12_init 51 = .ok (.putfield 26, 3) := by decide +kernel
theorem dX12_init_54 : decode cX12_init 54 = .ok (.aload_n 0, 1) := by decide +kernel
theorem dX12_init_55 : decode cX12_init 55 = .ok (.bipush 12, 2) := by decide +kernel
theorem dX12_init_57 : decode cX12_init 57 = .ok (.newarray .int, 2) := by decide +kernel
theorem dX12_init_59 : decode cX12_init 59 = .ok (.putfield 29, 3) := by decide +kernel
theorem dX12_init_62 : decode cX12_init 62 = .ok (.aload_n 0, 1) := by decide +kernel
theorem dX12_init_63 : decode cX12_init 63 = .ok (.bipush 12, 2) := by decide +kernel
theorem dX12_init_65 : decode cX12_init 65 = .ok (.newarray .int, 2) := by decide +kernel
theorem dX12_init_67 : decode cX12_init 67 = .ok (.putfield 32, 3) := by decide +kernel
theorem dX12_init_70 : decode cX12_init 70 = .ok (.aload_n 0, 1) := by decide +kernel
theorem dX12_init_71 : decode cX12_init 71 = .ok (.bipush 12, 2) := by decide +kernel
theorem dX12_init_73 : decode cX12_init 73 = .ok (.newarray .int, 2) := by decide +kernel
theorem dX12_init_75 : decode cX12_init 75 = .ok (.putfield 35, 3) := by decide +kernel
theorem dX12_init_78 : decode cX12_init 78 = .ok (.aload_n 0, 1) := by decide +kernel
theorem dX12_init_79 : decode cX12_init 79 = .ok (.getfield 9, 3) := by decide +kernel
theorem dX12_init_82 : decode cX12_init 82 = .ok (.iconst 0, 1) := by decide +kernel
theorem dX12_init_83 : decode cX12_init 83 = .ok (.bipush 20, 2) := by decide +kernel
theorem dX12_init_85 : decode cX12_init 85 = .ok (.iastore, 1) := by decide +kernel
theorem dX12_init_86 : decode cX12_init 86 = .ok (.aload_n 0, 1) := by decide +kernel
theorem dX12_init_87 : decode cX12_init 87 = .ok (.getfield 9, 3) := by decide +kernel
theorem dX12_init_90 : decode cX12_init 90 = .ok (.iconst 1, 1) := by decide +kernel
theorem dX12_init_91 : decode cX12_init 91 = .ok (.bipush 16, 2) := by decide +kernel
theorem dX12_init_93 : decode cX12_init 93 = .ok (.iastore, 1) := by decide +kernel
theorem dX12_init_94 : decode cX12_init 94 = .ok (.aload_n 0, 1) := by decide +kernel
theorem dX12_init_95 : decode cX12_init 95 = .ok (.getfield 9, 3) := by decide +kernel
theorem dX12_init_98 : decode cX12_init 98 = .ok (.iconst 4, 1) := by decide +kernel
theorem dX12_init_99 : decode cX12_init 99 = .ok (.iconst 2, 1) := by decide +kernel
theorem dX12_init_100 : decode cX12_init 100 = .ok (.iastore, 1) := by decide +kernel
theorem dX12_init_101 : decode cX12_init 101 = .ok (.return_, 1) := by decide +kernel
theorem ko_X12 : Cond.methodLink RX12 3 Lib.objectInit ∈ TB := tb_at 1226 (by decide +kernel) (by decide +kernel)
theorem ff_X12_0 : mFf RX12 11 0 true (.array .int) := fun _ _ _ h => by cases h; exact ⟨rfl, by decide +kernel, rfl⟩
theorem ff_X12_1 : mFf RX12 11 1 true (.array .int) := fun _ _ _ h => by cases h; exact ⟨rfl, by decide +kernel, rfl⟩
theorem ka_byte : Cond.arrayClass .byte ∈ TB := tb_at 950 (by decide +kernel) (by decide +kernel)
theorem ff_X12_3 : mFf RX12 11 3 true (.array .byte) := fun _ _ _ h => by cases h; exact ⟨rfl, by decide +kernel, rfl⟩
theorem kw_1233 : Cond.fieldLink "FrequencyShelfModel" 20 "FrequencyShelfModel" "written" "[I" ∈ TB := tb_at 1233 (by decide +kernel) (by decide +kernel)
theorem fl_X12_20 : mF RX12 20 11 6 := ⟨RX12, TX12, 14, tyX12, rfl, by decide, in_X12, kw_1233, tyX12_ok, nmX12⟩
theorem ff_X12_6 : mFf RX12 11 6 true (.array .int) := fun _ _ _ h => by cases h; exact ⟨rfl, by decide +kernel, rfl⟩
theorem ff_X12_8 : mFf RX12 11 8 true (.array .int) := fun _ _ _ h => by cases h; exact ⟨rfl, by decide +kernel, rfl⟩
theorem ff_X12_10 : mFf RX12 11 10 true (.array .int) := fun _ _ _ h => by cases h; exact ⟨rfl, by decide +kernel, rfl⟩
theorem ff_X12_11 : mFf RX12 11 11 true (.array .int) := fun _ _ _ h => by cases h; exact ⟨rfl, by decide +kernel, rfl⟩
theorem ff_X12_12 : mFf RX12 11 12 true (.array .int) := fun _ _ _ h => by cases h; exact ⟨rfl, by decide +kernel, rfl⟩
theorem ff_X12_13 : mFf RX12 11 13 true (.array .int) := fun _ _ _ h => by cases h; exact ⟨rfl, by decide +kernel, rfl⟩
theorem mx1 {n : Nat} (h : 1 ≤ n) (hn : n < 2 ^ 31) : (if (1 : Int32) < nI n then nI n else 1) = nI n := by
  by_cases q : n = 1
  · subst q; rfl
  · have h1 : (1 : Int32) < nI n := nI_lt (a := 1) (by omega) hn
    rw [if_pos h1]
set_option maxHeartbeats 4000000 in
set_option maxRecDepth 100000 in
theorem c_X9_init (E : mE) (l : Launch) (h : Nat) (x1 x2 : Int32) (dm dw : Nat) (hd : tb_dim dm dw) (ex1 : x1 = nI dm) (ex2 : x2 = nI dw) : MX E l yX9_init cX9_init 3 none ({ frames := 1, cells := 1, slots := (dm * dw), locals := 21 } : Room) [.ref h, .int x1, .int x2] [(h, .inr (8, [.int 0, .int 0, .null, .int 0]))] (fun (v : Option Value) (w' : va_W) => v = none ∧ ∃ (q1 : Nat), w' = [(h, .inr (8, [.int (nI dm), .int (nI dw), .ref q1, .int 0])), (q1, .inl (E.2.1, (dm * dw), .inl (fun _ => 0)))]) := by
  subst ex1
  subst ex2
  have hmax1 : (if (1 : Int32) < nI dm then nI dm else 1) = nI dm := mx1 hd.1 (nI_big hd (Nat.le_refl _))
  have hmax2 : (if (1 : Int32) < nI dw then nI dw else 1) = nI dw := mx1 hd.2.1 (nI_bigw hd)
  have hlt : dm * dw < 65536 := hd.2.2
  have hmul0 : ¬ nI dm * nI dw < 0 := by rw [pk_mul]; exact nI_pos (by omega)
  have hmul1 : (nI dm * nI dw).toNatClampNeg = dm * dw := by rw [pk_mul]; exact nI_clamp (by omega)
  have hmul2 : dm * dw ≤ 100000 := by omega
  refine mx_intro (by decide +kernel) (Nat.le_of_ble_eq_true rfl) ?_
  intro p e s m args below meth c A Q ls B w hl
  obtain ⟨hx, hb, hml, hown, hts⟩ := id B.1
  have w : mW E A s [(h, .inr (8, [.int 0, .int 0, .null, .int 0]))] s.heap [] := w
  refine lv_aload_n hx hb dX9_init_0 rfl (lv_at hl 0 rfl) ?_
  refine mx_obj B ko_X9 ko_inst ko_code hl.1 dX9_init_1 (Nat.le_of_ble_eq_true rfl) (Nat.le_of_ble_eq_true rfl) ?_
  refine lv_aload_n hx hb dX9_init_4 rfl (lv_at hl 0 rfl) ?_
  refine lv_iconst (v := 1) hx hb dX9_init_5 (by decide) ?_
  refine lv_iload_n hx hb dX9_init_6 rfl (lv_at hl 1 rfl) ?_
  refine va_mmax hx hb (by rw [hml]; exact hl.1.symm) hown (hts _ kl_max_X9) (hts _ kw_static_max) (hts _ kw_init_math) (hts _ kw_code_max) (Nat.le_of_ble_eq_true rfl) (Nat.le_of_ble_eq_true rfl) (Nat.zero_le _) (Nat.zero_le _) dX9_init_7 ?_
  refine W.eq (g2 := F0 m 10 ls [.int (nI dm), .ref h]) (by rw [hmax1]) ?_
  refine mx_putF B w 0 fl_X9_15 ff_X9_0 rfl rfl (Nat.le_of_ble_eq_true rfl) rfl rfl dX9_init_10 (fun H locs w => ?_)
  have w : mW E A s [(h, .inr (8, [.int (nI dm), .int 0, .null, .int 0]))] _ _ := w
  refine lv_aload_n hx hb dX9_init_13 rfl (lv_at hl 0 rfl) ?_
  refine lv_iconst (v := 1) hx hb dX9_init_14 (by decide) ?_
  refine lv_iload_n hx hb dX9_init_15 rfl (lv_at hl 2 rfl) ?_
  refine va_mmax hx hb (by rw [hml]; exact hl.1.symm) hown (hts _ kl_max_X9) (hts _ kw_static_max) (hts _ kw_init_math) (hts _ kw_code_max) (Nat.le_of_ble_eq_true rfl) (Nat.le_of_ble_eq_true rfl) (Nat.zero_le _) (Nat.zero_le _) dX9_init_16 ?_
  refine W.eq (g2 := F0 m 19 ls [.int (nI dw), .ref h]) (by rw [hmax2]) ?_
  refine mx_putF B w 0 fl_X9_21 ff_X9_1 rfl rfl (Nat.le_of_ble_eq_true rfl) rfl rfl dX9_init_19 (fun H locs w => ?_)
  have w : mW E A s [(h, .inr (8, [.int (nI dm), .int (nI dw), .null, .int 0]))] _ _ := w
  refine lv_aload_n hx hb dX9_init_22 rfl (lv_at hl 0 rfl) ?_
  refine lv_aload_n hx hb dX9_init_23 rfl (lv_at hl 0 rfl) ?_
  refine mx_get B w 0 fl_X9_15 rfl rfl dX9_init_24 ?_
  refine lv_aload_n hx hb dX9_init_27 rfl (lv_at hl 0 rfl) ?_
  refine mx_get B w 0 fl_X9_21 rfl rfl dX9_init_28 ?_
  refine lv_imul hx hb dX9_init_31 ?_
  refine mx_newi B w (N' := (dm * dw)) ka_int hmul0 hmul1 hmul2 (Nat.le_of_ble_eq_true rfl) (by show _ ≤ ((dm * dw) : Nat); omega) dX9_init_32 (fun q1 H w => ?_)
  have w : mW E A s [(h, .inr (8, [.int (nI dm), .int (nI dw), .null, .int 0])), (q1, .inl (E.2.1, (dm * dw), .inl (fun _ => 0)))] _ _ := w
  refine W.widen (k := 1) (n := (dm * dw)) (by omega) (by omega) ?_
  refine mx_putF B w 0 fl_X9_24 ff_X9_2 rfl rfl (Nat.le_of_ble_eq_true rfl) rfl rfl dX9_init_34 (fun H locs w => ?_)
  have w : mW E A s [(h, .inr (8, [.int (nI dm), .int (nI dw), .ref q1, .int 0])), (q1, .inl (E.2.1, (dm * dw), .inl (fun _ => 0)))] _ _ := w
  refine lv_aload_n hx hb dX9_init_37 rfl (lv_at hl 0 rfl) ?_
  refine lv_iconst (v := 0) hx hb dX9_init_38 (by decide) ?_
  refine mx_putv B w 0 fl_X9_28 ff_X9_3 rfl (Nat.le_of_ble_eq_true rfl) rfl rfl dX9_init_39 (fun H locs w => ?_)
  have w : mW E A s [(h, .inr (8, [.int (nI dm), .int (nI dw), .ref q1, .int 0])), (q1, .inl (E.2.1, (dm * dw), .inl (fun _ => 0)))] _ _ := w
  exact mx_vret B w ⟨rfl, _, rfl⟩ dX9_init_42

set_option maxHeartbeats 4000000 in
set_option maxRecDepth 100000 in
theorem c_X5_init (E : mE) (l : Launch) (h : Nat)  : MX E l yX5_init cX5_init 1 none ({ frames := 1, cells := 1, slots := 8, locals := 20 } : Room) [.ref h] [(h, .inr (4, [.null, .int 0]))] (fun (v : Option Value) (w' : va_W) => v = none ∧ ∃ (q1 : Nat), w' = [(h, .inr (4, [.ref q1, .int 0])), (q1, .inl (E.2.1, 8, .inl (upd (upd (upd (upd (upd (upd (upd (upd (fun _ => 0) 0 20) 1 16) 2 0) 3 0) 4 2) 5 0) 6 0) 7 0)))]) := by
  refine mx_intro (by decide +kernel) (Nat.le_of_ble_eq_true rfl) ?_
  intro p e s m args below meth c A Q ls B w hl
  obtain ⟨hx, hb, hml, hown, hts⟩ := id B.1
  have w : mW E A s [(h, .inr (4, [.null, .int 0]))] s.heap [] := w
  refine lv_aload_n hx hb dX5_init_0 rfl (lv_at hl 0 rfl) ?_
  refine mx_obj B ko_X5 ko_inst ko_code hl.1 dX5_init_1 (Nat.le_of_ble_eq_true rfl) (Nat.le_of_ble_eq_true rfl) ?_
  refine lv_aload_n hx hb dX5_init_4 rfl (lv_at hl 0 rfl) ?_
  refine lv_bipush (v := 8) hx hb dX5_init_5 (by decide) ?_
  refine mx_newi B w (N' := 8) ka_int (by decide) (by decide) (Nat.le_of_ble_eq_true rfl) (Nat.le_of_ble_eq_true rfl) (Nat.le_of_ble_eq_true rfl) dX5_init_7 (fun q1 H w => ?_)
  have w : mW E A s [(h, .inr (4, [.null, .int 0])), (q1, .inl (E.2.1, 8, .inl (fun _ => 0)))] _ _ := w
  refine W.widen (k := 1) (n := 8) (by omega) (by omega) ?_
  refine lv_dup hx hb dX5_init_9 rfl ?_
  refine lv_iconst (v := 0) hx hb dX5_init_10 (by decide) ?_
  refine lv_bipush (v := 20) hx hb dX5_init_11 (by decide) ?_
  refine mx_iast B w 1 rfl (vp_in_nI (n := 0) (by decide) (by decide)) dX5_init_13 (fun fx H locs ev w => ?_)
  have ev : fx = (upd (fun _ => 0) 0 20) := ev
  subst ev
  have w : mW E A s [(h, .inr (4, [.null, .int 0])), (q1, .inl (E.2.1, 8, .inl (upd (fun _ => 0) 0 20)))] _ _ := w
  refine lv_dup hx hb dX5_init_14 rfl ?_
  refine lv_iconst (v := 1) hx hb dX5_init_15 (by decide) ?_
  refine lv_bipush (v := 16) hx hb dX5_init_16 (by decide) ?_
  refine mx_iast B w 1 rfl (vp_in_nI (n := 1) (by decide) (by decide)) dX5_init_18 (fun fx H locs ev w => ?_)
  have ev : fx = (upd (upd (fun _ => 0) 0 20) 1 16) := ev
  subst ev
  have w : mW E A s [(h, .inr (4, [.null, .int 0])), (q1, .inl (E.2.1, 8, .inl (upd (upd (fun _ => 0) 0 20) 1 16)))] _ _ := w
  refine lv_dup hx hb dX5_init_19 rfl ?_
  refine lv_iconst (v := 2) hx hb dX5_init_20 (by decide) ?_
  refine lv_iconst (v := 0) hx hb dX5_init_21 (by decide) ?_
  refine mx_iast B w 1 rfl (vp_in_nI (n := 2) (by decide) (by decide)) dX5_init_22 (fun fx H locs ev w => ?_)
  have ev : fx = (upd (upd (upd (fun _ => 0) 0 20) 1 16) 2 0) := ev
  subst ev
  have w : mW E A s [(h, .inr (4, [.null, .int 0])), (q1, .inl (E.2.1, 8, .inl (upd (upd (upd (fun _ => 0) 0 20) 1 16) 2 0)))] _ _ := w
  refine lv_dup hx hb dX5_init_23 rfl ?_
  refine lv_iconst (v := 3) hx hb dX5_init_24 (by decide) ?_
  refine lv_iconst (v := 0) hx hb dX5_init_25 (by decide) ?_
  refine mx_iast B w 1 rfl (vp_in_nI (n := 3) (by decide) (by decide)) dX5_init_26 (fun fx H locs ev w => ?_)
  have ev : fx = (upd (upd (upd (upd (fun _ => 0) 0 20) 1 16) 2 0) 3 0) := ev
  subst ev
  have w : mW E A s [(h, .inr (4, [.null, .int 0])), (q1, .inl (E.2.1, 8, .inl (upd (upd (upd (upd (fun _ => 0) 0 20) 1 16) 2 0) 3 0)))] _ _ := w
  refine lv_dup hx hb dX5_init_27 rfl ?_
  refine lv_iconst (v := 4) hx hb dX5_init_28 (by decide) ?_
  refine lv_iconst (v := 2) hx hb dX5_init_29 (by decide) ?_
  refine mx_iast B w 1 rfl (vp_in_nI (n := 4) (by decide) (by decide)) dX5_init_30 (fun fx H locs ev w => ?_)
  have ev : fx = (upd (upd (upd (upd (upd (fun _ => 0) 0 20) 1 16) 2 0) 3 0) 4 2) := ev
  subst ev
  have w : mW E A s [(h, .inr (4, [.null, .int 0])), (q1, .inl (E.2.1, 8, .inl (upd (upd (upd (upd (upd (fun _ => 0) 0 20) 1 16) 2 0) 3 0) 4 2)))] _ _ := w
  refine lv_dup hx hb dX5_init_31 rfl ?_
  refine lv_iconst (v := 5) hx hb dX5_init_32 (by decide) ?_
  refine lv_iconst (v := 0) hx hb dX5_init_33 (by decide) ?_
  refine mx_iast B w 1 rfl (vp_in_nI (n := 5) (by decide) (by decide)) dX5_init_34 (fun fx H locs ev w => ?_)
  have ev : fx = (upd (upd (upd (upd (upd (upd (fun _ => 0) 0 20) 1 16) 2 0) 3 0) 4 2) 5 0) := ev
  subst ev
  have w : mW E A s [(h, .inr (4, [.null, .int 0])), (q1, .inl (E.2.1, 8, .inl (upd (upd (upd (upd (upd (upd (fun _ => 0) 0 20) 1 16) 2 0) 3 0) 4 2) 5 0)))] _ _ := w
  refine lv_dup hx hb dX5_init_35 rfl ?_
  refine lv_bipush (v := 6) hx hb dX5_init_36 (by decide) ?_
  refine lv_iconst (v := 0) hx hb dX5_init_38 (by decide) ?_
  refine mx_iast B w 1 rfl (vp_in_nI (n := 6) (by decide) (by decide)) dX5_init_39 (fun fx H locs ev w => ?_)
  have ev : fx = (upd (upd (upd (upd (upd (upd (upd (fun _ => 0) 0 20) 1 16) 2 0) 3 0) 4 2) 5 0) 6 0) := ev
  subst ev
  have w : mW E A s [(h, .inr (4, [.null, .int 0])), (q1, .inl (E.2.1, 8, .inl (upd (upd (upd (upd (upd (upd (upd (fun _ => 0) 0 20) 1 16) 2 0) 3 0) 4 2) 5 0) 6 0)))] _ _ := w
  refine lv_dup hx hb dX5_init_40 rfl ?_
  refine lv_bipush (v := 7) hx hb dX5_init_41 (by decide) ?_
  refine lv_iconst (v := 0) hx hb dX5_init_43 (by decide) ?_
  refine mx_iast B w 1 rfl (vp_in_nI (n := 7) (by decide) (by decide)) dX5_init_44 (fun fx H locs ev w => ?_)
  have ev : fx = (upd (upd (upd (upd (upd (upd (upd (upd (fun _ => 0) 0 20) 1 16) 2 0) 3 0) 4 2) 5 0) 6 0) 7 0) := ev
  subst ev
  have w : mW E A s [(h, .inr (4, [.null, .int 0])), (q1, .inl (E.2.1, 8, .inl (upd (upd (upd (upd (upd (upd (upd (upd (fun _ => 0) 0 20) 1 16) 2 0) 3 0) 4 2) 5 0) 6 0) 7 0)))] _ _ := w
  refine mx_putF B w 0 fl_X5_7 ff_X5_0 rfl rfl (Nat.le_of_ble_eq_true rfl) rfl rfl dX5_init_45 (fun H locs w => ?_)
  have w : mW E A s [(h, .inr (4, [.ref q1, .int 0])), (q1, .inl (E.2.1, 8, .inl (upd (upd (upd (upd (upd (upd (upd (upd (fun _ => 0) 0 20) 1 16) 2 0) 3 0) 4 2) 5 0) 6 0) 7 0)))] _ _ := w
  refine lv_aload_n hx hb dX5_init_48 rfl (lv_at hl 0 rfl) ?_
  refine lv_iconst (v := 0) hx hb dX5_init_49 (by decide) ?_
  refine mx_putv B w 0 fl_X5_13 ff_X5_1 rfl (Nat.le_of_ble_eq_true rfl) rfl rfl dX5_init_50 (fun H locs w => ?_)
  have w : mW E A s [(h, .inr (4, [.ref q1, .int 0])), (q1, .inl (E.2.1, 8, .inl (upd (upd (upd (upd (upd (upd (upd (upd (fun _ => 0) 0 20) 1 16) 2 0) 3 0) 4 2) 5 0) 6 0) 7 0)))] _ _ := w
  exact mx_vret B w ⟨rfl, _, rfl⟩ dX5_init_53

set_option maxHeartbeats 4000000 in
set_option maxRecDepth 100000 in
theorem c_X7_init (E : mE) (l : Launch) (h : Nat)  : MX E l yX7_init cX7_init 1 none ({ frames := 1, cells := 1, slots := 64, locals := 20 } : Room) [.ref h] [(h, .inr (6, [.null]))] (fun (v : Option Value) (w' : va_W) => v = none ∧ ∃ (q1 : Nat), w' = [(h, .inr (6, [.ref q1])), (q1, .inl (E.2.1, 64, .inl (fun _ => 0)))]) := by
  refine mx_intro (by decide +kernel) (Nat.le_of_ble_eq_true rfl) ?_
  intro p e s m args below meth c A Q ls B w hl
  obtain ⟨hx, hb, hml, hown, hts⟩ := id B.1
  have w : mW E A s [(h, .inr (6, [.null]))] s.heap [] := w
  refine lv_aload_n hx hb dX7_init_0 rfl (lv_at hl 0 rfl) ?_
  refine mx_obj B ko_X7 ko_inst ko_code hl.1 dX7_init_1 (Nat.le_of_ble_eq_true rfl) (Nat.le_of_ble_eq_true rfl) ?_
  refine lv_aload_n hx hb dX7_init_4 rfl (lv_at hl 0 rfl) ?_
  refine lv_bipush (v := 64) hx hb dX7_init_5 (by decide) ?_
  refine mx_newi B w (N' := 64) ka_int (by decide) (by decide) (Nat.le_of_ble_eq_true rfl) (Nat.le_of_ble_eq_true rfl) (Nat.le_of_ble_eq_true rfl) dX7_init_7 (fun q1 H w => ?_)
  have w : mW E A s [(h, .inr (6, [.null])), (q1, .inl (E.2.1, 64, .inl (fun _ => 0)))] _ _ := w
  refine W.widen (k := 1) (n := 64) (by omega) (by omega) ?_
  refine mx_putF B w 0 fl_X7_9 ff_X7_0 rfl rfl (Nat.le_of_ble_eq_true rfl) rfl rfl dX7_init_9 (fun H locs w => ?_)
  have w : mW E A s [(h, .inr (6, [.ref q1])), (q1, .inl (E.2.1, 64, .inl (fun _ => 0)))] _ _ := w
  exact mx_vret B w ⟨rfl, _, rfl⟩ dX7_init_12

set_option maxHeartbeats 4000000 in
set_option maxRecDepth 100000 in
theorem c_X10_init (E : mE) (l : Launch) (h : Nat)  : MX E l yX10_init cX10_init 1 none ({ frames := 1, cells := 1, slots := 60, locals := 20 } : Room) [.ref h] [(h, .inr (9, [.null, .int 0]))] (fun (v : Option Value) (w' : va_W) => v = none ∧ ∃ (q1 : Nat), w' = [(h, .inr (9, [.ref q1, .int 0])), (q1, .inl (E.2.1, 60, .inl (fun _ => 0)))]) := by
  refine mx_intro (by decide +kernel) (Nat.le_of_ble_eq_true rfl) ?_
  intro p e s m args below meth c A Q ls B w hl
  obtain ⟨hx, hb, hml, hown, hts⟩ := id B.1
  have w : mW E A s [(h, .inr (9, [.null, .int 0]))] s.heap [] := w
  refine lv_aload_n hx hb dX10_init_0 rfl (lv_at hl 0 rfl) ?_
  refine mx_obj B ko_X10 ko_inst ko_code hl.1 dX10_init_1 (Nat.le_of_ble_eq_true rfl) (Nat.le_of_ble_eq_true rfl) ?_
  refine lv_aload_n hx hb dX10_init_4 rfl (lv_at hl 0 rfl) ?_
  refine lv_bipush (v := 60) hx hb dX10_init_5 (by decide) ?_
  refine mx_newi B w (N' := 60) ka_int (by decide) (by decide) (Nat.le_of_ble_eq_true rfl) (Nat.le_of_ble_eq_true rfl) (Nat.le_of_ble_eq_true rfl) dX10_init_7 (fun q1 H w => ?_)
  have w : mW E A s [(h, .inr (9, [.null, .int 0])), (q1, .inl (E.2.1, 60, .inl (fun _ => 0)))] _ _ := w
  refine W.widen (k := 1) (n := 60) (by omega) (by omega) ?_
  refine mx_putF B w 0 fl_X10_11 ff_X10_0 rfl rfl (Nat.le_of_ble_eq_true rfl) rfl rfl dX10_init_9 (fun H locs w => ?_)
  have w : mW E A s [(h, .inr (9, [.ref q1, .int 0])), (q1, .inl (E.2.1, 60, .inl (fun _ => 0)))] _ _ := w
  refine lv_aload_n hx hb dX10_init_12 rfl (lv_at hl 0 rfl) ?_
  refine lv_iconst (v := 0) hx hb dX10_init_13 (by decide) ?_
  refine mx_putv B w 0 fl_X10_15 ff_X10_1 rfl (Nat.le_of_ble_eq_true rfl) rfl rfl dX10_init_14 (fun H locs w => ?_)
  have w : mW E A s [(h, .inr (9, [.ref q1, .int 0])), (q1, .inl (E.2.1, 60, .inl (fun _ => 0)))] _ _ := w
  exact mx_vret B w ⟨rfl, _, rfl⟩ dX10_init_17

set_option maxHeartbeats 4000000 in
set_option maxRecDepth 100000 in
theorem c_X4_init (E : mE) (l : Launch) (h : Nat)  : MX E l yX4_init cX4_init 1 none ({ frames := 2, cells := 2, slots := 40, locals := 43 } : Room) [.ref h] [(h, .inr (3, [.null]))] (fun (v : Option Value) (w' : va_W) => v = none ∧ ∃ (q1 : Nat) (q2 : Nat), w' = [(h, .inr (3, [.ref q1])), (q1, .inr (8, [.int (nI 12), .int (nI 3), .ref q2, .int 0])), (q2, .inl (E.2.1, (12 * 3), .inl (fun _ => 0)))]) := by
  refine mx_intro (by decide +kernel) (Nat.le_of_ble_eq_true rfl) ?_
  intro p e s m args below meth c A Q ls B w hl
  obtain ⟨hx, hb, hml, hown, hts⟩ := id B.1
  have w : mW E A s [(h, .inr (3, [.null]))] s.heap [] := w
  refine lv_aload_n hx hb dX4_init_0 rfl (lv_at hl 0 rfl) ?_
  refine mx_obj B ko_X4 ko_inst ko_code hl.1 dX4_init_1 (Nat.le_of_ble_eq_true rfl) (Nat.le_of_ble_eq_true rfl) ?_
  refine lv_aload_n hx hb dX4_init_4 rfl (lv_at hl 0 rfl) ?_
  refine mx_new (fs := [.int 0, .int 0, .null, .int 0]) B w (ci := 8) (C := RX9) (T := TX9) (N := 4) rfl in_X9 tyX9 tyX9_ok kw_137 kw_110 kw_65 (fun j hj => by rcases (show j = 0 ∨ j = 1 ∨ j = 2 ∨ j = 3 by omega) with rfl | rfl | rfl | rfl <;> rfl) (Nat.le_of_ble_eq_true rfl) (Nat.le_of_ble_eq_true rfl) dX4_init_5 (fun q1 H w => ?_)
  have w : mW E A s [(h, .inr (3, [.null])), (q1, .inr (8, [.int 0, .int 0, .null, .int 0]))] _ _ := w
  refine W.widen (k := 1) (n := 4) (by omega) (by omega) ?_
  refine lv_dup hx hb dX4_init_8 rfl ?_
  refine lv_bipush (v := 12) hx hb dX4_init_9 (by decide) ?_
  refine lv_iconst (v := 3) hx hb dX4_init_11 (by decide) ?_
  refine mx_callI (As := [.int 12, .int 3]) (rest := [.ref q1, .ref h]) (wr := [(h, .inr (3, [.null]))]) (cells2 := 2) (slots2 := 40) (c_X9_init E l q1 12 3 12 3 (by unfold tb_dim; decide) rfl rfl) B w [1] [0] rfl rfl (by decide) (by decide) (by decide) ⟨kw_113, kw_112, kw_65⟩ kw_138 2 rfl (by decide +kernel) ⟨Nat.le_of_ble_eq_true rfl, Nat.le_of_ble_eq_true rfl⟩ rfl hl.1 rfl (Nat.le_of_ble_eq_true rfl) dX4_init_12 rfl rfl ⟨(Nat.le_of_ble_eq_true rfl), (Nat.le_of_ble_eq_true rfl)⟩ (fun v w' H locs hpo w => ?_)
  obtain ⟨rfl, q2, rfl⟩ := hpo
  have w : mW E A s [(h, .inr (3, [.null])), (q1, .inr (8, [.int (nI 12), .int (nI 3), .ref q2, .int 0])), (q2, .inl (E.2.1, (12 * 3), .inl (fun _ => 0)))] _ _ := w
  refine mx_putF B w 0 fl_X4_14 ff_X4_0 rfl rfl (Nat.le_of_ble_eq_true rfl) rfl rfl dX4_init_15 (fun H locs w => ?_)
  have w : mW E A s [(h, .inr (3, [.ref q1])), (q1, .inr (8, [.int (nI 12), .int (nI 3), .ref q2, .int 0])), (q2, .inl (E.2.1, (12 * 3), .inl (fun _ => 0)))] _ _ := w
  exact mx_vret B w ⟨rfl, _, _, rfl⟩ dX4_init_18

set_option maxHeartbeats 4000000 in
set_option maxRecDepth 100000 in
theorem c_X0_init (E : mE) (l : Launch) (h : Nat) (x1 : Int32) (hr : Nat) (dm : Nat) (hd : tb_dim dm 9) (ex1 : x1 = nI dm) : MX E l yX0_init cX0_init 3 none ({ frames := 2, cells := 2, slots := 4 + dm * 9, locals := 43 } : Room) [.ref h, .int x1, .ref hr] [(h, .inr (0, [.null, .null]))] (fun (v : Option Value) (w' : va_W) => v = none ∧ ∃ (q1 : Nat) (q2 : Nat), w' = [(h, .inr (0, [.ref hr, .ref q1])), (q1, .inr (8, [.int (nI dm), .int (nI 9), .ref q2, .int 0])), (q2, .inl (E.2.1, (dm * 9), .inl (fun _ => 0)))]) := by
  refine mx_intro (by decide +kernel) (Nat.le_of_ble_eq_true rfl) ?_
  intro p e s m args below meth c A Q ls B w hl
  obtain ⟨hx, hb, hml, hown, hts⟩ := id B.1
  have w : mW E A s [(h, .inr (0, [.null, .null]))] s.heap [] := w
  refine lv_aload_n hx hb dX0_init_0 rfl (lv_at hl 0 rfl) ?_
  refine mx_obj B ko_X0 ko_inst ko_code hl.1 dX0_init_1 (Nat.le_of_ble_eq_true rfl) (Nat.le_of_ble_eq_true rfl) ?_
  refine lv_aload_n hx hb dX0_init_4 rfl (lv_at hl 0 rfl) ?_
  refine lv_aload_n hx hb dX0_init_5 rfl (lv_at hl 2 rfl) ?_
  refine mx_putF B w 0 fl_X0_9 ff_X0_0 rfl rfl (Nat.le_of_ble_eq_true rfl) rfl rfl dX0_init_6 (fun H locs w => ?_)
  have w : mW E A s [(h, .inr (0, [.ref hr, .null]))] _ _ := w
  refine lv_aload_n hx hb dX0_init_9 rfl (lv_at hl 0 rfl) ?_
  refine mx_new (fs := [.int 0, .int 0, .null, .int 0]) B w (ci := 8) (C := RX9) (T := TX9) (N := 4) rfl in_X9 tyX9 tyX9_ok kw_208 kw_110 kw_65 (fun j hj => by rcases (show j = 0 ∨ j = 1 ∨ j = 2 ∨ j = 3 by omega) with rfl | rfl | rfl | rfl <;> rfl) (Nat.le_of_ble_eq_true rfl) (by show _ ≤ (4 + dm * 9 : Nat); omega) dX0_init_10 (fun q1 H w => ?_)
  have w : mW E A s [(h, .inr (0, [.ref hr, .null])), (q1, .inr (8, [.int 0, .int 0, .null, .int 0]))] _ _ := w
  refine W.widen (k := 1) (n := 4) (by omega) (by omega) ?_
  refine lv_dup hx hb dX0_init_13 rfl ?_
  refine lv_iload_n hx hb dX0_init_14 rfl (lv_at hl 1 rfl) ?_
  refine lv_bipush (v := 9) hx hb dX0_init_15 (by decide) ?_
  refine mx_callI (As := [.int x1, .int 9]) (rest := [.ref q1, .ref h]) (wr := [(h, .inr (0, [.ref hr, .null]))]) (cells2 := 2) (slots2 := 4 + dm * 9) (c_X9_init E l q1 x1 9 dm 9 hd ex1 rfl) B w [1] [0] rfl rfl (by decide) (by decide) (by decide) ⟨kw_113, kw_112, kw_65⟩ kw_209 2 rfl (by decide +kernel) ⟨Nat.le_of_ble_eq_true rfl, Nat.le_of_ble_eq_true rfl⟩ rfl hl.1 rfl (Nat.le_of_ble_eq_true rfl) dX0_init_17 rfl (by show _ + (dm * 9 : Nat) = _; omega) ⟨(Nat.le_of_ble_eq_true rfl), (by show _ ≤ (4 + dm * 9 : Nat); omega)⟩ (fun v w' H locs hpo w => ?_)
  obtain ⟨rfl, q2, rfl⟩ := hpo
  have w : mW E A s [(h, .inr (0, [.ref hr, .null])), (q1, .inr (8, [.int (nI dm), .int (nI 9), .ref q2, .int 0])), (q2, .inl (E.2.1, (dm * 9), .inl (fun _ => 0)))] _ _ := w
  refine mx_putF B w 0 fl_X0_20 ff_X0_1 rfl rfl (Nat.le_of_ble_eq_true rfl) rfl rfl dX0_init_20 (fun H locs w => ?_)
  have w : mW E A s [(h, .inr (0, [.ref hr, .ref q1])), (q1, .inr (8, [.int (nI dm), .int (nI 9), .ref q2, .int 0])), (q2, .inl (E.2.1, (dm * 9), .inl (fun _ => 0)))] _ _ := w
  exact mx_vret B w ⟨rfl, _, _, rfl⟩ dX0_init_23

set_option maxHeartbeats 4000000 in
set_option maxRecDepth 100000 in
theorem c_X2_init (E : mE) (l : Launch) (h : Nat) (hr : Nat) : MX E l yX2_init cX2_init 2 none ({ frames := 2, cells := 10, slots := 414, locals := 43 } : Room) [.ref h, .ref hr] [(h, .inr (1, [.null, .null, .null, .null, .null, .null, .null]))] (fun (v : Option Value) (w' : va_W) => v = none ∧ ∃ (q1 : Nat) (q2 : Nat) (q3 : Nat) (q4 : Nat) (q5 : Nat) (q6 : Nat) (q7 : Nat) (q8 : Nat) (q9 : Nat) (q10 : Nat), w' = [(h, .inr (1, [.ref hr, .ref q1, .ref q3, .ref q5, .ref q7, .ref q9, .ref q10])), (q1, .inr (8, [.int (nI 40), .int (nI 3), .ref q2, .int 0])), (q2, .inl (E.2.1, (40 * 3), .inl (fun _ => 0))), (q3, .inr (8, [.int (nI 60), .int (nI 1), .ref q4, .int 0])), (q4, .inl (E.2.1, (60 * 1), .inl (fun _ => 0))), (q5, .inr (8, [.int (nI 40), .int (nI 2), .ref q6, .int 0])), (q6, .inl (E.2.1, (40 * 2), .inl (fun _ => 0))), (q7, .inr (8, [.int (nI 60), .int (nI 1), .ref q8, .int 0])), (q8, .inl (E.2.1, (60 * 1), .inl (fun _ => 0))), (q9, .inl (E.2.1, 14, .inl (fun _ => 0))), (q10, .inl (E.2.1, 64, .inl (fun _ => 0)))]) := by
  refine mx_intro (by decide +kernel) (Nat.le_of_ble_eq_true rfl) ?_
  intro p e s m args below meth c A Q ls B w hl
  obtain ⟨hx, hb, hml, hown, hts⟩ := id B.1
  have w : mW E A s [(h, .inr (1, [.null, .null, .null, .null, .null, .null, .null]))] s.heap [] := w
  refine lv_aload_n hx hb dX2_init_0 rfl (lv_at hl 0 rfl) ?_
  refine mx_obj B ko_X2 ko_inst ko_code hl.1 dX2_init_1 (Nat.le_of_ble_eq_true rfl) (Nat.le_of_ble_eq_true rfl) ?_
  refine lv_aload_n hx hb dX2_init_4 rfl (lv_at hl 0 rfl) ?_
  refine lv_aload_n hx hb dX2_init_5 rfl (lv_at hl 1 rfl) ?_
  refine mx_putF B w 0 fl_X2_9 ff_X2_0 rfl rfl (Nat.le_of_ble_eq_true rfl) rfl rfl dX2_init_6 (fun H locs w => ?_)
  have w : mW E A s [(h, .inr (1, [.ref hr, .null, .null, .null, .null, .null, .null]))] _ _ := w
  refine lv_aload_n hx hb dX2_init_9 rfl (lv_at hl 0 rfl) ?_
  refine mx_new (fs := [.int 0, .int 0, .null, .int 0]) B w (ci := 8) (C := RX9) (T := TX9) (N := 4) rfl in_X9 tyX9 tyX9_ok kw_168 kw_110 kw_65 (fun j hj => by rcases (show j = 0 ∨ j = 1 ∨ j = 2 ∨ j = 3 by omega) with rfl | rfl | rfl | rfl <;> rfl) (Nat.le_of_ble_eq_true rfl) (Nat.le_of_ble_eq_true rfl) dX2_init_10 (fun q1 H w => ?_)
  have w : mW E A s [(h, .inr (1, [.ref hr, .null, .null, .null, .null, .null, .null])), (q1, .inr (8, [.int 0, .int 0, .null, .int 0]))] _ _ := w
  refine W.widen (k := 1) (n := 4) (by omega) (by omega) ?_
  refine lv_dup hx hb dX2_init_13 rfl ?_
  refine lv_bipush (v := 40) hx hb dX2_init_14 (by decide) ?_
  refine lv_iconst (v := 3) hx hb dX2_init_16 (by decide) ?_
  refine mx_callI (As := [.int 40, .int 3]) (rest := [.ref q1, .ref h]) (wr := [(h, .inr (1, [.ref hr, .null, .null, .null, .null, .null, .null]))]) (cells2 := 2) (slots2 := 124) (c_X9_init E l q1 40 3 40 3 (by unfold tb_dim; decide) rfl rfl) B w [1] [0] rfl rfl (by decide) (by decide) (by decide) ⟨kw_113, kw_112, kw_65⟩ kw_169 2 rfl (by decide +kernel) ⟨Nat.le_of_ble_eq_true rfl, Nat.le_of_ble_eq_true rfl⟩ rfl hl.1 rfl (Nat.le_of_ble_eq_true rfl) dX2_init_17 rfl rfl ⟨(Nat.le_of_ble_eq_true rfl), (Nat.le_of_ble_eq_true rfl)⟩ (fun v w' H locs hpo w => ?_)
  obtain ⟨rfl, q2, rfl⟩ := hpo
  have w : mW E A s [(h, .inr (1, [.ref hr, .null, .null, .null, .null, .null, .null])), (q1, .inr (8, [.int (nI 40), .int (nI 3), .ref q2, .int 0])), (q2, .inl (E.2.1, (40 * 3), .inl (fun _ => 0)))] _ _ := w
  refine mx_putF B w 0 fl_X2_20 ff_X2_1 rfl rfl (Nat.le_of_ble_eq_true rfl) rfl rfl dX2_init_20 (fun H locs w => ?_)
  have w : mW E A s [(h, .inr (1, [.ref hr, .ref q1, .null, .null, .null, .null, .null])), (q1, .inr (8, [.int (nI 40), .int (nI 3), .ref q2, .int 0])), (q2, .inl (E.2.1, (40 * 3), .inl (fun _ => 0)))] _ _ := w
  refine lv_aload_n hx hb dX2_init_23 rfl (lv_at hl 0 rfl) ?_
  refine mx_new (fs := [.int 0, .int 0, .null, .int 0]) B w (ci := 8) (C := RX9) (T := TX9) (N := 4) rfl in_X9 tyX9 tyX9_ok kw_168 kw_110 kw_65 (fun j hj => by rcases (show j = 0 ∨ j = 1 ∨ j = 2 ∨ j = 3 by omega) with rfl | rfl | rfl | rfl <;> rfl) (Nat.le_of_ble_eq_true rfl) (Nat.le_of_ble_eq_true rfl) dX2_init_24 (fun q3 H w => ?_)
  have w : mW E A s [(h, .inr (1, [.ref hr, .ref q1, .null, .null, .null, .null, .null])), (q1, .inr (8, [.int (nI 40), .int (nI 3), .ref q2, .int 0])), (q2, .inl (E.2.1, (40 * 3), .inl (fun _ => 0))), (q3, .inr (8, [.int 0, .int 0, .null, .int 0]))] _ _ := w
  refine W.widen (k := 3) (n := 128) (by omega) (by omega) ?_
  refine lv_dup hx hb dX2_init_27 rfl ?_
  refine lv_bipush (v := 60) hx hb dX2_init_28 (by decide) ?_
  refine lv_iconst (v := 1) hx hb dX2_init_30 (by decide) ?_
  refine mx_callI (As := [.int 60, .int 1]) (rest := [.ref q3, .ref h]) (wr := [(h, .inr (1, [.ref hr, .ref q1, .null, .null, .null, .null, .null])), (q1, .inr (8, [.int (nI 40), .int (nI 3), .ref q2, .int 0])), (q2, .inl (E.2.1, (40 * 3), .inl (fun _ => 0)))]) (cells2 := 4) (slots2 := 188) (c_X9_init E l q3 60 1 60 1 (by unfold tb_dim; decide) rfl rfl) B w [3] [0, 1, 2] rfl rfl (by decide) (by decide) (by decide) ⟨kw_113, kw_112, kw_65⟩ kw_169 2 rfl (by decide +kernel) ⟨Nat.le_of_ble_eq_true rfl, Nat.le_of_ble_eq_true rfl⟩ rfl hl.1 rfl (Nat.le_of_ble_eq_true rfl) dX2_init_31 rfl rfl ⟨(Nat.le_of_ble_eq_true rfl), (Nat.le_of_ble_eq_true rfl)⟩ (fun v w' H locs hpo w => ?_)
  obtain ⟨rfl, q4, rfl⟩ := hpo
  have w : mW E A s [(h, .inr (1, [.ref hr, .ref q1, .null, .null, .null, .null, .null])), (q1, .inr (8, [.int (nI 40), .int (nI 3), .ref q2, .int 0])), (q2, .inl (E.2.1, (40 * 3), .inl (fun _ => 0))), (q3, .inr (8, [.int (nI 60), .int (nI 1), .ref q4, .int 0])), (q4, .inl (E.2.1, (60 * 1), .inl (fun _ => 0)))] _ _ := w
  refine mx_putF B w 0 fl_X2_24 ff_X2_2 rfl rfl (Nat.le_of_ble_eq_true rfl) rfl rfl dX2_init_34 (fun H locs w => ?_)
  have w : mW E A s [(h, .inr (1, [.ref hr, .ref q1, .ref q3, .null, .null, .null, .null])), (q1, .inr (8, [.int (nI 40), .int (nI 3), .ref q2, .int 0])), (q2, .inl (E.2.1, (40 * 3), .inl (fun _ => 0))), (q3, .inr (8, [.int (nI 60), .int (nI 1), .ref q4, .int 0])), (q4, .inl (E.2.1, (60 * 1), .inl (fun _ => 0)))] _ _ := w
  refine lv_aload_n hx hb dX2_init_37 rfl (lv_at hl 0 rfl) ?_
  refine mx_new (fs := [.int 0, .int 0, .null, .int 0]) B w (ci := 8) (C := RX9) (T := TX9) (N := 4) rfl in_X9 tyX9 tyX9_ok kw_168 kw_110 kw_65 (fun j hj => by rcases (show j = 0 ∨ j = 1 ∨ j = 2 ∨ j = 3 by omega) with rfl | rfl | rfl | rfl <;> rfl) (Nat.le_of_ble_eq_true rfl) (Nat.le_of_ble_eq_true rfl) dX2_init_38 (fun q5 H w => ?_)
  have w : mW E A s [(h, .inr (1, [.ref hr, .ref q1, .ref q3, .null, .null, .null, .null])), (q1, .inr (8, [.int (nI 40), .int (nI 3), .ref q2, .int 0])), (q2, .inl (E.2.1, (40 * 3), .inl (fun _ => 0))), (q3, .inr (8, [.int (nI 60), .int (nI 1), .ref q4, .int 0])), (q4, .inl (E.2.1, (60 * 1), .inl (fun _ => 0))), (q5, .inr (8, [.int 0, .int 0, .null, .int 0]))] _ _ := w
  refine W.widen (k := 5) (n := 192) (by omega) (by omega) ?_
  refine lv_dup hx hb dX2_init_41 rfl ?_
  refine lv_bipush (v := 40) hx hb dX2_init_42 (by decide) ?_
  refine lv_iconst (v := 2) hx hb dX2_init_44 (by decide) ?_
  refine mx_callI (As := [.int 40, .int 2]) (rest := [.ref q5, .ref h]) (wr := [(h, .inr (1, [.ref hr, .ref q1, .ref q3, .null, .null, .null, .null])), (q1, .inr (8, [.int (nI 40), .int (nI 3), .ref q2, .int 0])), (q2, .inl (E.2.1, (40 * 3), .inl (fun _ => 0))), (q3, .inr (8, [.int (nI 60), .int (nI 1), .ref q4, .int 0])), (q4, .inl (E.2.1, (60 * 1), .inl (fun _ => 0)))]) (cells2 := 6) (slots2 := 272) (c_X9_init E l q5 40 2 40 2 (by unfold tb_dim; decide) rfl rfl) B w [5] [0, 1, 2, 3, 4] rfl rfl (by decide) (by decide) (by decide) ⟨kw_113, kw_112, kw_65⟩ kw_169 2 rfl (by decide +kernel) ⟨Nat.le_of_ble_eq_true rfl, Nat.le_of_ble_eq_true rfl⟩ rfl hl.1 rfl (Nat.le_of_ble_eq_true rfl) dX2_init_45 rfl rfl ⟨(Nat.le_of_ble_eq_true rfl), (Nat.le_of_ble_eq_true rfl)⟩ (fun v w' H locs hpo w => ?_)
  obtain ⟨rfl, q6, rfl⟩ := hpo
  have w : mW E A s [(h, .inr (1, [.ref hr, .ref q1, .ref q3, .null, .null, .null, .null])), (q1, .inr (8, [.int (nI 40), .int (nI 3), .ref q2, .int 0])), (q2, .inl (E.2.1, (40 * 3), .inl (fun _ => 0))), (q3, .inr (8, [.int (nI 60), .int (nI 1), .ref q4, .int 0])), (q4, .inl (E.2.1, (60 * 1), .inl (fun _ => 0))), (q5, .inr (8, [.int (nI 40), .int (nI 2), .ref q6, .int 0])), (q6, .inl (E.2.1, (40 * 2), .inl (fun _ => 0)))] _ _ := w
  refine mx_putF B w 0 fl_X2_27 ff_X2_3 rfl rfl (Nat.le_of_ble_eq_true rfl) rfl rfl dX2_init_48 (fun H locs w => ?_)
  have w : mW E A s [(h, .inr (1, [.ref hr, .ref q1, .ref q3, .ref q5, .null, .null, .null])), (q1, .inr (8, [.int (nI 40), .int (nI 3), .ref q2, .int 0])), (q2, .inl (E.2.1, (40 * 3), .inl (fun _ => 0))), (q3, .inr (8, [.int (nI 60), .int (nI 1), .ref q4, .int 0])), (q4, .inl (E.2.1, (60 * 1), .inl (fun _ => 0))), (q5, .inr (8, [.int (nI 40), .int (nI 2), .ref q6, .int 0])), (q6, .inl (E.2.1, (40 * 2), .inl (fun _ => 0)))] _ _ := w
  refine lv_aload_n hx hb dX2_init_51 rfl (lv_at hl 0 rfl) ?_
  refine mx_new (fs := [.int 0, .int 0, .null, .int 0]) B w (ci := 8) (C := RX9) (T := TX9) (N := 4) rfl in_X9 tyX9 tyX9_ok kw_168 kw_110 kw_65 (fun j hj => by rcases (show j = 0 ∨ j = 1 ∨ j = 2 ∨ j = 3 by omega) with rfl | rfl | rfl | rfl <;> rfl) (Nat.le_of_ble_eq_true rfl) (Nat.le_of_ble_eq_true rfl) dX2_init_52 (fun q7 H w => ?_)
  have w : mW E A s [(h, .inr (1, [.ref hr, .ref q1, .ref q3, .ref q5, .null, .null, .null])), (q1, .inr (8, [.int (nI 40), .int (nI 3), .ref q2, .int 0])), (q2, .inl (E.2.1, (40 * 3), .inl (fun _ => 0))), (q3, .inr (8, [.int (nI 60), .int (nI 1), .ref q4, .int 0])), (q4, .inl (E.2.1, (60 * 1), .inl (fun _ => 0))), (q5, .inr (8, [.int (nI 40), .int (nI 2), .ref q6, .int 0])), (q6, .inl (E.2.1, (40 * 2), .inl (fun _ => 0))), (q7, .inr (8, [.int 0, .int 0, .null, .int 0]))] _ _ := w
  refine W.widen (k := 7) (n := 276) (by omega) (by omega) ?_
  refine lv_dup hx hb dX2_init_55 rfl ?_
  refine lv_bipush (v := 60) hx hb dX2_init_56 (by decide) ?_
  refine lv_iconst (v := 1) hx hb dX2_init_58 (by decide) ?_
  refine mx_callI (As := [.int 60, .int 1]) (rest := [.ref q7, .ref h]) (wr := [(h, .inr (1, [.ref hr, .ref q1, .ref q3, .ref q5, .null, .null, .null])), (q1, .inr (8, [.int (nI 40), .int (nI 3), .ref q2, .int 0])), (q2, .inl (E.2.1, (40 * 3), .inl (fun _ => 0))), (q3, .inr (8, [.int (nI 60), .int (nI 1), .ref q4, .int 0])), (q4, .inl (E.2.1, (60 * 1), .inl (fun _ => 0))), (q5, .inr (8, [.int (nI 40), .int (nI 2), .ref q6, .int 0])), (q6, .inl (E.2.1, (40 * 2), .inl (fun _ => 0)))]) (cells2 := 8) (slots2 := 336) (c_X9_init E l q7 60 1 60 1 (by unfold tb_dim; decide) rfl rfl) B w [7] [0, 1, 2, 3, 4, 5, 6] rfl rfl (by decide) (by decide) (by decide) ⟨kw_113, kw_112, kw_65⟩ kw_169 2 rfl (by decide +kernel) ⟨Nat.le_of_ble_eq_true rfl, Nat.le_of_ble_eq_true rfl⟩ rfl hl.1 rfl (Nat.le_of_ble_eq_true rfl) dX2_init_59 rfl rfl ⟨(Nat.le_of_ble_eq_true rfl), (Nat.le_of_ble_eq_true rfl)⟩ (fun v w' H locs hpo w => ?_)
  obtain ⟨rfl, q8, rfl⟩ := hpo
  have w : mW E A s [(h, .inr (1, [.ref hr, .ref q1, .ref q3, .ref q5, .null, .null, .null])), (q1, .inr (8, [.int (nI 40), .int (nI 3), .ref q2, .int 0])), (q2, .inl (E.2.1, (40 * 3), .inl (fun _ => 0))), (q3, .inr (8, [.int (nI 60), .int (nI 1), .ref q4, .int 0])), (q4, .inl (E.2.1, (60 * 1), .inl (fun _ => 0))), (q5, .inr (8, [.int (nI 40), .int (nI 2), .ref q6, .int 0])), (q6, .inl (E.2.1, (40 * 2), .inl (fun _ => 0))), (q7, .inr (8, [.int (nI 60), .int (nI 1), .ref q8, .int 0])), (q8, .inl (E.2.1, (60 * 1), .inl (fun _ => 0)))] _ _ := w
  refine mx_putF B w 0 fl_X2_30 ff_X2_4 rfl rfl (Nat.le_of_ble_eq_true rfl) rfl rfl dX2_init_62 (fun H locs w => ?_)
  have w : mW E A s [(h, .inr (1, [.ref hr, .ref q1, .ref q3, .ref q5, .ref q7, .null, .null])), (q1, .inr (8, [.int (nI 40), .int (nI 3), .ref q2, .int 0])), (q2, .inl (E.2.1, (40 * 3), .inl (fun _ => 0))), (q3, .inr (8, [.int (nI 60), .int (nI 1), .ref q4, .int 0])), (q4, .inl (E.2.1, (60 * 1), .inl (fun _ => 0))), (q5, .inr (8, [.int (nI 40), .int (nI 2), .ref q6, .int 0])), (q6, .inl (E.2.1, (40 * 2), .inl (fun _ => 0))), (q7, .inr (8, [.int (nI 60), .int (nI 1), .ref q8, .int 0])), (q8, .inl (E.2.1, (60 * 1), .inl (fun _ => 0)))] _ _ := w
  refine lv_aload_n hx hb dX2_init_65 rfl (lv_at hl 0 rfl) ?_
  refine lv_bipush (v := 14) hx hb dX2_init_66 (by decide) ?_
  refine mx_newi B w (N' := 14) ka_int (by decide) (by decide) (Nat.le_of_ble_eq_true rfl) (Nat.le_of_ble_eq_true rfl) (Nat.le_of_ble_eq_true rfl) dX2_init_68 (fun q9 H w => ?_)
  have w : mW E A s [(h, .inr (1, [.ref hr, .ref q1, .ref q3, .ref q5, .ref q7, .null, .null])), (q1, .inr (8, [.int (nI 40), .int (nI 3), .ref q2, .int 0])), (q2, .inl (E.2.1, (40 * 3), .inl (fun _ => 0))), (q3, .inr (8, [.int (nI 60), .int (nI 1), .ref q4, .int 0])), (q4, .inl (E.2.1, (60 * 1), .inl (fun _ => 0))), (q5, .inr (8, [.int (nI 40), .int (nI 2), .ref q6, .int 0])), (q6, .inl (E.2.1, (40 * 2), .inl (fun _ => 0))), (q7, .inr (8, [.int (nI 60), .int (nI 1), .ref q8, .int 0])), (q8, .inl (E.2.1, (60 * 1), .inl (fun _ => 0))), (q9, .inl (E.2.1, 14, .inl (fun _ => 0)))] _ _ := w
  refine W.widen (k := 9) (n := 350) (by omega) (by omega) ?_
  refine mx_putF B w 0 fl_X2_33 ff_X2_5 rfl rfl (Nat.le_of_ble_eq_true rfl) rfl rfl dX2_init_70 (fun H locs w => ?_)
  have w : mW E A s [(h, .inr (1, [.ref hr, .ref q1, .ref q3, .ref q5, .ref q7, .ref q9, .null])), (q1, .inr (8, [.int (nI 40), .int (nI 3), .ref q2, .int 0])), (q2, .inl (E.2.1, (40 * 3), .inl (fun _ => 0))), (q3, .inr (8, [.int (nI 60), .int (nI 1), .ref q4, .int 0])), (q4, .inl (E.2.1, (60 * 1), .inl (fun _ => 0))), (q5, .inr (8, [.int (nI 40), .int (nI 2), .ref q6, .int 0])), (q6, .inl (E.2.1, (40 * 2), .inl (fun _ => 0))), (q7, .inr (8, [.int (nI 60), .int (nI 1), .ref q8, .int 0])), (q8, .inl (E.2.1, (60 * 1), .inl (fun _ => 0))), (q9, .inl (E.2.1, 14, .inl (fun _ => 0)))] _ _ := w
  refine lv_aload_n hx hb dX2_init_73 rfl (lv_at hl 0 rfl) ?_
  refine lv_bipush (v := 64) hx hb dX2_init_74 (by decide) ?_
  refine mx_newi B w (N' := 64) ka_int (by decide) (by decide) (Nat.le_of_ble_eq_true rfl) (Nat.le_of_ble_eq_true rfl) (Nat.le_of_ble_eq_true rfl) dX2_init_76 (fun q10 H w => ?_)
  have w : mW E A s [(h, .inr (1, [.ref hr, .ref q1, .ref q3, .ref q5, .ref q7, .ref q9, .null])), (q1, .inr (8, [.int (nI 40), .int (nI 3), .ref q2, .int 0])), (q2, .inl (E.2.1, (40 * 3), .inl (fun _ => 0))), (q3, .inr (8, [.int (nI 60), .int (nI 1), .ref q4, .int 0])), (q4, .inl (E.2.1, (60 * 1), .inl (fun _ => 0))), (q5, .inr (8, [.int (nI 40), .int (nI 2), .ref q6, .int 0])), (q6, .inl (E.2.1, (40 * 2), .inl (fun _ => 0))), (q7, .inr (8, [.int (nI 60), .int (nI 1), .ref q8, .int 0])), (q8, .inl (E.2.1, (60 * 1), .inl (fun _ => 0))), (q9, .inl (E.2.1, 14, .inl (fun _ => 0))), (q10, .inl (E.2.1, 64, .inl (fun _ => 0)))] _ _ := w
  refine W.widen (k := 10) (n := 414) (by omega) (by omega) ?_
  refine mx_putF B w 0 fl_X2_37 ff_X2_6 rfl rfl (Nat.le_of_ble_eq_true rfl) rfl rfl dX2_init_78 (fun H locs w => ?_)
  have w : mW E A s [(h, .inr (1, [.ref hr, .ref q1, .ref q3, .ref q5, .ref q7, .ref q9, .ref q10])), (q1, .inr (8, [.int (nI 40), .int (nI 3), .ref q2, .int 0])), (q2, .inl (E.2.1, (40 * 3), .inl (fun _ => 0))), (q3, .inr (8, [.int (nI 60), .int (nI 1), .ref q4, .int 0])), (q4, .inl (E.2.1, (60 * 1), .inl (fun _ => 0))), (q5, .inr (8, [.int (nI 40), .int (nI 2), .ref q6, .int 0])), (q6, .inl (E.2.1, (40 * 2), .inl (fun _ => 0))), (q7, .inr (8, [.int (nI 60), .int (nI 1), .ref q8, .int 0])), (q8, .inl (E.2.1, (60 * 1), .inl (fun _ => 0))), (q9, .inl (E.2.1, 14, .inl (fun _ => 0))), (q10, .inl (E.2.1, 64, .inl (fun _ => 0)))] _ _ := w
  exact mx_vret B w ⟨rfl, _, _, _, _, _, _, _, _, _, _, rfl⟩ dX2_init_81

set_option maxHeartbeats 4000000 in
set_option maxRecDepth 100000 in
theorem c_X3_init (E : mE) (l : Launch) (h : Nat) (hr hg : Nat) : MX E l yX3_init cX3_init 3 none ({ frames := 2, cells := 6, slots := 1868, locals := 43 } : Room) [.ref h, .ref hr, .ref hg] [(h, .inr (2, [.null, .null, .null, .null, .null]))] (fun (v : Option Value) (w' : va_W) => v = none ∧ ∃ (q1 : Nat) (q2 : Nat) (q3 : Nat) (q4 : Nat) (q5 : Nat) (q6 : Nat), w' = [(h, .inr (2, [.ref hr, .ref hg, .ref q1, .ref q3, .ref q5])), (q1, .inr (8, [.int (nI 256), .int (nI 3), .ref q2, .int 0])), (q2, .inl (E.2.1, (256 * 3), .inl (fun _ => 0))), (q3, .inr (8, [.int (nI 256), .int (nI 2), .ref q4, .int 0])), (q4, .inl (E.2.1, (256 * 2), .inl (fun _ => 0))), (q5, .inr (8, [.int (nI 192), .int (nI 3), .ref q6, .int 0])), (q6, .inl (E.2.1, (192 * 3), .inl (fun _ => 0)))]) := by
  refine mx_intro (by decide +kernel) (Nat.le_of_ble_eq_true rfl) ?_
  intro p e s m args below meth c A Q ls B w hl
  obtain ⟨hx, hb, hml, hown, hts⟩ := id B.1
  have w : mW E A s [(h, .inr (2, [.null, .null, .null, .null, .null]))] s.heap [] := w
  refine lv_aload_n hx hb dX3_init_0 rfl (lv_at hl 0 rfl) ?_
  refine mx_obj B ko_X3 ko_inst ko_code hl.1 dX3_init_1 (Nat.le_of_ble_eq_true rfl) (Nat.le_of_ble_eq_true rfl) ?_
  refine lv_aload_n hx hb dX3_init_4 rfl (lv_at hl 0 rfl) ?_
  refine lv_aload_n hx hb dX3_init_5 rfl (lv_at hl 1 rfl) ?_
  refine mx_putF B w 0 fl_X3_9 ff_X3_0 rfl rfl (Nat.le_of_ble_eq_true rfl) rfl rfl dX3_init_6 (fun H locs w => ?_)
  have w : mW E A s [(h, .inr (2, [.ref hr, .null, .null, .null, .null]))] _ _ := w
  refine lv_aload_n hx hb dX3_init_9 rfl (lv_at hl 0 rfl) ?_
  refine lv_aload_n hx hb dX3_init_10 rfl (lv_at hl 2 rfl) ?_
  refine mx_putF B w 0 fl_X3_15 ff_X3_1 rfl rfl (Nat.le_of_ble_eq_true rfl) rfl rfl dX3_init_11 (fun H locs w => ?_)
  have w : mW E A s [(h, .inr (2, [.ref hr, .ref hg, .null, .null, .null]))] _ _ := w
  refine lv_aload_n hx hb dX3_init_14 rfl (lv_at hl 0 rfl) ?_
  refine mx_new (fs := [.int 0, .int 0, .null, .int 0]) B w (ci := 8) (C := RX9) (T := TX9) (N := 4) rfl in_X9 tyX9 tyX9_ok kw_264 kw_110 kw_65 (fun j hj => by rcases (show j = 0 ∨ j = 1 ∨ j = 2 ∨ j = 3 by omega) with rfl | rfl | rfl | rfl <;> rfl) (Nat.le_of_ble_eq_true rfl) (Nat.le_of_ble_eq_true rfl) dX3_init_15 (fun q1 H w => ?_)
  have w : mW E A s [(h, .inr (2, [.ref hr, .ref hg, .null, .null, .null])), (q1, .inr (8, [.int 0, .int 0, .null, .int 0]))] _ _ := w
  refine W.widen (k := 1) (n := 4) (by omega) (by omega) ?_
  refine lv_dup hx hb dX3_init_18 rfl ?_
  refine lv_sipush (v := 256) hx hb dX3_init_19 (by decide) ?_
  refine lv_iconst (v := 3) hx hb dX3_init_22 (by decide) ?_
  refine mx_callI (As := [.int 256, .int 3]) (rest := [.ref q1, .ref h]) (wr := [(h, .inr (2, [.ref hr, .ref hg, .null, .null, .null]))]) (cells2 := 2) (slots2 := 772) (c_X9_init E l q1 256 3 256 3 (by unfold tb_dim; decide) rfl rfl) B w [1] [0] rfl rfl (by decide) (by decide) (by decide) ⟨kw_113, kw_112, kw_65⟩ kw_265 2 rfl (by decide +kernel) ⟨Nat.le_of_ble_eq_true rfl, Nat.le_of_ble_eq_true rfl⟩ rfl hl.1 rfl (Nat.le_of_ble_eq_true rfl) dX3_init_23 rfl rfl ⟨(Nat.le_of_ble_eq_true rfl), (Nat.le_of_ble_eq_true rfl)⟩ (fun v w' H locs hpo w => ?_)
  obtain ⟨rfl, q2, rfl⟩ := hpo
  have w : mW E A s [(h, .inr (2, [.ref hr, .ref hg, .null, .null, .null])), (q1, .inr (8, [.int (nI 256), .int (nI 3), .ref q2, .int 0])), (q2, .inl (E.2.1, (256 * 3), .inl (fun _ => 0)))] _ _ := w
  refine mx_putF B w 0 fl_X3_24 ff_X3_2 rfl rfl (Nat.le_of_ble_eq_true rfl) rfl rfl dX3_init_26 (fun H locs w => ?_)
  have w : mW E A s [(h, .inr (2, [.ref hr, .ref hg, .ref q1, .null, .null])), (q1, .inr (8, [.int (nI 256), .int (nI 3), .ref q2, .int 0])), (q2, .inl (E.2.1, (256 * 3), .inl (fun _ => 0)))] _ _ := w
  refine lv_aload_n hx hb dX3_init_29 rfl (lv_at hl 0 rfl) ?_
  refine mx_new (fs := [.int 0, .int 0, .null, .int 0]) B w (ci := 8) (C := RX9) (T := TX9) (N := 4) rfl in_X9 tyX9 tyX9_ok kw_264 kw_110 kw_65 (fun j hj => by rcases (show j = 0 ∨ j = 1 ∨ j = 2 ∨ j = 3 by omega) with rfl | rfl | rfl | rfl <;> rfl) (Nat.le_of_ble_eq_true rfl) (Nat.le_of_ble_eq_true rfl) dX3_init_30 (fun q3 H w => ?_)
  have w : mW E A s [(h, .inr (2, [.ref hr, .ref hg, .ref q1, .null, .null])), (q1, .inr (8, [.int (nI 256), .int (nI 3), .ref q2, .int 0])), (q2, .inl (E.2.1, (256 * 3), .inl (fun _ => 0))), (q3, .inr (8, [.int 0, .int 0, .null, .int 0]))] _ _ := w
  refine W.widen (k := 3) (n := 776) (by omega) (by omega) ?_
  refine lv_dup hx hb dX3_init_33 rfl ?_
  refine lv_sipush (v := 256) hx hb dX3_init_34 (by decide) ?_
  refine lv_iconst (v := 2) hx hb dX3_init_37 (by decide) ?_
  refine mx_callI (As := [.int 256, .int 2]) (rest := [.ref q3, .ref h]) (wr := [(h, .inr (2, [.ref hr, .ref hg, .ref q1, .null, .null])), (q1, .inr (8, [.int (nI 256), .int (nI 3), .ref q2, .int 0])), (q2, .inl (E.2.1, (256 * 3), .inl (fun _ => 0)))]) (cells2 := 4) (slots2 := 1288) (c_X9_init E l q3 256 2 256 2 (by unfold tb_dim; decide) rfl rfl) B w [3] [0, 1, 2] rfl rfl (by decide) (by decide) (by decide) ⟨kw_113, kw_112, kw_65⟩ kw_265 2 rfl (by decide +kernel) ⟨Nat.le_of_ble_eq_true rfl, Nat.le_of_ble_eq_true rfl⟩ rfl hl.1 rfl (Nat.le_of_ble_eq_true rfl) dX3_init_38 rfl rfl ⟨(Nat.le_of_ble_eq_true rfl), (Nat.le_of_ble_eq_true rfl)⟩ (fun v w' H locs hpo w => ?_)
  obtain ⟨rfl, q4, rfl⟩ := hpo
  have w : mW E A s [(h, .inr (2, [.ref hr, .ref hg, .ref q1, .null, .null])), (q1, .inr (8, [.int (nI 256), .int (nI 3), .ref q2, .int 0])), (q2, .inl (E.2.1, (256 * 3), .inl (fun _ => 0))), (q3, .inr (8, [.int (nI 256), .int (nI 2), .ref q4, .int 0])), (q4, .inl (E.2.1, (256 * 2), .inl (fun _ => 0)))] _ _ := w
  refine mx_putF B w 0 fl_X3_28 ff_X3_3 rfl rfl (Nat.le_of_ble_eq_true rfl) rfl rfl dX3_init_41 (fun H locs w => ?_)
  have w : mW E A s [(h, .inr (2, [.ref hr, .ref hg, .ref q1, .ref q3, .null])), (q1, .inr (8, [.int (nI 256), .int (nI 3), .ref q2, .int 0])), (q2, .inl (E.2.1, (256 * 3), .inl (fun _ => 0))), (q3, .inr (8, [.int (nI 256), .int (nI 2), .ref q4, .int 0])), (q4, .inl (E.2.1, (256 * 2), .inl (fun _ => 0)))] _ _ := w
  refine lv_aload_n hx hb dX3_init_44 rfl (lv_at hl 0 rfl) ?_
  refine mx_new (fs := [.int 0, .int 0, .null, .int 0]) B w (ci := 8) (C := RX9) (T := TX9) (N := 4) rfl in_X9 tyX9 tyX9_ok kw_264 kw_110 kw_65 (fun j hj => by rcases (show j = 0 ∨ j = 1 ∨ j = 2 ∨ j = 3 by omega) with rfl | rfl | rfl | rfl <;> rfl) (Nat.le_of_ble_eq_true rfl) (Nat.le_of_ble_eq_true rfl) dX3_init_45 (fun q5 H w => ?_)
  have w : mW E A s [(h, .inr (2, [.ref hr, .ref hg, .ref q1, .ref q3, .null])), (q1, .inr (8, [.int (nI 256), .int (nI 3), .ref q2, .int 0])), (q2, .inl (E.2.1, (256 * 3), .inl (fun _ => 0))), (q3, .inr (8, [.int (nI 256), .int (nI 2), .ref q4, .int 0])), (q4, .inl (E.2.1, (256 * 2), .inl (fun _ => 0))), (q5, .inr (8, [.int 0, .int 0, .null, .int 0]))] _ _ := w
  refine W.widen (k := 5) (n := 1292) (by omega) (by omega) ?_
  refine lv_dup hx hb dX3_init_48 rfl ?_
  refine lv_sipush (v := 192) hx hb dX3_init_49 (by decide) ?_
  refine lv_iconst (v := 3) hx hb dX3_init_52 (by decide) ?_
  refine mx_callI (As := [.int 192, .int 3]) (rest := [.ref q5, .ref h]) (wr := [(h, .inr (2, [.ref hr, .ref hg, .ref q1, .ref q3, .null])), (q1, .inr (8, [.int (nI 256), .int (nI 3), .ref q2, .int 0])), (q2, .inl (E.2.1, (256 * 3), .inl (fun _ => 0))), (q3, .inr (8, [.int (nI 256), .int (nI 2), .ref q4, .int 0])), (q4, .inl (E.2.1, (256 * 2), .inl (fun _ => 0)))]) (cells2 := 6) (slots2 := 1868) (c_X9_init E l q5 192 3 192 3 (by unfold tb_dim; decide) rfl rfl) B w [5] [0, 1, 2, 3, 4] rfl rfl (by decide) (by decide) (by decide) ⟨kw_113, kw_112, kw_65⟩ kw_265 2 rfl (by decide +kernel) ⟨Nat.le_of_ble_eq_true rfl, Nat.le_of_ble_eq_true rfl⟩ rfl hl.1 rfl (Nat.le_of_ble_eq_true rfl) dX3_init_53 rfl rfl ⟨(Nat.le_of_ble_eq_true rfl), (Nat.le_of_ble_eq_true rfl)⟩ (fun v w' H locs hpo w => ?_)
  obtain ⟨rfl, q6, rfl⟩ := hpo
  have w : mW E A s [(h, .inr (2, [.ref hr, .ref hg, .ref q1, .ref q3, .null])), (q1, .inr (8, [.int (nI 256), .int (nI 3), .ref q2, .int 0])), (q2, .inl (E.2.1, (256 * 3), .inl (fun _ => 0))), (q3, .inr (8, [.int (nI 256), .int (nI 2), .ref q4, .int 0])), (q4, .inl (E.2.1, (256 * 2), .inl (fun _ => 0))), (q5, .inr (8, [.int (nI 192), .int (nI 3), .ref q6, .int 0])), (q6, .inl (E.2.1, (192 * 3), .inl (fun _ => 0)))] _ _ := w
  refine mx_putF B w 0 fl_X3_31 ff_X3_4 rfl rfl (Nat.le_of_ble_eq_true rfl) rfl rfl dX3_init_56 (fun H locs w => ?_)
  have w : mW E A s [(h, .inr (2, [.ref hr, .ref hg, .ref q1, .ref q3, .ref q5])), (q1, .inr (8, [.int (nI 256), .int (nI 3), .ref q2, .int 0])), (q2, .inl (E.2.1, (256 * 3), .inl (fun _ => 0))), (q3, .inr (8, [.int (nI 256), .int (nI 2), .ref q4, .int 0])), (q4, .inl (E.2.1, (256 * 2), .inl (fun _ => 0))), (q5, .inr (8, [.int (nI 192), .int (nI 3), .ref q6, .int 0])), (q6, .inl (E.2.1, (192 * 3), .inl (fun _ => 0)))] _ _ := w
  exact mx_vret B w ⟨rfl, _, _, _, _, _, _, rfl⟩ dX3_init_59

set_option maxHeartbeats 4000000 in
set_option maxRecDepth 100000 in
theorem c_X6_init (E : mE) (l : Launch) (h : Nat) (hr hg : Nat) : MX E l yX6_init cX6_init 3 none ({ frames := 3, cells := 8, slots := 2057, locals := 65 } : Room) [.ref h, .ref hr, .ref hg] [(h, .inr (5, [.null, .null, .null, .null, .null, .int 0, .int 0, .int 0, .int 0]))] (fun (v : Option Value) (w' : va_W) => v = none ∧ ∃ (q1 : Nat) (q2 : Nat) (q3 : Nat) (q4 : Nat) (q5 : Nat) (q6 : Nat) (q7 : Nat) (q8 : Nat), w' = [(h, .inr (5, [.ref hr, .ref hg, .ref q1, .ref q4, .ref q7, .int 0, .int 0, .int 0, .int 0])), (q1, .inr (0, [.ref hr, .ref q2])), (q2, .inr (8, [.int (nI 200), .int (nI 9), .ref q3, .int 0])), (q3, .inl (E.2.1, (200 * 9), .inl (fun _ => 0))), (q4, .inr (0, [.ref hr, .ref q5])), (q5, .inr (8, [.int (nI 20), .int (nI 9), .ref q6, .int 0])), (q6, .inl (E.2.1, (20 * 9), .inl (fun _ => 0))), (q7, .inr (6, [.ref q8])), (q8, .inl (E.2.1, 64, .inl (fun _ => 0)))]) := by
  refine mx_intro (by decide +kernel) (Nat.le_of_ble_eq_true rfl) ?_
  intro p e s m args below meth c A Q ls B w hl
  obtain ⟨hx, hb, hml, hown, hts⟩ := id B.1
  have w : mW E A s [(h, .inr (5, [.null, .null, .null, .null, .null, .int 0, .int 0, .int 0, .int 0]))] s.heap [] := w
  refine lv_aload_n hx hb dX6_init_0 rfl (lv_at hl 0 rfl) ?_
  refine mx_obj B ko_X6 ko_inst ko_code hl.1 dX6_init_1 (Nat.le_of_ble_eq_true rfl) (Nat.le_of_ble_eq_true rfl) ?_
  refine lv_aload_n hx hb dX6_init_4 rfl (lv_at hl 0 rfl) ?_
  refine lv_aload_n hx hb dX6_init_5 rfl (lv_at hl 1 rfl) ?_
  refine mx_putF B w 0 fl_X6_9 ff_X6_0 rfl rfl (Nat.le_of_ble_eq_true rfl) rfl rfl dX6_init_6 (fun H locs w => ?_)
  have w : mW E A s [(h, .inr (5, [.ref hr, .null, .null, .null, .null, .int 0, .int 0, .int 0, .int 0]))] _ _ := w
  refine lv_aload_n hx hb dX6_init_9 rfl (lv_at hl 0 rfl) ?_
  refine lv_aload_n hx hb dX6_init_10 rfl (lv_at hl 2 rfl) ?_
  refine mx_putF B w 0 fl_X6_15 ff_X6_1 rfl rfl (Nat.le_of_ble_eq_true rfl) rfl rfl dX6_init_11 (fun H locs w => ?_)
  have w : mW E A s [(h, .inr (5, [.ref hr, .ref hg, .null, .null, .null, .int 0, .int 0, .int 0, .int 0]))] _ _ := w
  refine lv_aload_n hx hb dX6_init_14 rfl (lv_at hl 0 rfl) ?_
  refine mx_new (fs := [.null, .null]) B w (ci := 0) (C := RX0) (T := TX0) (N := 2) rfl in_X0 tyX0 tyX0_ok kw_202 kw_203 kw_72 (fun j hj => by rcases (show j = 0 ∨ j = 1 by omega) with rfl | rfl <;> rfl) (Nat.le_of_ble_eq_true rfl) (Nat.le_of_ble_eq_true rfl) dX6_init_15 (fun q1 H w => ?_)
  have w : mW E A s [(h, .inr (5, [.ref hr, .ref hg, .null, .null, .null, .int 0, .int 0, .int 0, .int 0])), (q1, .inr (0, [.null, .null]))] _ _ := w
  refine W.widen (k := 1) (n := 2) (by omega) (by omega) ?_
  refine lv_dup hx hb dX6_init_18 rfl ?_
  refine lv_sipush (v := 200) hx hb dX6_init_19 (by decide) ?_
  refine lv_aload_n hx hb dX6_init_22 rfl (lv_at hl 1 rfl) ?_
  refine mx_callI (As := [.int 200, .ref hr]) (rest := [.ref q1, .ref h]) (wr := [(h, .inr (5, [.ref hr, .ref hg, .null, .null, .null, .int 0, .int 0, .int 0, .int 0]))]) (cells2 := 3) (slots2 := 1806) (c_X0_init E l q1 200 hr 200 (by unfold tb_dim; decide) rfl) B w [1] [0] rfl rfl (by decide) (by decide) (by decide) ⟨kw_206, kw_205, kw_72⟩ kw_204 2 rfl (by decide +kernel) ⟨Nat.le_of_ble_eq_true rfl, Nat.le_of_ble_eq_true rfl⟩ rfl hl.1 rfl (Nat.le_of_ble_eq_true rfl) dX6_init_23 rfl rfl ⟨(Nat.le_of_ble_eq_true rfl), (Nat.le_of_ble_eq_true rfl)⟩ (fun v w' H locs hpo w => ?_)
  obtain ⟨rfl, q2, q3, rfl⟩ := hpo
  have w : mW E A s [(h, .inr (5, [.ref hr, .ref hg, .null, .null, .null, .int 0, .int 0, .int 0, .int 0])), (q1, .inr (0, [.ref hr, .ref q2])), (q2, .inr (8, [.int (nI 200), .int (nI 9), .ref q3, .int 0])), (q3, .inl (E.2.1, (200 * 9), .inl (fun _ => 0)))] _ _ := w
  refine mx_putF B w 0 fl_X6_24 ff_X6_2 rfl rfl (Nat.le_of_ble_eq_true rfl) rfl rfl dX6_init_26 (fun H locs w => ?_)
  have w : mW E A s [(h, .inr (5, [.ref hr, .ref hg, .ref q1, .null, .null, .int 0, .int 0, .int 0, .int 0])), (q1, .inr (0, [.ref hr, .ref q2])), (q2, .inr (8, [.int (nI 200), .int (nI 9), .ref q3, .int 0])), (q3, .inl (E.2.1, (200 * 9), .inl (fun _ => 0)))] _ _ := w
  refine lv_aload_n hx hb dX6_init_29 rfl (lv_at hl 0 rfl) ?_
  refine mx_new (fs := [.null, .null]) B w (ci := 0) (C := RX0) (T := TX0) (N := 2) rfl in_X0 tyX0 tyX0_ok kw_202 kw_203 kw_72 (fun j hj => by rcases (show j = 0 ∨ j = 1 by omega) with rfl | rfl <;> rfl) (Nat.le_of_ble_eq_true rfl) (Nat.le_of_ble_eq_true rfl) dX6_init_30 (fun q4 H w => ?_)
  have w : mW E A s [(h, .inr (5, [.ref hr, .ref hg, .ref q1, .null, .null, .int 0, .int 0, .int 0, .int 0])), (q1, .inr (0, [.ref hr, .ref q2])), (q2, .inr (8, [.int (nI 200), .int (nI 9), .ref q3, .int 0])), (q3, .inl (E.2.1, (200 * 9), .inl (fun _ => 0))), (q4, .inr (0, [.null, .null]))] _ _ := w
  refine W.widen (k := 4) (n := 1808) (by omega) (by omega) ?_
  refine lv_dup hx hb dX6_init_33 rfl ?_
  refine lv_bipush (v := 20) hx hb dX6_init_34 (by decide) ?_
  refine lv_aload_n hx hb dX6_init_36 rfl (lv_at hl 1 rfl) ?_
  refine mx_callI (As := [.int 20, .ref hr]) (rest := [.ref q4, .ref h]) (wr := [(h, .inr (5, [.ref hr, .ref hg, .ref q1, .null, .null, .int 0, .int 0, .int 0, .int 0])), (q1, .inr (0, [.ref hr, .ref q2])), (q2, .inr (8, [.int (nI 200), .int (nI 9), .ref q3, .int 0])), (q3, .inl (E.2.1, (200 * 9), .inl (fun _ => 0)))]) (cells2 := 6) (slots2 := 1992) (c_X0_init E l q4 20 hr 20 (by unfold tb_dim; decide) rfl) B w [4] [0, 1, 2, 3] rfl rfl (by decide) (by decide) (by decide) ⟨kw_206, kw_205, kw_72⟩ kw_204 2 rfl (by decide +kernel) ⟨Nat.le_of_ble_eq_true rfl, Nat.le_of_ble_eq_true rfl⟩ rfl hl.1 rfl (Nat.le_of_ble_eq_true rfl) dX6_init_37 rfl rfl ⟨(Nat.le_of_ble_eq_true rfl), (Nat.le_of_ble_eq_true rfl)⟩ (fun v w' H locs hpo w => ?_)
  obtain ⟨rfl, q5, q6, rfl⟩ := hpo
  have w : mW E A s [(h, .inr (5, [.ref hr, .ref hg, .ref q1, .null, .null, .int 0, .int 0, .int 0, .int 0])), (q1, .inr (0, [.ref hr, .ref q2])), (q2, .inr (8, [.int (nI 200), .int (nI 9), .ref q3, .int 0])), (q3, .inl (E.2.1, (200 * 9), .inl (fun _ => 0))), (q4, .inr (0, [.ref hr, .ref q5])), (q5, .inr (8, [.int (nI 20), .int (nI 9), .ref q6, .int 0])), (q6, .inl (E.2.1, (20 * 9), .inl (fun _ => 0)))] _ _ := w
  refine mx_putF B w 0 fl_X6_28 ff_X6_3 rfl rfl (Nat.le_of_ble_eq_true rfl) rfl rfl dX6_init_40 (fun H locs w => ?_)
  have w : mW E A s [(h, .inr (5, [.ref hr, .ref hg, .ref q1, .ref q4, .null, .int 0, .int 0, .int 0, .int 0])), (q1, .inr (0, [.ref hr, .ref q2])), (q2, .inr (8, [.int (nI 200), .int (nI 9), .ref q3, .int 0])), (q3, .inl (E.2.1, (200 * 9), .inl (fun _ => 0))), (q4, .inr (0, [.ref hr, .ref q5])), (q5, .inr (8, [.int (nI 20), .int (nI 9), .ref q6, .int 0])), (q6, .inl (E.2.1, (20 * 9), .inl (fun _ => 0)))] _ _ := w
  refine lv_aload_n hx hb dX6_init_43 rfl (lv_at hl 0 rfl) ?_
  refine mx_new (fs := [.null]) B w (ci := 6) (C := RX7) (T := TX7) (N := 1) rfl in_X7 tyX7 tyX7_ok kw_217 kw_218 kw_73 (fun j hj => by rcases (show j = 0 by omega) with rfl <;> rfl) (Nat.le_of_ble_eq_true rfl) (Nat.le_of_ble_eq_true rfl) dX6_init_44 (fun q7 H w => ?_)
  have w : mW E A s [(h, .inr (5, [.ref hr, .ref hg, .ref q1, .ref q4, .null, .int 0, .int 0, .int 0, .int 0])), (q1, .inr (0, [.ref hr, .ref q2])), (q2, .inr (8, [.int (nI 200), .int (nI 9), .ref q3, .int 0])), (q3, .inl (E.2.1, (200 * 9), .inl (fun _ => 0))), (q4, .inr (0, [.ref hr, .ref q5])), (q5, .inr (8, [.int (nI 20), .int (nI 9), .ref q6, .int 0])), (q6, .inl (E.2.1, (20 * 9), .inl (fun _ => 0))), (q7, .inr (6, [.null]))] _ _ := w
  refine W.widen (k := 7) (n := 1993) (by omega) (by omega) ?_
  refine lv_dup hx hb dX6_init_47 rfl ?_
  refine mx_callI (As := []) (rest := [.ref q7, .ref h]) (wr := [(h, .inr (5, [.ref hr, .ref hg, .ref q1, .ref q4, .null, .int 0, .int 0, .int 0, .int 0])), (q1, .inr (0, [.ref hr, .ref q2])), (q2, .inr (8, [.int (nI 200), .int (nI 9), .ref q3, .int 0])), (q3, .inl (E.2.1, (200 * 9), .inl (fun _ => 0))), (q4, .inr (0, [.ref hr, .ref q5])), (q5, .inr (8, [.int (nI 20), .int (nI 9), .ref q6, .int 0])), (q6, .inl (E.2.1, (20 * 9), .inl (fun _ => 0)))]) (cells2 := 8) (slots2 := 2057) (c_X7_init E l q7 ) B w [7] [0, 1, 2, 3, 4, 5, 6] rfl rfl (by decide) (by decide) (by decide) ⟨kw_221, kw_220, kw_73⟩ kw_219 0 rfl (by decide +kernel) ⟨Nat.le_of_ble_eq_true rfl, Nat.le_of_ble_eq_true rfl⟩ rfl hl.1 rfl (Nat.le_of_ble_eq_true rfl) dX6_init_48 rfl rfl ⟨(Nat.le_of_ble_eq_true rfl), (Nat.le_of_ble_eq_true rfl)⟩ (fun v w' H locs hpo w => ?_)
  obtain ⟨rfl, q8, rfl⟩ := hpo
  have w : mW E A s [(h, .inr (5, [.ref hr, .ref hg, .ref q1, .ref q4, .null, .int 0, .int 0, .int 0, .int 0])), (q1, .inr (0, [.ref hr, .ref q2])), (q2, .inr (8, [.int (nI 200), .int (nI 9), .ref q3, .int 0])), (q3, .inl (E.2.1, (200 * 9), .inl (fun _ => 0))), (q4, .inr (0, [.ref hr, .ref q5])), (q5, .inr (8, [.int (nI 20), .int (nI 9), .ref q6, .int 0])), (q6, .inl (E.2.1, (20 * 9), .inl (fun _ => 0))), (q7, .inr (6, [.ref q8])), (q8, .inl (E.2.1, 64, .inl (fun _ => 0)))] _ _ := w
  refine mx_putF B w 0 fl_X6_34 ff_X6_4 rfl rfl (Nat.le_of_ble_eq_true rfl) rfl rfl dX6_init_51 (fun H locs w => ?_)
  have w : mW E A s [(h, .inr (5, [.ref hr, .ref hg, .ref q1, .ref q4, .ref q7, .int 0, .int 0, .int 0, .int 0])), (q1, .inr (0, [.ref hr, .ref q2])), (q2, .inr (8, [.int (nI 200), .int (nI 9), .ref q3, .int 0])), (q3, .inl (E.2.1, (200 * 9), .inl (fun _ => 0))), (q4, .inr (0, [.ref hr, .ref q5])), (q5, .inr (8, [.int (nI 20), .int (nI 9), .ref q6, .int 0])), (q6, .inl (E.2.1, (20 * 9), .inl (fun _ => 0))), (q7, .inr (6, [.ref q8])), (q8, .inl (E.2.1, 64, .inl (fun _ => 0)))] _ _ := w
  refine lv_aload_n hx hb dX6_init_54 rfl (lv_at hl 0 rfl) ?_
  refine lv_iconst (v := 0) hx hb dX6_init_55 (by decide) ?_
  refine mx_putv B w 0 fl_X6_38 ff_X6_5 rfl (Nat.le_of_ble_eq_true rfl) rfl rfl dX6_init_56 (fun H locs w => ?_)
  have w : mW E A s [(h, .inr (5, [.ref hr, .ref hg, .ref q1, .ref q4, .ref q7, .int 0, .int 0, .int 0, .int 0])), (q1, .inr (0, [.ref hr, .ref q2])), (q2, .inr (8, [.int (nI 200), .int (nI 9), .ref q3, .int 0])), (q3, .inl (E.2.1, (200 * 9), .inl (fun _ => 0))), (q4, .inr (0, [.ref hr, .ref q5])), (q5, .inr (8, [.int (nI 20), .int (nI 9), .ref q6, .int 0])), (q6, .inl (E.2.1, (20 * 9), .inl (fun _ => 0))), (q7, .inr (6, [.ref q8])), (q8, .inl (E.2.1, 64, .inl (fun _ => 0)))] _ _ := w
  refine lv_aload_n hx hb dX6_init_59 rfl (lv_at hl 0 rfl) ?_
  refine lv_iconst (v := 0) hx hb dX6_init_60 (by decide) ?_
  refine mx_putv B w 0 fl_X6_42 ff_X6_6 rfl (Nat.le_of_ble_eq_true rfl) rfl rfl dX6_init_61 (fun H locs w => ?_)
  have w : mW E A s [(h, .inr (5, [.ref hr, .ref hg, .ref q1, .ref q4, .ref q7, .int 0, .int 0, .int 0, .int 0])), (q1, .inr (0, [.ref hr, .ref q2])), (q2, .inr (8, [.int (nI 200), .int (nI 9), .ref q3, .int 0])), (q3, .inl (E.2.1, (200 * 9), .inl (fun _ => 0))), (q4, .inr (0, [.ref hr, .ref q5])), (q5, .inr (8, [.int (nI 20), .int (nI 9), .ref q6, .int 0])), (q6, .inl (E.2.1, (20 * 9), .inl (fun _ => 0))), (q7, .inr (6, [.ref q8])), (q8, .inl (E.2.1, 64, .inl (fun _ => 0)))] _ _ := w
  refine lv_aload_n hx hb dX6_init_64 rfl (lv_at hl 0 rfl) ?_
  refine lv_iconst (v := 0) hx hb dX6_init_65 (by decide) ?_
  refine mx_putv B w 0 fl_X6_45 ff_X6_7 rfl (Nat.le_of_ble_eq_true rfl) rfl rfl dX6_init_66 (fun H locs w => ?_)
  have w : mW E A s [(h, .inr (5, [.ref hr, .ref hg, .ref q1, .ref q4, .ref q7, .int 0, .int 0, .int 0, .int 0])), (q1, .inr (0, [.ref hr, .ref q2])), (q2, .inr (8, [.int (nI 200), .int (nI 9), .ref q3, .int 0])), (q3, .inl (E.2.1, (200 * 9), .inl (fun _ => 0))), (q4, .inr (0, [.ref hr, .ref q5])), (q5, .inr (8, [.int (nI 20), .int (nI 9), .ref q6, .int 0])), (q6, .inl (E.2.1, (20 * 9), .inl (fun _ => 0))), (q7, .inr (6, [.ref q8])), (q8, .inl (E.2.1, 64, .inl (fun _ => 0)))] _ _ := w
  refine lv_aload_n hx hb dX6_init_69 rfl (lv_at hl 0 rfl) ?_
  refine lv_iconst (v := 0) hx hb dX6_init_70 (by decide) ?_
  refine mx_putv B w 0 fl_X6_48 ff_X6_8 rfl (Nat.le_of_ble_eq_true rfl) rfl rfl dX6_init_71 (fun H locs w => ?_)
  have w : mW E A s [(h, .inr (5, [.ref hr, .ref hg, .ref q1, .ref q4, .ref q7, .int 0, .int 0, .int 0, .int 0])), (q1, .inr (0, [.ref hr, .ref q2])), (q2, .inr (8, [.int (nI 200), .int (nI 9), .ref q3, .int 0])), (q3, .inl (E.2.1, (200 * 9), .inl (fun _ => 0))), (q4, .inr (0, [.ref hr, .ref q5])), (q5, .inr (8, [.int (nI 20), .int (nI 9), .ref q6, .int 0])), (q6, .inl (E.2.1, (20 * 9), .inl (fun _ => 0))), (q7, .inr (6, [.ref q8])), (q8, .inl (E.2.1, 64, .inl (fun _ => 0)))] _ _ := w
  exact mx_vret B w ⟨rfl, _, _, _, _, _, _, _, _, rfl⟩ dX6_init_74

set_option maxHeartbeats 4000000 in
set_option maxRecDepth 100000 in
theorem c_X8_init (E : mE) (l : Launch) (h : Nat)  : MX E l yX8_init cX8_init 1 none ({ frames := 4, cells := 29, slots := 4370, locals := 87 } : Room) [.ref h] [(h, .inr (7, [.null, .null, .null, .null]))] (fun (v : Option Value) (w' : va_W) => v = none ∧ ∃ (q1 : Nat) (q2 : Nat) (q3 : Nat) (q4 : Nat) (q5 : Nat) (q6 : Nat) (q7 : Nat) (q8 : Nat) (q9 : Nat) (q10 : Nat) (q11 : Nat) (q12 : Nat) (q13 : Nat) (q14 : Nat) (q15 : Nat) (q16 : Nat) (q17 : Nat) (q18 : Nat) (q19 : Nat) (q20 : Nat) (q21 : Nat) (q22 : Nat) (q23 : Nat) (q24 : Nat) (q25 : Nat) (q26 : Nat) (q27 : Nat) (q28 : Nat) (q29 : Nat), w' = [(h, .inr (7, [.ref q1, .ref q3, .ref q14, .ref q23])), (q1, .inr (4, [.ref q2, .int 0])), (q2, .inl (E.2.1, 8, .inl (upd (upd (upd (upd (upd (upd (upd (upd (fun _ => 0) 0 20) 1 16) 2 0) 3 0) 4 2) 5 0) 6 0) 7 0))), (q3, .inr (1, [.ref q1, .ref q4, .ref q6, .ref q8, .ref q10, .ref q12, .ref q13])), (q4, .inr (8, [.int (nI 40), .int (nI 3), .ref q5, .int 0])), (q5, .inl (E.2.1, (40 * 3), .inl (fun _ => 0))), (q6, .inr (8, [.int (nI 60), .int (nI 1), .ref q7, .int 0])), (q7, .inl (E.2.1, (60 * 1), .inl (fun _ => 0))), (q8, .inr (8, [.int (nI 40), .int (nI 2), .ref q9, .int 0])), (q9, .inl (E.2.1, (40 * 2), .inl (fun _ => 0))), (q10, .inr (8, [.int (nI 60), .int (nI 1), .ref q11, .int 0])), (q11, .inl (E.2.1, (60 * 1), .inl (fun _ => 0))), (q12, .inl (E.2.1, 14, .inl (fun _ => 0))), (q13, .inl (E.2.1, 64, .inl (fun _ => 0))), (q14, .inr (5, [.ref q1, .ref q3, .ref q15, .ref q18, .ref q21, .int 0, .int 0, .int 0, .int 0])), (q15, .inr (0, [.ref q1, .ref q16])), (q16, .inr (8, [.int (nI 200), .int (nI 9), .ref q17, .int 0])), (q17, .inl (E.2.1, (200 * 9), .inl (fun _ => 0))), (q18, .inr (0, [.ref q1, .ref q19])), (q19, .inr (8, [.int (nI 20), .int (nI 9), .ref q20, .int 0])), (q20, .inl (E.2.1, (20 * 9), .inl (fun _ => 0))), (q21, .inr (6, [.ref q22])), (q22, .inl (E.2.1, 64, .inl (fun _ => 0))), (q23, .inr (2, [.ref q1, .ref q3, .ref q24, .ref q26, .ref q28])), (q24, .inr (8, [.int (nI 256), .int (nI 3), .ref q25, .int 0])), (q25, .inl (E.2.1, (256 * 3), .inl (fun _ => 0))), (q26, .inr (8, [.int (nI 256), .int (nI 2), .ref q27, .int 0])), (q27, .inl (E.2.1, (256 * 2), .inl (fun _ => 0))), (q28, .inr (8, [.int (nI 192), .int (nI 3), .ref q29, .int 0])), (q29, .inl (E.2.1, (192 * 3), .inl (fun _ => 0)))]) := by
  refine mx_intro (by decide +kernel) (Nat.le_of_ble_eq_true rfl) ?_
  intro p e s m args below meth c A Q ls B w hl
  obtain ⟨hx, hb, hml, hown, hts⟩ := id B.1
  have w : mW E A s [(h, .inr (7, [.null, .null, .null, .null]))] s.heap [] := w
  refine lv_aload_n hx hb dX8_init_0 rfl (lv_at hl 0 rfl) ?_
  refine mx_obj B ko_X8 ko_inst ko_code hl.1 dX8_init_1 (Nat.le_of_ble_eq_true rfl) (Nat.le_of_ble_eq_true rfl) ?_
  refine lv_aload_n hx hb dX8_init_4 rfl (lv_at hl 0 rfl) ?_
  refine mx_new (fs := [.null, .int 0]) B w (ci := 4) (C := RX5) (T := TX5) (N := 2) rfl in_X5 tyX5 tyX5_ok kw_149 kw_150 kw_69 (fun j hj => by rcases (show j = 0 ∨ j = 1 by omega) with rfl | rfl <;> rfl) (Nat.le_of_ble_eq_true rfl) (Nat.le_of_ble_eq_true rfl) dX8_init_5 (fun q1 H w => ?_)
  have w : mW E A s [(h, .inr (7, [.null, .null, .null, .null])), (q1, .inr (4, [.null, .int 0]))] _ _ := w
  refine W.widen (k := 1) (n := 2) (by omega) (by omega) ?_
  refine lv_dup hx hb dX8_init_8 rfl ?_
  refine mx_callI (As := []) (rest := [.ref q1, .ref h]) (wr := [(h, .inr (7, [.null, .null, .null, .null]))]) (cells2 := 2) (slots2 := 10) (c_X5_init E l q1 ) B w [1] [0] rfl rfl (by decide) (by decide) (by decide) ⟨kw_153, kw_152, kw_69⟩ kw_151 0 rfl (by decide +kernel) ⟨Nat.le_of_ble_eq_true rfl, Nat.le_of_ble_eq_true rfl⟩ rfl hl.1 rfl (Nat.le_of_ble_eq_true rfl) dX8_init_9 rfl rfl ⟨(Nat.le_of_ble_eq_true rfl), (Nat.le_of_ble_eq_true rfl)⟩ (fun v w' H locs hpo w => ?_)
  obtain ⟨rfl, q2, rfl⟩ := hpo
  have w : mW E A s [(h, .inr (7, [.null, .null, .null, .null])), (q1, .inr (4, [.ref q2, .int 0])), (q2, .inl (E.2.1, 8, .inl (upd (upd (upd (upd (upd (upd (upd (upd (fun _ => 0) 0 20) 1 16) 2 0) 3 0) 4 2) 5 0) 6 0) 7 0)))] _ _ := w
  refine mx_putF B w 0 fl_X8_10 ff_X8_0 rfl rfl (Nat.le_of_ble_eq_true rfl) rfl rfl dX8_init_12 (fun H locs w => ?_)
  have w : mW E A s [(h, .inr (7, [.ref q1, .null, .null, .null])), (q1, .inr (4, [.ref q2, .int 0])), (q2, .inl (E.2.1, 8, .inl (upd (upd (upd (upd (upd (upd (upd (upd (fun _ => 0) 0 20) 1 16) 2 0) 3 0) 4 2) 5 0) 6 0) 7 0)))] _ _ := w
  refine lv_aload_n hx hb dX8_init_15 rfl (lv_at hl 0 rfl) ?_
  refine mx_new (fs := [.null, .null, .null, .null, .null, .null, .null]) B w (ci := 1) (C := RX2) (T := TX2) (N := 7) rfl in_X2 tyX2 tyX2_ok kw_162 kw_163 kw_70 (fun j hj => by rcases (show j = 0 ∨ j = 1 ∨ j = 2 ∨ j = 3 ∨ j = 4 ∨ j = 5 ∨ j = 6 by omega) with rfl | rfl | rfl | rfl | rfl | rfl | rfl <;> rfl) (Nat.le_of_ble_eq_true rfl) (Nat.le_of_ble_eq_true rfl) dX8_init_16 (fun q3 H w => ?_)
  have w : mW E A s [(h, .inr (7, [.ref q1, .null, .null, .null])), (q1, .inr (4, [.ref q2, .int 0])), (q2, .inl (E.2.1, 8, .inl (upd (upd (upd (upd (upd (upd (upd (upd (fun _ => 0) 0 20) 1 16) 2 0) 3 0) 4 2) 5 0) 6 0) 7 0))), (q3, .inr (1, [.null, .null, .null, .null, .null, .null, .null]))] _ _ := w
  refine W.widen (k := 3) (n := 17) (by omega) (by omega) ?_
  refine lv_dup hx hb dX8_init_19 rfl ?_
  refine lv_aload_n hx hb dX8_init_20 rfl (lv_at hl 0 rfl) ?_
  refine mx_get B w 0 fl_X8_10 rfl rfl dX8_init_21 ?_
  refine mx_callI (As := [.ref q1]) (rest := [.ref q3, .ref h]) (wr := [(h, .inr (7, [.ref q1, .null, .null, .null])), (q1, .inr (4, [.ref q2, .int 0])), (q2, .inl (E.2.1, 8, .inl (upd (upd (upd (upd (upd (upd (upd (upd (fun _ => 0) 0 20) 1 16) 2 0) 3 0) 4 2) 5 0) 6 0) 7 0)))]) (cells2 := 13) (slots2 := 431) (c_X2_init E l q3 q1) B w [3] [0, 1, 2] rfl rfl (by decide) (by decide) (by decide) ⟨kw_166, kw_165, kw_70⟩ kw_164 1 rfl (by decide +kernel) ⟨Nat.le_of_ble_eq_true rfl, Nat.le_of_ble_eq_true rfl⟩ rfl hl.1 rfl (Nat.le_of_ble_eq_true rfl) dX8_init_24 rfl rfl ⟨(Nat.le_of_ble_eq_true rfl), (Nat.le_of_ble_eq_true rfl)⟩ (fun v w' H locs hpo w => ?_)
  obtain ⟨rfl, q4, q5, q6, q7, q8, q9, q10, q11, q12, q13, rfl⟩ := hpo
  have w : mW E A s [(h, .inr (7, [.ref q1, .null, .null, .null])), (q1, .inr (4, [.ref q2, .int 0])), (q2, .inl (E.2.1, 8, .inl (upd (upd (upd (upd (upd (upd (upd (upd (fun _ => 0) 0 20) 1 16) 2 0) 3 0) 4 2) 5 0) 6 0) 7 0))), (q3, .inr (1, [.ref q1, .ref q4, .ref q6, .ref q8, .ref q10, .ref q12, .ref q13])), (q4, .inr (8, [.int (nI 40), .int (nI 3), .ref q5, .int 0])), (q5, .inl (E.2.1, (40 * 3), .inl (fun _ => 0))), (q6, .inr (8, [.int (nI 60), .int (nI 1), .ref q7, .int 0])), (q7, .inl (E.2.1, (60 * 1), .inl (fun _ => 0))), (q8, .inr (8, [.int (nI 40), .int (nI 2), .ref q9, .int 0])), (q9, .inl (E.2.1, (40 * 2), .inl (fun _ => 0))), (q10, .inr (8, [.int (nI 60), .int (nI 1), .ref q11, .int 0])), (q11, .inl (E.2.1, (60 * 1), .inl (fun _ => 0))), (q12, .inl (E.2.1, 14, .inl (fun _ => 0))), (q13, .inl (E.2.1, 64, .inl (fun _ => 0)))] _ _ := w
  refine mx_putF B w 0 fl_X8_21 ff_X8_1 rfl rfl (Nat.le_of_ble_eq_true rfl) rfl rfl dX8_init_27 (fun H locs w => ?_)
  have w : mW E A s [(h, .inr (7, [.ref q1, .ref q3, .null, .null])), (q1, .inr (4, [.ref q2, .int 0])), (q2, .inl (E.2.1, 8, .inl (upd (upd (upd (upd (upd (upd (upd (upd (fun _ => 0) 0 20) 1 16) 2 0) 3 0) 4 2) 5 0) 6 0) 7 0))), (q3, .inr (1, [.ref q1, .ref q4, .ref q6, .ref q8, .ref q10, .ref q12, .ref q13])), (q4, .inr (8, [.int (nI 40), .int (nI 3), .ref q5, .int 0])), (q5, .inl (E.2.1, (40 * 3), .inl (fun _ => 0))), (q6, .inr (8, [.int (nI 60), .int (nI 1), .ref q7, .int 0])), (q7, .inl (E.2.1, (60 * 1), .inl (fun _ => 0))), (q8, .inr (8, [.int (nI 40), .int (nI 2), .ref q9, .int 0])), (q9, .inl (E.2.1, (40 * 2), .inl (fun _ => 0))), (q10, .inr (8, [.int (nI 60), .int (nI 1), .ref q11, .int 0])), (q11, .inl (E.2.1, (60 * 1), .inl (fun _ => 0))), (q12, .inl (E.2.1, 14, .inl (fun _ => 0))), (q13, .inl (E.2.1, 64, .inl (fun _ => 0)))] _ _ := w
  refine lv_aload_n hx hb dX8_init_30 rfl (lv_at hl 0 rfl) ?_
  refine mx_new (fs := [.null, .null, .null, .null, .null, .int 0, .int 0, .int 0, .int 0]) B w (ci := 5) (C := RX6) (T := TX6) (N := 9) rfl in_X6 tyX6 tyX6_ok kw_196 kw_197 kw_71 (fun j hj => by rcases (show j = 0 ∨ j = 1 ∨ j = 2 ∨ j = 3 ∨ j = 4 ∨ j = 5 ∨ j = 6 ∨ j = 7 ∨ j = 8 by omega) with rfl | rfl | rfl | rfl | rfl | rfl | rfl | rfl | rfl <;> rfl) (Nat.le_of_ble_eq_true rfl) (Nat.le_of_ble_eq_true rfl) dX8_init_31 (fun q14 H w => ?_)
  have w : mW E A s [(h, .inr (7, [.ref q1, .ref q3, .null, .null])), (q1, .inr (4, [.ref q2, .int 0])), (q2, .inl (E.2.1, 8, .inl (upd (upd (upd (upd (upd (upd (upd (upd (fun _ => 0) 0 20) 1 16) 2 0) 3 0) 4 2) 5 0) 6 0) 7 0))), (q3, .inr (1, [.ref q1, .ref q4, .ref q6, .ref q8, .ref q10, .ref q12, .ref q13])), (q4, .inr (8, [.int (nI 40), .int (nI 3), .ref q5, .int 0])), (q5, .inl (E.2.1, (40 * 3), .inl (fun _ => 0))), (q6, .inr (8, [.int (nI 60), .int (nI 1), .ref q7, .int 0])), (q7, .inl (E.2.1, (60 * 1), .inl (fun _ => 0))), (q8, .inr (8, [.int (nI 40), .int (nI 2), .ref q9, .int 0])), (q9, .inl (E.2.1, (40 * 2), .inl (fun _ => 0))), (q10, .inr (8, [.int (nI 60), .int (nI 1), .ref q11, .int 0])), (q11, .inl (E.2.1, (60 * 1), .inl (fun _ => 0))), (q12, .inl (E.2.1, 14, .inl (fun _ => 0))), (q13, .inl (E.2.1, 64, .inl (fun _ => 0))), (q14, .inr (5, [.null, .null, .null, .null, .null, .int 0, .int 0, .int 0, .int 0]))] _ _ := w
  refine W.widen (k := 14) (n := 440) (by omega) (by omega) ?_
  refine lv_dup hx hb dX8_init_34 rfl ?_
  refine lv_aload_n hx hb dX8_init_35 rfl (lv_at hl 0 rfl) ?_
  refine mx_get B w 0 fl_X8_10 rfl rfl dX8_init_36 ?_
  refine lv_aload_n hx hb dX8_init_39 rfl (lv_at hl 0 rfl) ?_
  refine mx_get B w 0 fl_X8_21 rfl rfl dX8_init_40 ?_
  refine mx_callI (As := [.ref q1, .ref q3]) (rest := [.ref q14, .ref h]) (wr := [(h, .inr (7, [.ref q1, .ref q3, .null, .null])), (q1, .inr (4, [.ref q2, .int 0])), (q2, .inl (E.2.1, 8, .inl (upd (upd (upd (upd (upd (upd (upd (upd (fun _ => 0) 0 20) 1 16) 2 0) 3 0) 4 2) 5 0) 6 0) 7 0))), (q3, .inr (1, [.ref q1, .ref q4, .ref q6, .ref q8, .ref q10, .ref q12, .ref q13])), (q4, .inr (8, [.int (nI 40), .int (nI 3), .ref q5, .int 0])), (q5, .inl (E.2.1, (40 * 3), .inl (fun _ => 0))), (q6, .inr (8, [.int (nI 60), .int (nI 1), .ref q7, .int 0])), (q7, .inl (E.2.1, (60 * 1), .inl (fun _ => 0))), (q8, .inr (8, [.int (nI 40), .int (nI 2), .ref q9, .int 0])), (q9, .inl (E.2.1, (40 * 2), .inl (fun _ => 0))), (q10, .inr (8, [.int (nI 60), .int (nI 1), .ref q11, .int 0])), (q11, .inl (E.2.1, (60 * 1), .inl (fun _ => 0))), (q12, .inl (E.2.1, 14, .inl (fun _ => 0))), (q13, .inl (E.2.1, 64, .inl (fun _ => 0)))]) (cells2 := 22) (slots2 := 2497) (c_X6_init E l q14 q1 q3) B w [14] [0, 1, 2, 3, 4, 5, 6, 7, 8, 9, 10, 11, 12, 13] rfl rfl (by decide) (by decide) (by decide) ⟨kw_200, kw_199, kw_71⟩ kw_198 2 rfl (by decide +kernel) ⟨Nat.le_of_ble_eq_true rfl, Nat.le_of_ble_eq_true rfl⟩ rfl hl.1 rfl (Nat.le_of_ble_eq_true rfl) dX8_init_43 rfl rfl ⟨(Nat.le_of_ble_eq_true rfl), (Nat.le_of_ble_eq_true rfl)⟩ (fun v w' H locs hpo w => ?_)
  obtain ⟨rfl, q15, q16, q17, q18, q19, q20, q21, q22, rfl⟩ := hpo
  have w : mW E A s [(h, .inr (7, [.ref q1, .ref q3, .null, .null])), (q1, .inr (4, [.ref q2, .int 0])), (q2, .inl (E.2.1, 8, .inl (upd (upd (upd (upd (upd (upd (upd (upd (fun _ => 0) 0 20) 1 16) 2 0) 3 0) 4 2) 5 0) 6 0) 7 0))), (q3, .inr (1, [.ref q1, .ref q4, .ref q6, .ref q8, .ref q10, .ref q12, .ref q13])), (q4, .inr (8, [.int (nI 40), .int (nI 3), .ref q5, .int 0])), (q5, .inl (E.2.1, (40 * 3), .inl (fun _ => 0))), (q6, .inr (8, [.int (nI 60), .int (nI 1), .ref q7, .int 0])), (q7, .inl (E.2.1, (60 * 1), .inl (fun _ => 0))), (q8, .inr (8, [.int (nI 40), .int (nI 2), .ref q9, .int 0])), (q9, .inl (E.2.1, (40 * 2), .inl (fun _ => 0))), (q10, .inr (8, [.int (nI 60), .int (nI 1), .ref q11, .int 0])), (q11, .inl (E.2.1, (60 * 1), .inl (fun _ => 0))), (q12, .inl (E.2.1, 14, .inl (fun _ => 0))), (q13, .inl (E.2.1, 64, .inl (fun _ => 0))), (q14, .inr (5, [.ref q1, .ref q3, .ref q15, .ref q18, .ref q21, .int 0, .int 0, .int 0, .int 0])), (q15, .inr (0, [.ref q1, .ref q16])), (q16, .inr (8, [.int (nI 200), .int (nI 9), .ref q17, .int 0])), (q17, .inl (E.2.1, (200 * 9), .inl (fun _ => 0))), (q18, .inr (0, [.ref q1, .ref q19])), (q19, .inr (8, [.int (nI 20), .int (nI 9), .ref q20, .int 0])), (q20, .inl (E.2.1, (20 * 9), .inl (fun _ => 0))), (q21, .inr (6, [.ref q22])), (q22, .inl (E.2.1, 64, .inl (fun _ => 0)))] _ _ := w
  refine mx_putF B w 0 fl_X8_30 ff_X8_2 rfl rfl (Nat.le_of_ble_eq_true rfl) rfl rfl dX8_init_46 (fun H locs w => ?_)
  have w : mW E A s [(h, .inr (7, [.ref q1, .ref q3, .ref q14, .null])), (q1, .inr (4, [.ref q2, .int 0])), (q2, .inl (E.2.1, 8, .inl (upd (upd (upd (upd (upd (upd (upd (upd (fun _ => 0) 0 20) 1 16) 2 0) 3 0) 4 2) 5 0) 6 0) 7 0))), (q3, .inr (1, [.ref q1, .ref q4, .ref q6, .ref q8, .ref q10, .ref q12, .ref q13])), (q4, .inr (8, [.int (nI 40), .int (nI 3), .ref q5, .int 0])), (q5, .inl (E.2.1, (40 * 3), .inl (fun _ => 0))), (q6, .inr (8, [.int (nI 60), .int (nI 1), .ref q7, .int 0])), (q7, .inl (E.2.1, (60 * 1), .inl (fun _ => 0))), (q8, .inr (8, [.int (nI 40), .int (nI 2), .ref q9, .int 0])), (q9, .inl (E.2.1, (40 * 2), .inl (fun _ => 0))), (q10, .inr (8, [.int (nI 60), .int (nI 1), .ref q11, .int 0])), (q11, .inl (E.2.1, (60 * 1), .inl (fun _ => 0))), (q12, .inl (E.2.1, 14, .inl (fun _ => 0))), (q13, .inl (E.2.1, 64, .inl (fun _ => 0))), (q14, .inr (5, [.ref q1, .ref q3, .ref q15, .ref q18, .ref q21, .int 0, .int 0, .int 0, .int 0])), (q15, .inr (0, [.ref q1, .ref q16])), (q16, .inr (8, [.int (nI 200), .int (nI 9), .ref q17, .int 0])), (q17, .inl (E.2.1, (200 * 9), .inl (fun _ => 0))), (q18, .inr (0, [.ref q1, .ref q19])), (q19, .inr (8, [.int (nI 20), .int (nI 9), .ref q20, .int 0])), (q20, .inl (E.2.1, (20 * 9), .inl (fun _ => 0))), (q21, .inr (6, [.ref q22])), (q22, .inl (E.2.1, 64, .inl (fun _ => 0)))] _ _ := w
  refine lv_aload_n hx hb dX8_init_49 rfl (lv_at hl 0 rfl) ?_
  refine mx_new (fs := [.null, .null, .null, .null, .null]) B w (ci := 2) (C := RX3) (T := TX3) (N := 5) rfl in_X3 tyX3 tyX3_ok kw_258 kw_259 kw_74 (fun j hj => by rcases (show j = 0 ∨ j = 1 ∨ j = 2 ∨ j = 3 ∨ j = 4 by omega) with rfl | rfl | rfl | rfl | rfl <;> rfl) (Nat.le_of_ble_eq_true rfl) (Nat.le_of_ble_eq_true rfl) dX8_init_50 (fun q23 H w => ?_)
  have w : mW E A s [(h, .inr (7, [.ref q1, .ref q3, .ref q14, .null])), (q1, .inr (4, [.ref q2, .int 0])), (q2, .inl (E.2.1, 8, .inl (upd (upd (upd (upd (upd (upd (upd (upd (fun _ => 0) 0 20) 1 16) 2 0) 3 0) 4 2) 5 0) 6 0) 7 0))), (q3, .inr (1, [.ref q1, .ref q4, .ref q6, .ref q8, .ref q10, .ref q12, .ref q13])), (q4, .inr (8, [.int (nI 40), .int (nI 3), .ref q5, .int 0])), (q5, .inl (E.2.1, (40 * 3), .inl (fun _ => 0))), (q6, .inr (8, [.int (nI 60), .int (nI 1), .ref q7, .int 0])), (q7, .inl (E.2.1, (60 * 1), .inl (fun _ => 0))), (q8, .inr (8, [.int (nI 40), .int (nI 2), .ref q9, .int 0])), (q9, .inl (E.2.1, (40 * 2), .inl (fun _ => 0))), (q10, .inr (8, [.int (nI 60), .int (nI 1), .ref q11, .int 0])), (q11, .inl (E.2.1, (60 * 1), .inl (fun _ => 0))), (q12, .inl (E.2.1, 14, .inl (fun _ => 0))), (q13, .inl (E.2.1, 64, .inl (fun _ => 0))), (q14, .inr (5, [.ref q1, .ref q3, .ref q15, .ref q18, .ref q21, .int 0, .int 0, .int 0, .int 0])), (q15, .inr (0, [.ref q1, .ref q16])), (q16, .inr (8, [.int (nI 200), .int (nI 9), .ref q17, .int 0])), (q17, .inl (E.2.1, (200 * 9), .inl (fun _ => 0))), (q18, .inr (0, [.ref q1, .ref q19])), (q19, .inr (8, [.int (nI 20), .int (nI 9), .ref q20, .int 0])), (q20, .inl (E.2.1, (20 * 9), .inl (fun _ => 0))), (q21, .inr (6, [.ref q22])), (q22, .inl (E.2.1, 64, .inl (fun _ => 0))), (q23, .inr (2, [.null, .null, .null, .null, .null]))] _ _ := w
  refine W.widen (k := 23) (n := 2502) (by omega) (by omega) ?_
  refine lv_dup hx hb dX8_init_53 rfl ?_
  refine lv_aload_n hx hb dX8_init_54 rfl (lv_at hl 0 rfl) ?_
  refine mx_get B w 0 fl_X8_10 rfl rfl dX8_init_55 ?_
  refine lv_aload_n hx hb dX8_init_58 rfl (lv_at hl 0 rfl) ?_
  refine mx_get B w 0 fl_X8_21 rfl rfl dX8_init_59 ?_
  refine mx_callI (As := [.ref q1, .ref q3]) (rest := [.ref q23, .ref h]) (wr := [(h, .inr (7, [.ref q1, .ref q3, .ref q14, .null])), (q1, .inr (4, [.ref q2, .int 0])), (q2, .inl (E.2.1, 8, .inl (upd (upd (upd (upd (upd (upd (upd (upd (fun _ => 0) 0 20) 1 16) 2 0) 3 0) 4 2) 5 0) 6 0) 7 0))), (q3, .inr (1, [.ref q1, .ref q4, .ref q6, .ref q8, .ref q10, .ref q12, .ref q13])), (q4, .inr (8, [.int (nI 40), .int (nI 3), .ref q5, .int 0])), (q5, .inl (E.2.1, (40 * 3), .inl (fun _ => 0))), (q6, .inr (8, [.int (nI 60), .int (nI 1), .ref q7, .int 0])), (q7, .inl (E.2.1, (60 * 1), .inl (fun _ => 0))), (q8, .inr (8, [.int (nI 40), .int (nI 2), .ref q9, .int 0])), (q9, .inl (E.2.1, (40 * 2), .inl (fun _ => 0))), (q10, .inr (8, [.int (nI 60), .int (nI 1), .ref q11, .int 0])), (q11, .inl (E.2.1, (60 * 1), .inl (fun _ => 0))), (q12, .inl (E.2.1, 14, .inl (fun _ => 0))), (q13, .inl (E.2.1, 64, .inl (fun _ => 0))), (q14, .inr (5, [.ref q1, .ref q3, .ref q15, .ref q18, .ref q21, .int 0, .int 0, .int 0, .int 0])), (q15, .inr (0, [.ref q1, .ref q16])), (q16, .inr (8, [.int (nI 200), .int (nI 9), .ref q17, .int 0])), (q17, .inl (E.2.1, (200 * 9), .inl (fun _ => 0))), (q18, .inr (0, [.ref q1, .ref q19])), (q19, .inr (8, [.int (nI 20), .int (nI 9), .ref q20, .int 0])), (q20, .inl (E.2.1, (20 * 9), .inl (fun _ => 0))), (q21, .inr (6, [.ref q22])), (q22, .inl (E.2.1, 64, .inl (fun _ => 0)))]) (cells2 := 29) (slots2 := 4370) (c_X3_init E l q23 q1 q3) B w [23] [0, 1, 2, 3, 4, 5, 6, 7, 8, 9, 10, 11, 12, 13, 14, 15, 16, 17, 18, 19, 20, 21, 22] rfl rfl (by decide) (by decide) (by decide) ⟨kw_262, kw_261, kw_74⟩ kw_260 2 rfl (by decide +kernel) ⟨Nat.le_of_ble_eq_true rfl, Nat.le_of_ble_eq_true rfl⟩ rfl hl.1 rfl (Nat.le_of_ble_eq_true rfl) dX8_init_62 rfl rfl ⟨(Nat.le_of_ble_eq_true rfl), (Nat.le_of_ble_eq_true rfl)⟩ (fun v w' H locs hpo w => ?_)
  obtain ⟨rfl, q24, q25, q26, q27, q28, q29, rfl⟩ := hpo
  have w : mW E A s [(h, .inr (7, [.ref q1, .ref q3, .ref q14, .null])), (q1, .inr (4, [.ref q2, .int 0])), (q2, .inl (E.2.1, 8, .inl (upd (upd (upd (upd (upd (upd (upd (upd (fun _ => 0) 0 20) 1 16) 2 0) 3 0) 4 2) 5 0) 6 0) 7 0))), (q3, .inr (1, [.ref q1, .ref q4, .ref q6, .ref q8, .ref q10, .ref q12, .ref q13])), (q4, .inr (8, [.int (nI 40), .int (nI 3), .ref q5, .int 0])), (q5, .inl (E.2.1, (40 * 3), .inl (fun _ => 0))), (q6, .inr (8, [.int (nI 60), .int (nI 1), .ref q7, .int 0])), (q7, .inl (E.2.1, (60 * 1), .inl (fun _ => 0))), (q8, .inr (8, [.int (nI 40), .int (nI 2), .ref q9, .int 0])), (q9, .inl (E.2.1, (40 * 2), .inl (fun _ => 0))), (q10, .inr (8, [.int (nI 60), .int (nI 1), .ref q11, .int 0])), (q11, .inl (E.2.1, (60 * 1), .inl (fun _ => 0))), (q12, .inl (E.2.1, 14, .inl (fun _ => 0))), (q13, .inl (E.2.1, 64, .inl (fun _ => 0))), (q14, .inr (5, [.ref q1, .ref q3, .ref q15, .ref q18, .ref q21, .int 0, .int 0, .int 0, .int 0])), (q15, .inr (0, [.ref q1, .ref q16])), (q16, .inr (8, [.int (nI 200), .int (nI 9), .ref q17, .int 0])), (q17, .inl (E.2.1, (200 * 9), .inl (fun _ => 0))), (q18, .inr (0, [.ref q1, .ref q19])), (q19, .inr (8, [.int (nI 20), .int (nI 9), .ref q20, .int 0])), (q20, .inl (E.2.1, (20 * 9), .inl (fun _ => 0))), (q21, .inr (6, [.ref q22])), (q22, .inl (E.2.1, 64, .inl (fun _ => 0))), (q23, .inr (2, [.ref q1, .ref q3, .ref q24, .ref q26, .ref q28])), (q24, .inr (8, [.int (nI 256), .int (nI 3), .ref q25, .int 0])), (q25, .inl (E.2.1, (256 * 3), .inl (fun _ => 0))), (q26, .inr (8, [.int (nI 256), .int (nI 2), .ref q27, .int 0])), (q27, .inl (E.2.1, (256 * 2), .inl (fun _ => 0))), (q28, .inr (8, [.int (nI 192), .int (nI 3), .ref q29, .int 0])), (q29, .inl (E.2.1, (192 * 3), .inl (fun _ => 0)))] _ _ := w
  refine mx_putF B w 0 fl_X8_37 ff_X8_3 rfl rfl (Nat.le_of_ble_eq_true rfl) rfl rfl dX8_init_65 (fun H locs w => ?_)
  have w : mW E A s [(h, .inr (7, [.ref q1, .ref q3, .ref q14, .ref q23])), (q1, .inr (4, [.ref q2, .int 0])), (q2, .inl (E.2.1, 8, .inl (upd (upd (upd (upd (upd (upd (upd (upd (fun _ => 0) 0 20) 1 16) 2 0) 3 0) 4 2) 5 0) 6 0) 7 0))), (q3, .inr (1, [.ref q1, .ref q4, .ref q6, .ref q8, .ref q10, .ref q12, .ref q13])), (q4, .inr (8, [.int (nI 40), .int (nI 3), .ref q5, .int 0])), (q5, .inl (E.2.1, (40 * 3), .inl (fun _ => 0))), (q6, .inr (8, [.int (nI 60), .int (nI 1), .ref q7, .int 0])), (q7, .inl (E.2.1, (60 * 1), .inl (fun _ => 0))), (q8, .inr (8, [.int (nI 40), .int (nI 2), .ref q9, .int 0])), (q9, .inl (E.2.1, (40 * 2), .inl (fun _ => 0))), (q10, .inr (8, [.int (nI 60), .int (nI 1), .ref q11, .int 0])), (q11, .inl (E.2.1, (60 * 1), .inl (fun _ => 0))), (q12, .inl (E.2.1, 14, .inl (fun _ => 0))), (q13, .inl (E.2.1, 64, .inl (fun _ => 0))), (q14, .inr (5, [.ref q1, .ref q3, .ref q15, .ref q18, .ref q21, .int 0, .int 0, .int 0, .int 0])), (q15, .inr (0, [.ref q1, .ref q16])), (q16, .inr (8, [.int (nI 200), .int (nI 9), .ref q17, .int 0])), (q17, .inl (E.2.1, (200 * 9), .inl (fun _ => 0))), (q18, .inr (0, [.ref q1, .ref q19])), (q19, .inr (8, [.int (nI 20), .int (nI 9), .ref q20, .int 0])), (q20, .inl (E.2.1, (20 * 9), .inl (fun _ => 0))), (q21, .inr (6, [.ref q22])), (q22, .inl (E.2.1, 64, .inl (fun _ => 0))), (q23, .inr (2, [.ref q1, .ref q3, .ref q24, .ref q26, .ref q28])), (q24, .inr (8, [.int (nI 256), .int (nI 3), .ref q25, .int 0])), (q25, .inl (E.2.1, (256 * 3), .inl (fun _ => 0))), (q26, .inr (8, [.int (nI 256), .int (nI 2), .ref q27, .int 0])), (q27, .inl (E.2.1, (256 * 2), .inl (fun _ => 0))), (q28, .inr (8, [.int (nI 192), .int (nI 3), .ref q29, .int 0])), (q29, .inl (E.2.1, (192 * 3), .inl (fun _ => 0)))] _ _ := w
  exact mx_vret B w ⟨rfl, _, _, _, _, _, _, _, _, _, _, _, _, _, _, _, _, _, _, _, _, _, _, _, _, _, _, _, _, _, rfl⟩ dX8_init_68

set_option maxHeartbeats 4000000 in
set_option maxRecDepth 100000 in
theorem c_X11_init (E : mE) (l : Launch) (h : Nat)  : MX E l yX11_init cX11_init 1 none ({ frames := 5, cells := 37, slots := 4511, locals := 107 } : Room) [.ref h] [(h, .inr (10, [.null, .null, .null, .null, .null, .null, .null, .null, .null]))] (fun (v : Option Value) (w' : va_W) => v = none ∧ ∃ (q1 : Nat) (q2 : Nat) (q3 : Nat) (q4 : Nat) (q5 : Nat) (q6 : Nat) (q7 : Nat) (q8 : Nat) (q9 : Nat) (q10 : Nat) (q11 : Nat) (q12 : Nat) (q13 : Nat) (q14 : Nat) (q15 : Nat) (q16 : Nat) (q17 : Nat) (q18 : Nat) (q19 : Nat) (q20 : Nat) (q21 : Nat) (q22 : Nat) (q23 : Nat) (q24 : Nat) (q25 : Nat) (q26 : Nat) (q27 : Nat) (q28 : Nat) (q29 : Nat) (q30 : Nat) (q31 : Nat) (q32 : Nat) (q33 : Nat) (q34 : Nat) (q35 : Nat) (q36 : Nat) (q37 : Nat), w' = [(h, .inr (10, [.ref q1, .ref q3, .ref q5, .ref q8, .ref q9, .ref q11, .ref q22, .ref q31, .null])), (q1, .inr (9, [.ref q2, .int 0])), (q2, .inl (E.2.1, 60, .inl (fun _ => 0))), (q3, .inr (8, [.int (nI 30), .int (nI 1), .ref q4, .int 0])), (q4, .inl (E.2.1, (30 * 1), .inl (fun _ => 0))), (q5, .inr (3, [.ref q6])), (q6, .inr (8, [.int (nI 12), .int (nI 3), .ref q7, .int 0])), (q7, .inl (E.2.1, (12 * 3), .inl (fun _ => 0))), (q9, .inr (4, [.ref q10, .int 0])), (q10, .inl (E.2.1, 8, .inl (upd (upd (upd (upd (upd (upd (upd (upd (fun _ => 0) 0 20) 1 16) 2 0) 3 0) 4 2) 5 0) 6 0) 7 0))), (q11, .inr (1, [.ref q9, .ref q12, .ref q14, .ref q16, .ref q18, .ref q20, .ref q21])), (q12, .inr (8, [.int (nI 40), .int (nI 3), .ref q13, .int 0])), (q13, .inl (E.2.1, (40 * 3), .inl (fun _ => 0))), (q14, .inr (8, [.int (nI 60), .int (nI 1), .ref q15, .int 0])), (q15, .inl (E.2.1, (60 * 1), .inl (fun _ => 0))), (q16, .inr (8, [.int (nI 40), .int (nI 2), .ref q17, .int 0])), (q17, .inl (E.2.1, (40 * 2), .inl (fun _ => 0))), (q18, .inr (8, [.int (nI 60), .int (nI 1), .ref q19, .int 0])), (q19, .inl (E.2.1, (60 * 1), .inl (fun _ => 0))), (q20, .inl (E.2.1, 14, .inl (fun _ => 0))), (q21, .inl (E.2.1, 64, .inl (fun _ => 0))), (q22, .inr (5, [.ref q9, .ref q11, .ref q23, .ref q26, .ref q29, .int 0, .int 0, .int 0, .int 0])), (q23, .inr (0, [.ref q9, .ref q24])), (q24, .inr (8, [.int (nI 200), .int (nI 9), .ref q25, .int 0])), (q25, .inl (E.2.1, (200 * 9), .inl (fun _ => 0))), (q26, .inr (0, [.ref q9, .ref q27])), (q27, .inr (8, [.int (nI 20), .int (nI 9), .ref q28, .int 0])), (q28, .inl (E.2.1, (20 * 9), .inl (fun _ => 0))), (q29, .inr (6, [.ref q30])), (q30, .inl (E.2.1, 64, .inl (fun _ => 0))), (q31, .inr (2, [.ref q9, .ref q11, .ref q32, .ref q34, .ref q36])), (q32, .inr (8, [.int (nI 256), .int (nI 3), .ref q33, .int 0])), (q33, .inl (E.2.1, (256 * 3), .inl (fun _ => 0))), (q34, .inr (8, [.int (nI 256), .int (nI 2), .ref q35, .int 0])), (q35, .inl (E.2.1, (256 * 2), .inl (fun _ => 0))), (q36, .inr (8, [.int (nI 192), .int (nI 3), .ref q37, .int 0])), (q37, .inl (E.2.1, (192 * 3), .inl (fun _ => 0))), (q8, .inr (7, [.ref q9, .ref q11, .ref q22, .ref q31]))]) := by
  refine mx_intro (by decide +kernel) (Nat.le_of_ble_eq_true rfl) ?_
  intro p e s m args below meth c A Q ls B w hl
  obtain ⟨hx, hb, hml, hown, hts⟩ := id B.1
  have w : mW E A s [(h, .inr (10, [.null, .null, .null, .null, .null, .null, .null, .null, .null]))] s.heap [] := w
  refine lv_aload_n hx hb dX11_init_0 rfl (lv_at hl 0 rfl) ?_
  refine mx_obj B ko_X11 ko_inst ko_code hl.1 dX11_init_1 (Nat.le_of_ble_eq_true rfl) (Nat.le_of_ble_eq_true rfl) ?_
  refine lv_aload_n hx hb dX11_init_4 rfl (lv_at hl 0 rfl) ?_
  refine mx_new (fs := [.null, .int 0]) B w (ci := 9) (C := RX10) (T := TX10) (N := 2) rfl in_X10 tyX10 tyX10_ok kw_95 kw_96 kw_64 (fun j hj => by rcases (show j = 0 ∨ j = 1 by omega) with rfl | rfl <;> rfl) (Nat.le_of_ble_eq_true rfl) (Nat.le_of_ble_eq_true rfl) dX11_init_5 (fun q1 H w => ?_)
  have w : mW E A s [(h, .inr (10, [.null, .null, .null, .null, .null, .null, .null, .null, .null])), (q1, .inr (9, [.null, .int 0]))] _ _ := w
  refine W.widen (k := 1) (n := 2) (by omega) (by omega) ?_
  refine lv_dup hx hb dX11_init_8 rfl ?_
  refine mx_callI (As := []) (rest := [.ref q1, .ref h]) (wr := [(h, .inr (10, [.null, .null, .null, .null, .null, .null, .null, .null, .null]))]) (cells2 := 2) (slots2 := 62) (c_X10_init E l q1 ) B w [1] [0] rfl rfl (by decide) (by decide) (by decide) ⟨kw_99, kw_98, kw_64⟩ kw_97 0 rfl (by decide +kernel) ⟨Nat.le_of_ble_eq_true rfl, Nat.le_of_ble_eq_true rfl⟩ rfl hl.1 rfl (Nat.le_of_ble_eq_true rfl) dX11_init_9 rfl rfl ⟨(Nat.le_of_ble_eq_true rfl), (Nat.le_of_ble_eq_true rfl)⟩ (fun v w' H locs hpo w => ?_)
  obtain ⟨rfl, q2, rfl⟩ := hpo
  have w : mW E A s [(h, .inr (10, [.null, .null, .null, .null, .null, .null, .null, .null, .null])), (q1, .inr (9, [.ref q2, .int 0])), (q2, .inl (E.2.1, 60, .inl (fun _ => 0)))] _ _ := w
  refine mx_putF B w 0 fl_X11_10 ff_X11_0 rfl rfl (Nat.le_of_ble_eq_true rfl) rfl rfl dX11_init_12 (fun H locs w => ?_)
  have w : mW E A s [(h, .inr (10, [.ref q1, .null, .null, .null, .null, .null, .null, .null, .null])), (q1, .inr (9, [.ref q2, .int 0])), (q2, .inl (E.2.1, 60, .inl (fun _ => 0)))] _ _ := w
  refine lv_aload_n hx hb dX11_init_15 rfl (lv_at hl 0 rfl) ?_
  refine mx_new (fs := [.int 0, .int 0, .null, .int 0]) B w (ci := 8) (C := RX9) (T := TX9) (N := 4) rfl in_X9 tyX9 tyX9_ok kw_109 kw_110 kw_65 (fun j hj => by rcases (show j = 0 ∨ j = 1 ∨ j = 2 ∨ j = 3 by omega) with rfl | rfl | rfl | rfl <;> rfl) (Nat.le_of_ble_eq_true rfl) (Nat.le_of_ble_eq_true rfl) dX11_init_16 (fun q3 H w => ?_)
  have w : mW E A s [(h, .inr (10, [.ref q1, .null, .null, .null, .null, .null, .null, .null, .null])), (q1, .inr (9, [.ref q2, .int 0])), (q2, .inl (E.2.1, 60, .inl (fun _ => 0))), (q3, .inr (8, [.int 0, .int 0, .null, .int 0]))] _ _ := w
  refine W.widen (k := 3) (n := 66) (by omega) (by omega) ?_
  refine lv_dup hx hb dX11_init_19 rfl ?_
  refine lv_bipush (v := 30) hx hb dX11_init_20 (by decide) ?_
  refine lv_iconst (v := 1) hx hb dX11_init_22 (by decide) ?_
  refine mx_callI (As := [.int 30, .int 1]) (rest := [.ref q3, .ref h]) (wr := [(h, .inr (10, [.ref q1, .null, .null, .null, .null, .null, .null, .null, .null])), (q1, .inr (9, [.ref q2, .int 0])), (q2, .inl (E.2.1, 60, .inl (fun _ => 0)))]) (cells2 := 4) (slots2 := 96) (c_X9_init E l q3 30 1 30 1 (by unfold tb_dim; decide) rfl rfl) B w [3] [0, 1, 2] rfl rfl (by decide) (by decide) (by decide) ⟨kw_113, kw_112, kw_65⟩ kw_111 2 rfl (by decide +kernel) ⟨Nat.le_of_ble_eq_true rfl, Nat.le_of_ble_eq_true rfl⟩ rfl hl.1 rfl (Nat.le_of_ble_eq_true rfl) dX11_init_23 rfl rfl ⟨(Nat.le_of_ble_eq_true rfl), (Nat.le_of_ble_eq_true rfl)⟩ (fun v w' H locs hpo w => ?_)
  obtain ⟨rfl, q4, rfl⟩ := hpo
  have w : mW E A s [(h, .inr (10, [.ref q1, .null, .null, .null, .null, .null, .null, .null, .null])), (q1, .inr (9, [.ref q2, .int 0])), (q2, .inl (E.2.1, 60, .inl (fun _ => 0))), (q3, .inr (8, [.int (nI 30), .int (nI 1), .ref q4, .int 0])), (q4, .inl (E.2.1, (30 * 1), .inl (fun _ => 0)))] _ _ := w
  refine mx_putF B w 0 fl_X11_21 ff_X11_1 rfl rfl (Nat.le_of_ble_eq_true rfl) rfl rfl dX11_init_26 (fun H locs w => ?_)
  have w : mW E A s [(h, .inr (10, [.ref q1, .ref q3, .null, .null, .null, .null, .null, .null, .null])), (q1, .inr (9, [.ref q2, .int 0])), (q2, .inl (E.2.1, 60, .inl (fun _ => 0))), (q3, .inr (8, [.int (nI 30), .int (nI 1), .ref q4, .int 0])), (q4, .inl (E.2.1, (30 * 1), .inl (fun _ => 0)))] _ _ := w
  refine lv_aload_n hx hb dX11_init_29 rfl (lv_at hl 0 rfl) ?_
  refine mx_new (fs := [.null]) B w (ci := 3) (C := RX4) (T := TX4) (N := 1) rfl in_X4 tyX4 tyX4_ok kw_131 kw_132 kw_67 (fun j hj => by rcases (show j = 0 by omega) with rfl <;> rfl) (Nat.le_of_ble_eq_true rfl) (Nat.le_of_ble_eq_true rfl) dX11_init_30 (fun q5 H w => ?_)
  have w : mW E A s [(h, .inr (10, [.ref q1, .ref q3, .null, .null, .null, .null, .null, .null, .null])), (q1, .inr (9, [.ref q2, .int 0])), (q2, .inl (E.2.1, 60, .inl (fun _ => 0))), (q3, .inr (8, [.int (nI 30), .int (nI 1), .ref q4, .int 0])), (q4, .inl (E.2.1, (30 * 1), .inl (fun _ => 0))), (q5, .inr (3, [.null]))] _ _ := w
  refine W.widen (k := 5) (n := 97) (by omega) (by omega) ?_
  refine lv_dup hx hb dX11_init_33 rfl ?_
  refine mx_callI (As := []) (rest := [.ref q5, .ref h]) (wr := [(h, .inr (10, [.ref q1, .ref q3, .null, .null, .null, .null, .null, .null, .null])), (q1, .inr (9, [.ref q2, .int 0])), (q2, .inl (E.2.1, 60, .inl (fun _ => 0))), (q3, .inr (8, [.int (nI 30), .int (nI 1), .ref q4, .int 0])), (q4, .inl (E.2.1, (30 * 1), .inl (fun _ => 0)))]) (cells2 := 7) (slots2 := 137) (c_X4_init E l q5 ) B w [5] [0, 1, 2, 3, 4] rfl rfl (by decide) (by decide) (by decide) ⟨kw_135, kw_134, kw_67⟩ kw_133 0 rfl (by decide +kernel) ⟨Nat.le_of_ble_eq_true rfl, Nat.le_of_ble_eq_true rfl⟩ rfl hl.1 rfl (Nat.le_of_ble_eq_true rfl) dX11_init_34 rfl rfl ⟨(Nat.le_of_ble_eq_true rfl), (Nat.le_of_ble_eq_true rfl)⟩ (fun v w' H locs hpo w => ?_)
  obtain ⟨rfl, q6, q7, rfl⟩ := hpo
  have w : mW E A s [(h, .inr (10, [.ref q1, .ref q3, .null, .null, .null, .null, .null, .null, .null])), (q1, .inr (9, [.ref q2, .int 0])), (q2, .inl (E.2.1, 60, .inl (fun _ => 0))), (q3, .inr (8, [.int (nI 30), .int (nI 1), .ref q4, .int 0])), (q4, .inl (E.2.1, (30 * 1), .inl (fun _ => 0))), (q5, .inr (3, [.ref q6])), (q6, .inr (8, [.int (nI 12), .int (nI 3), .ref q7, .int 0])), (q7, .inl (E.2.1, (12 * 3), .inl (fun _ => 0)))] _ _ := w
  refine mx_putF B w 0 fl_X11_28 ff_X11_2 rfl rfl (Nat.le_of_ble_eq_true rfl) rfl rfl dX11_init_37 (fun H locs w => ?_)
  have w : mW E A s [(h, .inr (10, [.ref q1, .ref q3, .ref q5, .null, .null, .null, .null, .null, .null])), (q1, .inr (9, [.ref q2, .int 0])), (q2, .inl (E.2.1, 60, .inl (fun _ => 0))), (q3, .inr (8, [.int (nI 30), .int (nI 1), .ref q4, .int 0])), (q4, .inl (E.2.1, (30 * 1), .inl (fun _ => 0))), (q5, .inr (3, [.ref q6])), (q6, .inr (8, [.int (nI 12), .int (nI 3), .ref q7, .int 0])), (q7, .inl (E.2.1, (12 * 3), .inl (fun _ => 0)))] _ _ := w
  refine lv_aload_n hx hb dX11_init_40 rfl (lv_at hl 0 rfl) ?_
  refine mx_new (fs := [.null, .null, .null, .null]) B w (ci := 7) (C := RX8) (T := TX8) (N := 4) rfl in_X8 tyX8 tyX8_ok kw_143 kw_144 kw_68 (fun j hj => by rcases (show j = 0 ∨ j = 1 ∨ j = 2 ∨ j = 3 by omega) with rfl | rfl | rfl | rfl <;> rfl) (Nat.le_of_ble_eq_true rfl) (Nat.le_of_ble_eq_true rfl) dX11_init_41 (fun q8 H w => ?_)
  have w : mW E A s [(h, .inr (10, [.ref q1, .ref q3, .ref q5, .null, .null, .null, .null, .null, .null])), (q1, .inr (9, [.ref q2, .int 0])), (q2, .inl (E.2.1, 60, .inl (fun _ => 0))), (q3, .inr (8, [.int (nI 30), .int (nI 1), .ref q4, .int 0])), (q4, .inl (E.2.1, (30 * 1), .inl (fun _ => 0))), (q5, .inr (3, [.ref q6])), (q6, .inr (8, [.int (nI 12), .int (nI 3), .ref q7, .int 0])), (q7, .inl (E.2.1, (12 * 3), .inl (fun _ => 0))), (q8, .inr (7, [.null, .null, .null, .null]))] _ _ := w
  refine W.widen (k := 8) (n := 141) (by omega) (by omega) ?_
  refine lv_dup hx hb dX11_init_44 rfl ?_
  refine mx_callI (As := []) (rest := [.ref q8, .ref h]) (wr := [(h, .inr (10, [.ref q1, .ref q3, .ref q5, .null, .null, .null, .null, .null, .null])), (q1, .inr (9, [.ref q2, .int 0])), (q2, .inl (E.2.1, 60, .inl (fun _ => 0))), (q3, .inr (8, [.int (nI 30), .int (nI 1), .ref q4, .int 0])), (q4, .inl (E.2.1, (30 * 1), .inl (fun _ => 0))), (q5, .inr (3, [.ref q6])), (q6, .inr (8, [.int (nI 12), .int (nI 3), .ref q7, .int 0])), (q7, .inl (E.2.1, (12 * 3), .inl (fun _ => 0)))]) (cells2 := 37) (slots2 := 4511) (c_X8_init E l q8 ) B w [8] [0, 1, 2, 3, 4, 5, 6, 7] rfl rfl (by decide) (by decide) (by decide) ⟨kw_147, kw_146, kw_68⟩ kw_145 0 rfl (by decide +kernel) ⟨Nat.le_of_ble_eq_true rfl, Nat.le_of_ble_eq_true rfl⟩ rfl hl.1 rfl (Nat.le_of_ble_eq_true rfl) dX11_init_45 rfl rfl ⟨(Nat.le_of_ble_eq_true rfl), (Nat.le_of_ble_eq_true rfl)⟩ (fun v w' H locs hpo w => ?_)
  obtain ⟨rfl, q9, q10, q11, q12, q13, q14, q15, q16, q17, q18, q19, q20, q21, q22, q23, q24, q25, q26, q27, q28, q29, q30, q31, q32, q33, q34, q35, q36, q37, rfl⟩ := hpo
  have w : mW E A s [(h, .inr (10, [.ref q1, .ref q3, .ref q5, .null, .null, .null, .null, .null, .null])), (q1, .inr (9, [.ref q2, .int 0])), (q2, .inl (E.2.1, 60, .inl (fun _ => 0))), (q3, .inr (8, [.int (nI 30), .int (nI 1), .ref q4, .int 0])), (q4, .inl (E.2.1, (30 * 1), .inl (fun _ => 0))), (q5, .inr (3, [.ref q6])), (q6, .inr (8, [.int (nI 12), .int (nI 3), .ref q7, .int 0])), (q7, .inl (E.2.1, (12 * 3), .inl (fun _ => 0))), (q8, .inr (7, [.ref q9, .ref q11, .ref q22, .ref q31])), (q9, .inr (4, [.ref q10, .int 0])), (q10, .inl (E.2.1, 8, .inl (upd (upd (upd (upd (upd (upd (upd (upd (fun _ => 0) 0 20) 1 16) 2 0) 3 0) 4 2) 5 0) 6 0) 7 0))), (q11, .inr (1, [.ref q9, .ref q12, .ref q14, .ref q16, .ref q18, .ref q20, .ref q21])), (q12, .inr (8, [.int (nI 40), .int (nI 3), .ref q13, .int 0])), (q13, .inl (E.2.1, (40 * 3), .inl (fun _ => 0))), (q14, .inr (8, [.int (nI 60), .int (nI 1), .ref q15, .int 0])), (q15, .inl (E.2.1, (60 * 1), .inl (fun _ => 0))), (q16, .inr (8, [.int (nI 40), .int (nI 2), .ref q17, .int 0])), (q17, .inl (E.2.1, (40 * 2), .inl (fun _ => 0))), (q18, .inr (8, [.int (nI 60), .int (nI 1), .ref q19, .int 0])), (q19, .inl (E.2.1, (60 * 1), .inl (fun _ => 0))), (q20, .inl (E.2.1, 14, .inl (fun _ => 0))), (q21, .inl (E.2.1, 64, .inl (fun _ => 0))), (q22, .inr (5, [.ref q9, .ref q11, .ref q23, .ref q26, .ref q29, .int 0, .int 0, .int 0, .int 0])), (q23, .inr (0, [.ref q9, .ref q24])), (q24, .inr (8, [.int (nI 200), .int (nI 9), .ref q25, .int 0])), (q25, .inl (E.2.1, (200 * 9), .inl (fun _ => 0))), (q26, .inr (0, [.ref q9, .ref q27])), (q27, .inr (8, [.int (nI 20), .int (nI 9), .ref q28, .int 0])), (q28, .inl (E.2.1, (20 * 9), .inl (fun _ => 0))), (q29, .inr (6, [.ref q30])), (q30, .inl (E.2.1, 64, .inl (fun _ => 0))), (q31, .inr (2, [.ref q9, .ref q11, .ref q32, .ref q34, .ref q36])), (q32, .inr (8, [.int (nI 256), .int (nI 3), .ref q33, .int 0])), (q33, .inl (E.2.1, (256 * 3), .inl (fun _ => 0))), (q34, .inr (8, [.int (nI 256), .int (nI 2), .ref q35, .int 0])), (q35, .inl (E.2.1, (256 * 2), .inl (fun _ => 0))), (q36, .inr (8, [.int (nI 192), .int (nI 3), .ref q37, .int 0])), (q37, .inl (E.2.1, (192 * 3), .inl (fun _ => 0)))] _ _ := w
  refine mx_putF B w 0 fl_X11_35 ff_X11_3 rfl rfl (Nat.le_of_ble_eq_true rfl) rfl rfl dX11_init_48 (fun H locs w => ?_)
  have w : mW E A s [(h, .inr (10, [.ref q1, .ref q3, .ref q5, .ref q8, .null, .null, .null, .null, .null])), (q1, .inr (9, [.ref q2, .int 0])), (q2, .inl (E.2.1, 60, .inl (fun _ => 0))), (q3, .inr (8, [.int (nI 30), .int (nI 1), .ref q4, .int 0])), (q4, .inl (E.2.1, (30 * 1), .inl (fun _ => 0))), (q5, .inr (3, [.ref q6])), (q6, .inr (8, [.int (nI 12), .int (nI 3), .ref q7, .int 0])), (q7, .inl (E.2.1, (12 * 3), .inl (fun _ => 0))), (q8, .inr (7, [.ref q9, .ref q11, .ref q22, .ref q31])), (q9, .inr (4, [.ref q10, .int 0])), (q10, .inl (E.2.1, 8, .inl (upd (upd (upd (upd (upd (upd (upd (upd (fun _ => 0) 0 20) 1 16) 2 0) 3 0) 4 2) 5 0) 6 0) 7 0))), (q11, .inr (1, [.ref q9, .ref q12, .ref q14, .ref q16, .ref q18, .ref q20, .ref q21])), (q12, .inr (8, [.int (nI 40), .int (nI 3), .ref q13, .int 0])), (q13, .inl (E.2.1, (40 * 3), .inl (fun _ => 0))), (q14, .inr (8, [.int (nI 60), .int (nI 1), .ref q15, .int 0])), (q15, .inl (E.2.1, (60 * 1), .inl (fun _ => 0))), (q16, .inr (8, [.int (nI 40), .int (nI 2), .ref q17, .int 0])), (q17, .inl (E.2.1, (40 * 2), .inl (fun _ => 0))), (q18, .inr (8, [.int (nI 60), .int (nI 1), .ref q19, .int 0])), (q19, .inl (E.2.1, (60 * 1), .inl (fun _ => 0))), (q20, .inl (E.2.1, 14, .inl (fun _ => 0))), (q21, .inl (E.2.1, 64, .inl (fun _ => 0))), (q22, .inr (5, [.ref q9, .ref q11, .ref q23, .ref q26, .ref q29, .int 0, .int 0, .int 0, .int 0])), (q23, .inr (0, [.ref q9, .ref q24])), (q24, .inr (8, [.int (nI 200), .int (nI 9), .ref q25, .int 0])), (q25, .inl (E.2.1, (200 * 9), .inl (fun _ => 0))), (q26, .inr (0, [.ref q9, .ref q27])), (q27, .inr (8, [.int (nI 20), .int (nI 9), .ref q28, .int 0])), (q28, .inl (E.2.1, (20 * 9), .inl (fun _ => 0))), (q29, .inr (6, [.ref q30])), (q30, .inl (E.2.1, 64, .inl (fun _ => 0))), (q31, .inr (2, [.ref q9, .ref q11, .ref q32, .ref q34, .ref q36])), (q32, .inr (8, [.int (nI 256), .int (nI 3), .ref q33, .int 0])), (q33, .inl (E.2.1, (256 * 3), .inl (fun _ => 0))), (q34, .inr (8, [.int (nI 256), .int (nI 2), .ref q35, .int 0])), (q35, .inl (E.2.1, (256 * 2), .inl (fun _ => 0))), (q36, .inr (8, [.int (nI 192), .int (nI 3), .ref q37, .int 0])), (q37, .inl (E.2.1, (192 * 3), .inl (fun _ => 0)))] _ _ := w
  refine lv_aload_n hx hb dX11_init_51 rfl (lv_at hl 0 rfl) ?_
  refine lv_aload_n hx hb dX11_init_52 rfl (lv_at hl 0 rfl) ?_
  refine mx_get B w 0 fl_X11_35 rfl rfl dX11_init_53 ?_
  refine mx_getN B w 8 fl_X11_39 rfl rfl dX11_init_56 ?_
  refine mx_putF B w 0 fl_X11_43 ff_X11_4 rfl rfl (Nat.le_of_ble_eq_true rfl) rfl rfl dX11_init_59 (fun H locs w => ?_)
  have w : mW E A s [(h, .inr (10, [.ref q1, .ref q3, .ref q5, .ref q8, .ref q9, .null, .null, .null, .null])), (q1, .inr (9, [.ref q2, .int 0])), (q2, .inl (E.2.1, 60, .inl (fun _ => 0))), (q3, .inr (8, [.int (nI 30), .int (nI 1), .ref q4, .int 0])), (q4, .inl (E.2.1, (30 * 1), .inl (fun _ => 0))), (q5, .inr (3, [.ref q6])), (q6, .inr (8, [.int (nI 12), .int (nI 3), .ref q7, .int 0])), (q7, .inl (E.2.1, (12 * 3), .inl (fun _ => 0))), (q8, .inr (7, [.ref q9, .ref q11, .ref q22, .ref q31])), (q9, .inr (4, [.ref q10, .int 0])), (q10, .inl (E.2.1, 8, .inl (upd (upd (upd (upd (upd (upd (upd (upd (fun _ => 0) 0 20) 1 16) 2 0) 3 0) 4 2) 5 0) 6 0) 7 0))), (q11, .inr (1, [.ref q9, .ref q12, .ref q14, .ref q16, .ref q18, .ref q20, .ref q21])), (q12, .inr (8, [.int (nI 40), .int (nI 3), .ref q13, .int 0])), (q13, .inl (E.2.1, (40 * 3), .inl (fun _ => 0))), (q14, .inr (8, [.int (nI 60), .int (nI 1), .ref q15, .int 0])), (q15, .inl (E.2.1, (60 * 1), .inl (fun _ => 0))), (q16, .inr (8, [.int (nI 40), .int (nI 2), .ref q17, .int 0])), (q17, .inl (E.2.1, (40 * 2), .inl (fun _ => 0))), (q18, .inr (8, [.int (nI 60), .int (nI 1), .ref q19, .int 0])), (q19, .inl (E.2.1, (60 * 1), .inl (fun _ => 0))), (q20, .inl (E.2.1, 14, .inl (fun _ => 0))), (q21, .inl (E.2.1, 64, .inl (fun _ => 0))), (q22, .inr (5, [.ref q9, .ref q11, .ref q23, .ref q26, .ref q29, .int 0, .int 0, .int 0, .int 0])), (q23, .inr (0, [.ref q9, .ref q24])), (q24, .inr (8, [.int (nI 200), .int (nI 9), .ref q25, .int 0])), (q25, .inl (E.2.1, (200 * 9), .inl (fun _ => 0))), (q26, .inr (0, [.ref q9, .ref q27])), (q27, .inr (8, [.int (nI 20), .int (nI 9), .ref q28, .int 0])), (q28, .inl (E.2.1, (20 * 9), .inl (fun _ => 0))), (q29, .inr (6, [.ref q30])), (q30, .inl (E.2.1, 64, .inl (fun _ => 0))), (q31, .inr (2, [.ref q9, .ref q11, .ref q32, .ref q34, .ref q36])), (q32, .inr (8, [.int (nI 256), .int (nI 3), .ref q33, .int 0])), (q33, .inl (E.2.1, (256 * 3), .inl (fun _ => 0))), (q34, .inr (8, [.int (nI 256), .int (nI 2), .ref q35, .int 0])), (q35, .inl (E.2.1, (256 * 2), .inl (fun _ => 0))), (q36, .inr (8, [.int (nI 192), .int (nI 3), .ref q37, .int 0])), (q37, .inl (E.2.1, (192 * 3), .inl (fun _ => 0)))] _ _ := w
  refine lv_aload_n hx hb dX11_init_62 rfl (lv_at hl 0 rfl) ?_
  refine lv_aload_n hx hb dX11_init_63 rfl (lv_at hl 0 rfl) ?_
  refine mx_get B w 0 fl_X11_35 rfl rfl dX11_init_64 ?_
  refine mx_getN B w 8 fl_X11_44 rfl rfl dX11_init_67 ?_
  refine mx_putF B w 0 fl_X11_48 ff_X11_5 rfl rfl (Nat.le_of_ble_eq_true rfl) rfl rfl dX11_init_70 (fun H locs w => ?_)
  have w : mW E A s [(h, .inr (10, [.ref q1, .ref q3, .ref q5, .ref q8, .ref q9, .ref q11, .null, .null, .null])), (q1, .inr (9, [.ref q2, .int 0])), (q2, .inl (E.2.1, 60, .inl (fun _ => 0))), (q3, .inr (8, [.int (nI 30), .int (nI 1), .ref q4, .int 0])), (q4, .inl (E.2.1, (30 * 1), .inl (fun _ => 0))), (q5, .inr (3, [.ref q6])), (q6, .inr (8, [.int (nI 12), .int (nI 3), .ref q7, .int 0])), (q7, .inl (E.2.1, (12 * 3), .inl (fun _ => 0))), (q8, .inr (7, [.ref q9, .ref q11, .ref q22, .ref q31])), (q9, .inr (4, [.ref q10, .int 0])), (q10, .inl (E.2.1, 8, .inl (upd (upd (upd (upd (upd (upd (upd (upd (fun _ => 0) 0 20) 1 16) 2 0) 3 0) 4 2) 5 0) 6 0) 7 0))), (q11, .inr (1, [.ref q9, .ref q12, .ref q14, .ref q16, .ref q18, .ref q20, .ref q21])), (q12, .inr (8, [.int (nI 40), .int (nI 3), .ref q13, .int 0])), (q13, .inl (E.2.1, (40 * 3), .inl (fun _ => 0))), (q14, .inr (8, [.int (nI 60), .int (nI 1), .ref q15, .int 0])), (q15, .inl (E.2.1, (60 * 1), .inl (fun _ => 0))), (q16, .inr (8, [.int (nI 40), .int (nI 2), .ref q17, .int 0])), (q17, .inl (E.2.1, (40 * 2), .inl (fun _ => 0))), (q18, .inr (8, [.int (nI 60), .int (nI 1), .ref q19, .int 0])), (q19, .inl (E.2.1, (60 * 1), .inl (fun _ => 0))), (q20, .inl (E.2.1, 14, .inl (fun _ => 0))), (q21, .inl (E.2.1, 64, .inl (fun _ => 0))), (q22, .inr (5, [.ref q9, .ref q11, .ref q23, .ref q26, .ref q29, .int 0, .int 0, .int 0, .int 0])), (q23, .inr (0, [.ref q9, .ref q24])), (q24, .inr (8, [.int (nI 200), .int (nI 9), .ref q25, .int 0])), (q25, .inl (E.2.1, (200 * 9), .inl (fun _ => 0))), (q26, .inr (0, [.ref q9, .ref q27])), (q27, .inr (8, [.int (nI 20), .int (nI 9), .ref q28, .int 0])), (q28, .inl (E.2.1, (20 * 9), .inl (fun _ => 0))), (q29, .inr (6, [.ref q30])), (q30, .inl (E.2.1, 64, .inl (fun _ => 0))), (q31, .inr (2, [.ref q9, .ref q11, .ref q32, .ref q34, .ref q36])), (q32, .inr (8, [.int (nI 256), .int (nI 3), .ref q33, .int 0])), (q33, .inl (E.2.1, (256 * 3), .inl (fun _ => 0))), (q34, .inr (8, [.int (nI 256), .int (nI 2), .ref q35, .int 0])), (q35, .inl (E.2.1, (256 * 2), .inl (fun _ => 0))), (q36, .inr (8, [.int (nI 192), .int (nI 3), .ref q37, .int 0])), (q37, .inl (E.2.1, (192 * 3), .inl (fun _ => 0)))] _ _ := w
  refine lv_aload_n hx hb dX11_init_73 rfl (lv_at hl 0 rfl) ?_
  refine lv_aload_n hx hb dX11_init_74 rfl (lv_at hl 0 rfl) ?_
  refine mx_get B w 0 fl_X11_35 rfl rfl dX11_init_75 ?_
  refine mx_getN B w 8 fl_X11_49 rfl rfl dX11_init_78 ?_
  refine mx_putF B w 0 fl_X11_53 ff_X11_6 rfl rfl (Nat.le_of_ble_eq_true rfl) rfl rfl dX11_init_81 (fun H locs w => ?_)
  have w : mW E A s [(h, .inr (10, [.ref q1, .ref q3, .ref q5, .ref q8, .ref q9, .ref q11, .ref q22, .null, .null])), (q1, .inr (9, [.ref q2, .int 0])), (q2, .inl (E.2.1, 60, .inl (fun _ => 0))), (q3, .inr (8, [.int (nI 30), .int (nI 1), .ref q4, .int 0])), (q4, .inl (E.2.1, (30 * 1), .inl (fun _ => 0))), (q5, .inr (3, [.ref q6])), (q6, .inr (8, [.int (nI 12), .int (nI 3), .ref q7, .int 0])), (q7, .inl (E.2.1, (12 * 3), .inl (fun _ => 0))), (q8, .inr (7, [.ref q9, .ref q11, .ref q22, .ref q31])), (q9, .inr (4, [.ref q10, .int 0])), (q10, .inl (E.2.1, 8, .inl (upd (upd (upd (upd (upd (upd (upd (upd (fun _ => 0) 0 20) 1 16) 2 0) 3 0) 4 2) 5 0) 6 0) 7 0))), (q11, .inr (1, [.ref q9, .ref q12, .ref q14, .ref q16, .ref q18, .ref q20, .ref q21])), (q12, .inr (8, [.int (nI 40), .int (nI 3), .ref q13, .int 0])), (q13, .inl (E.2.1, (40 * 3), .inl (fun _ => 0))), (q14, .inr (8, [.int (nI 60), .int (nI 1), .ref q15, .int 0])), (q15, .inl (E.2.1, (60 * 1), .inl (fun _ => 0))), (q16, .inr (8, [.int (nI 40), .int (nI 2), .ref q17, .int 0])), (q17, .inl (E.2.1, (40 * 2), .inl (fun _ => 0))), (q18, .inr (8, [.int (nI 60), .int (nI 1), .ref q19, .int 0])), (q19, .inl (E.2.1, (60 * 1), .inl (fun _ => 0))), (q20, .inl (E.2.1, 14, .inl (fun _ => 0))), (q21, .inl (E.2.1, 64, .inl (fun _ => 0))), (q22, .inr (5, [.ref q9, .ref q11, .ref q23, .ref q26, .ref q29, .int 0, .int 0, .int 0, .int 0])), (q23, .inr (0, [.ref q9, .ref q24])), (q24, .inr (8, [.int (nI 200), .int (nI 9), .ref q25, .int 0])), (q25, .inl (E.2.1, (200 * 9), .inl (fun _ => 0))), (q26, .inr (0, [.ref q9, .ref q27])), (q27, .inr (8, [.int (nI 20), .int (nI 9), .ref q28, .int 0])), (q28, .inl (E.2.1, (20 * 9), .inl (fun _ => 0))), (q29, .inr (6, [.ref q30])), (q30, .inl (E.2.1, 64, .inl (fun _ => 0))), (q31, .inr (2, [.ref q9, .ref q11, .ref q32, .ref q34, .ref q36])), (q32, .inr (8, [.int (nI 256), .int (nI 3), .ref q33, .int 0])), (q33, .inl (E.2.1, (256 * 3), .inl (fun _ => 0))), (q34, .inr (8, [.int (nI 256), .int (nI 2), .ref q35, .int 0])), (q35, .inl (E.2.1, (256 * 2), .inl (fun _ => 0))), (q36, .inr (8, [.int (nI 192), .int (nI 3), .ref q37, .int 0])), (q37, .inl (E.2.1, (192 * 3), .inl (fun _ => 0)))] _ _ := w
  refine lv_aload_n hx hb dX11_init_84 rfl (lv_at hl 0 rfl) ?_
  refine lv_aload_n hx hb dX11_init_85 rfl (lv_at hl 0 rfl) ?_
  refine mx_get B w 0 fl_X11_35 rfl rfl dX11_init_86 ?_
  refine mx_getN B w 8 fl_X11_54 rfl rfl dX11_init_89 ?_
  refine mx_putF B w 0 fl_X11_58 ff_X11_7 rfl rfl (Nat.le_of_ble_eq_true rfl) rfl rfl dX11_init_92 (fun H locs w => ?_)
  have w : mW E A s [(h, .inr (10, [.ref q1, .ref q3, .ref q5, .ref q8, .ref q9, .ref q11, .ref q22, .ref q31, .null])), (q1, .inr (9, [.ref q2, .int 0])), (q2, .inl (E.2.1, 60, .inl (fun _ => 0))), (q3, .inr (8, [.int (nI 30), .int (nI 1), .ref q4, .int 0])), (q4, .inl (E.2.1, (30 * 1), .inl (fun _ => 0))), (q5, .inr (3, [.ref q6])), (q6, .inr (8, [.int (nI 12), .int (nI 3), .ref q7, .int 0])), (q7, .inl (E.2.1, (12 * 3), .inl (fun _ => 0))), (q8, .inr (7, [.ref q9, .ref q11, .ref q22, .ref q31])), (q9, .inr (4, [.ref q10, .int 0])), (q10, .inl (E.2.1, 8, .inl (upd (upd (upd (upd (upd (upd (upd (upd (fun _ => 0) 0 20) 1 16) 2 0) 3 0) 4 2) 5 0) 6 0) 7 0))), (q11, .inr (1, [.ref q9, .ref q12, .ref q14, .ref q16, .ref q18, .ref q20, .ref q21])), (q12, .inr (8, [.int (nI 40), .int (nI 3), .ref q13, .int 0])), (q13, .inl (E.2.1, (40 * 3), .inl (fun _ => 0))), (q14, .inr (8, [.int (nI 60), .int (nI 1), .ref q15, .int 0])), (q15, .inl (E.2.1, (60 * 1), .inl (fun _ => 0))), (q16, .inr (8, [.int (nI 40), .int (nI 2), .ref q17, .int 0])), (q17, .inl (E.2.1, (40 * 2), .inl (fun _ => 0))), (q18, .inr (8, [.int (nI 60), .int (nI 1), .ref q19, .int 0])), (q19, .inl (E.2.1, (60 * 1), .inl (fun _ => 0))), (q20, .inl (E.2.1, 14, .inl (fun _ => 0))), (q21, .inl (E.2.1, 64, .inl (fun _ => 0))), (q22, .inr (5, [.ref q9, .ref q11, .ref q23, .ref q26, .ref q29, .int 0, .int 0, .int 0, .int 0])), (q23, .inr (0, [.ref q9, .ref q24])), (q24, .inr (8, [.int (nI 200), .int (nI 9), .ref q25, .int 0])), (q25, .inl (E.2.1, (200 * 9), .inl (fun _ => 0))), (q26, .inr (0, [.ref q9, .ref q27])), (q27, .inr (8, [.int (nI 20), .int (nI 9), .ref q28, .int 0])), (q28, .inl (E.2.1, (20 * 9), .inl (fun _ => 0))), (q29, .inr (6, [.ref q30])), (q30, .inl (E.2.1, 64, .inl (fun _ => 0))), (q31, .inr (2, [.ref q9, .ref q11, .ref q32, .ref q34, .ref q36])), (q32, .inr (8, [.int (nI 256), .int (nI 3), .ref q33, .int 0])), (q33, .inl (E.2.1, (256 * 3), .inl (fun _ => 0))), (q34, .inr (8, [.int (nI 256), .int (nI 2), .ref q35, .int 0])), (q35, .inl (E.2.1, (256 * 2), .inl (fun _ => 0))), (q36, .inr (8, [.int (nI 192), .int (nI 3), .ref q37, .int 0])), (q37, .inl (E.2.1, (192 * 3), .inl (fun _ => 0)))] _ _ := w
  refine lv_aload_n hx hb dX11_init_95 rfl (lv_at hl 0 rfl) ?_
  refine lv_null hx hb dX11_init_96 ?_
  refine mx_putv B w 0 fl_X11_59 ff_X11_8 rfl (Nat.le_of_ble_eq_true rfl) rfl rfl dX11_init_97 (fun H locs w => ?_)
  have w : mW E A s [(h, .inr (10, [.ref q1, .ref q3, .ref q5, .ref q8, .ref q9, .ref q11, .ref q22, .ref q31, .null])), (q1, .inr (9, [.ref q2, .int 0])), (q2, .inl (E.2.1, 60, .inl (fun _ => 0))), (q3, .inr (8, [.int (nI 30), .int (nI 1), .ref q4, .int 0])), (q4, .inl (E.2.1, (30 * 1), .inl (fun _ => 0))), (q5, .inr (3, [.ref q6])), (q6, .inr (8, [.int (nI 12), .int (nI 3), .ref q7, .int 0])), (q7, .inl (E.2.1, (12 * 3), .inl (fun _ => 0))), (q8, .inr (7, [.ref q9, .ref q11, .ref q22, .ref q31])), (q9, .inr (4, [.ref q10, .int 0])), (q10, .inl (E.2.1, 8, .inl (upd (upd (upd (upd (upd (upd (upd (upd (fun _ => 0) 0 20) 1 16) 2 0) 3 0) 4 2) 5 0) 6 0) 7 0))), (q11, .inr (1, [.ref q9, .ref q12, .ref q14, .ref q16, .ref q18, .ref q20, .ref q21])), (q12, .inr (8, [.int (nI 40), .int (nI 3), .ref q13, .int 0])), (q13, .inl (E.2.1, (40 * 3), .inl (fun _ => 0))), (q14, .inr (8, [.int (nI 60), .int (nI 1), .ref q15, .int 0])), (q15, .inl (E.2.1, (60 * 1), .inl (fun _ => 0))), (q16, .inr (8, [.int (nI 40), .int (nI 2), .ref q17, .int 0])), (q17, .inl (E.2.1, (40 * 2), .inl (fun _ => 0))), (q18, .inr (8, [.int (nI 60), .int (nI 1), .ref q19, .int 0])), (q19, .inl (E.2.1, (60 * 1), .inl (fun _ => 0))), (q20, .inl (E.2.1, 14, .inl (fun _ => 0))), (q21, .inl (E.2.1, 64, .inl (fun _ => 0))), (q22, .inr (5, [.ref q9, .ref q11, .ref q23, .ref q26, .ref q29, .int 0, .int 0, .int 0, .int 0])), (q23, .inr (0, [.ref q9, .ref q24])), (q24, .inr (8, [.int (nI 200), .int (nI 9), .ref q25, .int 0])), (q25, .inl (E.2.1, (200 * 9), .inl (fun _ => 0))), (q26, .inr (0, [.ref q9, .ref q27])), (q27, .inr (8, [.int (nI 20), .int (nI 9), .ref q28, .int 0])), (q28, .inl (E.2.1, (20 * 9), .inl (fun _ => 0))), (q29, .inr (6, [.ref q30])), (q30, .inl (E.2.1, 64, .inl (fun _ => 0))), (q31, .inr (2, [.ref q9, .ref q11, .ref q32, .ref q34, .ref q36])), (q32, .inr (8, [.int (nI 256), .int (nI 3), .ref q33, .int 0])), (q33, .inl (E.2.1, (256 * 3), .inl (fun _ => 0))), (q34, .inr (8, [.int (nI 256), .int (nI 2), .ref q35, .int 0])), (q35, .inl (E.2.1, (256 * 2), .inl (fun _ => 0))), (q36, .inr (8, [.int (nI 192), .int (nI 3), .ref q37, .int 0])), (q37, .inl (E.2.1, (192 * 3), .inl (fun _ => 0)))] _ _ := w
  have w : mW E A s [(h, .inr (10, [.ref q1, .ref q3, .ref q5, .ref q8, .ref q9, .ref q11, .ref q22, .ref q31, .null])), (q1, .inr (9, [.ref q2, .int 0])), (q2, .inl (E.2.1, 60, .inl (fun _ => 0))), (q3, .inr (8, [.int (nI 30), .int (nI 1), .ref q4, .int 0])), (q4, .inl (E.2.1, (30 * 1), .inl (fun _ => 0))), (q5, .inr (3, [.ref q6])), (q6, .inr (8, [.int (nI 12), .int (nI 3), .ref q7, .int 0])), (q7, .inl (E.2.1, (12 * 3), .inl (fun _ => 0))), (q9, .inr (4, [.ref q10, .int 0])), (q10, .inl (E.2.1, 8, .inl (upd (upd (upd (upd (upd (upd (upd (upd (fun _ => 0) 0 20) 1 16) 2 0) 3 0) 4 2) 5 0) 6 0) 7 0))), (q11, .inr (1, [.ref q9, .ref q12, .ref q14, .ref q16, .ref q18, .ref q20, .ref q21])), (q12, .inr (8, [.int (nI 40), .int (nI 3), .ref q13, .int 0])), (q13, .inl (E.2.1, (40 * 3), .inl (fun _ => 0))), (q14, .inr (8, [.int (nI 60), .int (nI 1), .ref q15, .int 0])), (q15, .inl (E.2.1, (60 * 1), .inl (fun _ => 0))), (q16, .inr (8, [.int (nI 40), .int (nI 2), .ref q17, .int 0])), (q17, .inl (E.2.1, (40 * 2), .inl (fun _ => 0))), (q18, .inr (8, [.int (nI 60), .int (nI 1), .ref q19, .int 0])), (q19, .inl (E.2.1, (60 * 1), .inl (fun _ => 0))), (q20, .inl (E.2.1, 14, .inl (fun _ => 0))), (q21, .inl (E.2.1, 64, .inl (fun _ => 0))), (q22, .inr (5, [.ref q9, .ref q11, .ref q23, .ref q26, .ref q29, .int 0, .int 0, .int 0, .int 0])), (q23, .inr (0, [.ref q9, .ref q24])), (q24, .inr (8, [.int (nI 200), .int (nI 9), .ref q25, .int 0])), (q25, .inl (E.2.1, (200 * 9), .inl (fun _ => 0))), (q26, .inr (0, [.ref q9, .ref q27])), (q27, .inr (8, [.int (nI 20), .int (nI 9), .ref q28, .int 0])), (q28, .inl (E.2.1, (20 * 9), .inl (fun _ => 0))), (q29, .inr (6, [.ref q30])), (q30, .inl (E.2.1, 64, .inl (fun _ => 0))), (q31, .inr (2, [.ref q9, .ref q11, .ref q32, .ref q34, .ref q36])), (q32, .inr (8, [.int (nI 256), .int (nI 3), .ref q33, .int 0])), (q33, .inl (E.2.1, (256 * 3), .inl (fun _ => 0))), (q34, .inr (8, [.int (nI 256), .int (nI 2), .ref q35, .int 0])), (q35, .inl (E.2.1, (256 * 2), .inl (fun _ => 0))), (q36, .inr (8, [.int (nI 192), .int (nI 3), .ref q37, .int 0])), (q37, .inl (E.2.1, (192 * 3), .inl (fun _ => 0))), (q8, .inr (7, [.ref q9, .ref q11, .ref q22, .ref q31]))] _ _ := w.sub [0, 1, 2, 3, 4, 5, 6, 7, 9, 10, 11, 12, 13, 14, 15, 16, 17, 18, 19, 20, 21, 22, 23, 24, 25, 26, 27, 28, 29, 30, 31, 32, 33, 34, 35, 36, 37, 8] (by decide) rfl
  exact mx_vret B w ⟨rfl, _, _, _, _, _, _, _, _, _, _, _, _, _, _, _, _, _, _, _, _, _, _, _, _, _, _, _, _, _, _, _, _, _, _, _, _, _, rfl⟩ dX11_init_100

set_option maxHeartbeats 4000000 in
set_option maxRecDepth 100000 in
theorem c_X12_init (E : mE) (l : Launch) (h : Nat)  : MX E l yX12_init cX12_init 1 none ({ frames := 1, cells := 9, slots := 17782, locals := 20 } : Room) [.ref h] [(h, .inr (11, [.null, .null, .int 0, .null, .int 0, .int 0, .null, .int 0, .null, .int 0, .null, .null, .null, .null]))] (fun (v : Option Value) (w' : va_W) => v = none ∧ ∃ (q1 : Nat) (q2 : Nat) (q3 : Nat) (q4 : Nat) (q5 : Nat) (q6 : Nat) (q7 : Nat) (q8 : Nat) (q9 : Nat), w' = [(h, .inr (11, [.ref q1, .ref q2, .int 0, .ref q3, .int 0, .int 0, .ref q4, .int 0, .ref q5, .int 0, .ref q6, .ref q7, .ref q8, .ref q9])), (q1, .inl (E.2.1, 8787, .inl (upd (upd (upd (fun _ => 0) 0 20) 1 16) 4 2))), (q2, .inl (E.2.1, 8787, .inl (fun _ => 0))), (q3, .inl (E.2.2.1, 60, .inl (fun _ => 0))), (q4, .inl (E.2.1, 40, .inl (fun _ => 0))), (q5, .inl (E.2.1, 60, .inl (fun _ => 0))), (q6, .inl (E.2.1, 12, .inl (fun _ => 0))), (q7, .inl (E.2.1, 12, .inl (fun _ => 0))), (q8, .inl (E.2.1, 12, .inl (fun _ => 0))), (q9, .inl (E.2.1, 12, .inl (fun _ => 0)))]) := by
  refine mx_intro (by decide +kernel) (Nat.le_of_ble_eq_true rfl) ?_
  intro p e s m args below meth c A Q ls B w hl
  obtain ⟨hx, hb, hml, hown, hts⟩ := id B.1
  have w : mW E A s [(h, .inr (11, [.null, .null, .int 0, .null, .int 0, .int 0, .null, .int 0, .null, .int 0, .null, .null, .null, .null]))] s.heap [] := w
  refine lv_aload_n hx hb dX12_init_0 rfl (lv_at hl 0 rfl) ?_
  refine mx_obj B ko_X12 ko_inst ko_code hl.1 dX12_init_1 (Nat.le_of_ble_eq_true rfl) (Nat.le_of_ble_eq_true rfl) ?_
  refine lv_aload_n hx hb dX12_init_4 rfl (lv_at hl 0 rfl) ?_
  refine lv_sipush (v := 8787) hx hb dX12_init_5 (by decide) ?_
  refine mx_newi B w (N' := 8787) ka_int (by decide) (by decide) (Nat.le_of_ble_eq_true rfl) (Nat.le_of_ble_eq_true rfl) (Nat.le_of_ble_eq_true rfl) dX12_init_8 (fun q1 H w => ?_)
  have w : mW E A s [(h, .inr (11, [.null, .null, .int 0, .null, .int 0, .int 0, .null, .int 0, .null, .int 0, .null, .null, .null, .null])), (q1, .inl (E.2.1, 8787, .inl (fun _ => 0)))] _ _ := w
  refine W.widen (k := 1) (n := 8787) (by omega) (by omega) ?_
  refine mx_putF B w 0 fl_X12_9 ff_X12_0 rfl rfl (Nat.le_of_ble_eq_true rfl) rfl rfl dX12_init_10 (fun H locs w => ?_)
  have w : mW E A s [(h, .inr (11, [.ref q1, .null, .int 0, .null, .int 0, .int 0, .null, .int 0, .null, .int 0, .null, .null, .null, .null])), (q1, .inl (E.2.1, 8787, .inl (fun _ => 0)))] _ _ := w
  refine lv_aload_n hx hb dX12_init_13 rfl (lv_at hl 0 rfl) ?_
  refine lv_sipush (v := 8787) hx hb dX12_init_14 (by decide) ?_
  refine mx_newi B w (N' := 8787) ka_int (by decide) (by decide) (Nat.le_of_ble_eq_true rfl) (Nat.le_of_ble_eq_true rfl) (Nat.le_of_ble_eq_true rfl) dX12_init_17 (fun q2 H w => ?_)
  have w : mW E A s [(h, .inr (11, [.ref q1, .null, .int 0, .null, .int 0, .int 0, .null, .int 0, .null, .int 0, .null, .null, .null, .null])), (q1, .inl (E.2.1, 8787, .inl (fun _ => 0))), (q2, .inl (E.2.1, 8787, .inl (fun _ => 0)))] _ _ := w
  refine W.widen (k := 2) (n := 17574) (by omega) (by omega) ?_
  refine mx_putF B w 0 fl_X12_13 ff_X12_1 rfl rfl (Nat.le_of_ble_eq_true rfl) rfl rfl dX12_init_19 (fun H locs w => ?_)
  have w : mW E A s [(h, .inr (11, [.ref q1, .ref q2, .int 0, .null, .int 0, .int 0, .null, .int 0, .null, .int 0, .null, .null, .null, .null])), (q1, .inl (E.2.1, 8787, .inl (fun _ => 0))), (q2, .inl (E.2.1, 8787, .inl (fun _ => 0)))] _ _ := w
  refine lv_aload_n hx hb dX12_init_22 rfl (lv_at hl 0 rfl) ?_
  refine lv_bipush (v := 60) hx hb dX12_init_23 (by decide) ?_
  refine mx_newb B w (N' := 60) ka_byte (by decide) (by decide) (Nat.le_of_ble_eq_true rfl) (Nat.le_of_ble_eq_true rfl) (Nat.le_of_ble_eq_true rfl) dX12_init_25 (fun q3 H w => ?_)
  have w : mW E A s [(h, .inr (11, [.ref q1, .ref q2, .int 0, .null, .int 0, .int 0, .null, .int 0, .null, .int 0, .null, .null, .null, .null])), (q1, .inl (E.2.1, 8787, .inl (fun _ => 0))), (q2, .inl (E.2.1, 8787, .inl (fun _ => 0))), (q3, .inl (E.2.2.1, 60, .inl (fun _ => 0)))] _ _ := w
  refine W.widen (k := 3) (n := 17634) (by omega) (by omega) ?_
  refine mx_putF B w 0 fl_X12_16 ff_X12_3 rfl rfl (Nat.le_of_ble_eq_true rfl) rfl rfl dX12_init_27 (fun H locs w => ?_)
  have w : mW E A s [(h, .inr (11, [.ref q1, .ref q2, .int 0, .ref q3, .int 0, .int 0, .null, .int 0, .null, .int 0, .null, .null, .null, .null])), (q1, .inl (E.2.1, 8787, .inl (fun _ => 0))), (q2, .inl (E.2.1, 8787, .inl (fun _ => 0))), (q3, .inl (E.2.2.1, 60, .inl (fun _ => 0)))] _ _ := w
  refine lv_aload_n hx hb dX12_init_30 rfl (lv_at hl 0 rfl) ?_
  refine lv_bipush (v := 40) hx hb dX12_init_31 (by decide) ?_
  refine mx_newi B w (N' := 40) ka_int (by decide) (by decide) (Nat.le_of_ble_eq_true rfl) (Nat.le_of_ble_eq_true rfl) (Nat.le_of_ble_eq_true rfl) dX12_init_33 (fun q4 H w => ?_)
  have w : mW E A s [(h, .inr (11, [.ref q1, .ref q2, .int 0, .ref q3, .int 0, .int 0, .null, .int 0, .null, .int 0, .null, .null, .null, .null])), (q1, .inl (E.2.1, 8787, .inl (fun _ => 0))), (q2, .inl (E.2.1, 8787, .inl (fun _ => 0))), (q3, .inl (E.2.2.1, 60, .inl (fun _ => 0))), (q4, .inl (E.2.1, 40, .inl (fun _ => 0)))] _ _ := w
  refine W.widen (k := 4) (n := 17674) (by omega) (by omega) ?_
  refine mx_putF B w 0 fl_X12_20 ff_X12_6 rfl rfl (Nat.le_of_ble_eq_true rfl) rfl rfl dX12_init_35 (fun H locs w => ?_)
  have w : mW E A s [(h, .inr (11, [.ref q1, .ref q2, .int 0, .ref q3, .int 0, .int 0, .ref q4, .int 0, .null, .int 0, .null, .null, .null, .null])), (q1, .inl (E.2.1, 8787, .inl (fun _ => 0))), (q2, .inl (E.2.1, 8787, .inl (fun _ => 0))), (q3, .inl (E.2.2.1, 60, .inl (fun _ => 0))), (q4, .inl (E.2.1, 40, .inl (fun _ => 0)))] _ _ := w
  refine lv_aload_n hx hb dX12_init_38 rfl (lv_at hl 0 rfl) ?_
  refine lv_bipush (v := 60) hx hb dX12_init_39 (by decide) ?_
  refine mx_newi B w (N' := 60) ka_int (by decide) (by decide) (Nat.le_of_ble_eq_true rfl) (Nat.le_of_ble_eq_true rfl) (Nat.le_of_ble_eq_true rfl) dX12_init_41 (fun q5 H w => ?_)
  have w : mW E A s [(h, .inr (11, [.ref q1, .ref q2, .int 0, .ref q3, .int 0, .int 0, .ref q4, .int 0, .null, .int 0, .null, .null, .null, .null])), (q1, .inl (E.2.1, 8787, .inl (fun _ => 0))), (q2, .inl (E.2.1, 8787, .inl (fun _ => 0))), (q3, .inl (E.2.2.1, 60, .inl (fun _ => 0))), (q4, .inl (E.2.1, 40, .inl (fun _ => 0))), (q5, .inl (E.2.1, 60, .inl (fun _ => 0)))] _ _ := w
  refine W.widen (k := 5) (n := 17734) (by omega) (by omega) ?_
  refine mx_putF B w 0 fl_X12_23 ff_X12_8 rfl rfl (Nat.le_of_ble_eq_true rfl) rfl rfl dX12_init_43 (fun H locs w => ?_)
  have w : mW E A s [(h, .inr (11, [.ref q1, .ref q2, .int 0, .ref q3, .int 0, .int 0, .ref q4, .int 0, .ref q5, .int 0, .null, .null, .null, .null])), (q1, .inl (E.2.1, 8787, .inl (fun _ => 0))), (q2, .inl (E.2.1, 8787, .inl (fun _ => 0))), (q3, .inl (E.2.2.1, 60, .inl (fun _ => 0))), (q4, .inl (E.2.1, 40, .inl (fun _ => 0))), (q5, .inl (E.2.1, 60, .inl (fun _ => 0)))] _ _ := w
  refine lv_aload_n hx hb dX12_init_46 rfl (lv_at hl 0 rfl) ?_
  refine lv_bipush (v := 12) hx hb dX12_init_47 (by decide) ?_
  refine mx_newi B w (N' := 12) ka_int (by decide) (by decide) (Nat.le_of_ble_eq_true rfl) (Nat.le_of_ble_eq_true rfl) (Nat.le_of_ble_eq_true rfl) dX12_init_49 (fun q6 H w => ?_)
  have w : mW E A s [(h, .inr (11, [.ref q1, .ref q2, .int 0, .ref q3, .int 0, .int 0, .ref q4, .int 0, .ref q5, .int 0, .null, .null, .null, .null])), (q1, .inl (E.2.1, 8787, .inl (fun _ => 0))), (q2, .inl (E.2.1, 8787, .inl (fun _ => 0))), (q3, .inl (E.2.2.1, 60, .inl (fun _ => 0))), (q4, .inl (E.2.1, 40, .inl (fun _ => 0))), (q5, .inl (E.2.1, 60, .inl (fun _ => 0))), (q6, .inl (E.2.1, 12, .inl (fun _ => 0)))] _ _ := w
  refine W.widen (k := 6) (n := 17746) (by omega) (by omega) ?_
  refine mx_putF B w 0 fl_X12_26 ff_X12_10 rfl rfl (Nat.le_of_ble_eq_true rfl) rfl rfl dX12_init_51 (fun H locs w => ?_)
  have w : mW E A s [(h, .inr (11, [.ref q1, .ref q2, .int 0, .ref q3, .int 0, .int 0, .ref q4, .int 0, .ref q5, .int 0, .ref q6, .null, .null, .null])), (q1, .inl (E.2.1, 8787, .inl (fun _ => 0))), (q2, .inl (E.2.1, 8787, .inl (fun _ => 0))), (q3, .inl (E.2.2.1, 60, .inl (fun _ => 0))), (q4, .inl (E.2.1, 40, .inl (fun _ => 0))), (q5, .inl (E.2.1, 60, .inl (fun _ => 0))), (q6, .inl (E.2.1, 12, .inl (fun _ => 0)))] _ _ := w
  refine lv_aload_n hx hb dX12_init_54 rfl (lv_at hl 0 rfl) ?_
  refine lv_bipush (v := 12) hx hb dX12_init_55 (by decide) ?_
  refine mx_newi B w (N' := 12) ka_int (by decide) (by decide) (Nat.le_of_ble_eq_true rfl) (Nat.le_of_ble_eq_true rfl) (Nat.le_of_ble_eq_true rfl) dX12_init_57 (fun q7 H w => ?_)
  have w : mW E A s [(h, .inr (11, [.ref q1, .ref q2, .int 0, .ref q3, .int 0, .int 0, .ref q4, .int 0, .ref q5, .int 0, .ref q6, .null, .null, .null])), (q1, .inl (E.2.1, 8787, .inl (fun _ => 0))), (q2, .inl (E.2.1, 8787, .inl (fun _ => 0))), (q3, .inl (E.2.2.1, 60, .inl (fun _ => 0))), (q4, .inl (E.2.1, 40, .inl (fun _ => 0))), (q5, .inl (E.2.1, 60, .inl (fun _ => 0))), (q6, .inl (E.2.1, 12, .inl (fun _ => 0))), (q7, .inl (E.2.1, 12, .inl (fun _ => 0)))] _ _ := w
  refine W.widen (k := 7) (n := 17758) (by omega) (by omega) ?_
  refine mx_putF B w 0 fl_X12_29 ff_X12_11 rfl rfl (Nat.le_of_ble_eq_true rfl) rfl rfl dX12_init_59 (fun H locs w => ?_)
  have w : mW E A s [(h, .inr (11, [.ref q1, .ref q2, .int 0, .ref q3, .int 0, .int 0, .ref q4, .int 0, .ref q5, .int 0, .ref q6, .ref q7, .null, .null])), (q1, .inl (E.2.1, 8787, .inl (fun _ => 0))), (q2, .inl (E.2.1, 8787, .inl (fun _ => 0))), (q3, .inl (E.2.2.1, 60, .inl (fun _ => 0))), (q4, .inl (E.2.1, 40, .inl (fun _ => 0))), (q5, .inl (E.2.1, 60, .inl (fun _ => 0))), (q6, .inl (E.2.1, 12, .inl (fun _ => 0))), (q7, .inl (E.2.1, 12, .inl (fun _ => 0)))] _ _ := w
  refine lv_aload_n hx hb dX12_init_62 rfl (lv_at hl 0 rfl) ?_
  refine lv_bipush (v := 12) hx hb dX12_init_63 (by decide) ?_
  refine mx_newi B w (N' := 12) ka_int (by decide) (by decide) (Nat.le_of_ble_eq_true rfl) (Nat.le_of_ble_eq_true rfl) (Nat.le_of_ble_eq_true rfl) dX12_init_65 (fun q8 H w => ?_)
  have w : mW E A s [(h, .inr (11, [.ref q1, .ref q2, .int 0, .ref q3, .int 0, .int 0, .ref q4, .int 0, .ref q5, .int 0, .ref q6, .ref q7, .null, .null])), (q1, .inl (E.2.1, 8787, .inl (fun _ => 0))), (q2, .inl (E.2.1, 8787, .inl (fun _ => 0))), (q3, .inl (E.2.2.1, 60, .inl (fun _ => 0))), (q4, .inl (E.2.1, 40, .inl (fun _ => 0))), (q5, .inl (E.2.1, 60, .inl (fun _ => 0))), (q6, .inl (E.2.1, 12, .inl (fun _ => 0))), (q7, .inl (E.2.1, 12, .inl (fun _ => 0))), (q8, .inl (E.2.1, 12, .inl (fun _ => 0)))] _ _ := w
  refine W.widen (k := 8) (n := 17770) (by omega) (by omega) ?_
  refine mx_putF B w 0 fl_X12_32 ff_X12_12 rfl rfl (Nat.le_of_ble_eq_true rfl) rfl rfl dX12_init_67 (fun H locs w => ?_)
  have w : mW E A s [(h, .inr (11, [.ref q1, .ref q2, .int 0, .ref q3, .int 0, .int 0, .ref q4, .int 0, .ref q5, .int 0, .ref q6, .ref q7, .ref q8, .null])), (q1, .inl (E.2.1, 8787, .inl (fun _ => 0))), (q2, .inl (E.2.1, 8787, .inl (fun _ => 0))), (q3, .inl (E.2.2.1, 60, .inl (fun _ => 0))), (q4, .inl (E.2.1, 40, .inl (fun _ => 0))), (q5, .inl (E.2.1, 60, .inl (fun _ => 0))), (q6, .inl (E.2.1, 12, .inl (fun _ => 0))), (q7, .inl (E.2.1, 12, .inl (fun _ => 0))), (q8, .inl (E.2.1, 12, .inl (fun _ => 0)))] _ _ := w
  refine lv_aload_n hx hb dX12_init_70 rfl (lv_at hl 0 rfl) ?_
  refine lv_bipush (v := 12) hx hb dX12_init_71 (by decide) ?_
  refine mx_newi B w (N' := 12) ka_int (by decide) (by decide) (Nat.le_of_ble_eq_true rfl) (Nat.le_of_ble_eq_true rfl) (Nat.le_of_ble_eq_true rfl) dX12_init_73 (fun q9 H w => ?_)
  have w : mW E A s [(h, .inr (11, [.ref q1, .ref q2, .int 0, .ref q3, .int 0, .int 0, .ref q4, .int 0, .ref q5, .int 0, .ref q6, .ref q7, .ref q8, .null])), (q1, .inl (E.2.1, 8787, .inl (fun _ => 0))), (q2, .inl (E.2.1, 8787, .inl (fun _ => 0))), (q3, .inl (E.2.2.1, 60, .inl (fun _ => 0))), (q4, .inl (E.2.1, 40, .inl (fun _ => 0))), (q5, .inl (E.2.1, 60, .inl (fun _ => 0))), (q6, .inl (E.2.1, 12, .inl (fun _ => 0))), (q7, .inl (E.2.1, 12, .inl (fun _ => 0))), (q8, .inl (E.2.1, 12, .inl (fun _ => 0))), (q9, .inl (E.2.1, 12, .inl (fun _ => 0)))] _ _ := w
  refine W.widen (k := 9) (n := 17782) (by omega) (by omega) ?_
  refine mx_putF B w 0 fl_X12_35 ff_X12_13 rfl rfl (Nat.le_of_ble_eq_true rfl) rfl rfl dX12_init_75 (fun H locs w => ?_)
  have w : mW E A s [(h, .inr (11, [.ref q1, .ref q2, .int 0, .ref q3, .int 0, .int 0, .ref q4, .int 0, .ref q5, .int 0, .ref q6, .ref q7, .ref q8, .ref q9])), (q1, .inl (E.2.1, 8787, .inl (fun _ => 0))), (q2, .inl (E.2.1, 8787, .inl (fun _ => 0))), (q3, .inl (E.2.2.1, 60, .inl (fun _ => 0))), (q4, .inl (E.2.1, 40, .inl (fun _ => 0))), (q5, .inl (E.2.1, 60, .inl (fun _ => 0))), (q6, .inl (E.2.1, 12, .inl (fun _ => 0))), (q7, .inl (E.2.1, 12, .inl (fun _ => 0))), (q8, .inl (E.2.1, 12, .inl (fun _ => 0))), (q9, .inl (E.2.1, 12, .inl (fun _ => 0)))] _ _ := w
  refine lv_aload_n hx hb dX12_init_78 rfl (lv_at hl 0 rfl) ?_
  refine mx_get B w 0 fl_X12_9 rfl rfl dX12_init_79 ?_
  refine lv_iconst (v := 0) hx hb dX12_init_82 (by decide) ?_
  refine lv_bipush (v := 20) hx hb dX12_init_83 (by decide) ?_
  refine mx_iast B w 1 rfl (vp_in_nI (n := 0) (by decide) (by decide)) dX12_init_85 (fun fx H locs ev w => ?_)
  have ev : fx = (upd (fun _ => 0) 0 20) := ev
  subst ev
  have w : mW E A s [(h, .inr (11, [.ref q1, .ref q2, .int 0, .ref q3, .int 0, .int 0, .ref q4, .int 0, .ref q5, .int 0, .ref q6, .ref q7, .ref q8, .ref q9])), (q1, .inl (E.2.1, 8787, .inl (upd (fun _ => 0) 0 20))), (q2, .inl (E.2.1, 8787, .inl (fun _ => 0))), (q3, .inl (E.2.2.1, 60, .inl (fun _ => 0))), (q4, .inl (E.2.1, 40, .inl (fun _ => 0))), (q5, .inl (E.2.1, 60, .inl (fun _ => 0))), (q6, .inl (E.2.1, 12, .inl (fun _ => 0))), (q7, .inl (E.2.1, 12, .inl (fun _ => 0))), (q8, .inl (E.2.1, 12, .inl (fun _ => 0))), (q9, .inl (E.2.1, 12, .inl (fun _ => 0)))] _ _ := w
  refine lv_aload_n hx hb dX12_init_86 rfl (lv_at hl 0 rfl) ?_
  refine mx_get B w 0 fl_X12_9 rfl rfl dX12_init_87 ?_
  refine lv_iconst (v := 1) hx hb dX12_init_90 (by decide) ?_
  refine lv_bipush (v := 16) hx hb dX12_init_91 (by decide) ?_
  refine mx_iast B w 1 rfl (vp_in_nI (n := 1) (by decide) (by decide)) dX12_init_93 (fun fx H locs ev w => ?_)
  have ev : fx = (upd (upd (fun _ => 0) 0 20) 1 16) := ev
  subst ev
  have w : mW E A s [(h, .inr (11, [.ref q1, .ref q2, .int 0, .ref q3, .int 0, .int 0, .ref q4, .int 0, .ref q5, .int 0, .ref q6, .ref q7, .ref q8, .ref q9])), (q1, .inl (E.2.1, 8787, .inl (upd (upd (fun _ => 0) 0 20) 1 16))), (q2, .inl (E.2.1, 8787, .inl (fun _ => 0))), (q3, .inl (E.2.2.1, 60, .inl (fun _ => 0))), (q4, .inl (E.2.1, 40, .inl (fun _ => 0))), (q5, .inl (E.2.1, 60, .inl (fun _ => 0))), (q6, .inl (E.2.1, 12, .inl (fun _ => 0))), (q7, .inl (E.2.1, 12, .inl (fun _ => 0))), (q8, .inl (E.2.1, 12, .inl (fun _ => 0))), (q9, .inl (E.2.1, 12, .inl (fun _ => 0)))] _ _ := w
  refine lv_aload_n hx hb dX12_init_94 rfl (lv_at hl 0 rfl) ?_
  refine mx_get B w 0 fl_X12_9 rfl rfl dX12_init_95 ?_
  refine lv_iconst (v := 4) hx hb dX12_init_98 (by decide) ?_
  refine lv_iconst (v := 2) hx hb dX12_init_99 (by decide) ?_
  refine mx_iast B w 1 rfl (vp_in_nI (n := 4) (by decide) (by decide)) dX12_init_100 (fun fx H locs ev w => ?_)
  have ev : fx = (upd (upd (upd (fun _ => 0) 0 20) 1 16) 4 2) := ev
  subst ev
  have w : mW E A s [(h, .inr (11, [.ref q1, .ref q2, .int 0, .ref q3, .int 0, .int 0, .ref q4, .int 0, .ref q5, .int 0, .ref q6, .ref q7, .ref q8, .ref q9])), (q1, .inl (E.2.1, 8787, .inl (upd (upd (upd (fun _ => 0) 0 20) 1 16) 4 2))), (q2, .inl (E.2.1, 8787, .inl (fun _ => 0))), (q3, .inl (E.2.2.1, 60, .inl (fun _ => 0))), (q4, .inl (E.2.1, 40, .inl (fun _ => 0))), (q5, .inl (E.2.1, 60, .inl (fun _ => 0))), (q6, .inl (E.2.1, 12, .inl (fun _ => 0))), (q7, .inl (E.2.1, 12, .inl (fun _ => 0))), (q8, .inl (E.2.1, 12, .inl (fun _ => 0))), (q9, .inl (E.2.1, 12, .inl (fun _ => 0)))] _ _ := w
  exact mx_vret B w ⟨rfl, _, _, _, _, _, _, _, _, _, rfl⟩ dX12_init_101

