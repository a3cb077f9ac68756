def RJ0 : String := "java/lang/String"
def RJ1 : String := "java/lang/StringLatin1"
def RJ3 : String := "jdk/internal/util/Preconditions"
def RJ5 : String := "java/lang/AbstractStringBuilde\x72"
def RJ6 : String := "java/lang/Intege\x72"
def RJ7 : String := "java/util/Arrays"
def RJ8 : String := "jdk/internal/util/ArraysSupport"
abbrev cJ0_coder_7d493 : ByteArray := prog_19_method_152_code
def yJ0_coder_7d493 : MethodName := ⟨RJ0, "code\x72", "()B"⟩
theorem dJ0_coder_7d493_0 : decode cJ0_coder_7d493 0 = .ok (.getstatic 38, 3) := by decide +kernel
theorem dJ0_coder_7d493_3 : decode cJ0_coder_7d493 3 = .ok (.ifCond .eq 10, 3) := by decide +kernel
theorem dJ0_coder_7d493_6 : decode cJ0_coder_7d493 6 = .ok (.aload_n 0, 1) := by decide +kernel
theorem dJ0_coder_7d493_7 : decode cJ0_coder_7d493 7 = .ok (.getfield 15, 3) := by decide +kernel
theorem dJ0_coder_7d493_10 : decode cJ0_coder_7d493 10 = .ok (.goto 4, 3) := by decide +kernel
theorem dJ0_coder_7d493_13 : decode cJ0_coder_7d493 13 = .ok (.iconst 1, 1) := by decide +kernel
theorem dJ0_coder_7d493_14 : decode cJ0_coder_7d493 14 = .ok (.ireturn, 1) := by decide +kernel
abbrev cJ0_isLatin1_aae02 : ByteArray := prog_19_method_154_code
def yJ0_isLatin1_aae02 : MethodName := ⟨RJ0, "isLatin1", "()Z"⟩
theorem dJ0_isLatin1_aae02_0 : decode cJ0_isLatin1_aae02 0 = .ok (.getstatic 38, 3) := by decide +kernel
theorem dJ0_isLatin1_aae02_3 : decode cJ0_isLatin1_aae02 3 = .ok (.ifCond .eq 14, 3) := by decide +kernel
theorem dJ0_isLatin1_aae02_6 : decode cJ0_isLatin1_aae02 6 = .ok (.aload_n 0, 1) := by decide +kernel
theorem dJ0_isLatin1_aae02_7 : decode cJ0_isLatin1_aae02 7 = .ok (.getfield 15, 3) := by decide +kernel
theorem dJ0_isLatin1_aae02_10 : decode cJ0_isLatin1_aae02 10 = .ok (.ifCond .ne 7, 3) := by decide +kernel
theorem dJ0_isLatin1_aae02_13 : decode cJ0_isLatin1_aae02 13 = .ok (.iconst 1, 1) := by decide +kernel
theorem dJ0_isLatin1_aae02_14 : decode cJ0_isLatin1_aae02 14 = .ok (.goto 4, 3) := by decide +kernel
theorem dJ0_isLatin1_aae02_17 : decode cJ0_isLatin1_aae02 17 = .ok (.iconst 0, 1) := by decide +kernel
theorem dJ0_isLatin1_aae02_18 : decode cJ0_isLatin1_aae02 18 = .ok (.ireturn, 1) := by decide +kernel
abbrev cJ0_length_8abf5 : ByteArray := prog_19_method_54_code
def yJ0_length_8abf5 : MethodName := ⟨RJ0, "length", "()I"⟩
theorem dJ0_length_8abf5_0 : decode cJ0_length_8abf5 0 = .ok (.aload_n 0, 1) := by decide +kernel
theorem dJ0_length_8abf5_1 : decode cJ0_length_8abf5 1 = .ok (.getfield 9, 3) := by decide +kernel
theorem dJ0_length_8abf5_4 : decode cJ0_length_8abf5 4 = .ok (.arraylength, 1) := by decide +kernel
theorem dJ0_length_8abf5_5 : decode cJ0_length_8abf5 5 = .ok (.aload_n 0, 1) := by decide +kernel
theorem dJ0_length_8abf5_6 : decode cJ0_length_8abf5 6 = .ok (.invokevirtual 335, 3) := by decide +kernel
theorem dJ0_length_8abf5_9 : decode cJ0_length_8abf5 9 = .ok (.ishr, 1) := by decide +kernel
theorem dJ0_length_8abf5_10 : decode cJ0_length_8abf5 10 = .ok (.ireturn, 1) := by decide +kernel
abbrev cJ0_charAt_5068e : ByteArray := prog_19_method_56_code
def yJ0_charAt_5068e : MethodName := ⟨RJ0, "charAt", "(I)C"⟩
theorem dJ0_charAt_5068e_0 : decode cJ0_charAt_5068e 0 = .ok (.aload_n 0, 1) := by decide +kernel
theorem dJ0_charAt_5068e_1 : decode cJ0_charAt_5068e 1 = .ok (.invokevirtual 492, 3) := by decide +kernel
theorem dJ0_charAt_5068e_4 : decode cJ0_charAt_5068e 4 = .ok (.ifCond .eq 12, 3) := by decide +kernel
theorem dJ0_charAt_5068e_7 : decode cJ0_charAt_5068e 7 = .ok (.aload_n 0, 1) := by decide +kernel
theorem dJ0_charAt_5068e_8 : decode cJ0_charAt_5068e 8 = .ok (.getfield 9, 3) := by decide +kernel
theorem dJ0_charAt_5068e_11 : decode cJ0_charAt_5068e 11 = .ok (.iload_n 1, 1) := by decide +kernel
theorem dJ0_charAt_5068e_12 : decode cJ0_charAt_5068e 12 = .ok (.invokestatic 495, 3) := by decide +kernel
theorem dJ0_charAt_5068e_15 : decode cJ0_charAt_5068e 15 = .ok (.ireturn, 1) := by decide +kernel
theorem dJ0_charAt_5068e_16 : decode cJ0_charAt_5068e 16 = .ok (.aload_n 0, 1) := by decide +kernel
theorem dJ0_charAt_5068e_17 : decode cJ0_charAt_5068e 17 = .ok (.getfield 9, 3) := by decide +kernel
theorem dJ0_charAt_5068e_20 : decode cJ0_charAt_5068e 20 = .ok (.iload_n 1, 1) := by decide +kernel
theorem dJ0_charAt_5068e_21 : decode cJ0_charAt_5068e 21 = .ok (.invokestatic 498, 3) := by decide +kernel
theorem dJ0_charAt_5068e_24 : decode cJ0_charAt_5068e 24 = .ok (.ireturn, 1) := by decide +kernel
abbrev cJ1_charAt_3b067 : ByteArray := prog_21_method_2_code
def yJ1_charAt_3b067 : MethodName := ⟨RJ1, "charAt", "([BI)C"⟩
theorem dJ1_charAt_3b067_0 : decode cJ1_charAt_3b067 0 = .ok (.iload_n 1, 1) := by decide +kernel
theorem dJ1_charAt_3b067_1 : decode cJ1_charAt_3b067 1 = .ok (.aload_n 0, 1) := by decide +kernel
theorem dJ1_charAt_3b067_2 : decode cJ1_charAt_3b067 2 = .ok (.arraylength, 1) := by decide +kernel
theorem dJ1_charAt_3b067_3 : decode cJ1_charAt_3b067 3 = .ok (.invokestatic 9, 3) := by decide +kernel
theorem dJ1_charAt_3b067_6 : decode cJ1_charAt_3b067 6 = .ok (.aload_n 0, 1) := by decide +kernel
theorem dJ1_charAt_3b067_7 : decode cJ1_charAt_3b067 7 = .ok (.iload_n 1, 1) := by decide +kernel
theorem dJ1_charAt_3b067_8 : decode cJ1_charAt_3b067 8 = .ok (.baload, 1) := by decide +kernel
theorem dJ1_charAt_3b067_9 : decode cJ1_charAt_3b067 9 = .ok (.sipush 255, 3) := by decide +kernel
theorem dJ1_charAt_3b067_12 : decode cJ1_charAt_3b067 12 = .ok (.iand, 1) := by decide +kernel
theorem dJ1_charAt_3b067_13 : decode cJ1_charAt_3b067 13 = .ok (.i2c, 1) := by decide +kernel
theorem dJ1_charAt_3b067_14 : decode cJ1_charAt_3b067 14 = .ok (.ireturn, 1) := by decide +kernel
abbrev cJ0_checkIndex_df160 : ByteArray := prog_19_method_155_code
def yJ0_checkIndex_df160 : MethodName := ⟨RJ0, "checkIndex", "(II)V"⟩
theorem dJ0_checkIndex_df160_0 : decode cJ0_checkIndex_df160 0 = .ok (.iload_n 0, 1) := by decide +kernel
theorem dJ0_checkIndex_df160_1 : decode cJ0_checkIndex_df160 1 = .ok (.iload_n 1, 1) := by decide +kernel
theorem dJ0_checkIndex_df160_2 : decode cJ0_checkIndex_df160 2 = .ok (.getstatic 1053, 3) := by decide +kernel
theorem dJ0_checkIndex_df160_5 : decode cJ0_checkIndex_df160 5 = .ok (.invokestatic 1059, 3) := by decide +kernel
theorem dJ0_checkIndex_df160_8 : decode cJ0_checkIndex_df160 8 = .ok (.pop, 1) := by decide +kernel
theorem dJ0_checkIndex_df160_9 : decode cJ0_checkIndex_df160 9 = .ok (.return_, 1) := by decide +kernel
abbrev cJ3_checkIndex_8e157 : ByteArray := prog_26_method_11_code
def yJ3_checkIndex_8e157 : MethodName := ⟨RJ3, "checkIndex", "(IILjava/util/function/BiFunction;)I"⟩
theorem dJ3_checkIndex_8e157_0 : decode cJ3_checkIndex_8e157 0 = .ok (.iload_n 0, 1) := by decide +kernel
theorem dJ3_checkIndex_8e157_1 : decode cJ3_checkIndex_8e157 1 = .ok (.ifCond .lt 8, 3) := by decide +kernel
theorem dJ3_checkIndex_8e157_4 : decode cJ3_checkIndex_8e157 4 = .ok (.iload_n 0, 1) := by decide +kernel
theorem dJ3_checkIndex_8e157_5 : decode cJ3_checkIndex_8e157 5 = .ok (.iload_n 1, 1) := by decide +kernel
theorem dJ3_checkIndex_8e157_6 : decode cJ3_checkIndex_8e157 6 = .ok (.if_icmp .lt 10, 3) := by decide +kernel
theorem dJ3_checkIndex_8e157_9 : decode cJ3_checkIndex_8e157 9 = .ok (.aload_n 2, 1) := by decide +kernel
theorem dJ3_checkIndex_8e157_10 : decode cJ3_checkIndex_8e157 10 = .ok (.iload_n 0, 1) := by decide +kernel
theorem dJ3_checkIndex_8e157_11 : decode cJ3_checkIndex_8e157 11 = .ok (.iload_n 1, 1) := by decide +kernel
theorem dJ3_checkIndex_8e157_12 : decode cJ3_checkIndex_8e157 12 = .ok (.invokestatic 95, 3) := by decide +kernel
theorem dJ3_checkIndex_8e157_15 : decode cJ3_checkIndex_8e157 15 = .ok (.athrow, 1) := by decide +kernel
theorem dJ3_checkIndex_8e157_16 : decode cJ3_checkIndex_8e157 16 = .ok (.iload_n 0, 1) := by decide +kernel
theorem dJ3_checkIndex_8e157_17 : decode cJ3_checkIndex_8e157 17 = .ok (.ireturn, 1) := by decide +kernel
theorem kw_1105 : Cond.fieldLink "java/lang/String" 38 "java/lang/String" "COMPACT_STRINGS" "Z" ∈ TB := tb_at 1105 (by decide +kernel) (by decide +kernel)
theorem kw_1686 : Cond.fieldLink "java/lang/String" 15 "java/lang/String" "code\x72" "B" ∈ TB := tb_at 1686 (by decide +kernel) (by decide +kernel)
theorem kw_1685 : Cond.fieldLink "java/lang/String" 9 "java/lang/String" "value" "[B" ∈ TB := tb_at 1685 (by decide +kernel) (by decide +kernel)
theorem kw_1104 : Cond.code yJ0_coder_7d493 cJ0_coder_7d493 1 (some .byte) ∈ TB := tb_at 1104 (by decide +kernel) (by decide +kernel)
theorem kw_1102 : Cond.instanceMethod yJ0_coder_7d493 ∈ TB := tb_at 1102 (by decide +kernel) (by decide +kernel)
theorem kw_1103 : Cond.selects "java/lang/String" yJ0_coder_7d493 yJ0_coder_7d493 ∈ TB := tb_at 1103 (by decide +kernel) (by decide +kernel)
theorem kw_79 : Cond.initialized "java/lang/String" ∈ TB := tb_at 79 (by decide +kernel) (by decide +kernel)
theorem kw_1101 : Cond.methodLink "java/lang/String" 335 yJ0_coder_7d493 ∈ TB := tb_at 1101 (by decide +kernel) (by decide +kernel)
theorem kw_1022 : Cond.fieldLink "java/lang/String" 1053 "jdk/internal/util/Preconditions" "SIOOBE_FORMATTER" "Ljava/util/function/BiFunction;" ∈ TB := tb_at 1022 (by decide +kernel) (by decide +kernel)
theorem kw_1047 : Cond.code yJ3_checkIndex_8e157 cJ3_checkIndex_8e157 3 (some .int) ∈ TB := tb_at 1047 (by decide +kernel) (by decide +kernel)
theorem kw_1046 : Cond.static yJ3_checkIndex_8e157 ∈ TB := tb_at 1046 (by decide +kernel) (by decide +kernel)
theorem kw_85 : Cond.initialized "jdk/internal/util/Preconditions" ∈ TB := tb_at 85 (by decide +kernel) (by decide +kernel)
theorem kw_1045 : Cond.methodLink "java/lang/String" 1059 yJ3_checkIndex_8e157 ∈ TB := tb_at 1045 (by decide +kernel) (by decide +kernel)
theorem kw_1044 : Cond.code yJ0_checkIndex_df160 cJ0_checkIndex_df160 2 none ∈ TB := tb_at 1044 (by decide +kernel) (by decide +kernel)
theorem kw_1043 : Cond.static yJ0_checkIndex_df160 ∈ TB := tb_at 1043 (by decide +kernel) (by decide +kernel)
theorem kw_1620 : Cond.methodLink "java/lang/StringLatin1" 9 yJ0_checkIndex_df160 ∈ TB := tb_at 1620 (by decide +kernel) (by decide +kernel)
theorem kw_1616 : Cond.code yJ0_isLatin1_aae02 cJ0_isLatin1_aae02 1 (some .boolean) ∈ TB := tb_at 1616 (by decide +kernel) (by decide +kernel)
theorem kw_1614 : Cond.instanceMethod yJ0_isLatin1_aae02 ∈ TB := tb_at 1614 (by decide +kernel) (by decide +kernel)
theorem kw_1615 : Cond.selects "java/lang/String" yJ0_isLatin1_aae02 yJ0_isLatin1_aae02 ∈ TB := tb_at 1615 (by decide +kernel) (by decide +kernel)
theorem kw_1613 : Cond.methodLink "java/lang/String" 492 yJ0_isLatin1_aae02 ∈ TB := tb_at 1613 (by decide +kernel) (by decide +kernel)
theorem kw_1619 : Cond.code yJ1_charAt_3b067 cJ1_charAt_3b067 2 (some .char) ∈ TB := tb_at 1619 (by decide +kernel) (by decide +kernel)
theorem kw_1618 : Cond.static yJ1_charAt_3b067 ∈ TB := tb_at 1618 (by decide +kernel) (by decide +kernel)
theorem kw_84 : Cond.initialized "java/lang/StringLatin1" ∈ TB := tb_at 84 (by decide +kernel) (by decide +kernel)
theorem kw_1617 : Cond.methodLink "java/lang/String" 495 yJ1_charAt_3b067 ∈ TB := tb_at 1617 (by decide +kernel) (by decide +kernel)
theorem mx_nret {E : mE} {p : Program} {l : Launch} {e : Env} {R : Room} {s : State} {m : MethodId} {args : Array Value} {below : List Frame} {meth : Method} {c : Code} {H : Heap} {locs : List Loc} {cells slots : Nat} {Q : State → Prop} {pc : Nat} {ls : Array Slot} {A : Nat → Prop} {ws : va_W} {y : MethodName} {bc : ByteArray} {mL : Nat} {post : Option Value → va_W → Prop} {ty : FieldType} (B : mB E y bc mL (some ty) cells slots post p s m args below meth c A Q) (w : mW E A s ws H locs) {v : Int32} (hn : narrow ty (.int v) = .int v) (hp : post (some (.int v)) ws) (hdg : decode bc pc = .ok (.ireturn, 1)) : W p l e R s m args below meth c H locs cells slots Q (F0 m pc ls [.int v]) := by
  obtain ⟨wc, hQ, hf, hq⟩ := mx_post B w hp
  rw [hQ]
  exact W.zret B.1.1 B.1.2.1 B.2.1 hn hq hf hdg B.2.2.1
theorem t_J0_coder_7d493 (E : mE) (l : Launch) (i : Nat) (hi : i < 5) : MX E l yJ0_coder_7d493 cJ0_coder_7d493 1 (some .byte) ({ frames := 0, cells := 0, slots := 0, locals := 0 } : Room) [.ref (E.2.2.2 (10 + i))] [] (fun v w' => v = some (.int 0) ∧ w' = []) := by
  refine mx_intro (by decide +kernel) (Nat.le_of_ble_eq_true rfl) ?_
  intro p e s m args below meth c A Q ls B w hl
  obtain ⟨hx, hb, hml, hown, hts⟩ := id B.1
  have hl : lv_has ls 1 [(0, .ref (E.2.2.2 (10 + i)))] := hl
  refine va_gets hx hb (B.2.2.2.2.2.1.2.2.2.2.1) w.2.2 hown (hts _ kw_1105) (fun _ h => h) dJ0_coder_7d493_0 ?_
  refine lv_if_eq (tgt := 13) hx hb dJ0_coder_7d493_3 (by decide) (fun hc => absurd hc (by decide)) (fun _ => ?_)
  refine lv_aload_n hx hb dJ0_coder_7d493_6 rfl (lv_at hl 0 rfl) ?_
  refine vk_getf hx hb ((B.2.2.2.2.2.1.2.2.2.2.2.2.2.2.1.1 i hi).2.1) w.2.2 hown (hts _ kw_1686) (fun _ h => h) dJ0_coder_7d493_7 ?_
  refine lv_goto (tgt := 14) hx hb dJ0_coder_7d493_10 (by decide) ?_
  exact mx_nret B w rfl ⟨rfl, rfl⟩ dJ0_coder_7d493_14
theorem t_J0_isLatin1_aae02 (E : mE) (l : Launch) (i : Nat) (hi : i < 5) : MX E l yJ0_isLatin1_aae02 cJ0_isLatin1_aae02 1 (some .boolean) ({ frames := 0, cells := 0, slots := 0, locals := 0 } : Room) [.ref (E.2.2.2 (10 + i))] [] (fun v w' => v = some (.int 1) ∧ w' = []) := by
  refine mx_intro (by decide +kernel) (Nat.le_of_ble_eq_true rfl) ?_
  intro p e s m args below meth c A Q ls B w hl
  obtain ⟨hx, hb, hml, hown, hts⟩ := id B.1
  have hl : lv_has ls 1 [(0, .ref (E.2.2.2 (10 + i)))] := hl
  refine va_gets hx hb (B.2.2.2.2.2.1.2.2.2.2.1) w.2.2 hown (hts _ kw_1105) (fun _ h => h) dJ0_isLatin1_aae02_0 ?_
  refine lv_if_eq (tgt := 17) hx hb dJ0_isLatin1_aae02_3 (by decide) (fun hc => absurd hc (by decide)) (fun _ => ?_)
  refine lv_aload_n hx hb dJ0_isLatin1_aae02_6 rfl (lv_at hl 0 rfl) ?_
  refine vk_getf hx hb ((B.2.2.2.2.2.1.2.2.2.2.2.2.2.2.1.1 i hi).2.1) w.2.2 hown (hts _ kw_1686) (fun _ h => h) dJ0_isLatin1_aae02_7 ?_
  refine lv_if_ne (tgt := 17) hx hb dJ0_isLatin1_aae02_10 (by decide) (fun hc => absurd rfl hc) (fun _ => ?_)
  refine lv_iconst (v := 1) hx hb dJ0_isLatin1_aae02_13 (by decide) ?_
  refine lv_goto (tgt := 18) hx hb dJ0_isLatin1_aae02_14 (by decide) ?_
  exact mx_nret B w rfl ⟨rfl, rfl⟩ dJ0_isLatin1_aae02_18
theorem t_J0_length_8abf5 (E : mE) (l : Launch) (i : Nat) (hi : i < 5) : MX E l yJ0_length_8abf5 cJ0_length_8abf5 1 (some .int) ({ frames := 1, cells := 0, slots := 0, locals := 20 } : Room) [.ref (E.2.2.2 (10 + i))] [] (fun v w' => v = some (.int (nI (sLen.getD i 0))) ∧ w' = []) := by
  refine mx_intro (by decide +kernel) (Nat.le_of_ble_eq_true rfl) ?_
  intro p e s m args below meth c A Q ls B w hl
  obtain ⟨hx, hb, hml, hown, hts⟩ := id B.1
  have hl : lv_has ls 1 [(0, .ref (E.2.2.2 (10 + i)))] := hl
  refine lv_aload_n hx hb dJ0_length_8abf5_0 rfl (lv_at hl 0 rfl) ?_
  refine vk_getf hx hb ((B.2.2.2.2.2.1.2.2.2.2.2.2.2.2.1.1 i hi).2.2.1) w.2.2 hown (hts _ kw_1685) (fun _ h => h) dJ0_length_8abf5_1 ?_
  refine va_tlen (v := nI (sLen.getD i 0)) hx hb ((B.2.2.2.2.2.1.2.2.2.2.2.2.2.2.1.1 i hi).2.2.2) w.2.2 rfl dJ0_length_8abf5_4 ?_
  refine lv_aload_n hx hb dJ0_length_8abf5_5 rfl (lv_at hl 0 rfl) ?_
  refine mx_callK i hi (As := []) (rest := [.int (nI (sLen.getD i 0))]) (wr := []) (t_J0_coder_7d493 E l i hi) B w [] [] rfl rfl rfl rfl (by decide) ⟨kw_1104, kw_1102, kw_1103, kw_79⟩ kw_1101 0 (by decide +kernel) ⟨Nat.le_of_ble_eq_true rfl, Nat.le_of_ble_eq_true rfl⟩ rfl hl.1 rfl (Nat.le_of_ble_eq_true rfl) dJ0_length_8abf5_6 rfl rfl ⟨Nat.zero_le _, Nat.zero_le _⟩ (fun v w' H locs hpo w => ?_)
  obtain ⟨rfl, rfl⟩ := hpo
  refine lv_ishr hx hb dJ0_length_8abf5_9 ?_
  have e0 : nI (sLen.getD i 0) >>> ((0 : Int32) &&& 31) = nI (sLen.getD i 0) := by
    rcases (show i = 0 ∨ i = 1 ∨ i = 2 ∨ i = 3 ∨ i = 4 by omega) with rfl | rfl | rfl | rfl | rfl <;> decide
  refine W.eq (g2 := F0 m 10 ls [.int (nI (sLen.getD i 0))]) (congrArg (fun z => F0 m 10 ls [.int z]) e0) ?_
  exact mx_iret B w ⟨rfl, rfl⟩ dJ0_length_8abf5_10
theorem t_ci_n (E : mE) (l : Launch) (x0 x1 : Int32) (h0 : ¬ x0 < 0) (h1 : x0 < x1) : MX E l yJ3_checkIndex_8e157 cJ3_checkIndex_8e157 3 (some .int) ({ frames := 0, cells := 0, slots := 0, locals := 0 } : Room) [.int x0, .int x1, .null] [] (fun v w' => v = some (.int x0) ∧ w' = []) := by
  refine mx_intro (by decide +kernel) (Nat.le_of_ble_eq_true rfl) ?_
  intro p e s m args below meth c A Q ls B w hl
  obtain ⟨hx, hb, hml, hown, hts⟩ := id B.1
  have hl : lv_has ls 3 [(0, .int x0), (1, .int x1), (2, .null)] := hl
  refine lv_iload_n hx hb dJ3_checkIndex_8e157_0 rfl (lv_at hl 0 rfl) ?_
  refine lv_if_lt (tgt := 9) hx hb dJ3_checkIndex_8e157_1 (by decide) (fun hc => absurd hc h0) (fun _ => ?_)
  refine lv_iload_n hx hb dJ3_checkIndex_8e157_4 rfl (lv_at hl 0 rfl) ?_
  refine lv_iload_n hx hb dJ3_checkIndex_8e157_5 rfl (lv_at hl 1 rfl) ?_
  refine lv_icmp_lt (tgt := 16) hx hb dJ3_checkIndex_8e157_6 (by decide) (fun _ => ?_) (fun hc => absurd h1 hc)
  refine lv_iload_n hx hb dJ3_checkIndex_8e157_16 rfl (lv_at hl 0 rfl) ?_
  exact mx_iret B w ⟨rfl, rfl⟩ dJ3_checkIndex_8e157_17
theorem t_ci_r (E : mE) (l : Launch) (x0 x1 : Int32) (t : Nat) (h0 : ¬ x0 < 0) (h1 : x0 < x1) : MX E l yJ3_checkIndex_8e157 cJ3_checkIndex_8e157 3 (some .int) ({ frames := 0, cells := 0, slots := 0, locals := 0 } : Room) [.int x0, .int x1, .ref t] [] (fun v w' => v = some (.int x0) ∧ w' = []) := by
  refine mx_intro (by decide +kernel) (Nat.le_of_ble_eq_true rfl) ?_
  intro p e s m args below meth c A Q ls B w hl
  obtain ⟨hx, hb, hml, hown, hts⟩ := id B.1
  have hl : lv_has ls 3 [(0, .int x0), (1, .int x1), (2, .ref t)] := hl
  refine lv_iload_n hx hb dJ3_checkIndex_8e157_0 rfl (lv_at hl 0 rfl) ?_
  refine lv_if_lt (tgt := 9) hx hb dJ3_checkIndex_8e157_1 (by decide) (fun hc => absurd hc h0) (fun _ => ?_)
  refine lv_iload_n hx hb dJ3_checkIndex_8e157_4 rfl (lv_at hl 0 rfl) ?_
  refine lv_iload_n hx hb dJ3_checkIndex_8e157_5 rfl (lv_at hl 1 rfl) ?_
  refine lv_icmp_lt (tgt := 16) hx hb dJ3_checkIndex_8e157_6 (by decide) (fun _ => ?_) (fun hc => absurd h1 hc)
  refine lv_iload_n hx hb dJ3_checkIndex_8e157_16 rfl (lv_at hl 0 rfl) ?_
  exact mx_iret B w ⟨rfl, rfl⟩ dJ3_checkIndex_8e157_17
theorem t_J0_checkIndex_df160 (E : mE) (l : Launch) (x0 x1 : Int32) (h0 : ¬ x0 < 0) (h1 : x0 < x1) : MX E l yJ0_checkIndex_df160 cJ0_checkIndex_df160 2 none ({ frames := 1, cells := 0, slots := 0, locals := 22 } : Room) [.int x0, .int x1] [] (fun v w' => v = none ∧ w' = []) := by
  refine mx_intro (by decide +kernel) (Nat.le_of_ble_eq_true rfl) ?_
  intro p e s m args below meth c A Q ls B w hl
  obtain ⟨hx, hb, hml, hown, hts⟩ := id B.1
  have hl : lv_has ls 2 [(0, .int x0), (1, .int x1)] := hl
  refine lv_iload_n hx hb dJ0_checkIndex_df160_0 rfl (lv_at hl 0 rfl) ?_
  refine lv_iload_n hx hb dJ0_checkIndex_df160_1 rfl (lv_at hl 1 rfl) ?_
  rcases B.2.2.2.2.2.1.2.2.2.2.2.2.2.1 with hz | ⟨t, hz⟩
  · refine va_gets hx hb hz w.2.2 hown (hts _ kw_1022) (fun _ h => h) dJ0_checkIndex_df160_2 ?_
    refine mx_callS (As := [.int x0, .int x1, .null]) (rest := []) (wr := []) (t_ci_n E l x0 x1 h0 h1) B w [] [] rfl rfl rfl rfl (by decide) ⟨kw_1047, kw_1046, kw_85⟩ kw_1045 3 (by decide +kernel) ⟨Nat.le_of_ble_eq_true rfl, Nat.le_of_ble_eq_true rfl⟩ rfl hl.1 rfl (Nat.le_of_ble_eq_true rfl) dJ0_checkIndex_df160_5 rfl rfl ⟨Nat.zero_le _, Nat.zero_le _⟩ (fun v w' H locs hpo w => ?_)
    obtain ⟨rfl, rfl⟩ := hpo
    refine lv_pop hx hb dJ0_checkIndex_df160_8 rfl ?_
    exact mx_vret B w ⟨rfl, rfl⟩ dJ0_checkIndex_df160_9
  · refine va_gets hx hb hz w.2.2 hown (hts _ kw_1022) (fun _ h => h) dJ0_checkIndex_df160_2 ?_
    refine mx_callS (As := [.int x0, .int x1, .ref t]) (rest := []) (wr := []) (t_ci_r E l x0 x1 t h0 h1) B w [] [] rfl rfl rfl rfl (by decide) ⟨kw_1047, kw_1046, kw_85⟩ kw_1045 3 (by decide +kernel) ⟨Nat.le_of_ble_eq_true rfl, Nat.le_of_ble_eq_true rfl⟩ rfl hl.1 rfl (Nat.le_of_ble_eq_true rfl) dJ0_checkIndex_df160_5 rfl rfl ⟨Nat.zero_le _, Nat.zero_le _⟩ (fun v w' H locs hpo w => ?_)
    obtain ⟨rfl, rfl⟩ := hpo
    refine lv_pop hx hb dJ0_checkIndex_df160_8 rfl ?_
    exact mx_vret B w ⟨rfl, rfl⟩ dJ0_checkIndex_df160_9
theorem str_ch : ∀ i, i < 5 → ∀ j, j < sLen.getD i 0 → (((sByt.getD i []).getD j 0 &&& 255).toUInt32 % 65536).toInt32 = (sByt.getD i []).getD j 0 ∧ narrow .char (.int ((sByt.getD i []).getD j 0)) = .int ((sByt.getD i []).getD j 0) := by decide +kernel
theorem t_J1_charAt_3b067 (E : mE) (l : Launch) (i : Nat) (hi : i < 5) (j : Nat) (hj : j < sLen.getD i 0) : MX E l yJ1_charAt_3b067 cJ1_charAt_3b067 2 (some .char) ({ frames := 2, cells := 0, slots := 0, locals := 44 } : Room) [.ref (E.2.2.2 (20 + i)), .int (nI j)] [] (fun v w' => v = some (.int ((sByt.getD i []).getD j 0)) ∧ w' = []) := by
  refine mx_intro (by decide +kernel) (Nat.le_of_ble_eq_true rfl) ?_
  intro p e s m args below meth c A Q ls B w hl
  obtain ⟨hx, hb, hml, hown, hts⟩ := id B.1
  have hl : lv_has ls 2 [(0, .ref (E.2.2.2 (20 + i))), (1, .int (nI j))] := hl
  have hL : sLen.getD i 0 ≤ 6 := by
    rcases (show i = 0 ∨ i = 1 ∨ i = 2 ∨ i = 3 ∨ i = 4 by omega) with rfl | rfl | rfl | rfl | rfl <;> decide
  refine lv_iload_n hx hb dJ1_charAt_3b067_0 rfl (lv_at hl 1 rfl) ?_
  refine lv_aload_n hx hb dJ1_charAt_3b067_1 rfl (lv_at hl 0 rfl) ?_
  refine va_tlen (v := nI (sLen.getD i 0)) hx hb ((B.2.2.2.2.2.1.2.2.2.2.2.2.2.2.1.1 i hi).2.2.2) w.2.2 rfl dJ1_charAt_3b067_2 ?_
  refine mx_callS (As := [.int (nI j), .int (nI (sLen.getD i 0))]) (rest := []) (wr := []) (t_J0_checkIndex_df160 E l (nI j) (nI (sLen.getD i 0)) (nI_pos (by omega)) ((nI_ltI (by omega) (by omega)).mpr hj)) B w [] [] rfl rfl rfl rfl (by decide) ⟨kw_1044, kw_1043, kw_79⟩ kw_1620 2 (by decide +kernel) ⟨Nat.le_of_ble_eq_true rfl, Nat.le_of_ble_eq_true rfl⟩ rfl hl.1 rfl (Nat.le_of_ble_eq_true rfl) dJ1_charAt_3b067_3 rfl rfl ⟨Nat.zero_le _, Nat.zero_le _⟩ (fun v w' H locs hpo w => ?_)
  obtain ⟨rfl, rfl⟩ := hpo
  refine lv_aload_n hx hb dJ1_charAt_3b067_6 rfl (lv_at hl 0 rfl) ?_
  refine lv_iload_n hx hb dJ1_charAt_3b067_7 rfl (lv_at hl 1 rfl) ?_
  refine va_tb hx hb ((B.2.2.2.2.2.1.2.2.2.2.2.2.2.2.1.1 i hi).2.2.2) w.2.2 (vp_in_nI hj (by omega)) rfl dJ1_charAt_3b067_8 ?_
  refine lv_sipush (v := 255) hx hb dJ1_charAt_3b067_9 (by decide) ?_
  refine lv_iand hx hb dJ1_charAt_3b067_12 ?_
  refine lv_i2c (v := (sByt.getD i []).getD j 0) hx hb dJ1_charAt_3b067_13 ?_ ?_
  · rw [nI_clamp (by omega)]
    exact (str_ch i hi j hj).1
  · exact mx_nret B w (str_ch i hi j hj).2 ⟨rfl, rfl⟩ dJ1_charAt_3b067_14
theorem t_J0_charAt_5068e (E : mE) (l : Launch) (i : Nat) (hi : i < 5) (j : Nat) (hj : j < sLen.getD i 0) : MX E l yJ0_charAt_5068e cJ0_charAt_5068e 2 (some .char) ({ frames := 3, cells := 0, slots := 0, locals := 65 } : Room) [.ref (E.2.2.2 (10 + i)), .int (nI j)] [] (fun v w' => v = some (.int ((sByt.getD i []).getD j 0)) ∧ w' = []) := by
  refine mx_intro (by decide +kernel) (Nat.le_of_ble_eq_true rfl) ?_
  intro p e s m args below meth c A Q ls B w hl
  obtain ⟨hx, hb, hml, hown, hts⟩ := id B.1
  have hl : lv_has ls 2 [(0, .ref (E.2.2.2 (10 + i))), (1, .int (nI j))] := hl
  refine lv_aload_n hx hb dJ0_charAt_5068e_0 rfl (lv_at hl 0 rfl) ?_
  refine mx_callK i hi (As := []) (rest := []) (wr := []) (t_J0_isLatin1_aae02 E l i hi) B w [] [] rfl rfl rfl rfl (by decide) ⟨kw_1616, kw_1614, kw_1615, kw_79⟩ kw_1613 0 (by decide +kernel) ⟨Nat.le_of_ble_eq_true rfl, Nat.le_of_ble_eq_true rfl⟩ rfl hl.1 rfl (Nat.le_of_ble_eq_true rfl) dJ0_charAt_5068e_1 rfl rfl ⟨Nat.zero_le _, Nat.zero_le _⟩ (fun v w' H locs hpo w => ?_)
  obtain ⟨rfl, rfl⟩ := hpo
  refine lv_if_eq (tgt := 16) hx hb dJ0_charAt_5068e_4 (by decide) (fun hc => absurd hc (by decide)) (fun _ => ?_)
  refine lv_aload_n hx hb dJ0_charAt_5068e_7 rfl (lv_at hl 0 rfl) ?_
  refine vk_getf hx hb ((B.2.2.2.2.2.1.2.2.2.2.2.2.2.2.1.1 i hi).2.2.1) w.2.2 hown (hts _ kw_1685) (fun _ h => h) dJ0_charAt_5068e_8 ?_
  refine lv_iload_n hx hb dJ0_charAt_5068e_11 rfl (lv_at hl 1 rfl) ?_
  refine mx_callS (As := [.ref (E.2.2.2 (20 + i)), .int (nI j)]) (rest := []) (wr := []) (t_J1_charAt_3b067 E l i hi j hj) B w [] [] rfl rfl rfl rfl (by decide) ⟨kw_1619, kw_1618, kw_84⟩ kw_1617 2 (by decide +kernel) ⟨Nat.le_of_ble_eq_true rfl, Nat.le_of_ble_eq_true rfl⟩ rfl hl.1 rfl (Nat.le_of_ble_eq_true rfl) dJ0_charAt_5068e_12 rfl rfl ⟨Nat.zero_le _, Nat.zero_le _⟩ (fun v w' H locs hpo w => ?_)
  obtain ⟨rfl, rfl⟩ := hpo
  exact mx_nret B w (str_ch i hi j hj).2 ⟨rfl, rfl⟩ dJ0_charAt_5068e_15
