abbrev cX0_describe : ByteArray := prog_2_method_22_code
def yX0_describe : MethodName := ⟨RX0, "describe", "(ILjava/lang/StringBuilder;)V"⟩
theorem dX0_describe_0 : decode cX0_describe 0 = .ok (.aload_n 0, 1) := by decide +kernel
theorem dX0_describe_1 : decode cX0_describe 1 = .ok (.getfield 20, 3) := by decide +kernel
theorem dX0_describe_4 : decode cX0_describe 4 = .ok (.iload_n 1, 1) := by decide +kernel
theorem dX0_describe_5 : decode cX0_describe 5 = .ok (.bipush 7, 2) := by decide +kernel
theorem dX0_describe_7 : decode cX0_describe 7 = .ok (.invokevirtual 28, 3) := by decide +kernel
theorem dX0_describe_10 : decode cX0_describe 10 = .ok (.istore_n 3, 1) := by decide +kernel
theorem dX0_describe_11 : decode cX0_describe 11 = .ok (.iconst 0, 1) := by decide +kernel
theorem dX0_describe_12 : decode cX0_describe 12 = .ok (.istore 4, 2) := by decide +kernel
theorem dX0_describe_14 : decode cX0_describe 14 = .ok (.iload 4, 2) := by decide +kernel
theorem dX0_describe_16 : decode cX0_describe 16 = .ok (.iload_n 3, 1) := by decide +kernel
theorem dX0_describe_17 : decode cX0_describe 17 = .ok (.invokestatic 84, 3) := by decide +kernel
theorem dX0_describe_20 : decode cX0_describe 20 = .ok (.if_icmp .ge 21, 3) := by decide +kernel
theorem dX0_describe_23 : decode cX0_describe 23 = .ok (.aload_n 2, 1) := by decide +kernel
theorem dX0_describe_24 : decode cX0_describe 24 = .ok (.iload_n 3, 1) := by decide +kernel
theorem dX0_describe_25 : decode cX0_describe 25 = .ok (.iload 4, 2) := by decide +kernel
theorem dX0_describe_27 : decode cX0_describe 27 = .ok (.invokestatic 87, 3) := by decide +kernel
theorem dX0_describe_30 : decode cX0_describe 30 = .ok (.i2c, 1) := by decide +kernel
theorem dX0_describe_31 : decode cX0_describe 31 = .ok (.invokevirtual 90, 3) := by decide +kernel
theorem dX0_describe_34 : decode cX0_describe 34 = .ok (.pop, 1) := by decide +kernel
theorem dX0_describe_35 : decode cX0_describe 35 = .ok (.iinc 4 1, 3) := by decide +kernel
theorem dX0_describe_38 : decode cX0_describe 38 = .ok (.goto (-24), 3) := by decide +kernel
theorem dX0_describe_41 : decode cX0_describe 41 = .ok (.aload_n 2, 1) := by decide +kernel
theorem dX0_describe_42 : decode cX0_describe 42 = .ok (.bipush 32, 2) := by decide +kernel
theorem dX0_describe_44 : decode cX0_describe 44 = .ok (.invokevirtual 90, 3) := by decide +kernel
theorem dX0_describe_47 : decode cX0_describe 47 = .ok (.aload_n 0, 1) := by decide +kernel
theorem dX0_describe_48 : decode cX0_describe 48 = .ok (.getfield 20, 3) := by decide +kernel
theorem dX0_describe_51 : decode cX0_describe 51 = .ok (.iload_n 1, 1) := by decide +kernel
theorem dX0_describe_52 : decode cX0_describe 52 = .ok (.iconst 0, 1) := by decide +kernel
theorem dX0_describe_53 : decode cX0_describe 53 = .ok (.invokevirtual 28, 3) := by decide +kernel
theorem dX0_describe_56 : decode cX0_describe 56 = .ok (.invokevirtual 96, 3) := by decide +kernel
theorem dX0_describe_59 : decode cX0_describe 59 = .ok (.pop, 1) := by decide +kernel
theorem dX0_describe_60 : decode cX0_describe 60 = .ok (.aload_n 2, 1) := by decide +kernel
theorem dX0_describe_61 : decode cX0_describe 61 = .ok (.ldc 99, 2) := by decide +kernel
theorem dX0_describe_63 : decode cX0_describe 63 = .ok (.invokevirtual 101, 3) := by decide +kernel
theorem dX0_describe_66 : decode cX0_describe 66 = .ok (.aload_n 0, 1) := by decide +kernel
theorem dX0_describe_67 : decode cX0_describe 67 = .ok (.getfield 20, 3) := by decide +kernel
theorem dX0_describe_70 : decode cX0_describe 70 = .ok (.iload_n 1, 1) := by decide +kernel
theorem dX0_describe_71 : decode cX0_describe 71 = .ok (.iconst 1, 1) := by decide +kernel
theorem dX0_describe_72 : decode cX0_describe 72 = .ok (.invokevirtual 28, 3) := by decide +kernel
theorem dX0_describe_75 : decode cX0_describe 75 = .ok (.invokevirtual 96, 3) := by decide +kernel
theorem dX0_describe_78 : decode cX0_describe 78 = .ok (.pop, 1) := by decide +kernel
theorem dX0_describe_79 : decode cX0_describe 79 = .ok (.aload_n 2, 1) := by decide +kernel
theorem dX0_describe_80 : decode cX0_describe 80 = .ok (.ldc 104, 2) := by decide +kernel
theorem dX0_describe_82 : decode cX0_describe 82 = .ok (.invokevirtual 101, 3) := by decide +kernel
theorem dX0_describe_85 : decode cX0_describe 85 = .ok (.aload_n 0, 1) := by decide +kernel
theorem dX0_describe_86 : decode cX0_describe 86 = .ok (.getfield 20, 3) := by decide +kernel
theorem dX0_describe_89 : decode cX0_describe 89 = .ok (.iload_n 1, 1) := by decide +kernel
theorem dX0_describe_90 : decode cX0_describe 90 = .ok (.iconst 3, 1) := by decide +kernel
theorem dX0_describe_91 : decode cX0_describe 91 = .ok (.invokevirtual 28, 3) := by decide +kernel
theorem dX0_describe_94 : decode cX0_describe 94 = .ok (.invokevirtual 96, 3) := by decide +kernel
theorem dX0_describe_97 : decode cX0_describe 97 = .ok (.pop, 1) := by decide +kernel
theorem dX0_describe_98 : decode cX0_describe 98 = .ok (.aload_n 0, 1) := by decide +kernel
theorem dX0_describe_99 : decode cX0_describe 99 = .ok (.iload_n 1, 1) := by decide +kernel
theorem dX0_describe_100 : decode cX0_describe 100 = .ok (.invokevirtual 71, 3) := by decide +kernel
theorem dX0_describe_103 : decode cX0_describe 103 = .ok (.ifCond .eq 10, 3) := by decide +kernel
theorem dX0_describe_106 : decode cX0_describe 106 = .ok (.aload_n 2, 1) := by decide +kernel
theorem dX0_describe_107 : decode cX0_describe 107 = .ok (.ldc 106, 2) := by decide +kernel
theorem dX0_describe_109 : decode cX0_describe 109 = .ok (.invokevirtual 101, 3) := by decide +kernel
theorem dX0_describe_112 : decode cX0_describe 112 = .ok (.pop, 1) := by decide +kernel
theorem dX0_describe_113 : decode cX0_describe 113 = .ok (.aload_n 0, 1) := by decide +kernel
theorem dX0_describe_114 : decode cX0_describe 114 = .ok (.iload_n 1, 1) := by decide +kernel
theorem dX0_describe_115 : decode cX0_describe 115 = .ok (.invokevirtual 57, 3) := by decide +kernel
theorem dX0_describe_118 : decode cX0_describe 118 = .ok (.ifCond .eq 10, 3) := by decide +kernel
theorem dX0_describe_121 : decode cX0_describe 121 = .ok (.aload_n 2, 1) := by decide +kernel
theorem dX0_describe_122 : decode cX0_describe 122 = .ok (.ldc 108, 2) := by decide +kernel
theorem dX0_describe_124 : decode cX0_describe 124 = .ok (.invokevirtual 101, 3) := by decide +kernel
theorem dX0_describe_127 : decode cX0_describe 127 = .ok (.pop, 1) := by decide +kernel
theorem dX0_describe_128 : decode cX0_describe 128 = .ok (.return_, 1) := by decide +kernel
theorem kc_J4_append_cf468 : Cond.code yJ4_append_cf468 cJ4_append_cf468 2 (some (.object "java/lang/StringBuilde\x72")) ∈ TB := tb_at 960 (by decide +kernel) (by decide +kernel)
theorem kc_J4_append_bf812 : Cond.code yJ4_append_bf812 cJ4_append_bf812 2 (some (.object "java/lang/StringBuilde\x72")) ∈ TB := tb_at 1051 (by decide +kernel) (by decide +kernel)
theorem kc_J4_append_15ec4 : Cond.code yJ4_append_15ec4 cJ4_append_15ec4 2 (some (.object "java/lang/StringBuilde\x72")) ∈ TB := tb_at 1086 (by decide +kernel) (by decide +kernel)
theorem kw_1084 : Cond.instanceMethod yJ4_append_15ec4 ∈ TB := tb_at 1084 (by decide +kernel) (by decide +kernel)
theorem kw_1085 : Cond.selects "java/lang/StringBuilde\x72" yJ4_append_15ec4 yJ4_append_15ec4 ∈ TB := tb_at 1085 (by decide +kernel) (by decide +kernel)
theorem kw_78 : Cond.initialized "java/lang/StringBuilde\x72" ∈ TB := tb_at 78 (by decide +kernel) (by decide +kernel)
theorem kw_1083 : Cond.methodLink "FrequencyShelf$Entries" 101 yJ4_append_15ec4 ∈ TB := tb_at 1083 (by decide +kernel) (by decide +kernel)
theorem kw_958 : Cond.instanceMethod yJ4_append_cf468 ∈ TB := tb_at 958 (by decide +kernel) (by decide +kernel)
theorem kw_959 : Cond.selects "java/lang/StringBuilde\x72" yJ4_append_cf468 yJ4_append_cf468 ∈ TB := tb_at 959 (by decide +kernel) (by decide +kernel)
theorem kw_957 : Cond.methodLink "FrequencyShelf$Entries" 90 yJ4_append_cf468 ∈ TB := tb_at 957 (by decide +kernel) (by decide +kernel)
theorem kw_1049 : Cond.instanceMethod yJ4_append_bf812 ∈ TB := tb_at 1049 (by decide +kernel) (by decide +kernel)
theorem kw_1050 : Cond.selects "java/lang/StringBuilde\x72" yJ4_append_bf812 yJ4_append_bf812 ∈ TB := tb_at 1050 (by decide +kernel) (by decide +kernel)
theorem kw_1048 : Cond.methodLink "FrequencyShelf$Entries" 96 yJ4_append_bf812 ∈ TB := tb_at 1048 (by decide +kernel) (by decide +kernel)
theorem kw_955 : Cond.methodLink "FrequencyShelf$Entries" 84 yX1_length ∈ TB := tb_at 955 (by decide +kernel) (by decide +kernel)
theorem kw_956 : Cond.methodLink "FrequencyShelf$Entries" 87 yX1_byteAt ∈ TB := tb_at 956 (by decide +kernel) (by decide +kernel)
/-! ===== Entries.describe: the text as one list ===== -/
def kl (lt : Nat → Nat) (n : Nat) : List Int32 := (List.range n).map (fun j => nI (lt j))
theorem kl_len (lt : Nat → Nat) (n : Nat) : (kl lt n).length = n := by unfold kl; rw [List.length_map, List.length_range]
theorem kl_succ (lt : Nat → Nat) (n : Nat) : kl lt (n + 1) = kl lt n ++ [nI (lt n)] := by unfold kl; rw [List.range_succ, List.map_append]; rfl
theorem ch_ok : ∀ x, x < 128 → ((nI x).toUInt32 % 65536).toInt32 = nI x := by decide +kernel
def tB (lt : Nat → Nat) (n : Nat) (dv dw dc : List Int32) : List Int32 := ((((((kl lt n ++ [nI 32]) ++ dv) ++ sByt.getD 0 []) ++ dw) ++ sByt.getD 1 []) ++ dc)
def tX (lt : Nat → Nat) (n : Nat) (dv dw dc : List Int32) (od os : Int32) : List Int32 := (tB lt n dv dw dc ++ if od = 0 then [] else sByt.getD 2 []) ++ if os = 0 then [] else sByt.getD 3 []
set_option maxHeartbeats 4000000 in
theorem t_desc (E : mE) (l : Launch) (N h h_rules a_vals h_rows a_rows dm : Nat) (vals : Nat → Int32) (now : Int32) (rows : Rows) (s_rows : Int32) (f_rows : Nat → Int32) (ok_rows : tb_ok dm 9 rows s_rows f_rows) (x1 : Int32) (hb ab cap : Nat) (f : Nat → Int32) (hI : SBI cap f []) (n : Nat) (hn : n ≤ 6) (lt : Nat → Nat) (hlt : ∀ i, i < n → lt i < 128) (hlen : F_X1_length N (tget rows x1 7) = some (nI n)) (hby : ∀ i, i < n → F_X1_byteAt N (tget rows x1 7) (nI i) = some (nI (lt i))) (v wt ct : Nat) (ev : tget rows x1 0 = nI v) (ew : tget rows x1 1 = nI wt) (ec : tget rows x1 3 = nI ct) (dv dw dc : List Int32) (nv : NumOK N v dv) (nw : NumOK N wt dw) (nc : NumOK N ct dc) (hlv : dv.length ≤ 5) (hlw : dw.length ≤ 2) (hlc : dc.length ≤ 3) (od os : Int32) (hd : F_X0_isDirty dm rows x1 = some od) (hst : F_X0_isStale dm vals now rows x1 = some os) : MX E l yX0_describe cX0_describe 5 none ({ frames := 6, cells := 14, slots := 476, locals := 160 } : Room) [.ref h, .int x1, .ref hb] [(h, .inr (0, [.ref h_rules, .ref h_rows])), (h_rules, .inr (4, [.ref a_vals, .int now])), (a_vals, .inl (E.2.1, 8, .inl vals)), (h_rows, .inr (8, [.int (nI dm), .int (nI 9), .ref a_rows, .int s_rows])), (a_rows, .inl (E.2.1, (dm * 9), .inl f_rows)), (hb, .inr (12, [.ref ab, .int (0 : Int32), .int (0 : Int32), .int (nI ([] : List Int32).length)])), (ab, .inl (E.2.2.1, cap, .inl f))] (fun v w' => v = none ∧ ∃ a' cap' f', w' = [(h, .inr (0, [.ref h_rules, .ref h_rows])), (h_rules, .inr (4, [.ref a_vals, .int now])), (a_vals, .inl (E.2.1, 8, .inl vals)), (h_rows, .inr (8, [.int (nI dm), .int (nI 9), .ref a_rows, .int s_rows])), (a_rows, .inl (E.2.1, (dm * 9), .inl f_rows)), (hb, .inr (12, [.ref a', .int (0 : Int32), .int (0 : Int32), .int (nI (tX lt n dv dw dc od os).length)])), (a', .inl (E.2.2.1, cap', .inl f'))] ∧ SBI cap' f' (tX lt n dv dw dc od os)) := by
  refine mx_intro (by decide +kernel) (Nat.le_of_ble_eq_true rfl) ?_
  intro p e s m args below meth c A Q ls B w hl
  obtain ⟨hx, hb', hml, hown, hts⟩ := id B.1
  have hb2 := hb'
  have hl : lv_has ls 5 [(0, .ref h), (1, .int x1), (2, .ref hb)] := hl
  have l0 : (sByt.getD 0 []).length = 2 := rfl
  have l1 : (sByt.getD 1 []).length = 2 := rfl
  have l2 : (sByt.getD 2 []).length = 6 := rfl
  have l3 : (sByt.getD 3 []).length = 6 := rfl
  have tail2 : ∀ (bs : List Int32) (ab cap : Nat) (f : Nat → Int32) (H : Heap) (locs : List Loc) (ls : Array Slot), SBI cap f bs → bs.length ≤ 28 → mW E A s [(h, .inr (0, [.ref h_rules, .ref h_rows])), (h_rules, .inr (4, [.ref a_vals, .int now])), (a_vals, .inl (E.2.1, 8, .inl vals)), (h_rows, .inr (8, [.int (nI dm), .int (nI 9), .ref a_rows, .int s_rows])), (a_rows, .inl (E.2.1, (dm * 9), .inl f_rows)), (hb, .inr (12, [.ref ab, .int (0 : Int32), .int (0 : Int32), .int (nI bs.length)])), (ab, .inl (E.2.2.1, cap, .inl f))] H locs → lv_has ls 5 [(0, .ref h), (1, .int x1), (2, .ref hb)] → (bs ++ if os = 0 then [] else sByt.getD 3 []) = tX lt n dv dw dc od os → W p l e ({ frames := 6, cells := 14, slots := 476, locals := 160 } : Room) s m args below meth c H locs 13 442 Q (F0 m 113 ls []) := by
    intro bs ab cap f H locs ls hI hL w hl he
    refine lv_aload_n hx hb2 dX0_describe_113 rfl (lv_at hl 0 rfl) ?_
    refine lv_iload_n hx hb2 dX0_describe_114 rfl (lv_at hl 1 rfl) ?_
    refine mx_callV (As := [.int x1]) (rest := []) (wr := [(hb, .inr (12, [.ref ab, .int (0 : Int32), .int (0 : Int32), .int (nI bs.length)])), (ab, .inl (E.2.2.1, cap, .inl f))]) (d_X0_isStale E l h h_rules a_vals h_rows a_rows dm vals now rows s_rows f_rows x1 ok_rows os hst) B w [0, 1, 2, 3, 4] [5, 6] rfl rfl (by decide) (by decide) (by decide) 0 rfl rfl cv_X0_isStale kw_380 1 (by decide +kernel) ⟨Nat.le_of_ble_eq_true rfl, Nat.le_of_ble_eq_true rfl⟩ rfl hl.1 rfl (Nat.le_of_ble_eq_true rfl) dX0_describe_115 rfl rfl ⟨Nat.le_of_ble_eq_true rfl, Nat.le_of_ble_eq_true rfl⟩ (fun v w' H locs hpo w => ?_)
    obtain ⟨rfl, rfl⟩ := hpo
    have w : mW E A s [(h, .inr (0, [.ref h_rules, .ref h_rows])), (h_rules, .inr (4, [.ref a_vals, .int now])), (a_vals, .inl (E.2.1, 8, .inl vals)), (h_rows, .inr (8, [.int (nI dm), .int (nI 9), .ref a_rows, .int s_rows])), (a_rows, .inl (E.2.1, (dm * 9), .inl f_rows)), (hb, .inr (12, [.ref ab, .int (0 : Int32), .int (0 : Int32), .int (nI bs.length)])), (ab, .inl (E.2.2.1, cap, .inl f))] H locs := w.sub [2, 3, 4, 5, 6, 0, 1] (by decide) rfl
    refine lv_if_eq (tgt := 128) hx hb2 dX0_describe_118 (by decide) (fun hc => ?_) (fun hc => ?_)
    · rw [if_pos hc, List.append_nil] at he
      subst he
      refine W.widen (k := 14) (n := 476) (by omega) (by omega) ?_
      exact mx_vret B w ⟨rfl, ab, cap, f, rfl, hI⟩ dX0_describe_128
    · rw [if_neg hc] at he
      refine lv_aload_n hx hb2 dX0_describe_121 rfl (lv_at hl 2 rfl) ?_
      refine va_ldcS hx hb2 hown (B.2.2.2.2.2.1.2.2.2.2.2.2.2.2.2.1 _ (by simp [sRef] : ("FrequencyShelf$Entries", 108, " stale", 3) ∈ sRef)) dX0_describe_122 ?_
      refine mx_callVG (As := [.ref (E.2.2.2 (10 + 3))]) (rest := []) (wr := [(h, .inr (0, [.ref h_rules, .ref h_rows])), (h_rules, .inr (4, [.ref a_vals, .int now])), (a_vals, .inl (E.2.1, 8, .inl vals)), (h_rows, .inr (8, [.int (nI dm), .int (nI 9), .ref a_rows, .int s_rows])), (a_rows, .inl (E.2.1, (dm * 9), .inl f_rows))]) (cells2 := 14) (slots2 := 476) (t_as E l hb ab cap f bs hI 3 (by decide) (show bs.length + 6 ≤ 34 by omega)) B w [5, 6] [0, 1, 2, 3, 4] rfl rfl (by decide) (by decide) (by decide) 5 rfl rfl ⟨kc_J4_append_15ec4, kw_1084, kw_1085, kw_78⟩ kw_1083 1 (by decide +kernel) ⟨Nat.le_of_ble_eq_true rfl, Nat.le_of_ble_eq_true rfl⟩ rfl hl.1 rfl (Nat.le_of_ble_eq_true rfl) dX0_describe_124 rfl rfl ⟨Nat.le_of_ble_eq_true rfl, Nat.le_of_ble_eq_true rfl⟩ (fun v w' H locs hpo w => ?_)
      obtain ⟨rfl, ab, cap, f, rfl, hI⟩ := hpo
      have w : mW E A s [(h, .inr (0, [.ref h_rules, .ref h_rows])), (h_rules, .inr (4, [.ref a_vals, .int now])), (a_vals, .inl (E.2.1, 8, .inl vals)), (h_rows, .inr (8, [.int (nI dm), .int (nI 9), .ref a_rows, .int s_rows])), (a_rows, .inl (E.2.1, (dm * 9), .inl f_rows)), (hb, .inr (12, [.ref ab, .int (0 : Int32), .int (0 : Int32), .int (nI (bs ++ sByt.getD 3 []).length)])), (ab, .inl (E.2.2.1, cap, .inl f))] H locs := w
      rw [he] at hI w
      refine lv_pop hx hb2 dX0_describe_127 rfl ?_
      exact mx_vret B w ⟨rfl, ab, cap, f, rfl, hI⟩ dX0_describe_128
  have tail1 : ∀ (ab cap : Nat) (f : Nat → Int32) (H : Heap) (locs : List Loc) (ls : Array Slot) (bs : List Int32), bs = tB lt n dv dw dc → SBI cap f bs → bs.length ≤ 22 → mW E A s [(h, .inr (0, [.ref h_rules, .ref h_rows])), (h_rules, .inr (4, [.ref a_vals, .int now])), (a_vals, .inl (E.2.1, 8, .inl vals)), (h_rows, .inr (8, [.int (nI dm), .int (nI 9), .ref a_rows, .int s_rows])), (a_rows, .inl (E.2.1, (dm * 9), .inl f_rows)), (hb, .inr (12, [.ref ab, .int (0 : Int32), .int (0 : Int32), .int (nI bs.length)])), (ab, .inl (E.2.2.1, cap, .inl f))] H locs → lv_has ls 5 [(0, .ref h), (1, .int x1), (2, .ref hb)] → W p l e ({ frames := 6, cells := 14, slots := 476, locals := 160 } : Room) s m args below meth c H locs 12 408 Q (F0 m 98 ls []) := by
    intro ab cap f H locs ls bs ebs hI hL w hl
    refine lv_aload_n hx hb2 dX0_describe_98 rfl (lv_at hl 0 rfl) ?_
    refine lv_iload_n hx hb2 dX0_describe_99 rfl (lv_at hl 1 rfl) ?_
    refine mx_callV (As := [.int x1]) (rest := []) (wr := [(hb, .inr (12, [.ref ab, .int (0 : Int32), .int (0 : Int32), .int (nI bs.length)])), (ab, .inl (E.2.2.1, cap, .inl f))]) (d_X0_isDirty E l h h_rules a_vals h_rows a_rows dm vals now rows s_rows f_rows x1 ok_rows od hd) B w [0, 1, 2, 3, 4] [5, 6] rfl rfl (by decide) (by decide) (by decide) 0 rfl rfl cv_X0_isDirty kw_732 1 (by decide +kernel) ⟨Nat.le_of_ble_eq_true rfl, Nat.le_of_ble_eq_true rfl⟩ rfl hl.1 rfl (Nat.le_of_ble_eq_true rfl) dX0_describe_100 rfl rfl ⟨Nat.le_of_ble_eq_true rfl, Nat.le_of_ble_eq_true rfl⟩ (fun v w' H locs hpo w => ?_)
    obtain ⟨rfl, rfl⟩ := hpo
    have w : mW E A s [(h, .inr (0, [.ref h_rules, .ref h_rows])), (h_rules, .inr (4, [.ref a_vals, .int now])), (a_vals, .inl (E.2.1, 8, .inl vals)), (h_rows, .inr (8, [.int (nI dm), .int (nI 9), .ref a_rows, .int s_rows])), (a_rows, .inl (E.2.1, (dm * 9), .inl f_rows)), (hb, .inr (12, [.ref ab, .int (0 : Int32), .int (0 : Int32), .int (nI bs.length)])), (ab, .inl (E.2.2.1, cap, .inl f))] H locs := w.sub [2, 3, 4, 5, 6, 0, 1] (by decide) rfl
    refine lv_if_eq (tgt := 113) hx hb2 dX0_describe_103 (by decide) (fun hc => ?_) (fun hc => ?_)
    · refine W.widen (k := 13) (n := 442) (by omega) (by omega) ?_
      refine tail2 bs ab cap f H locs ls hI (by omega) w hl ?_
      unfold tX
      rw [if_pos hc, List.append_nil, ebs]
    · refine lv_aload_n hx hb2 dX0_describe_106 rfl (lv_at hl 2 rfl) ?_
      refine va_ldcS hx hb2 hown (B.2.2.2.2.2.1.2.2.2.2.2.2.2.2.2.1 _ (by simp [sRef] : ("FrequencyShelf$Entries", 106, " dirty", 2) ∈ sRef)) dX0_describe_107 ?_
      refine mx_callVG (As := [.ref (E.2.2.2 (10 + 2))]) (rest := []) (wr := [(h, .inr (0, [.ref h_rules, .ref h_rows])), (h_rules, .inr (4, [.ref a_vals, .int now])), (a_vals, .inl (E.2.1, 8, .inl vals)), (h_rows, .inr (8, [.int (nI dm), .int (nI 9), .ref a_rows, .int s_rows])), (a_rows, .inl (E.2.1, (dm * 9), .inl f_rows))]) (cells2 := 13) (slots2 := 442) (t_as E l hb ab cap f bs hI 2 (by decide) (show bs.length + 6 ≤ 34 by omega)) B w [5, 6] [0, 1, 2, 3, 4] rfl rfl (by decide) (by decide) (by decide) 5 rfl rfl ⟨kc_J4_append_15ec4, kw_1084, kw_1085, kw_78⟩ kw_1083 1 (by decide +kernel) ⟨Nat.le_of_ble_eq_true rfl, Nat.le_of_ble_eq_true rfl⟩ rfl hl.1 rfl (Nat.le_of_ble_eq_true rfl) dX0_describe_109 rfl rfl ⟨Nat.le_of_ble_eq_true rfl, Nat.le_of_ble_eq_true rfl⟩ (fun v w' H locs hpo w => ?_)
      obtain ⟨rfl, ab, cap, f, rfl, hI⟩ := hpo
      have w : mW E A s [(h, .inr (0, [.ref h_rules, .ref h_rows])), (h_rules, .inr (4, [.ref a_vals, .int now])), (a_vals, .inl (E.2.1, 8, .inl vals)), (h_rows, .inr (8, [.int (nI dm), .int (nI 9), .ref a_rows, .int s_rows])), (a_rows, .inl (E.2.1, (dm * 9), .inl f_rows)), (hb, .inr (12, [.ref ab, .int (0 : Int32), .int (0 : Int32), .int (nI (bs ++ sByt.getD 2 []).length)])), (ab, .inl (E.2.2.1, cap, .inl f))] H locs := w
      refine lv_pop hx hb2 dX0_describe_112 rfl ?_
      refine tail2 (bs ++ sByt.getD 2 []) ab cap f H locs ls hI (by rw [List.length_append, l2]; omega) w hl ?_
      unfold tX
      rw [if_neg hc, ebs]
  have mid : ∀ (ab cap : Nat) (f : Nat → Int32) (H : Heap) (locs : List Loc) (ls : Array Slot) (bs : List Int32), bs = kl lt n → SBI cap f bs → bs.length ≤ 6 → mW E A s [(h, .inr (0, [.ref h_rules, .ref h_rows])), (h_rules, .inr (4, [.ref a_vals, .int now])), (a_vals, .inl (E.2.1, 8, .inl vals)), (h_rows, .inr (8, [.int (nI dm), .int (nI 9), .ref a_rows, .int s_rows])), (a_rows, .inl (E.2.1, (dm * 9), .inl f_rows)), (hb, .inr (12, [.ref ab, .int (0 : Int32), .int (0 : Int32), .int (nI bs.length)])), (ab, .inl (E.2.2.1, cap, .inl f))] H locs → lv_has ls 5 [(0, .ref h), (1, .int x1), (2, .ref hb)] → W p l e ({ frames := 6, cells := 14, slots := 476, locals := 160 } : Room) s m args below meth c H locs 6 204 Q (F0 m 41 ls []) := by
    intro ab cap f H locs ls bs ebs hI hL w hl
    refine lv_aload_n hx hb2 dX0_describe_41 rfl (lv_at hl 2 rfl) ?_
    refine lv_bipush (v := 32) hx hb2 dX0_describe_42 (by decide) ?_
    refine mx_callVG (As := [.int (nI 32)]) (rest := []) (wr := [(h, .inr (0, [.ref h_rules, .ref h_rows])), (h_rules, .inr (4, [.ref a_vals, .int now])), (a_vals, .inl (E.2.1, 8, .inl vals)), (h_rows, .inr (8, [.int (nI dm), .int (nI 9), .ref a_rows, .int s_rows])), (a_rows, .inl (E.2.1, (dm * 9), .inl f_rows))]) (cells2 := 7) (slots2 := 238) (t_ac E l hb ab cap f bs hI (by omega) 32 (by decide)) B w [5, 6] [0, 1, 2, 3, 4] rfl rfl (by decide) (by decide) (by decide) 5 rfl rfl ⟨kc_J4_append_cf468, kw_958, kw_959, kw_78⟩ kw_957 1 (by decide +kernel) ⟨Nat.le_of_ble_eq_true rfl, Nat.le_of_ble_eq_true rfl⟩ rfl hl.1 rfl (Nat.le_of_ble_eq_true rfl) dX0_describe_44 rfl rfl ⟨Nat.le_of_ble_eq_true rfl, Nat.le_of_ble_eq_true rfl⟩ (fun v w' H locs hpo w => ?_)
    obtain ⟨rfl, ab, cap, f, rfl, hI⟩ := hpo
    have w : mW E A s [(h, .inr (0, [.ref h_rules, .ref h_rows])), (h_rules, .inr (4, [.ref a_vals, .int now])), (a_vals, .inl (E.2.1, 8, .inl vals)), (h_rows, .inr (8, [.int (nI dm), .int (nI 9), .ref a_rows, .int s_rows])), (a_rows, .inl (E.2.1, (dm * 9), .inl f_rows)), (hb, .inr (12, [.ref ab, .int (0 : Int32), .int (0 : Int32), .int (nI (bs ++ [nI 32]).length)])), (ab, .inl (E.2.2.1, cap, .inl f))] H locs := w
    refine lv_aload_n hx hb2 dX0_describe_47 rfl (lv_at hl 0 rfl) ?_
    refine mx_get B w 0 fl_X0_20 rfl rfl dX0_describe_48 ?_
    refine lv_iload_n hx hb2 dX0_describe_51 rfl (lv_at hl 1 rfl) ?_
    refine lv_iconst (v := 0) hx hb2 dX0_describe_52 (by decide) ?_
    refine mx_callV (As := [.int x1, .int 0]) (rest := [.ref hb]) (wr := [(h, .inr (0, [.ref h_rules, .ref h_rows])), (h_rules, .inr (4, [.ref a_vals, .int now])), (a_vals, .inl (E.2.1, 8, .inl vals)), (hb, .inr (12, [.ref ab, .int (0 : Int32), .int (0 : Int32), .int (nI (bs ++ [nI 32]).length)])), (ab, .inl (E.2.2.1, cap, .inl f))]) (c_X9_get E l h_rows a_rows dm 9 rows s_rows f_rows x1 0 ok_rows _ rfl) B w [3, 4] [0, 1, 2, 5, 6] rfl rfl (by decide) (by decide) (by decide) 3 rfl rfl cv_X9_get kw_368 2 (by decide +kernel) ⟨Nat.le_of_ble_eq_true rfl, Nat.le_of_ble_eq_true rfl⟩ rfl hl.1 rfl (Nat.le_of_ble_eq_true rfl) dX0_describe_53 rfl rfl ⟨Nat.le_of_ble_eq_true rfl, Nat.le_of_ble_eq_true rfl⟩ (fun v w' H locs hpo w => ?_)
    obtain ⟨rfl, rfl⟩ := hpo
    have w : mW E A s [(h, .inr (0, [.ref h_rules, .ref h_rows])), (h_rules, .inr (4, [.ref a_vals, .int now])), (a_vals, .inl (E.2.1, 8, .inl vals)), (h_rows, .inr (8, [.int (nI dm), .int (nI 9), .ref a_rows, .int s_rows])), (a_rows, .inl (E.2.1, (dm * 9), .inl f_rows)), (hb, .inr (12, [.ref ab, .int (0 : Int32), .int (0 : Int32), .int (nI (bs ++ [nI 32]).length)])), (ab, .inl (E.2.2.1, cap, .inl f))] H locs := w.sub [0, 1, 2, 5, 6, 3, 4] (by decide) rfl
    refine W.eq (g2 := F0 m 56 ls [.int (nI v), .ref hb]) (congrArg (fun z => F0 m 56 ls [.int z, .ref hb]) ev) ?_
    refine mx_callVG (As := [.int (nI v)]) (rest := []) (wr := [(h, .inr (0, [.ref h_rules, .ref h_rows])), (h_rules, .inr (4, [.ref a_vals, .int now])), (a_vals, .inl (E.2.1, 8, .inl vals)), (h_rows, .inr (8, [.int (nI dm), .int (nI 9), .ref a_rows, .int s_rows])), (a_rows, .inl (E.2.1, (dm * 9), .inl f_rows))]) (cells2 := 8) (slots2 := 272) (t_ai E l hb ab cap f (bs ++ [nI 32]) hI N v dv nv (by simp only [List.length_append, List.length_singleton, l0, l1, l2, l3]; omega)) B w [5, 6] [0, 1, 2, 3, 4] rfl rfl (by decide) (by decide) (by decide) 5 rfl rfl ⟨kc_J4_append_bf812, kw_1049, kw_1050, kw_78⟩ kw_1048 1 (by decide +kernel) ⟨Nat.le_of_ble_eq_true rfl, Nat.le_of_ble_eq_true rfl⟩ rfl hl.1 rfl (Nat.le_of_ble_eq_true rfl) dX0_describe_56 rfl rfl ⟨Nat.le_of_ble_eq_true rfl, Nat.le_of_ble_eq_true rfl⟩ (fun v w' H locs hpo w => ?_)
    obtain ⟨rfl, ab, cap, f, rfl, hI⟩ := hpo
    have w : mW E A s [(h, .inr (0, [.ref h_rules, .ref h_rows])), (h_rules, .inr (4, [.ref a_vals, .int now])), (a_vals, .inl (E.2.1, 8, .inl vals)), (h_rows, .inr (8, [.int (nI dm), .int (nI 9), .ref a_rows, .int s_rows])), (a_rows, .inl (E.2.1, (dm * 9), .inl f_rows)), (hb, .inr (12, [.ref ab, .int (0 : Int32), .int (0 : Int32), .int (nI ((bs ++ [nI 32]) ++ dv).length)])), (ab, .inl (E.2.2.1, cap, .inl f))] H locs := w
    refine lv_pop hx hb2 dX0_describe_59 rfl ?_
    refine lv_aload_n hx hb2 dX0_describe_60 rfl (lv_at hl 2 rfl) ?_
    refine va_ldcS hx hb2 hown (B.2.2.2.2.2.1.2.2.2.2.2.2.2.2.2.1 _ (by simp [sRef] : ("FrequencyShelf$Entries", 99, " w", 0) ∈ sRef)) dX0_describe_61 ?_
    refine mx_callVG (As := [.ref (E.2.2.2 (10 + 0))]) (rest := []) (wr := [(h, .inr (0, [.ref h_rules, .ref h_rows])), (h_rules, .inr (4, [.ref a_vals, .int now])), (a_vals, .inl (E.2.1, 8, .inl vals)), (h_rows, .inr (8, [.int (nI dm), .int (nI 9), .ref a_rows, .int s_rows])), (a_rows, .inl (E.2.1, (dm * 9), .inl f_rows))]) (cells2 := 9) (slots2 := 306) (t_as E l hb ab cap f ((bs ++ [nI 32]) ++ dv) hI 0 (by decide) (show _ + 2 ≤ 34 by simp only [List.length_append, List.length_singleton, l0, l1, l2, l3]; omega)) B w [5, 6] [0, 1, 2, 3, 4] rfl rfl (by decide) (by decide) (by decide) 5 rfl rfl ⟨kc_J4_append_15ec4, kw_1084, kw_1085, kw_78⟩ kw_1083 1 (by decide +kernel) ⟨Nat.le_of_ble_eq_true rfl, Nat.le_of_ble_eq_true rfl⟩ rfl hl.1 rfl (Nat.le_of_ble_eq_true rfl) dX0_describe_63 rfl rfl ⟨Nat.le_of_ble_eq_true rfl, Nat.le_of_ble_eq_true rfl⟩ (fun v w' H locs hpo w => ?_)
    obtain ⟨rfl, ab, cap, f, rfl, hI⟩ := hpo
    have w : mW E A s [(h, .inr (0, [.ref h_rules, .ref h_rows])), (h_rules, .inr (4, [.ref a_vals, .int now])), (a_vals, .inl (E.2.1, 8, .inl vals)), (h_rows, .inr (8, [.int (nI dm), .int (nI 9), .ref a_rows, .int s_rows])), (a_rows, .inl (E.2.1, (dm * 9), .inl f_rows)), (hb, .inr (12, [.ref ab, .int (0 : Int32), .int (0 : Int32), .int (nI (((bs ++ [nI 32]) ++ dv) ++ sByt.getD 0 []).length)])), (ab, .inl (E.2.2.1, cap, .inl f))] H locs := w
    refine lv_aload_n hx hb2 dX0_describe_66 rfl (lv_at hl 0 rfl) ?_
    refine mx_get B w 0 fl_X0_20 rfl rfl dX0_describe_67 ?_
    refine lv_iload_n hx hb2 dX0_describe_70 rfl (lv_at hl 1 rfl) ?_
    refine lv_iconst (v := 1) hx hb2 dX0_describe_71 (by decide) ?_
    refine mx_callV (As := [.int x1, .int 1]) (rest := [.ref hb]) (wr := [(h, .inr (0, [.ref h_rules, .ref h_rows])), (h_rules, .inr (4, [.ref a_vals, .int now])), (a_vals, .inl (E.2.1, 8, .inl vals)), (hb, .inr (12, [.ref ab, .int (0 : Int32), .int (0 : Int32), .int (nI (((bs ++ [nI 32]) ++ dv) ++ sByt.getD 0 []).length)])), (ab, .inl (E.2.2.1, cap, .inl f))]) (c_X9_get E l h_rows a_rows dm 9 rows s_rows f_rows x1 1 ok_rows _ rfl) B w [3, 4] [0, 1, 2, 5, 6] rfl rfl (by decide) (by decide) (by decide) 3 rfl rfl cv_X9_get kw_368 2 (by decide +kernel) ⟨Nat.le_of_ble_eq_true rfl, Nat.le_of_ble_eq_true rfl⟩ rfl hl.1 rfl (Nat.le_of_ble_eq_true rfl) dX0_describe_72 rfl rfl ⟨Nat.le_of_ble_eq_true rfl, Nat.le_of_ble_eq_true rfl⟩ (fun v w' H locs hpo w => ?_)
    obtain ⟨rfl, rfl⟩ := hpo
    have w : mW E A s [(h, .inr (0, [.ref h_rules, .ref h_rows])), (h_rules, .inr (4, [.ref a_vals, .int now])), (a_vals, .inl (E.2.1, 8, .inl vals)), (h_rows, .inr (8, [.int (nI dm), .int (nI 9), .ref a_rows, .int s_rows])), (a_rows, .inl (E.2.1, (dm * 9), .inl f_rows)), (hb, .inr (12, [.ref ab, .int (0 : Int32), .int (0 : Int32), .int (nI (((bs ++ [nI 32]) ++ dv) ++ sByt.getD 0 []).length)])), (ab, .inl (E.2.2.1, cap, .inl f))] H locs := w.sub [0, 1, 2, 5, 6, 3, 4] (by decide) rfl
    refine W.eq (g2 := F0 m 75 ls [.int (nI wt), .ref hb]) (congrArg (fun z => F0 m 75 ls [.int z, .ref hb]) ew) ?_
    refine mx_callVG (As := [.int (nI wt)]) (rest := []) (wr := [(h, .inr (0, [.ref h_rules, .ref h_rows])), (h_rules, .inr (4, [.ref a_vals, .int now])), (a_vals, .inl (E.2.1, 8, .inl vals)), (h_rows, .inr (8, [.int (nI dm), .int (nI 9), .ref a_rows, .int s_rows])), (a_rows, .inl (E.2.1, (dm * 9), .inl f_rows))]) (cells2 := 10) (slots2 := 340) (t_ai E l hb ab cap f (((bs ++ [nI 32]) ++ dv) ++ sByt.getD 0 []) hI N wt dw nw (by simp only [List.length_append, List.length_singleton, l0, l1, l2, l3]; omega)) B w [5, 6] [0, 1, 2, 3, 4] rfl rfl (by decide) (by decide) (by decide) 5 rfl rfl ⟨kc_J4_append_bf812, kw_1049, kw_1050, kw_78⟩ kw_1048 1 (by decide +kernel) ⟨Nat.le_of_ble_eq_true rfl, Nat.le_of_ble_eq_true rfl⟩ rfl hl.1 rfl (Nat.le_of_ble_eq_true rfl) dX0_describe_75 rfl rfl ⟨Nat.le_of_ble_eq_true rfl, Nat.le_of_ble_eq_true rfl⟩ (fun v w' H locs hpo w => ?_)
    obtain ⟨rfl, ab, cap, f, rfl, hI⟩ := hpo
    have w : mW E A s [(h, .inr (0, [.ref h_rules, .ref h_rows])), (h_rules, .inr (4, [.ref a_vals, .int now])), (a_vals, .inl (E.2.1, 8, .inl vals)), (h_rows, .inr (8, [.int (nI dm), .int (nI 9), .ref a_rows, .int s_rows])), (a_rows, .inl (E.2.1, (dm * 9), .inl f_rows)), (hb, .inr (12, [.ref ab, .int (0 : Int32), .int (0 : Int32), .int (nI ((((bs ++ [nI 32]) ++ dv) ++ sByt.getD 0 []) ++ dw).length)])), (ab, .inl (E.2.2.1, cap, .inl f))] H locs := w
    refine lv_pop hx hb2 dX0_describe_78 rfl ?_
    refine lv_aload_n hx hb2 dX0_describe_79 rfl (lv_at hl 2 rfl) ?_
    refine va_ldcS hx hb2 hown (B.2.2.2.2.2.1.2.2.2.2.2.2.2.2.2.1 _ (by simp [sRef] : ("FrequencyShelf$Entries", 104, " c", 1) ∈ sRef)) dX0_describe_80 ?_
    refine mx_callVG (As := [.ref (E.2.2.2 (10 + 1))]) (rest := []) (wr := [(h, .inr (0, [.ref h_rules, .ref h_rows])), (h_rules, .inr (4, [.ref a_vals, .int now])), (a_vals, .inl (E.2.1, 8, .inl vals)), (h_rows, .inr (8, [.int (nI dm), .int (nI 9), .ref a_rows, .int s_rows])), (a_rows, .inl (E.2.1, (dm * 9), .inl f_rows))]) (cells2 := 11) (slots2 := 374) (t_as E l hb ab cap f ((((bs ++ [nI 32]) ++ dv) ++ sByt.getD 0 []) ++ dw) hI 1 (by decide) (show _ + 2 ≤ 34 by simp only [List.length_append, List.length_singleton, l0, l1, l2, l3]; omega)) B w [5, 6] [0, 1, 2, 3, 4] rfl rfl (by decide) (by decide) (by decide) 5 rfl rfl ⟨kc_J4_append_15ec4, kw_1084, kw_1085, kw_78⟩ kw_1083 1 (by decide +kernel) ⟨Nat.le_of_ble_eq_true rfl, Nat.le_of_ble_eq_true rfl⟩ rfl hl.1 rfl (Nat.le_of_ble_eq_true rfl) dX0_describe_82 rfl rfl ⟨Nat.le_of_ble_eq_true rfl, Nat.le_of_ble_eq_true rfl⟩ (fun v w' H locs hpo w => ?_)
    obtain ⟨rfl, ab, cap, f, rfl, hI⟩ := hpo
    have w : mW E A s [(h, .inr (0, [.ref h_rules, .ref h_rows])), (h_rules, .inr (4, [.ref a_vals, .int now])), (a_vals, .inl (E.2.1, 8, .inl vals)), (h_rows, .inr (8, [.int (nI dm), .int (nI 9), .ref a_rows, .int s_rows])), (a_rows, .inl (E.2.1, (dm * 9), .inl f_rows)), (hb, .inr (12, [.ref ab, .int (0 : Int32), .int (0 : Int32), .int (nI (((((bs ++ [nI 32]) ++ dv) ++ sByt.getD 0 []) ++ dw) ++ sByt.getD 1 []).length)])), (ab, .inl (E.2.2.1, cap, .inl f))] H locs := w
    refine lv_aload_n hx hb2 dX0_describe_85 rfl (lv_at hl 0 rfl) ?_
    refine mx_get B w 0 fl_X0_20 rfl rfl dX0_describe_86 ?_
    refine lv_iload_n hx hb2 dX0_describe_89 rfl (lv_at hl 1 rfl) ?_
    refine lv_iconst (v := 3) hx hb2 dX0_describe_90 (by decide) ?_
    refine mx_callV (As := [.int x1, .int 3]) (rest := [.ref hb]) (wr := [(h, .inr (0, [.ref h_rules, .ref h_rows])), (h_rules, .inr (4, [.ref a_vals, .int now])), (a_vals, .inl (E.2.1, 8, .inl vals)), (hb, .inr (12, [.ref ab, .int (0 : Int32), .int (0 : Int32), .int (nI (((((bs ++ [nI 32]) ++ dv) ++ sByt.getD 0 []) ++ dw) ++ sByt.getD 1 []).length)])), (ab, .inl (E.2.2.1, cap, .inl f))]) (c_X9_get E l h_rows a_rows dm 9 rows s_rows f_rows x1 3 ok_rows _ rfl) B w [3, 4] [0, 1, 2, 5, 6] rfl rfl (by decide) (by decide) (by decide) 3 rfl rfl cv_X9_get kw_368 2 (by decide +kernel) ⟨Nat.le_of_ble_eq_true rfl, Nat.le_of_ble_eq_true rfl⟩ rfl hl.1 rfl (Nat.le_of_ble_eq_true rfl) dX0_describe_91 rfl rfl ⟨Nat.le_of_ble_eq_true rfl, Nat.le_of_ble_eq_true rfl⟩ (fun v w' H locs hpo w => ?_)
    obtain ⟨rfl, rfl⟩ := hpo
    have w : mW E A s [(h, .inr (0, [.ref h_rules, .ref h_rows])), (h_rules, .inr (4, [.ref a_vals, .int now])), (a_vals, .inl (E.2.1, 8, .inl vals)), (h_rows, .inr (8, [.int (nI dm), .int (nI 9), .ref a_rows, .int s_rows])), (a_rows, .inl (E.2.1, (dm * 9), .inl f_rows)), (hb, .inr (12, [.ref ab, .int (0 : Int32), .int (0 : Int32), .int (nI (((((bs ++ [nI 32]) ++ dv) ++ sByt.getD 0 []) ++ dw) ++ sByt.getD 1 []).length)])), (ab, .inl (E.2.2.1, cap, .inl f))] H locs := w.sub [0, 1, 2, 5, 6, 3, 4] (by decide) rfl
    refine W.eq (g2 := F0 m 94 ls [.int (nI ct), .ref hb]) (congrArg (fun z => F0 m 94 ls [.int z, .ref hb]) ec) ?_
    refine mx_callVG (As := [.int (nI ct)]) (rest := []) (wr := [(h, .inr (0, [.ref h_rules, .ref h_rows])), (h_rules, .inr (4, [.ref a_vals, .int now])), (a_vals, .inl (E.2.1, 8, .inl vals)), (h_rows, .inr (8, [.int (nI dm), .int (nI 9), .ref a_rows, .int s_rows])), (a_rows, .inl (E.2.1, (dm * 9), .inl f_rows))]) (cells2 := 12) (slots2 := 408) (t_ai E l hb ab cap f (((((bs ++ [nI 32]) ++ dv) ++ sByt.getD 0 []) ++ dw) ++ sByt.getD 1 []) hI N ct dc nc (by simp only [List.length_append, List.length_singleton, l0, l1, l2, l3]; omega)) B w [5, 6] [0, 1, 2, 3, 4] rfl rfl (by decide) (by decide) (by decide) 5 rfl rfl ⟨kc_J4_append_bf812, kw_1049, kw_1050, kw_78⟩ kw_1048 1 (by decide +kernel) ⟨Nat.le_of_ble_eq_true rfl, Nat.le_of_ble_eq_true rfl⟩ rfl hl.1 rfl (Nat.le_of_ble_eq_true rfl) dX0_describe_94 rfl rfl ⟨Nat.le_of_ble_eq_true rfl, Nat.le_of_ble_eq_true rfl⟩ (fun v w' H locs hpo w => ?_)
    obtain ⟨rfl, ab, cap, f, rfl, hI⟩ := hpo
    have w : mW E A s [(h, .inr (0, [.ref h_rules, .ref h_rows])), (h_rules, .inr (4, [.ref a_vals, .int now])), (a_vals, .inl (E.2.1, 8, .inl vals)), (h_rows, .inr (8, [.int (nI dm), .int (nI 9), .ref a_rows, .int s_rows])), (a_rows, .inl (E.2.1, (dm * 9), .inl f_rows)), (hb, .inr (12, [.ref ab, .int (0 : Int32), .int (0 : Int32), .int (nI ((((((bs ++ [nI 32]) ++ dv) ++ sByt.getD 0 []) ++ dw) ++ sByt.getD 1 []) ++ dc).length)])), (ab, .inl (E.2.2.1, cap, .inl f))] H locs := w
    refine lv_pop hx hb2 dX0_describe_97 rfl ?_
    refine tail1 ab cap f H locs ls ((((((bs ++ [nI 32]) ++ dv) ++ sByt.getD 0 []) ++ dw) ++ sByt.getD 1 []) ++ dc) ?_ hI (by simp only [List.length_append, List.length_singleton, l0, l1, l2, l3]; omega) w hl
    unfold tB
    rw [ebs]
  have loop : ∀ (r i : Nat) (ab cap : Nat) (f : Nat → Int32) (H : Heap) (locs : List Loc) (ls : Array Slot), i + r = n → SBI cap f (kl lt i) → mW E A s [(h, .inr (0, [.ref h_rules, .ref h_rows])), (h_rules, .inr (4, [.ref a_vals, .int now])), (a_vals, .inl (E.2.1, 8, .inl vals)), (h_rows, .inr (8, [.int (nI dm), .int (nI 9), .ref a_rows, .int s_rows])), (a_rows, .inl (E.2.1, (dm * 9), .inl f_rows)), (hb, .inr (12, [.ref ab, .int (0 : Int32), .int (0 : Int32), .int (nI (kl lt i).length)])), (ab, .inl (E.2.2.1, cap, .inl f))] H locs → lv_has ls 5 [(4, .int (nI i)), (3, .int (tget rows x1 7)), (0, .ref h), (1, .int x1), (2, .ref hb)] → W p l e ({ frames := 6, cells := 14, slots := 476, locals := 160 } : Room) s m args below meth c H locs i (34 * i) Q (F0 m 14 ls []) := by
    intro r
    induction r with
    | zero =>
      intro i ab cap f H locs ls hi hI w hl
      refine lv_iload hx hb2 dX0_describe_14 (lv_at hl 0 rfl) ?_
      refine lv_iload_n hx hb2 dX0_describe_16 rfl (lv_at hl 1 rfl) ?_
      refine mx_callS (As := [.int (tget rows x1 7)]) (rest := [.int (nI i)]) (wr := [(h, .inr (0, [.ref h_rules, .ref h_rows])), (h_rules, .inr (4, [.ref a_vals, .int now])), (a_vals, .inl (E.2.1, 8, .inl vals)), (h_rows, .inr (8, [.int (nI dm), .int (nI 9), .ref a_rows, .int s_rows])), (a_rows, .inl (E.2.1, (dm * 9), .inl f_rows)), (hb, .inr (12, [.ref ab, .int (0 : Int32), .int (0 : Int32), .int (nI (kl lt i).length)])), (ab, .inl (E.2.2.1, cap, .inl f))]) (d_X1_length E l N (tget rows x1 7) (nI n) hlen) B w [] [0, 1, 2, 3, 4, 5, 6] rfl rfl (by decide) (by decide) (by decide) cs_X1_length kw_955 1 (by decide +kernel) ⟨Nat.le_of_ble_eq_true rfl, Nat.le_of_ble_eq_true rfl⟩ rfl hl.1 rfl (Nat.le_of_ble_eq_true rfl) dX0_describe_17 rfl rfl ⟨show i ≤ 14 by omega, show 34 * i ≤ 476 by omega⟩ (fun v w' H locs hpo w => ?_)
      obtain ⟨rfl, rfl⟩ := hpo
      have w : mW E A s [(h, .inr (0, [.ref h_rules, .ref h_rows])), (h_rules, .inr (4, [.ref a_vals, .int now])), (a_vals, .inl (E.2.1, 8, .inl vals)), (h_rows, .inr (8, [.int (nI dm), .int (nI 9), .ref a_rows, .int s_rows])), (a_rows, .inl (E.2.1, (dm * 9), .inl f_rows)), (hb, .inr (12, [.ref ab, .int (0 : Int32), .int (0 : Int32), .int (nI (kl lt i).length)])), (ab, .inl (E.2.2.1, cap, .inl f))] H locs := w
      refine lv_icmp_ge (tgt := 41) hx hb2 dX0_describe_20 (by decide) (fun _ => ?_) (fun hc => absurd (nI_le (show n ≤ i by omega) (by omega)) hc)
      have hi : i = n := by omega
      subst hi
      refine W.widen (k := 6) (n := 204) (by omega) (by omega) ?_
      exact mid ab cap f H locs ls (kl lt i) rfl hI (by rw [kl_len]; exact hn) w (lv_sub hl [2, 3, 4] rfl)
    | succ r ih =>
      intro i ab cap f H locs ls hi hI w hl
      have hin : i < n := by omega
      refine lv_iload hx hb2 dX0_describe_14 (lv_at hl 0 rfl) ?_
      refine lv_iload_n hx hb2 dX0_describe_16 rfl (lv_at hl 1 rfl) ?_
      refine mx_callS (As := [.int (tget rows x1 7)]) (rest := [.int (nI i)]) (wr := [(h, .inr (0, [.ref h_rules, .ref h_rows])), (h_rules, .inr (4, [.ref a_vals, .int now])), (a_vals, .inl (E.2.1, 8, .inl vals)), (h_rows, .inr (8, [.int (nI dm), .int (nI 9), .ref a_rows, .int s_rows])), (a_rows, .inl (E.2.1, (dm * 9), .inl f_rows)), (hb, .inr (12, [.ref ab, .int (0 : Int32), .int (0 : Int32), .int (nI (kl lt i).length)])), (ab, .inl (E.2.2.1, cap, .inl f))]) (d_X1_length E l N (tget rows x1 7) (nI n) hlen) B w [] [0, 1, 2, 3, 4, 5, 6] rfl rfl (by decide) (by decide) (by decide) cs_X1_length kw_955 1 (by decide +kernel) ⟨Nat.le_of_ble_eq_true rfl, Nat.le_of_ble_eq_true rfl⟩ rfl hl.1 rfl (Nat.le_of_ble_eq_true rfl) dX0_describe_17 rfl rfl ⟨show i ≤ 14 by omega, show 34 * i ≤ 476 by omega⟩ (fun v w' H locs hpo w => ?_)
      obtain ⟨rfl, rfl⟩ := hpo
      have w : mW E A s [(h, .inr (0, [.ref h_rules, .ref h_rows])), (h_rules, .inr (4, [.ref a_vals, .int now])), (a_vals, .inl (E.2.1, 8, .inl vals)), (h_rows, .inr (8, [.int (nI dm), .int (nI 9), .ref a_rows, .int s_rows])), (a_rows, .inl (E.2.1, (dm * 9), .inl f_rows)), (hb, .inr (12, [.ref ab, .int (0 : Int32), .int (0 : Int32), .int (nI (kl lt i).length)])), (ab, .inl (E.2.2.1, cap, .inl f))] H locs := w
      refine lv_icmp_ge (tgt := 41) hx hb2 dX0_describe_20 (by decide) (fun hc => absurd hc (nI_ge hin (by omega))) (fun _ => ?_)
      refine lv_aload_n hx hb2 dX0_describe_23 rfl (lv_at hl 4 rfl) ?_
      refine lv_iload_n hx hb2 dX0_describe_24 rfl (lv_at hl 1 rfl) ?_
      refine lv_iload hx hb2 dX0_describe_25 (lv_at hl 0 rfl) ?_
      refine mx_callS (As := [.int (tget rows x1 7), .int (nI i)]) (rest := [.ref hb]) (wr := [(h, .inr (0, [.ref h_rules, .ref h_rows])), (h_rules, .inr (4, [.ref a_vals, .int now])), (a_vals, .inl (E.2.1, 8, .inl vals)), (h_rows, .inr (8, [.int (nI dm), .int (nI 9), .ref a_rows, .int s_rows])), (a_rows, .inl (E.2.1, (dm * 9), .inl f_rows)), (hb, .inr (12, [.ref ab, .int (0 : Int32), .int (0 : Int32), .int (nI (kl lt i).length)])), (ab, .inl (E.2.2.1, cap, .inl f))]) (d_X1_byteAt E l N (tget rows x1 7) (nI i) (nI (lt i)) (hby i hin)) B w [] [0, 1, 2, 3, 4, 5, 6] rfl rfl (by decide) (by decide) (by decide) cs_X1_byteAt kw_956 2 (by decide +kernel) ⟨Nat.le_of_ble_eq_true rfl, Nat.le_of_ble_eq_true rfl⟩ rfl hl.1 rfl (Nat.le_of_ble_eq_true rfl) dX0_describe_27 rfl rfl ⟨show i ≤ 14 by omega, show 34 * i ≤ 476 by omega⟩ (fun v w' H locs hpo w => ?_)
      obtain ⟨rfl, rfl⟩ := hpo
      have w : mW E A s [(h, .inr (0, [.ref h_rules, .ref h_rows])), (h_rules, .inr (4, [.ref a_vals, .int now])), (a_vals, .inl (E.2.1, 8, .inl vals)), (h_rows, .inr (8, [.int (nI dm), .int (nI 9), .ref a_rows, .int s_rows])), (a_rows, .inl (E.2.1, (dm * 9), .inl f_rows)), (hb, .inr (12, [.ref ab, .int (0 : Int32), .int (0 : Int32), .int (nI (kl lt i).length)])), (ab, .inl (E.2.2.1, cap, .inl f))] H locs := w
      refine lv_i2c (v := nI (lt i)) hx hb2 dX0_describe_30 (ch_ok _ (hlt i hin)) ?_
      refine mx_callVG (As := [.int (nI (lt i))]) (rest := []) (wr := [(h, .inr (0, [.ref h_rules, .ref h_rows])), (h_rules, .inr (4, [.ref a_vals, .int now])), (a_vals, .inl (E.2.1, 8, .inl vals)), (h_rows, .inr (8, [.int (nI dm), .int (nI 9), .ref a_rows, .int s_rows])), (a_rows, .inl (E.2.1, (dm * 9), .inl f_rows))]) (cells2 := i + 1) (slots2 := 34 * (i + 1)) (t_ac E l hb ab cap f (kl lt i) hI (by rw [kl_len]; omega) (lt i) (hlt i hin)) B w [5, 6] [0, 1, 2, 3, 4] rfl rfl (by decide) (by decide) (by decide) 5 rfl rfl ⟨kc_J4_append_cf468, kw_958, kw_959, kw_78⟩ kw_957 1 (by decide +kernel) ⟨Nat.le_of_ble_eq_true rfl, Nat.le_of_ble_eq_true rfl⟩ rfl hl.1 rfl (Nat.le_of_ble_eq_true rfl) dX0_describe_31 rfl rfl ⟨show i + 1 ≤ 14 by omega, show 34 * (i + 1) ≤ 476 by omega⟩ (fun v w' H locs hpo w => ?_)
      rw [← kl_succ] at hpo
      obtain ⟨rfl, ab, cap, f, rfl, hI⟩ := hpo
      have w : mW E A s [(h, .inr (0, [.ref h_rules, .ref h_rows])), (h_rules, .inr (4, [.ref a_vals, .int now])), (a_vals, .inl (E.2.1, 8, .inl vals)), (h_rows, .inr (8, [.int (nI dm), .int (nI 9), .ref a_rows, .int s_rows])), (a_rows, .inl (E.2.1, (dm * 9), .inl f_rows)), (hb, .inr (12, [.ref ab, .int (0 : Int32), .int (0 : Int32), .int (nI (kl lt (i + 1)).length)])), (ab, .inl (E.2.2.1, cap, .inl f))] H locs := w
      refine lv_pop hx hb2 dX0_describe_34 rfl ?_
      refine lv_iinc (v := nI (i + 1)) (lv' := [(4, .int (nI (i + 1))), (3, .int (tget rows x1 7)), (0, .ref h), (1, .int x1), (2, .ref hb)]) hx hb2 dX0_describe_35 hl (k := 0) rfl (by rw [← sb_add]; rfl) (by decide) rfl (fun ls hl => ?_)
      refine lv_goto (tgt := 14) hx hb2 dX0_describe_38 (by decide) ?_
      exact ih (i + 1) ab cap f H locs ls (by omega) hI w hl
  refine lv_aload_n hx hb2 dX0_describe_0 rfl (lv_at hl 0 rfl) ?_
  refine mx_get B w 0 fl_X0_20 rfl rfl dX0_describe_1 ?_
  refine lv_iload_n hx hb2 dX0_describe_4 rfl (lv_at hl 1 rfl) ?_
  refine lv_bipush (v := 7) hx hb2 dX0_describe_5 (by decide) ?_
  refine mx_callV (As := [.int x1, .int 7]) (rest := []) (wr := [(h, .inr (0, [.ref h_rules, .ref h_rows])), (h_rules, .inr (4, [.ref a_vals, .int now])), (a_vals, .inl (E.2.1, 8, .inl vals)), (hb, .inr (12, [.ref ab, .int (0 : Int32), .int (0 : Int32), .int (nI ([] : List Int32).length)])), (ab, .inl (E.2.2.1, cap, .inl f))]) (c_X9_get E l h_rows a_rows dm 9 rows s_rows f_rows x1 7 ok_rows _ rfl) B w [3, 4] [0, 1, 2, 5, 6] rfl rfl (by decide) (by decide) (by decide) 3 rfl rfl cv_X9_get kw_368 2 (by decide +kernel) ⟨Nat.le_of_ble_eq_true rfl, Nat.le_of_ble_eq_true rfl⟩ rfl hl.1 rfl (Nat.le_of_ble_eq_true rfl) dX0_describe_7 rfl rfl ⟨Nat.le_of_ble_eq_true rfl, Nat.le_of_ble_eq_true rfl⟩ (fun v w' H locs hpo w => ?_)
  obtain ⟨rfl, rfl⟩ := hpo
  have w : mW E A s [(h, .inr (0, [.ref h_rules, .ref h_rows])), (h_rules, .inr (4, [.ref a_vals, .int now])), (a_vals, .inl (E.2.1, 8, .inl vals)), (h_rows, .inr (8, [.int (nI dm), .int (nI 9), .ref a_rows, .int s_rows])), (a_rows, .inl (E.2.1, (dm * 9), .inl f_rows)), (hb, .inr (12, [.ref ab, .int (0 : Int32), .int (0 : Int32), .int (nI ([] : List Int32).length)])), (ab, .inl (E.2.2.1, cap, .inl f))] H locs := w.sub [0, 1, 2, 5, 6, 3, 4] (by decide) rfl
  refine lv_istore_n (lv' := [(3, .int (tget rows x1 7)), (0, .ref h), (1, .int x1), (2, .ref hb)]) hx hb2 dX0_describe_10 rfl hl (by decide) rfl (fun ls hl => ?_)
  refine lv_iconst (v := 0) hx hb2 dX0_describe_11 (by decide) ?_
  refine lv_istore (lv' := [(4, .int (nI 0)), (3, .int (tget rows x1 7)), (0, .ref h), (1, .int x1), (2, .ref hb)]) hx hb2 dX0_describe_12 hl (by decide) rfl (fun ls hl => ?_)
  exact loop n 0 ab cap f H locs ls (Nat.zero_add n) hI w hl
