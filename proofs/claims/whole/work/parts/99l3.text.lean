theorem kw_920 : Cond.classLink "FrequencyShelf" 299 "java/lang/StringBuilde\x72" ∈ TB := tb_at 920 (by decide +kernel) (by decide +kernel)
theorem kw_921 : Cond.instantiable "java/lang/StringBuilde\x72" 4 ∈ TB := tb_at 921 (by decide +kernel) (by decide +kernel)
theorem kw_924 : Cond.code yJ4_init_da8c8 cJ4_init_da8c8 1 none ∈ TB := tb_at 924 (by decide +kernel) (by decide +kernel)
theorem kw_923 : Cond.instanceMethod yJ4_init_da8c8 ∈ TB := tb_at 923 (by decide +kernel) (by decide +kernel)
theorem kw_922 : Cond.methodLink "FrequencyShelf" 301 yJ4_init_da8c8 ∈ TB := tb_at 922 (by decide +kernel) (by decide +kernel)
theorem kw_954 : Cond.code yX0_describe cX0_describe 5 none ∈ TB := tb_at 954 (by decide +kernel) (by decide +kernel)
theorem kw_952 : Cond.instanceMethod yX0_describe ∈ TB := tb_at 952 (by decide +kernel) (by decide +kernel)
theorem kw_953 : Cond.selects "FrequencyShelf$Entries" yX0_describe yX0_describe ∈ TB := tb_at 953 (by decide +kernel) (by decide +kernel)
theorem cv_X0_describe : Cond.code yX0_describe cX0_describe 5 none ∈ TB ∧ Cond.instanceMethod yX0_describe ∈ TB ∧ Cond.selects "FrequencyShelf$Entries" yX0_describe yX0_describe ∈ TB ∧ Cond.initialized "FrequencyShelf$Entries" ∈ TB := ⟨kw_954, kw_952, kw_953, kw_72⟩
theorem kw_951 : Cond.methodLink "FrequencyShelf" 302 yX0_describe ∈ TB := tb_at 951 (by decide +kernel) (by decide +kernel)
theorem kw_1127 : Cond.code yJ4_length_8abf5 cJ4_length_8abf5 1 (some .int) ∈ TB := tb_at 1127 (by decide +kernel) (by decide +kernel)
theorem kw_1125 : Cond.instanceMethod yJ4_length_8abf5 ∈ TB := tb_at 1125 (by decide +kernel) (by decide +kernel)
theorem kw_1126 : Cond.selects "java/lang/StringBuilde\x72" yJ4_length_8abf5 yJ4_length_8abf5 ∈ TB := tb_at 1126 (by decide +kernel) (by decide +kernel)
theorem cv_J4_length_8abf5 : Cond.code yJ4_length_8abf5 cJ4_length_8abf5 1 (some .int) ∈ TB ∧ Cond.instanceMethod yJ4_length_8abf5 ∈ TB ∧ Cond.selects "java/lang/StringBuilde\x72" yJ4_length_8abf5 yJ4_length_8abf5 ∈ TB ∧ Cond.initialized "java/lang/StringBuilde\x72" ∈ TB := ⟨kw_1127, kw_1125, kw_1126, kw_78⟩
theorem kw_1124 : Cond.methodLink "FrequencyShelf" 306 yJ4_length_8abf5 ∈ TB := tb_at 1124 (by decide +kernel) (by decide +kernel)
theorem kw_1134 : Cond.code yJ4_charAt_5068e cJ4_charAt_5068e 2 (some .char) ∈ TB := tb_at 1134 (by decide +kernel) (by decide +kernel)
theorem kw_1132 : Cond.instanceMethod yJ4_charAt_5068e ∈ TB := tb_at 1132 (by decide +kernel) (by decide +kernel)
theorem kw_1133 : Cond.selects "java/lang/StringBuilde\x72" yJ4_charAt_5068e yJ4_charAt_5068e ∈ TB := tb_at 1133 (by decide +kernel) (by decide +kernel)
theorem cv_J4_charAt_5068e : Cond.code yJ4_charAt_5068e cJ4_charAt_5068e 2 (some .char) ∈ TB ∧ Cond.instanceMethod yJ4_charAt_5068e ∈ TB ∧ Cond.selects "java/lang/StringBuilde\x72" yJ4_charAt_5068e yJ4_charAt_5068e ∈ TB ∧ Cond.initialized "java/lang/StringBuilde\x72" ∈ TB := ⟨kw_1134, kw_1132, kw_1133, kw_78⟩
theorem kw_1131 : Cond.methodLink "FrequencyShelf" 308 yJ4_charAt_5068e ∈ TB := tb_at 1131 (by decide +kernel) (by decide +kernel)
/-! ===== FrequencyShelf.text ===== -/
set_option maxHeartbeats 8000000 in
set_option maxRecDepth 100000 in
theorem t_text (l : Launch) (N : Nat) (hN : 65536 ≤ N) (E : mE) (hx hat hru hle hsh hlo : Nat) (kv : Value) (a : Nat → Nat) (s : Nat → Int32) (f : Nat → Nat → Int32) (C_tby : Nat → Int32) (C_tsz : Int32) (C_rowOfKeys : Rows) (C_places : Rows) (C_vals : Nat → Int32) (C_now : Int32) (C_book : Rows) (C_told : Rows) (C_written : Rows) (C_late : Rows) (C_sums : Nat → Int32) (C_asum : Nat → Int32) (C_ents : Rows) (C_colds : Rows) (C_cnt : Nat → Int32) (C_uses : Int32) (C_usesInWindow : Int32) (C_entriesSoFar : Int32) (C_dirtySoFar : Int32) (C_line : Rows) (C_waits : Rows) (C_boxes : Rows) (hok : tb_ok 200 9 C_ents (s 6) (f 6)) (x1 x2 r : Int32) (h : TXC N C_vals C_now C_ents x1 x2 r) : MX E l yX11_text cX11_text 5 (some .int) ({ frames := 7, cells := 16, slots := 496, locals := 184 } : Room) [.ref hx, .int x1, .int x2] (xw E hx hat hru hle hsh hlo kv a s f C_tby C_tsz C_rowOfKeys C_places C_vals C_now C_book C_told C_written C_late C_sums C_asum C_ents C_colds C_cnt C_uses C_usesInWindow C_entriesSoFar C_dirtySoFar C_line C_waits C_boxes) (fun v w' => v = some (.int r) ∧ w' = (xw E hx hat hru hle hsh hlo kv a s f C_tby C_tsz C_rowOfKeys C_places C_vals C_now C_book C_told C_written C_late C_sums C_asum C_ents C_colds C_cnt C_uses C_usesInWindow C_entriesSoFar C_dirtySoFar C_line C_waits C_boxes)) := by
  refine mx_intro (by decide +kernel) (Nat.le_of_ble_eq_true rfl) ?_
  intro p e st m args below meth c A Q ls B w hl
  obtain ⟨fx, fb, hml, hown, hts⟩ := id B.1
  have hl : lv_has ls 5 [(0, .ref hx), (1, .int x1), (2, .int x2)] := hl
  have w : mW E A st (xw E hx hat hru hle hsh hlo kv a s f C_tby C_tsz C_rowOfKeys C_places C_vals C_now C_book C_told C_written C_late C_sums C_asum C_ents C_colds C_cnt C_uses C_usesInWindow C_entriesSoFar C_dirtySoFar C_line C_waits C_boxes) _ _ := w
  refine lv_iload_n fx fb dX11_text_0 rfl (lv_at hl 1 rfl) ?_
  rcases h with ⟨h1, rfl⟩ | ⟨h1, h2, rfl⟩ | ⟨h1, h2, h3, rfl⟩ | ⟨h1, h2, e0, n, v, wt, ct, lt, od, os, he, h3, hn, hlt, hlen, hby, ev, ew, ec, hv, hw, hct, hd, hst, rfl⟩
  · refine lv_if_lt (tgt := 9) fx fb dX11_text_1 (by decide) (fun _ => ?_) (fun hc => absurd h1 hc)
    refine lv_sipush (v := (-1001)) fx fb dX11_text_9 (by decide) ?_
    refine W.widen (k := 16) (n := 496) (by omega) (by omega) ?_
    exact mx_iret B w ⟨rfl, rfl⟩ dX11_text_12
  · refine lv_if_lt (tgt := 9) fx fb dX11_text_1 (by decide) (fun hc => absurd hc h1) (fun _ => ?_)
    refine lv_iload_n fx fb dX11_text_4 rfl (lv_at hl 2 rfl) ?_
    refine lv_iconst (v := (-1)) fx fb dX11_text_5 (by decide) ?_
    refine lv_icmp_ge (tgt := 13) fx fb dX11_text_6 (by decide) (fun hc => absurd hc h2) (fun _ => ?_)
    refine lv_sipush (v := (-1001)) fx fb dX11_text_9 (by decide) ?_
    refine W.widen (k := 16) (n := 496) (by omega) (by omega) ?_
    exact mx_iret B w ⟨rfl, rfl⟩ dX11_text_12
  · refine lv_if_lt (tgt := 9) fx fb dX11_text_1 (by decide) (fun hc => absurd hc h1) (fun _ => ?_)
    refine lv_iload_n fx fb dX11_text_4 rfl (lv_at hl 2 rfl) ?_
    refine lv_iconst (v := (-1)) fx fb dX11_text_5 (by decide) ?_
    refine lv_icmp_ge (tgt := 13) fx fb dX11_text_6 (by decide) (fun _ => ?_) (fun hc => absurd h2 hc)
    refine lv_aload_n fx fb dX11_text_13 rfl (lv_at hl 0 rfl) ?_
    refine mx_get B w 0 fl_X11_53 rfl rfl dX11_text_14 ?_
    refine mx_getN B w 21 fl_X11_129 rfl rfl dX11_text_17 ?_
    refine lv_iload_n fx fb dX11_text_20 rfl (lv_at hl 1 rfl) ?_
    refine mx_callV (As := [.int x1]) (rest := []) (wr := [(hx, .inr (10, [.ref (a 0), .ref (a 2), .ref (a 4), .ref hat, .ref hru, .ref hle, .ref hsh, .ref hlo, kv])), ((a 0), .inr (9, [.ref (a 1), .int C_tsz])), ((a 1), .inl (E.2.1, 60, .inl C_tby)), ((a 2), .inr (8, [.int (nI 30), .int (nI 1), .ref (a 3), .int (s 0)])), ((a 3), .inl (E.2.1, (30 * 1), .inl (f 0))), ((a 4), .inr (3, [.ref (a 5)])), ((a 5), .inr (8, [.int (nI 12), .int (nI 3), .ref (a 6), .int (s 1)])), ((a 6), .inl (E.2.1, (12 * 3), .inl (f 1))), (hle, .inr (1, [.ref hru, .ref (a 8), .ref (a 10), .ref (a 12), .ref (a 14), .ref (a 16), .ref (a 17)])), ((a 8), .inr (8, [.int (nI 40), .int (nI 3), .ref (a 9), .int (s 2)])), ((a 9), .inl (E.2.1, (40 * 3), .inl (f 2))), ((a 10), .inr (8, [.int (nI 60), .int (nI 1), .ref (a 11), .int (s 3)])), ((a 11), .inl (E.2.1, (60 * 1), .inl (f 3))), ((a 12), .inr (8, [.int (nI 40), .int (nI 2), .ref (a 13), .int (s 4)])), ((a 13), .inl (E.2.1, (40 * 2), .inl (f 4))), ((a 14), .inr (8, [.int (nI 60), .int (nI 1), .ref (a 15), .int (s 5)])), ((a 15), .inl (E.2.1, (60 * 1), .inl (f 5))), ((a 16), .inl (E.2.1, 14, .inl C_sums)), ((a 17), .inl (E.2.1, 64, .inl C_asum)), (hsh, .inr (5, [.ref hru, .ref hle, .ref (a 18), .ref (a 21), .ref (a 24), .int C_uses, .int C_usesInWindow, .int C_entriesSoFar, .int C_dirtySoFar])), ((a 21), .inr (0, [.ref hru, .ref (a 22)])), ((a 22), .inr (8, [.int (nI 20), .int (nI 9), .ref (a 23), .int (s 7)])), ((a 23), .inl (E.2.1, (20 * 9), .inl (f 7))), ((a 24), .inr (6, [.ref (a 25)])), ((a 25), .inl (E.2.1, 64, .inl C_cnt)), (hlo, .inr (2, [.ref hru, .ref hle, .ref (a 26), .ref (a 28), .ref (a 30)])), ((a 26), .inr (8, [.int (nI 256), .int (nI 3), .ref (a 27), .int (s 8)])), ((a 27), .inl (E.2.1, (256 * 3), .inl (f 8))), ((a 28), .inr (8, [.int (nI 256), .int (nI 2), .ref (a 29), .int (s 9)])), ((a 29), .inl (E.2.1, (256 * 2), .inl (f 9))), ((a 30), .inr (8, [.int (nI 192), .int (nI 3), .ref (a 31), .int (s 10)])), ((a 31), .inl (E.2.1, (192 * 3), .inl (f 10)))]) (d_X0_nthToGo E l N (a 18) hru (a 7) (a 19) (a 20) 200 C_vals C_now C_ents (s 6) (f 6) x1 hok (-1) h3) B w [22, 8, 9, 23, 24] [0, 1, 2, 3, 4, 5, 6, 7, 10, 11, 12, 13, 14, 15, 16, 17, 18, 19, 20, 21, 25, 26, 27, 28, 29, 30, 31, 32, 33, 34, 35, 36] rfl rfl (by decide) (by decide) (by decide) 22 rfl rfl cv_X0_nthToGo kw_843 1 (by decide +kernel) ⟨Nat.le_of_ble_eq_true rfl, Nat.le_of_ble_eq_true rfl⟩ rfl hl.1 rfl (Nat.le_of_ble_eq_true rfl) dX11_text_21 rfl rfl ⟨Nat.le_of_ble_eq_true rfl, Nat.le_of_ble_eq_true rfl⟩ (fun v w' H locs hpo w => ?_)
    obtain ⟨rfl, rfl⟩ := hpo
    have w : mW E A st (xw E hx hat hru hle hsh hlo kv a s f C_tby C_tsz C_rowOfKeys C_places C_vals C_now C_book C_told C_written C_late C_sums C_asum C_ents C_colds C_cnt C_uses C_usesInWindow C_entriesSoFar C_dirtySoFar C_line C_waits C_boxes) H locs := w.sub [0, 1, 2, 3, 4, 5, 6, 7, 33, 34, 8, 9, 10, 11, 12, 13, 14, 15, 16, 17, 18, 19, 32, 35, 36, 20, 21, 22, 23, 24, 25, 26, 27, 28, 29, 30, 31] (by decide) rfl
    refine lv_istore_n (lv' := [(3, .int (-1)), (0, .ref hx), (1, .int x1), (2, .int x2)]) fx fb dX11_text_24 rfl hl (by decide) rfl (fun ls hl => ?_)
    refine lv_iload_n fx fb dX11_text_25 rfl (lv_at hl 0 rfl) ?_
    refine lv_iconst (v := (-1)) fx fb dX11_text_26 (by decide) ?_
    refine lv_icmp_ne (tgt := 34) fx fb dX11_text_27 (by decide) (fun hc => absurd rfl hc) (fun _ => ?_)
    refine lv_sipush (v := (-1003)) fx fb dX11_text_30 (by decide) ?_
    refine W.widen (k := 16) (n := 496) (by omega) (by omega) ?_
    exact mx_iret B w ⟨rfl, rfl⟩ dX11_text_33
  · refine lv_if_lt (tgt := 9) fx fb dX11_text_1 (by decide) (fun hc => absurd hc h1) (fun _ => ?_)
    refine lv_iload_n fx fb dX11_text_4 rfl (lv_at hl 2 rfl) ?_
    refine lv_iconst (v := (-1)) fx fb dX11_text_5 (by decide) ?_
    refine lv_icmp_ge (tgt := 13) fx fb dX11_text_6 (by decide) (fun _ => ?_) (fun hc => absurd h2 hc)
    refine lv_aload_n fx fb dX11_text_13 rfl (lv_at hl 0 rfl) ?_
    refine mx_get B w 0 fl_X11_53 rfl rfl dX11_text_14 ?_
    refine mx_getN B w 21 fl_X11_129 rfl rfl dX11_text_17 ?_
    refine lv_iload_n fx fb dX11_text_20 rfl (lv_at hl 1 rfl) ?_
    refine mx_callV (As := [.int x1]) (rest := []) (wr := [(hx, .inr (10, [.ref (a 0), .ref (a 2), .ref (a 4), .ref hat, .ref hru, .ref hle, .ref hsh, .ref hlo, kv])), ((a 0), .inr (9, [.ref (a 1), .int C_tsz])), ((a 1), .inl (E.2.1, 60, .inl C_tby)), ((a 2), .inr (8, [.int (nI 30), .int (nI 1), .ref (a 3), .int (s 0)])), ((a 3), .inl (E.2.1, (30 * 1), .inl (f 0))), ((a 4), .inr (3, [.ref (a 5)])), ((a 5), .inr (8, [.int (nI 12), .int (nI 3), .ref (a 6), .int (s 1)])), ((a 6), .inl (E.2.1, (12 * 3), .inl (f 1))), (hle, .inr (1, [.ref hru, .ref (a 8), .ref (a 10), .ref (a 12), .ref (a 14), .ref (a 16), .ref (a 17)])), ((a 8), .inr (8, [.int (nI 40), .int (nI 3), .ref (a 9), .int (s 2)])), ((a 9), .inl (E.2.1, (40 * 3), .inl (f 2))), ((a 10), .inr (8, [.int (nI 60), .int (nI 1), .ref (a 11), .int (s 3)])), ((a 11), .inl (E.2.1, (60 * 1), .inl (f 3))), ((a 12), .inr (8, [.int (nI 40), .int (nI 2), .ref (a 13), .int (s 4)])), ((a 13), .inl (E.2.1, (40 * 2), .inl (f 4))), ((a 14), .inr (8, [.int (nI 60), .int (nI 1), .ref (a 15), .int (s 5)])), ((a 15), .inl (E.2.1, (60 * 1), .inl (f 5))), ((a 16), .inl (E.2.1, 14, .inl C_sums)), ((a 17), .inl (E.2.1, 64, .inl C_asum)), (hsh, .inr (5, [.ref hru, .ref hle, .ref (a 18), .ref (a 21), .ref (a 24), .int C_uses, .int C_usesInWindow, .int C_entriesSoFar, .int C_dirtySoFar])), ((a 21), .inr (0, [.ref hru, .ref (a 22)])), ((a 22), .inr (8, [.int (nI 20), .int (nI 9), .ref (a 23), .int (s 7)])), ((a 23), .inl (E.2.1, (20 * 9), .inl (f 7))), ((a 24), .inr (6, [.ref (a 25)])), ((a 25), .inl (E.2.1, 64, .inl C_cnt)), (hlo, .inr (2, [.ref hru, .ref hle, .ref (a 26), .ref (a 28), .ref (a 30)])), ((a 26), .inr (8, [.int (nI 256), .int (nI 3), .ref (a 27), .int (s 8)])), ((a 27), .inl (E.2.1, (256 * 3), .inl (f 8))), ((a 28), .inr (8, [.int (nI 256), .int (nI 2), .ref (a 29), .int (s 9)])), ((a 29), .inl (E.2.1, (256 * 2), .inl (f 9))), ((a 30), .inr (8, [.int (nI 192), .int (nI 3), .ref (a 31), .int (s 10)])), ((a 31), .inl (E.2.1, (192 * 3), .inl (f 10)))]) (d_X0_nthToGo E l N (a 18) hru (a 7) (a 19) (a 20) 200 C_vals C_now C_ents (s 6) (f 6) x1 hok (nI e0) h3) B w [22, 8, 9, 23, 24] [0, 1, 2, 3, 4, 5, 6, 7, 10, 11, 12, 13, 14, 15, 16, 17, 18, 19, 20, 21, 25, 26, 27, 28, 29, 30, 31, 32, 33, 34, 35, 36] rfl rfl (by decide) (by decide) (by decide) 22 rfl rfl cv_X0_nthToGo kw_843 1 (by decide +kernel) ⟨Nat.le_of_ble_eq_true rfl, Nat.le_of_ble_eq_true rfl⟩ rfl hl.1 rfl (Nat.le_of_ble_eq_true rfl) dX11_text_21 rfl rfl ⟨Nat.le_of_ble_eq_true rfl, Nat.le_of_ble_eq_true rfl⟩ (fun v w' H locs hpo w => ?_)
    obtain ⟨rfl, rfl⟩ := hpo
    have w : mW E A st (xw E hx hat hru hle hsh hlo kv a s f C_tby C_tsz C_rowOfKeys C_places C_vals C_now C_book C_told C_written C_late C_sums C_asum C_ents C_colds C_cnt C_uses C_usesInWindow C_entriesSoFar C_dirtySoFar C_line C_waits C_boxes) H locs := w.sub [0, 1, 2, 3, 4, 5, 6, 7, 33, 34, 8, 9, 10, 11, 12, 13, 14, 15, 16, 17, 18, 19, 32, 35, 36, 20, 21, 22, 23, 24, 25, 26, 27, 28, 29, 30, 31] (by decide) rfl
    refine lv_istore_n (lv' := [(3, .int (nI e0)), (0, .ref hx), (1, .int x1), (2, .int x2)]) fx fb dX11_text_24 rfl hl (by decide) rfl (fun ls hl => ?_)
    refine lv_iload_n fx fb dX11_text_25 rfl (lv_at hl 0 rfl) ?_
    refine lv_iconst (v := (-1)) fx fb dX11_text_26 (by decide) ?_
    have hne : ¬ nI e0 = -1 := fun z => by
      have z2 := congrArg Int32.toInt z
      rw [nI_toInt (by omega), show (-1 : Int32).toInt = -1 from rfl] at z2
      omega
    refine lv_icmp_ne (tgt := 34) fx fb dX11_text_27 (by decide) (fun _ => ?_) (fun hc => absurd hc hne)
    refine mx_new (fs := [.null, .int 0, .int 0, .int 0]) B w (ci := 12) (C := RJ4) (T := TJ4) (N := 4) rfl in_J4 tyJ4 tyJ4_ok kw_920 kw_921 kw_78 (fun j hj => by rcases (show j = 0 ∨ j = 1 ∨ j = 2 ∨ j = 3 by omega) with rfl | rfl | rfl | rfl <;> rfl) (Nat.le_of_ble_eq_true rfl) (Nat.le_of_ble_eq_true rfl) dX11_text_34 (fun q H w => ?_)
    refine lv_dup fx fb dX11_text_37 rfl ?_
    refine mx_callI (As := []) (rest := [.ref q]) (wr := (xw E hx hat hru hle hsh hlo kv a s f C_tby C_tsz C_rowOfKeys C_places C_vals C_now C_book C_told C_written C_late C_sums C_asum C_ents C_colds C_cnt C_uses C_usesInWindow C_entriesSoFar C_dirtySoFar C_line C_waits C_boxes)) (cells2 := 2) (slots2 := 20) (t_in4 E l q) B w [37] [0, 1, 2, 3, 4, 5, 6, 7, 8, 9, 10, 11, 12, 13, 14, 15, 16, 17, 18, 19, 20, 21, 22, 23, 24, 25, 26, 27, 28, 29, 30, 31, 32, 33, 34, 35, 36] rfl rfl (by decide) (by decide) (by decide) ⟨kw_924, kw_923, kw_78⟩ kw_922 0 rfl (by decide +kernel) ⟨Nat.le_of_ble_eq_true rfl, Nat.le_of_ble_eq_true rfl⟩ rfl hl.1 rfl (Nat.le_of_ble_eq_true rfl) dX11_text_38 rfl rfl ⟨Nat.le_of_ble_eq_true rfl, Nat.le_of_ble_eq_true rfl⟩ (fun v w' H locs hpo w => ?_)
    obtain ⟨rfl, q2, rfl⟩ := hpo
    have w : mW E A st ((xw E hx hat hru hle hsh hlo kv a s f C_tby C_tsz C_rowOfKeys C_places C_vals C_now C_book C_told C_written C_late C_sums C_asum C_ents C_colds C_cnt C_uses C_usesInWindow C_entriesSoFar C_dirtySoFar C_line C_waits C_boxes) ++ SBw E q q2 16 (fun _ => 0) 0) H locs := w
    refine lv_astore (lv' := [(4, .ref q), (3, .int (nI e0)), (0, .ref hx), (1, .int x1), (2, .int x2)]) fx fb dX11_text_41 hl (by decide) rfl (fun ls hl => ?_)
    refine lv_aload_n fx fb dX11_text_43 rfl (lv_at hl 2 rfl) ?_
    refine mx_get B w 0 fl_X11_53 rfl rfl dX11_text_44 ?_
    refine mx_getN B w 21 fl_X11_129 rfl rfl dX11_text_47 ?_
    refine lv_iload_n fx fb dX11_text_50 rfl (lv_at hl 1 rfl) ?_
    refine lv_aload fx fb dX11_text_51 (lv_at hl 0 rfl) ?_
    refine mx_callVG (As := [.int (nI e0), .ref q]) (rest := []) (wr := [(hx, .inr (10, [.ref (a 0), .ref (a 2), .ref (a 4), .ref hat, .ref hru, .ref hle, .ref hsh, .ref hlo, kv])), ((a 0), .inr (9, [.ref (a 1), .int C_tsz])), ((a 1), .inl (E.2.1, 60, .inl C_tby)), ((a 2), .inr (8, [.int (nI 30), .int (nI 1), .ref (a 3), .int (s 0)])), ((a 3), .inl (E.2.1, (30 * 1), .inl (f 0))), ((a 4), .inr (3, [.ref (a 5)])), ((a 5), .inr (8, [.int (nI 12), .int (nI 3), .ref (a 6), .int (s 1)])), ((a 6), .inl (E.2.1, (12 * 3), .inl (f 1))), (hle, .inr (1, [.ref hru, .ref (a 8), .ref (a 10), .ref (a 12), .ref (a 14), .ref (a 16), .ref (a 17)])), ((a 8), .inr (8, [.int (nI 40), .int (nI 3), .ref (a 9), .int (s 2)])), ((a 9), .inl (E.2.1, (40 * 3), .inl (f 2))), ((a 10), .inr (8, [.int (nI 60), .int (nI 1), .ref (a 11), .int (s 3)])), ((a 11), .inl (E.2.1, (60 * 1), .inl (f 3))), ((a 12), .inr (8, [.int (nI 40), .int (nI 2), .ref (a 13), .int (s 4)])), ((a 13), .inl (E.2.1, (40 * 2), .inl (f 4))), ((a 14), .inr (8, [.int (nI 60), .int (nI 1), .ref (a 15), .int (s 5)])), ((a 15), .inl (E.2.1, (60 * 1), .inl (f 5))), ((a 16), .inl (E.2.1, 14, .inl C_sums)), ((a 17), .inl (E.2.1, 64, .inl C_asum)), (hsh, .inr (5, [.ref hru, .ref hle, .ref (a 18), .ref (a 21), .ref (a 24), .int C_uses, .int C_usesInWindow, .int C_entriesSoFar, .int C_dirtySoFar])), ((a 21), .inr (0, [.ref hru, .ref (a 22)])), ((a 22), .inr (8, [.int (nI 20), .int (nI 9), .ref (a 23), .int (s 7)])), ((a 23), .inl (E.2.1, (20 * 9), .inl (f 7))), ((a 24), .inr (6, [.ref (a 25)])), ((a 25), .inl (E.2.1, 64, .inl C_cnt)), (hlo, .inr (2, [.ref hru, .ref hle, .ref (a 26), .ref (a 28), .ref (a 30)])), ((a 26), .inr (8, [.int (nI 256), .int (nI 3), .ref (a 27), .int (s 8)])), ((a 27), .inl (E.2.1, (256 * 3), .inl (f 8))), ((a 28), .inr (8, [.int (nI 256), .int (nI 2), .ref (a 29), .int (s 9)])), ((a 29), .inl (E.2.1, (256 * 2), .inl (f 9))), ((a 30), .inr (8, [.int (nI 192), .int (nI 3), .ref (a 31), .int (s 10)])), ((a 31), .inl (E.2.1, (192 * 3), .inl (f 10)))]) (cells2 := 16) (slots2 := 496) (t_desc E l N (a 18) hru (a 7) (a 19) (a 20) 200 C_vals C_now C_ents (s 6) (f 6) hok (nI e0) q q2 16 (fun _ => 0) SBI.nil n hn lt hlt hlen hby v wt ct ev ew ec (dg v) (dg wt) (dg ct) (num_ok hN hv) (num_ok hN (by omega)) (num_ok hN (by omega)) (by rw [dg_len]; exact (wd_bd v).2) (by rw [dg_len]; exact wd2 hw) (by rw [dg_len]; exact wd3 hct) od os hd hst) B w [22, 8, 9, 23, 24, 37, 38] [0, 1, 2, 3, 4, 5, 6, 7, 10, 11, 12, 13, 14, 15, 16, 17, 18, 19, 20, 21, 25, 26, 27, 28, 29, 30, 31, 32, 33, 34, 35, 36] rfl rfl (by decide) (by decide) (by decide) 22 rfl rfl cv_X0_describe kw_951 2 (by decide +kernel) ⟨Nat.le_of_ble_eq_true rfl, Nat.le_of_ble_eq_true rfl⟩ rfl hl.1 rfl (Nat.le_of_ble_eq_true rfl) dX11_text_53 rfl rfl ⟨Nat.le_of_ble_eq_true rfl, Nat.le_of_ble_eq_true rfl⟩ (fun v w' H locs hpo w => ?_)
    obtain ⟨rfl, a1, cap, g, rfl, hI⟩ := hpo
    have hby2 := tX_byte (v := v) (wt := wt) (ct := ct) (od := od) (os := os) hlt
    generalize ebs : tX lt n (dg v) (dg wt) (dg ct) od os = bs at hI w hby2 B
    have w : mW E A st ((xw E hx hat hru hle hsh hlo kv a s f C_tby C_tsz C_rowOfKeys C_places C_vals C_now C_book C_told C_written C_late C_sums C_asum C_ents C_colds C_cnt C_uses C_usesInWindow C_entriesSoFar C_dirtySoFar C_line C_waits C_boxes) ++ SBw E q a1 cap g bs.length) H locs := w.sub [0, 1, 2, 3, 4, 5, 6, 7, 33, 34, 8, 9, 10, 11, 12, 13, 14, 15, 16, 17, 18, 19, 32, 35, 36, 20, 21, 22, 23, 24, 25, 26, 27, 28, 29, 30, 31, 37, 38] (by decide) rfl
    have hlb : bs.length ≤ 34 := by have := hI.1; have := hI.2.1; omega
    refine lv_iload_n fx fb dX11_text_56 rfl (lv_at hl 4 rfl) ?_
    refine lv_iconst (v := (-1)) fx fb dX11_text_57 (by decide) ?_
    unfold tR at B
    refine lv_icmp_ne (tgt := 67) fx fb dX11_text_58 (by decide) (fun hc => ?_) (fun hc => ?_)
    · rw [if_neg hc] at B
      refine lv_iload_n fx fb dX11_text_67 rfl (lv_at hl 4 rfl) ?_
      refine lv_aload fx fb dX11_text_68 (lv_at hl 0 rfl) ?_
      refine mx_callVG (As := []) (rest := [.int x2]) (wr := (xw E hx hat hru hle hsh hlo kv a s f C_tby C_tsz C_rowOfKeys C_places C_vals C_now C_book C_told C_written C_late C_sums C_asum C_ents C_colds C_cnt C_uses C_usesInWindow C_entriesSoFar C_dirtySoFar C_line C_waits C_boxes)) (cells2 := 16) (slots2 := 496) (t_ln E l q a1 cap g bs.length) B w [37, 38] [0, 1, 2, 3, 4, 5, 6, 7, 8, 9, 10, 11, 12, 13, 14, 15, 16, 17, 18, 19, 20, 21, 22, 23, 24, 25, 26, 27, 28, 29, 30, 31, 32, 33, 34, 35, 36] rfl rfl (by decide) (by decide) (by decide) 37 rfl rfl cv_J4_length_8abf5 kw_1124 0 (by decide +kernel) ⟨Nat.le_of_ble_eq_true rfl, Nat.le_of_ble_eq_true rfl⟩ rfl hl.1 rfl (Nat.le_of_ble_eq_true rfl) dX11_text_70 rfl rfl ⟨Nat.le_of_ble_eq_true rfl, Nat.le_of_ble_eq_true rfl⟩ (fun v w' H locs hpo w => ?_)
      obtain ⟨rfl, rfl⟩ := hpo
      have w : mW E A st ((xw E hx hat hru hle hsh hlo kv a s f C_tby C_tsz C_rowOfKeys C_places C_vals C_now C_book C_told C_written C_late C_sums C_asum C_ents C_colds C_cnt C_uses C_usesInWindow C_entriesSoFar C_dirtySoFar C_line C_waits C_boxes) ++ SBw E q a1 cap g bs.length) H locs := w
      refine lv_icmp_ge (tgt := 85) fx fb dX11_text_73 (by decide) (fun hc2 => ?_) (fun hc2 => ?_)
      · rw [if_neg (Int32.not_lt.mpr hc2)] at B
        refine lv_sipush (v := (-1003)) fx fb dX11_text_85 (by decide) ?_
        have w : mW E A st (xw E hx hat hru hle hsh hlo kv a s f C_tby C_tsz C_rowOfKeys C_places C_vals C_now C_book C_told C_written C_late C_sums C_asum C_ents C_colds C_cnt C_uses C_usesInWindow C_entriesSoFar C_dirtySoFar C_line C_waits C_boxes) H locs := w.sub [0, 1, 2, 3, 4, 5, 6, 7, 8, 9, 10, 11, 12, 13, 14, 15, 16, 17, 18, 19, 20, 21, 22, 23, 24, 25, 26, 27, 28, 29, 30, 31, 32, 33, 34, 35, 36] (by decide) rfl
        exact mx_iret B w ⟨rfl, rfl⟩ dX11_text_88
      · rw [if_pos (Int32.not_le.mp hc2)] at B
        have hx0 : (0 : Int) ≤ x2.toInt := by
          have h3 := Int32.le_iff_toInt_le.mp h2
          rw [show (-1 : Int32).toInt = -1 from rfl] at h3
          have h4 : ¬ x2.toInt = -1 := fun z => hc (Int32.toInt_inj.mp z)
          omega
        have ey : x2 = nI x2.toInt.toNat := by
          refine Int32.toInt_inj.mp ?_
          have : x2.toInt < 2 ^ 31 := Int32.toInt_lt x2
          rw [nI_toInt (by omega)]
          omega
        have hj : x2.toInt.toNat < bs.length := by
          have h2 := Int32.lt_iff_toInt_lt.mp (Int32.not_le.mp hc2)
          rw [nI_toInt (by omega)] at h2
          omega
        generalize x2.toInt.toNat = j at ey hj
        obtain ⟨xb, hxb, exb⟩ := hby2 (bs.getD j 0) (by rw [List.getD_eq_getElem?_getD, List.getElem?_eq_getElem hj]; exact List.getElem_mem hj)
        have eB : bs.getD x2.toNatClampNeg 0 = nI xb := by rw [ey, nI_clamp (by omega)]; exact exb
        rw [eB] at B
        refine lv_aload fx fb dX11_text_76 (lv_at hl 0 rfl) ?_
        refine lv_iload_n fx fb dX11_text_78 rfl (lv_at hl 4 rfl) ?_
        refine mx_callVG (As := [.int x2]) (rest := []) (wr := (xw E hx hat hru hle hsh hlo kv a s f C_tby C_tsz C_rowOfKeys C_places C_vals C_now C_book C_told C_written C_late C_sums C_asum C_ents C_colds C_cnt C_uses C_usesInWindow C_entriesSoFar C_dirtySoFar C_line C_waits C_boxes)) (cells2 := 16) (slots2 := 496) (ey ▸ t_ca E l q a1 cap g bs.length hI.1 hI.2.1 j xb hj ((hI.2.2.1 j hj).trans exb) hxb) B w [37, 38] [0, 1, 2, 3, 4, 5, 6, 7, 8, 9, 10, 11, 12, 13, 14, 15, 16, 17, 18, 19, 20, 21, 22, 23, 24, 25, 26, 27, 28, 29, 30, 31, 32, 33, 34, 35, 36] rfl rfl (by decide) (by decide) (by decide) 37 rfl rfl cv_J4_charAt_5068e kw_1131 1 (by decide +kernel) ⟨Nat.le_of_ble_eq_true rfl, Nat.le_of_ble_eq_true rfl⟩ rfl hl.1 rfl (Nat.le_of_ble_eq_true rfl) dX11_text_79 rfl rfl ⟨Nat.le_of_ble_eq_true rfl, Nat.le_of_ble_eq_true rfl⟩ (fun v w' H locs hpo w => ?_)
        obtain ⟨rfl, rfl⟩ := hpo
        have w : mW E A st ((xw E hx hat hru hle hsh hlo kv a s f C_tby C_tsz C_rowOfKeys C_places C_vals C_now C_book C_told C_written C_late C_sums C_asum C_ents C_colds C_cnt C_uses C_usesInWindow C_entriesSoFar C_dirtySoFar C_line C_waits C_boxes) ++ SBw E q a1 cap g bs.length) H locs := w
        refine lv_goto (tgt := 88) fx fb dX11_text_82 (by decide) ?_
        have w : mW E A st (xw E hx hat hru hle hsh hlo kv a s f C_tby C_tsz C_rowOfKeys C_places C_vals C_now C_book C_told C_written C_late C_sums C_asum C_ents C_colds C_cnt C_uses C_usesInWindow C_entriesSoFar C_dirtySoFar C_line C_waits C_boxes) H locs := w.sub [0, 1, 2, 3, 4, 5, 6, 7, 8, 9, 10, 11, 12, 13, 14, 15, 16, 17, 18, 19, 20, 21, 22, 23, 24, 25, 26, 27, 28, 29, 30, 31, 32, 33, 34, 35, 36] (by decide) rfl
        exact mx_iret B w ⟨rfl, rfl⟩ dX11_text_88
    · rw [if_pos hc] at B
      refine lv_aload fx fb dX11_text_61 (lv_at hl 0 rfl) ?_
      refine mx_callVG (As := []) (rest := []) (wr := (xw E hx hat hru hle hsh hlo kv a s f C_tby C_tsz C_rowOfKeys C_places C_vals C_now C_book C_told C_written C_late C_sums C_asum C_ents C_colds C_cnt C_uses C_usesInWindow C_entriesSoFar C_dirtySoFar C_line C_waits C_boxes)) (cells2 := 16) (slots2 := 496) (t_ln E l q a1 cap g bs.length) B w [37, 38] [0, 1, 2, 3, 4, 5, 6, 7, 8, 9, 10, 11, 12, 13, 14, 15, 16, 17, 18, 19, 20, 21, 22, 23, 24, 25, 26, 27, 28, 29, 30, 31, 32, 33, 34, 35, 36] rfl rfl (by decide) (by decide) (by decide) 37 rfl rfl cv_J4_length_8abf5 kw_1124 0 (by decide +kernel) ⟨Nat.le_of_ble_eq_true rfl, Nat.le_of_ble_eq_true rfl⟩ rfl hl.1 rfl (Nat.le_of_ble_eq_true rfl) dX11_text_63 rfl rfl ⟨Nat.le_of_ble_eq_true rfl, Nat.le_of_ble_eq_true rfl⟩ (fun v w' H locs hpo w => ?_)
      obtain ⟨rfl, rfl⟩ := hpo
      have w : mW E A st ((xw E hx hat hru hle hsh hlo kv a s f C_tby C_tsz C_rowOfKeys C_places C_vals C_now C_book C_told C_written C_late C_sums C_asum C_ents C_colds C_cnt C_uses C_usesInWindow C_entriesSoFar C_dirtySoFar C_line C_waits C_boxes) ++ SBw E q a1 cap g bs.length) H locs := w
      have w : mW E A st (xw E hx hat hru hle hsh hlo kv a s f C_tby C_tsz C_rowOfKeys C_places C_vals C_now C_book C_told C_written C_late C_sums C_asum C_ents C_colds C_cnt C_uses C_usesInWindow C_entriesSoFar C_dirtySoFar C_line C_waits C_boxes) H locs := w.sub [0, 1, 2, 3, 4, 5, 6, 7, 8, 9, 10, 11, 12, 13, 14, 15, 16, 17, 18, 19, 20, 21, 22, 23, 24, 25, 26, 27, 28, 29, 30, 31, 32, 33, 34, 35, 36] (by decide) rfl
      exact mx_iret B w ⟨rfl, rfl⟩ dX11_text_66
set_option maxHeartbeats 4000000 in
set_option maxRecDepth 100000 in
theorem textlaw (E : mE) (l : Launch) : TEXTLAW E l := by
  intro hx hm hat hru hle hsh hlo kv kept isKept c hc w1 w2 h x1 x2
  obtain ⟨T, V, g, tp, tby, tsz, tape, taped, rok, plc, ⟨a, s, f, hok, rfl⟩, ⟨d, z, zi, rfl⟩, hs, ht⟩ := h
  obtain ⟨r, u, um, q1, q2⟩ := m_text (N := 65536) (Nat.le_refl _) hs (z 0) (zi 1) x1 x2
  refine ⟨r, fun w' => w' = xw E hx hat hru hle hsh hlo kv a s f tby tsz rok plc (V 0) (V 4 0) (T 0) (T 1) (T 2) (T 3) (V 1) (V 2) (T 4) (T 5) (V 3) (V 4 1) (V 4 2) (V 4 3) (V 4 4) (T 6) (T 7) (T 8), po_X12_text E hm (d 0) (d 1) (d 2) (d 3) (d 4) (d 5) (d 6) (d 7) (d 8) g kept isKept tape taped (zi 0) (z 0) (zi 1) (z 1) (zi 2) (z 2) (z 3) (z 4) (z 5) (r, u, um) (some (.int r)), ⟨({ frames := 7, cells := 16, slots := 496, locals := 184 } : Room), ⟨Nat.le_of_ble_eq_true rfl, Nat.le_of_ble_eq_true rfl⟩, ⟨Nat.le_of_ble_eq_true rfl, Nat.le_of_ble_eq_true rfl⟩, t_text l 65536 (Nat.le_refl _) E hx hat hru hle hsh hlo kv a s f tby tsz rok plc (V 0) (V 4 0) (T 0) (T 1) (T 2) (T 3) (V 1) (V 2) (T 4) (T 5) (V 3) (V 4 1) (V 4 2) (V 4 3) (V 4 4) (T 6) (T 7) (T 8) hok.2.2.2.2.2.2.1 x1 x2 r q2⟩, ⟨({ frames := 5, cells := 0, slots := 0, locals := 108 } : Room), ⟨Nat.le_of_ble_eq_true rfl, Nat.le_of_ble_eq_true rfl⟩, ⟨Nat.le_of_ble_eq_true rfl, Nat.le_of_ble_eq_true rfl⟩, mx_weak (d_X12_text E l 65536 hm (d 0) (d 1) (d 2) (d 3) (d 4) (d 5) (d 6) (d 7) (d 8) g kept isKept tape taped (zi 0) (z 0) (zi 1) (z 1) (zi 2) (z 2) (z 3) (z 4) (z 5) x1 x2 _ q1) (fun v w' q => ?_)⟩, fun w1' w2' p1 p2 => ?_⟩
  · obtain ⟨rfl, rfl⟩ := q
    exact ⟨rfl, rfl, rfl⟩
  · refine ⟨T, V, g, tp, tby, tsz, tape, taped, rok, plc, ⟨a, s, f, hok, p1⟩, ?_, hs.up, ht⟩
    clear p1 q1 q2
    obtain ⟨-, rfl⟩ := p2
    exact ⟨d, va_up z 0 u, va_up zi 1 um, rfl⟩
