theorem lw_cond {L j : Nat} (hL : L ≤ 2048) (hj : j ≤ 4096) (h : ¬ nI L - 4 < nI j) : j + 4 ≤ L := by
  have h4 : nI L - 4 = nI L - nI 4 := rfl
  by_cases q : L < 4
  · refine absurd ?_ h
    rw [h4]
    exact Int32.lt_of_lt_of_le (pk_sneg (by decide) q) (Int32.not_lt.mp (nI_pos (by omega)))
  · rw [h4, pk_sub (by omega)] at h
    have := Nat.not_lt.mp (fun z => h ((nI_ltI (by omega) (by omega)).mpr z))
    omega
theorem law_loop {E : mE} {p : Program} {l : Launch} {e : Env} {s : State} {m : MethodId} {below : List Frame} {meth : Method} {c : Code} {b L : Nat} {xs : Nat → Int32} {A : Nat → Prop} {hx hm : Nat} (hL : L ≤ 2048) (C0 : lw_At p s m meth c b L xs) (F : LF E p s m c b A) (hA : A = fun q : Nat => s.heap.size ≤ q) (TX : TEXTLAW E l) :
    ∀ (k n : Nat), n + k = 513 → n ≤ 512 → ∀ (w1 w2 kw : va_W) (H : Heap) (locs : List Loc) (ls : Array Slot), LSt E hx hm n w1 w2 kw → mW E A s (w1 ++ (w2 ++ kw)) H locs → lv_has ls 4 [(0, .ref b), (1, .ref hx), (2, .ref hm), (3, .int (nI (4 * n)))] → W p l e room_1 s m #[Value.ref b] below meth c H locs (1000 + 180 * n) (60000 + 17000 * n) (lw_Z below #[Value.ref b] s) (F0 m 18 ls []) := by
  obtain ⟨hx_, hb, hr, hml, hown, hts, hX, hbl, hlocks, hgv⟩ := C0
  have hbA : ¬ A b := by rw [hA]; exact Nat.not_le.mpr hbl
  intro k
  induction k with
  | zero => intro n h1 h2; omega
  | succ k ih =>
    intro n h1 h2 w1 w2 kw H locs ls hS w hl
    refine lv_iload_n hx_ hb dL_law_18 rfl (lv_at hl 3 rfl) ?_
    refine lv_aload_n hx_ hb dL_law_19 rfl (lv_at hl 0 rfl) ?_
    refine va_slen hx_ hb hX hbl hbA w.2.2 dL_law_20 ?_
    refine lv_iconst (v := 4) hx_ hb dL_law_21 (by decide) ?_
    refine lv_isub hx_ hb dL_law_22 ?_
    refine lv_icmp_gt (tgt := 1118) hx_ hb dL_law_23 (by decide) (fun _ => ?_) (fun hcc => ?_)
    · refine lv_iconst (v := 1) hx_ hb dL_law_1118 (by decide) ?_
      refine va_forget (fun q hq => by have := w.2.2.2.2 q hq; rw [hA] at this; exact this) ?_
      refine W.widen (k := 96002) (n := 8814244) (by omega) (by omega) ?_
      exact lw_ret hx_ hb hr hlocks dL_law_1119
    have hin : 4 * n + 4 ≤ L := lw_cond hL (by omega) hcc
    have i0 : vp_in (nI (4 * n)) L := vp_in_nI (by omega) (by omega)
    have i1 : vp_in (nI (4 * n) + 1) L := by
      show vp_in (nI (4 * n) + nI 1) L
      rw [nI_add]
      exact vp_in_nI (by omega) (by omega)
    have i2 : vp_in (nI (4 * n) + 2) L := by
      show vp_in (nI (4 * n) + nI 2) L
      rw [nI_add]
      exact vp_in_nI (by omega) (by omega)
    have i3 : vp_in (nI (4 * n) + 3) L := by
      show vp_in (nI (4 * n) + nI 3) L
      rw [nI_add]
      exact vp_in_nI (by omega) (by omega)
    have hc : n < 512 := by omega
    have hf : (1000 + 180 * n) + 90 + 90 ≤ 96002 ∧ (60000 + 17000 * n) + 8500 + 8500 ≤ 8814244 := ⟨by omega, by omega⟩
    have next : ∀ (w1 w2 kw : va_W) (H : Heap) (locs : List Loc), LSt E hx hm (n + 1) w1 w2 kw → mW E A s (w1 ++ (w2 ++ kw)) H locs → W p l e room_1 s m #[Value.ref b] below meth c H locs ((1000 + 180 * n) + 90 + 90) ((60000 + 17000 * n) + 8500 + 8500) (lw_Z below #[Value.ref b] s) (F0 m 1112 ls []) := by
      intro w1 w2 kw H locs hS w
      have e4 : nI (4 * n) + Int32.ofInt 4 = nI (4 * (n + 1)) := by
        show nI (4 * n) + nI 4 = _
        rw [nI_add]
        rfl
      refine lv_iinc (v := nI (4 * (n + 1))) (lv' := [(3, .int (nI (4 * (n + 1)))), (0, .ref b), (1, .ref hx), (2, .ref hm)]) hx_ hb dL_law_1112 hl (k := 3) rfl e4 (by decide) rfl (fun ls hl => ?_)
      refine lv_goto (tgt := 18) hx_ hb dL_law_1115 (by decide) ?_
      refine W.widen (k := 1000 + 180 * (n + 1)) (n := 60000 + 17000 * (n + 1)) (by omega) (by omega) ?_
      exact ih (n + 1) (by omega) (by omega) w1 w2 kw H locs ls hS w (lv_sub hl [1, 2, 3, 0] rfl)
    refine lv_aload_n hx_ hb dL_law_26 rfl (lv_at hl 0 rfl) ?_
    refine lv_iload_n hx_ hb dL_law_27 rfl (lv_at hl 3 rfl) ?_
    refine va_sld hx_ hb hX hbl hbA w.2.2 i0 dL_law_28 ?_
    refine lv_bipush (v := 63) hx_ hb dL_law_29 (by decide) ?_
    refine lv_iand hx_ hb dL_law_31 ?_
    refine lv_topi (fun v ev => ?_)
    clear ev
    by_cases hs0 : v = 0
    · refine lv_tableIn (off := 160) (tgt := 192) hx_ hb dL_law_32 (by rw [hs0]; decide) (by rw [hs0]; decide) (by rw [hs0]; decide) (by decide) ?_
      exact lc_rule F hX hbl hbA i1 i2 i3 hc hS w hl hf next
    by_cases hs1 : v = 1
    · refine lv_tableIn (off := 193) (tgt := 225) hx_ hb dL_law_32 (by rw [hs1]; decide) (by rw [hs1]; decide) (by rw [hs1]; decide) (by decide) ?_
      exact lc_step F hX hbl hbA i1 i2 i3 hc hS w hl hf next
    by_cases hs2 : v = 2
    · refine lv_tableIn (off := 216) (tgt := 248) hx_ hb dL_law_32 (by rw [hs2]; decide) (by rw [hs2]; decide) (by rw [hs2]; decide) (by decide) ?_
      exact lc_feed F hX hbl hbA i1 i2 i3 hc hS w hl hf next
    by_cases hs3 : v = 3
    · refine lv_tableIn (off := 239) (tgt := 271) hx_ hb dL_law_32 (by rw [hs3]; decide) (by rw [hs3]; decide) (by rw [hs3]; decide) (by decide) ?_
      exact lc_ask F hX hbl hbA i1 i2 i3 hc hS w hl hf next
    by_cases hs4 : v = 4
    · refine lv_tableIn (off := 262) (tgt := 294) hx_ hb dL_law_32 (by rw [hs4]; decide) (by rw [hs4]; decide) (by rw [hs4]; decide) (by decide) ?_
      exact lc_giveUp F hX hbl hbA i1 i2 i3 hc hS w hl hf next
    by_cases hs5 : v = 5
    · refine lv_tableIn (off := 285) (tgt := 317) hx_ hb dL_law_32 (by rw [hs5]; decide) (by rw [hs5]; decide) (by rw [hs5]; decide) (by decide) ?_
      exact lc_take F hX hbl hbA i1 i2 i3 hc hS w hl hf next
    by_cases hs6 : v = 6
    · refine lv_tableIn (off := 308) (tgt := 340) hx_ hb dL_law_32 (by rw [hs6]; decide) (by rw [hs6]; decide) (by rw [hs6]; decide) (by decide) ?_
      exact lc_first F hX hbl hbA i1 i2 i3 hc hS w hl hf next
    by_cases hs7 : v = 7
    · refine lv_tableIn (off := 341) (tgt := 373) hx_ hb dL_law_32 (by rw [hs7]; decide) (by rw [hs7]; decide) (by rw [hs7]; decide) (by decide) ?_
      exact lc_box F hX hbl hbA i1 i2 i3 hc hS w hl hf next
    by_cases hs8 : v = 8
    · refine lv_tableIn (off := 374) (tgt := 406) hx_ hb dL_law_32 (by rw [hs8]; decide) (by rw [hs8]; decide) (by rw [hs8]; decide) (by decide) ?_
      exact lc_write F hX hbl hbA i1 i2 i3 hc hS w hl hf next
    by_cases hs9 : v = 9
    · refine lv_tableIn (off := 397) (tgt := 429) hx_ hb dL_law_32 (by rw [hs9]; decide) (by rw [hs9]; decide) (by rw [hs9]; decide) (by decide) ?_
      exact lc_flush F hX hbl hbA i1 i2 i3 hc hS w hl hf next
    by_cases hs10 : v = 10
    · refine lv_tableIn (off := 410) (tgt := 442) hx_ hb dL_law_32 (by rw [hs10]; decide) (by rw [hs10]; decide) (by rw [hs10]; decide) (by decide) ?_
      exact lc_writtenOf F hX hbl hbA i1 i2 i3 hc hS w hl hf next
    by_cases hs11 : v = 11
    · refine lv_tableIn (off := 443) (tgt := 475) hx_ hb dL_law_32 (by rw [hs11]; decide) (by rw [hs11]; decide) (by rw [hs11]; decide) (by decide) ?_
      exact lc_of F hX hbl hbA i1 i2 i3 hc hS w hl hf next
    by_cases hs12 : v = 12
    · refine lv_tableIn (off := 476) (tgt := 508) hx_ hb dL_law_32 (by rw [hs12]; decide) (by rw [hs12]; decide) (by rw [hs12]; decide) (by decide) ?_
      exact lc_came F hX hbl hbA i1 i2 i3 hc hS w hl hf next
    by_cases hs13 : v = 13
    · refine lv_tableIn (off := 519) (tgt := 551) hx_ hb dL_law_32 (by rw [hs13]; decide) (by rw [hs13]; decide) (by rw [hs13]; decide) (by decide) ?_
      exact lc_failed F hX hbl hbA i1 i2 i3 hc hS w hl hf next
    by_cases hs14 : v = 14
    · refine lv_tableIn (off := 542) (tgt := 574) hx_ hb dL_law_32 (by rw [hs14]; decide) (by rw [hs14]; decide) (by rw [hs14]; decide) (by decide) ?_
      exact lc_told F hX hbl hbA i1 i2 i3 hc hS w hl hf next
    by_cases hs15 : v = 15
    · refine lv_tableIn (off := 575) (tgt := 607) hx_ hb dL_law_32 (by rw [hs15]; decide) (by rw [hs15]; decide) (by rw [hs15]; decide) (by decide) ?_
      exact lc_load F hX hbl hbA i1 i2 i3 hc hS w hl hf next
    by_cases hs16 : v = 16
    · refine lv_tableIn (off := 598) (tgt := 630) hx_ hb dL_law_32 (by rw [hs16]; decide) (by rw [hs16]; decide) (by rw [hs16]; decide) (by decide) ?_
      exact lc_entry F hX hbl hbA i1 i2 i3 hc hS w hl hf next
    by_cases hs17 : v = 17
    · refine lv_tableIn (off := 621) (tgt := 653) hx_ hb dL_law_32 (by rw [hs17]; decide) (by rw [hs17]; decide) (by rw [hs17]; decide) (by decide) ?_
      exact lc_seen F hX hbl hbA i1 i2 i3 hc hS w hl hf next
    by_cases hs18 : v = 18
    · refine lv_tableIn (off := 634) (tgt := 666) hx_ hb dL_law_32 (by rw [hs18]; decide) (by rw [hs18]; decide) (by rw [hs18]; decide) (by decide) ?_
      exact lc_sketch F hX hbl hbA i1 i2 i3 hc hS w hl hf next
    by_cases hs19 : v = 19
    · refine lv_tableIn (off := 667) (tgt := 699) hx_ hb dL_law_32 (by rw [hs19]; decide) (by rw [hs19]; decide) (by rw [hs19]; decide) (by decide) ?_
      exact lc_drop F hX hbl hbA i1 i2 i3 hc hS w hl hf next
    by_cases hs20 : v = 20
    · refine lv_tableIn (off := 680) (tgt := 712) hx_ hb dL_law_32 (by rw [hs20]; decide) (by rw [hs20]; decide) (by rw [hs20]; decide) (by decide) ?_
      exact lc_dropTag F hX hbl hbA i1 i2 i3 hc hS w hl hf next
    by_cases hs21 : v = 21
    · refine lv_tableIn (off := 703) (tgt := 735) hx_ hb dL_law_32 (by rw [hs21]; decide) (by rw [hs21]; decide) (by rw [hs21]; decide) (by decide) ?_
      exact lc_dropAll F hX hbl hbA i1 i2 i3 hc hS w hl hf next
    by_cases hs22 : v = 22
    · refine lv_tableIn (off := 716) (tgt := 748) hx_ hb dL_law_32 (by rw [hs22]; decide) (by rw [hs22]; decide) (by rw [hs22]; decide) (by decide) ?_
      exact lc_tagged F hX hbl hbA i1 i2 i3 hc hS w hl hf next
    by_cases hs23 : v = 23
    · refine lv_tableIn (off := 749) (tgt := 781) hx_ hb dL_law_32 (by rw [hs23]; decide) (by rw [hs23]; decide) (by rw [hs23]; decide) (by decide) ?_
      exact lc_sweep F hX hbl hbA i1 i2 i3 hc hS w hl hf next
    by_cases hs24 : v = 24
    · refine lv_tableIn (off := 762) (tgt := 794) hx_ hb dL_law_32 (by rw [hs24]; decide) (by rw [hs24]; decide) (by rw [hs24]; decide) (by decide) ?_
      exact lc_toGo F hX hbl hbA i1 i2 i3 hc hS w hl hf next
    by_cases hs25 : v = 25
    · refine lv_tableIn (off := 795) (tgt := 827) hx_ hb dL_law_32 (by rw [hs25]; decide) (by rw [hs25]; decide) (by rw [hs25]; decide) (by decide) ?_
      exact lc_would F hX hbl hbA i1 i2 i3 hc hS w hl hf next
    by_cases hs26 : v = 26
    · refine lv_tableIn (off := 818) (tgt := 850) hx_ hb dL_law_32 (by rw [hs26]; decide) (by rw [hs26]; decide) (by rw [hs26]; decide) (by decide) ?_
      exact lc_cold F hX hbl hbA i1 i2 i3 hc hS w hl hf next
    by_cases hs27 : v = 27
    · refine lv_tableIn (off := 851) (tgt := 883) hx_ hb dL_law_32 (by rw [hs27]; decide) (by rw [hs27]; decide) (by rw [hs27]; decide) (by decide) ?_
      exact lc_follows F hX hbl hbA i1 i2 i3 hc hS w hl hf next
    by_cases hs28 : v = 28
    · refine lv_tableIn (off := 874) (tgt := 906) hx_ hb dL_law_32 (by rw [hs28]; decide) (by rw [hs28]; decide) (by rw [hs28]; decide) (by decide) ?_
      exact lc_replay F hX hbl hbA i1 i2 i3 hc hS w hl hf next
    by_cases hs29 : v = 29
    · refine lv_tableIn (off := 907) (tgt := 939) hx_ hb dL_law_32 (by rw [hs29]; decide) (by rw [hs29]; decide) (by rw [hs29]; decide) (by decide) ?_
      exact lc_replayed F hX hbl hbA i1 i2 i3 hc hS w hl hf next
    by_cases hs30 : v = 30
    · refine lv_tableIn (off := 940) (tgt := 972) hx_ hb dL_law_32 (by rw [hs30]; decide) (by rw [hs30]; decide) (by rw [hs30]; decide) (by decide) ?_
      exact lc_text TX F hX hbl hbA i1 i2 i3 hc hS w hl hf next
    by_cases hs31 : v = 31
    · refine lv_tableIn (off := 973) (tgt := 1005) hx_ hb dL_law_32 (by rw [hs31]; decide) (by rw [hs31]; decide) (by rw [hs31]; decide) (by decide) ?_
      exact lc_book F hX hbl hbA i1 i2 i3 hc hS w hl hf next
    by_cases hs32 : v = 32
    · refine lv_tableIn (off := 1007) (tgt := 1039) hx_ hb dL_law_32 (by rw [hs32]; decide) (by rw [hs32]; decide) (by rw [hs32]; decide) (by decide) ?_
      exact lc_led F hX hbl hbA i1 i2 i3 hc hS w hl hf next
    by_cases hs33 : v = 33
    · refine lv_tableIn (off := 1031) (tgt := 1063) hx_ hb dL_law_32 (by rw [hs33]; decide) (by rw [hs33]; decide) (by rw [hs33]; decide) (by decide) ?_
      exact lc_image F hX hbl hbA i1 i2 i3 hc hS w hl hf next
    by_cases hs34 : v = 34
    · refine lv_tableIn (off := 1044) (tgt := 1076) hx_ hb dL_law_32 (by rw [hs34]; decide) (by rw [hs34]; decide) (by rw [hs34]; decide) (by decide) ?_
      exact lc_back F hX hbl hbA i1 i2 i3 hc hS w hl hf next
    by_cases hs35 : v = 35
    · refine lv_tableIn (off := 1057) (tgt := 1089) hx_ hb dL_law_32 (by rw [hs35]; decide) (by rw [hs35]; decide) (by rw [hs35]; decide) (by decide) ?_
      exact lc_count F hX hbl hbA i1 i2 i3 hc hS w hl hf next
    have hz0 := lv_neT (a := 0) hs0 (by decide)
    have hz1 := lv_neT (a := 1) hs1 (by decide)
    have hz2 := lv_neT (a := 2) hs2 (by decide)
    have hz3 := lv_neT (a := 3) hs3 (by decide)
    have hz4 := lv_neT (a := 4) hs4 (by decide)
    have hz5 := lv_neT (a := 5) hs5 (by decide)
    have hz6 := lv_neT (a := 6) hs6 (by decide)
    have hz7 := lv_neT (a := 7) hs7 (by decide)
    have hz8 := lv_neT (a := 8) hs8 (by decide)
    have hz9 := lv_neT (a := 9) hs9 (by decide)
    have hz10 := lv_neT (a := 10) hs10 (by decide)
    have hz11 := lv_neT (a := 11) hs11 (by decide)
    have hz12 := lv_neT (a := 12) hs12 (by decide)
    have hz13 := lv_neT (a := 13) hs13 (by decide)
    have hz14 := lv_neT (a := 14) hs14 (by decide)
    have hz15 := lv_neT (a := 15) hs15 (by decide)
    have hz16 := lv_neT (a := 16) hs16 (by decide)
    have hz17 := lv_neT (a := 17) hs17 (by decide)
    have hz18 := lv_neT (a := 18) hs18 (by decide)
    have hz19 := lv_neT (a := 19) hs19 (by decide)
    have hz20 := lv_neT (a := 20) hs20 (by decide)
    have hz21 := lv_neT (a := 21) hs21 (by decide)
    have hz22 := lv_neT (a := 22) hs22 (by decide)
    have hz23 := lv_neT (a := 23) hs23 (by decide)
    have hz24 := lv_neT (a := 24) hs24 (by decide)
    have hz25 := lv_neT (a := 25) hs25 (by decide)
    have hz26 := lv_neT (a := 26) hs26 (by decide)
    have hz27 := lv_neT (a := 27) hs27 (by decide)
    have hz28 := lv_neT (a := 28) hs28 (by decide)
    have hz29 := lv_neT (a := 29) hs29 (by decide)
    have hz30 := lv_neT (a := 30) hs30 (by decide)
    have hz31 := lv_neT (a := 31) hs31 (by decide)
    have hz32 := lv_neT (a := 32) hs32 (by decide)
    have hz33 := lv_neT (a := 33) hs33 (by decide)
    have hz34 := lv_neT (a := 34) hs34 (by decide)
    have hz35 := lv_neT (a := 35) hs35 (by decide)
    refine lv_tableOut (tgt := 1112) hx_ hb dL_law_32 (by omega) (by decide) ?_
    obtain ⟨hat, hru, hle, hsh, hlo, kv, kept, isKept, hI, hK⟩ := hS
    exact W.widen (k := (1000 + 180 * n) + 90 + 90) (n := (60000 + 17000 * n) + 8500 + 8500) (by omega) (by omega) (next _ _ _ H locs ⟨hat, hru, hle, hsh, hlo, kv, kept, isKept, hI.up, hK.up⟩ w)
