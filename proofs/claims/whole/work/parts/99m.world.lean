theorem kw_88 : Cond.instantiable "FrequencyShelf" 9 ∈ TB := tb_at 88 (by decide +kernel) (by decide +kernel)
theorem kw_1222 : Cond.instantiable "FrequencyShelfModel" 14 ∈ TB := tb_at 1222 (by decide +kernel) (by decide +kernel)
def sTm (i : Nat) : Term := match i with
  | 0 => Term.string "FrequencyShelf$Entries" 99
  | 1 => Term.string "FrequencyShelf$Entries" 104
  | 2 => Term.string "FrequencyShelf$Entries" 106
  | 3 => Term.string "FrequencyShelf$Entries" 108
  | _ => Term.string "FrequencyShelfModel" 256
theorem vk_cong {N : Nat} {len : List Nat} {byt : List (List Int32)} {adK adV aK aV : Nat → Nat} {A : Nat → Prop} {U : State} {H : Heap} (h : vk_S N len byt adK adV A U H) (he : ∀ i, i < N → aK i = adK i ∧ aV i = adV i) : vk_S N len byt aK aV A U H := by
  refine ⟨fun i hi => ?_, fun i j hi hj e => ?_⟩
  · rw [(he i hi).1, (he i hi).2]
    exact h.1 i hi
  · rw [(he i hi).1, (he j hj).1] at e
    exact h.2 i j hi hj e
theorem lw_nest : (∀ q ∈ nestF, (Cond.fieldLinkNest "FrequencyShelf" q.1 q.2.1 q.2.2.1 q.2.2.2 "FrequencyShelf") ∈ lw_tbl) ∧ ∀ q ∈ nestM, (Cond.methodLinkNest q.1 q.2 yNest "FrequencyShelf") ∈ lw_tbl := by decide +kernel
set_option maxHeartbeats 4000000 in
theorem lw_world {s : State} {b : Nat} (hts0 : ∀ w ∈ lw_tbl, w.before #[Value.ref b] s = true) (hgv : (Jvm.Cond.and given_1 narrow_1).before #[Value.ref b] s = true) : ∃ E : mE, va_K (mD E).1 (mD E).2.1 (mD E).2.2 s ∧ mZ E (fun q : Nat => s.heap.size ≤ q) s s.heap := by
  have hts : ∀ w ∈ TB, w.before #[Value.ref b] s = true := fun w hw => hts0 w (List.mem_filter.mp hw).1
  have hn1 := fun q hq => hts0 _ (lw_nest.1 q hq)
  have hn2 := fun q hq => hts0 _ (lw_nest.2 q hq)
  obtain ⟨c0, i0, k0⟩ := u_known (C := RX0) (T := TX0) (N := 2) (n := 2) hts in_X0 (hts _ kw_203)
  obtain ⟨c1, i1, k1⟩ := u_known (C := RX2) (T := TX2) (N := 7) (n := 7) hts in_X2 (hts _ kw_163)
  obtain ⟨c2, i2, k2⟩ := u_known (C := RX3) (T := TX3) (N := 5) (n := 5) hts in_X3 (hts _ kw_259)
  obtain ⟨c3, i3, k3⟩ := u_known (C := RX4) (T := TX4) (N := 1) (n := 1) hts in_X4 (hts _ kw_132)
  obtain ⟨c4, i4, k4⟩ := u_known (C := RX5) (T := TX5) (N := 2) (n := 2) hts in_X5 (hts _ kw_150)
  obtain ⟨c5, i5, k5⟩ := u_known (C := RX6) (T := TX6) (N := 9) (n := 9) hts in_X6 (hts _ kw_197)
  obtain ⟨c6, i6, k6⟩ := u_known (C := RX7) (T := TX7) (N := 1) (n := 1) hts in_X7 (hts _ kw_218)
  obtain ⟨c7, i7, k7⟩ := u_known (C := RX8) (T := TX8) (N := 4) (n := 4) hts in_X8 (hts _ kw_144)
  obtain ⟨c8, i8, k8⟩ := u_known (C := RX9) (T := TX9) (N := 4) (n := 4) hts in_X9 (hts _ kw_110)
  obtain ⟨c9, i9, k9⟩ := u_known (C := RX10) (T := TX10) (N := 2) (n := 2) hts in_X10 (hts _ kw_96)
  obtain ⟨c10, i10, k10⟩ := u_known (C := RX11) (T := TX11) (N := 9) (n := 9) hts in_X11 (hts _ kw_88)
  obtain ⟨c11, i11, k11⟩ := u_known (C := RX12) (T := TX12) (N := 14) (n := 14) hts in_X12 (hts _ kw_1222)
  obtain ⟨c12, i12, k12⟩ := u_known (C := RJ4) (T := TJ4) (N := 4) (n := 4) hts in_J4 (hts _ kw_921)
  obtain ⟨cA, kA, cp, a1, a2, a3⟩ := Cond.arrayClass_spec (hts _ ka_int)
  obtain ⟨cB, kB, cq, b1, b2, b3⟩ := Cond.arrayClass_spec (hts _ ka_byte)
  have hs := flat_of_before _ hgv
  have hA : ∀ a : Nat, a < s.heap.size → ¬ (fun q : Nat => s.heap.size ≤ q) a := fun a h => Nat.not_le.mpr h
  obtain ⟨t0, e0, v0⟩ := va_Tof (args := #[Value.ref b]) (s := s) (tm := (Term.static "FrequencyShelf$Rules" "LEAST" "[I")) (ty := .int) (N := 8) (f := fun j => .int (zLEAST j)) (A := fun q : Nat => s.heap.size ≤ q) (by decide) (hs _ (by decide +kernel)) (va_eqt (z := Int32.ofNat 8) (hs _ (by decide +kernel))) (fun j hj => by
    rcases (show j = 0 ∨ j = 1 ∨ j = 2 ∨ j = 3 ∨ j = 4 ∨ j = 5 ∨ j = 6 ∨ j = 7 by omega) with rfl | rfl | rfl | rfl | rfl | rfl | rfl | rfl
    all_goals exact va_eqt (hs _ (by decide +kernel))) hA
  have z0 : va_Z "FrequencyShelf$Rules" "LEAST" "[I" (.ref t0) (fun q : Nat => s.heap.size ≤ q) s s.heap := va_Zof (hts0 _ (List.mem_of_getElem? (l := lw_tbl) (i := 337) (by decide +kernel))) (hts _ kw_69) e0 hA
  obtain ⟨t1, e1, v1⟩ := va_Tof (args := #[Value.ref b]) (s := s) (tm := (Term.static "FrequencyShelf$Rules" "MOST" "[I")) (ty := .int) (N := 8) (f := fun j => .int (zMOST j)) (A := fun q : Nat => s.heap.size ≤ q) (by decide) (hs _ (by decide +kernel)) (va_eqt (z := Int32.ofNat 8) (hs _ (by decide +kernel))) (fun j hj => by
    rcases (show j = 0 ∨ j = 1 ∨ j = 2 ∨ j = 3 ∨ j = 4 ∨ j = 5 ∨ j = 6 ∨ j = 7 by omega) with rfl | rfl | rfl | rfl | rfl | rfl | rfl | rfl
    all_goals exact va_eqt (hs _ (by decide +kernel))) hA
  have z1 : va_Z "FrequencyShelf$Rules" "MOST" "[I" (.ref t1) (fun q : Nat => s.heap.size ≤ q) s s.heap := va_Zof (hts0 _ (List.mem_of_getElem? (l := lw_tbl) (i := 339) (by decide +kernel))) (hts _ kw_69) e1 hA
  obtain ⟨t2, e2, v2⟩ := va_Tof (args := #[Value.ref b]) (s := s) (tm := (Term.static "FrequencyShelf$Ledge\x72" "SUM_OF" "[I")) (ty := .int) (N := 14) (f := fun j => .int (zSUM_OF j)) (A := fun q : Nat => s.heap.size ≤ q) (by decide) (hs _ (by decide +kernel)) (va_eqt (z := Int32.ofNat 14) (hs _ (by decide +kernel))) (fun j hj => by
    rcases (show j = 0 ∨ j = 1 ∨ j = 2 ∨ j = 3 ∨ j = 4 ∨ j = 5 ∨ j = 6 ∨ j = 7 ∨ j = 8 ∨ j = 9 ∨ j = 10 ∨ j = 11 ∨ j = 12 ∨ j = 13 by omega) with rfl | rfl | rfl | rfl | rfl | rfl | rfl | rfl | rfl | rfl | rfl | rfl | rfl | rfl
    all_goals exact va_eqt (hs _ (by decide +kernel))) hA
  have z2 : va_Z "FrequencyShelf$Ledge\x72" "SUM_OF" "[I" (.ref t2) (fun q : Nat => s.heap.size ≤ q) s s.heap := va_Zof (hts0 _ (List.mem_of_getElem? (l := lw_tbl) (i := 447) (by decide +kernel))) (hts _ kw_70) e2 hA
  have zC : va_Z "java/lang/String" "COMPACT_STRINGS" "Z" (.int 1) (fun q : Nat => s.heap.size ≤ q) s s.heap := va_Zof (hts0 _ (List.mem_of_getElem? (l := lw_tbl) (i := 930) (by decide +kernel))) (hts0 _ (List.mem_of_getElem? (l := lw_tbl) (i := 79) (by decide +kernel))) (va_eqi (hs _ (by decide +kernel))) hA
  have m3 : ∀ j : Nat, j < 100 → (Cond.eq (Term.elem (Term.static "java/lang/Intege\x72" "DigitOnes" "[B") (.int (Int32.ofNat j))) (.int (zOnes j))).before #[Value.ref b] s = true := by
    intro j hj
    rcases (show j = 0 ∨ j = 1 ∨ j = 2 ∨ j = 3 ∨ j = 4 ∨ j = 5 ∨ j = 6 ∨ j = 7 ∨ j = 8 ∨ j = 9 ∨ j = 10 ∨ j = 11 ∨ j = 12 ∨ j = 13 ∨ j = 14 ∨ j = 15 ∨ j = 16 ∨ j = 17 ∨ j = 18 ∨ j = 19 ∨ j = 20 ∨ j = 21 ∨ j = 22 ∨ j = 23 ∨ j = 24 ∨ j = 25 ∨ j = 26 ∨ j = 27 ∨ j = 28 ∨ j = 29 ∨ j = 30 ∨ j = 31 ∨ j = 32 ∨ j = 33 ∨ j = 34 ∨ j = 35 ∨ j = 36 ∨ j = 37 ∨ j = 38 ∨ j = 39 ∨ j = 40 ∨ j = 41 ∨ j = 42 ∨ j = 43 ∨ j = 44 ∨ j = 45 ∨ j = 46 ∨ j = 47 ∨ j = 48 ∨ j = 49 ∨ j = 50 ∨ j = 51 ∨ j = 52 ∨ j = 53 ∨ j = 54 ∨ j = 55 ∨ j = 56 ∨ j = 57 ∨ j = 58 ∨ j = 59 ∨ j = 60 ∨ j = 61 ∨ j = 62 ∨ j = 63 ∨ j = 64 ∨ j = 65 ∨ j = 66 ∨ j = 67 ∨ j = 68 ∨ j = 69 ∨ j = 70 ∨ j = 71 ∨ j = 72 ∨ j = 73 ∨ j = 74 ∨ j = 75 ∨ j = 76 ∨ j = 77 ∨ j = 78 ∨ j = 79 ∨ j = 80 ∨ j = 81 ∨ j = 82 ∨ j = 83 ∨ j = 84 ∨ j = 85 ∨ j = 86 ∨ j = 87 ∨ j = 88 ∨ j = 89 ∨ j = 90 ∨ j = 91 ∨ j = 92 ∨ j = 93 ∨ j = 94 ∨ j = 95 ∨ j = 96 ∨ j = 97 ∨ j = 98 ∨ j = 99 by omega) with rfl | rfl | rfl | rfl | rfl | rfl | rfl | rfl | rfl | rfl | rfl | rfl | rfl | rfl | rfl | rfl | rfl | rfl | rfl | rfl | rfl | rfl | rfl | rfl | rfl | rfl | rfl | rfl | rfl | rfl | rfl | rfl | rfl | rfl | rfl | rfl | rfl | rfl | rfl | rfl | rfl | rfl | rfl | rfl | rfl | rfl | rfl | rfl | rfl | rfl | rfl | rfl | rfl | rfl | rfl | rfl | rfl | rfl | rfl | rfl | rfl | rfl | rfl | rfl | rfl | rfl | rfl | rfl | rfl | rfl | rfl | rfl | rfl | rfl | rfl | rfl | rfl | rfl | rfl | rfl | rfl | rfl | rfl | rfl | rfl | rfl | rfl | rfl | rfl | rfl | rfl | rfl | rfl | rfl | rfl | rfl | rfl | rfl | rfl | rfl
    all_goals exact hs _ (by decide +kernel)
  obtain ⟨t3, e3, v3⟩ := va_Tof (args := #[Value.ref b]) (s := s) (tm := Term.static "java/lang/Intege\x72" "DigitOnes" "[B") (ty := .byte) (N := 100) (f := fun j => .int (zOnes j)) (A := fun q : Nat => s.heap.size ≤ q) (by decide) (hs _ (by decide +kernel)) (va_eqt (z := Int32.ofNat 100) (hs _ (by decide +kernel))) (fun j hj => va_eqt (m3 j hj)) hA
  have z3 : va_Z "java/lang/Intege\x72" "DigitOnes" "[B" (.ref t3) (fun q : Nat => s.heap.size ≤ q) s s.heap := va_Zof (hts0 _ (List.mem_of_getElem? (l := lw_tbl) (i := 1062) (by decide +kernel))) (hts0 _ (List.mem_of_getElem? (l := lw_tbl) (i := 86) (by decide +kernel))) e3 hA
  have m4 : ∀ j : Nat, j < 100 → (Cond.eq (Term.elem (Term.static "java/lang/Intege\x72" "DigitTens" "[B") (.int (Int32.ofNat j))) (.int (zTens j))).before #[Value.ref b] s = true := by
    intro j hj
    rcases (show j = 0 ∨ j = 1 ∨ j = 2 ∨ j = 3 ∨ j = 4 ∨ j = 5 ∨ j = 6 ∨ j = 7 ∨ j = 8 ∨ j = 9 ∨ j = 10 ∨ j = 11 ∨ j = 12 ∨ j = 13 ∨ j = 14 ∨ j = 15 ∨ j = 16 ∨ j = 17 ∨ j = 18 ∨ j = 19 ∨ j = 20 ∨ j = 21 ∨ j = 22 ∨ j = 23 ∨ j = 24 ∨ j = 25 ∨ j = 26 ∨ j = 27 ∨ j = 28 ∨ j = 29 ∨ j = 30 ∨ j = 31 ∨ j = 32 ∨ j = 33 ∨ j = 34 ∨ j = 35 ∨ j = 36 ∨ j = 37 ∨ j = 38 ∨ j = 39 ∨ j = 40 ∨ j = 41 ∨ j = 42 ∨ j = 43 ∨ j = 44 ∨ j = 45 ∨ j = 46 ∨ j = 47 ∨ j = 48 ∨ j = 49 ∨ j = 50 ∨ j = 51 ∨ j = 52 ∨ j = 53 ∨ j = 54 ∨ j = 55 ∨ j = 56 ∨ j = 57 ∨ j = 58 ∨ j = 59 ∨ j = 60 ∨ j = 61 ∨ j = 62 ∨ j = 63 ∨ j = 64 ∨ j = 65 ∨ j = 66 ∨ j = 67 ∨ j = 68 ∨ j = 69 ∨ j = 70 ∨ j = 71 ∨ j = 72 ∨ j = 73 ∨ j = 74 ∨ j = 75 ∨ j = 76 ∨ j = 77 ∨ j = 78 ∨ j = 79 ∨ j = 80 ∨ j = 81 ∨ j = 82 ∨ j = 83 ∨ j = 84 ∨ j = 85 ∨ j = 86 ∨ j = 87 ∨ j = 88 ∨ j = 89 ∨ j = 90 ∨ j = 91 ∨ j = 92 ∨ j = 93 ∨ j = 94 ∨ j = 95 ∨ j = 96 ∨ j = 97 ∨ j = 98 ∨ j = 99 by omega) with rfl | rfl | rfl | rfl | rfl | rfl | rfl | rfl | rfl | rfl | rfl | rfl | rfl | rfl | rfl | rfl | rfl | rfl | rfl | rfl | rfl | rfl | rfl | rfl | rfl | rfl | rfl | rfl | rfl | rfl | rfl | rfl | rfl | rfl | rfl | rfl | rfl | rfl | rfl | rfl | rfl | rfl | rfl | rfl | rfl | rfl | rfl | rfl | rfl | rfl | rfl | rfl | rfl | rfl | rfl | rfl | rfl | rfl | rfl | rfl | rfl | rfl | rfl | rfl | rfl | rfl | rfl | rfl | rfl | rfl | rfl | rfl | rfl | rfl | rfl | rfl | rfl | rfl | rfl | rfl | rfl | rfl | rfl | rfl | rfl | rfl | rfl | rfl | rfl | rfl | rfl | rfl | rfl | rfl | rfl | rfl | rfl | rfl | rfl | rfl
    all_goals exact hs _ (by decide +kernel)
  obtain ⟨t4, e4, v4⟩ := va_Tof (args := #[Value.ref b]) (s := s) (tm := Term.static "java/lang/Intege\x72" "DigitTens" "[B") (ty := .byte) (N := 100) (f := fun j => .int (zTens j)) (A := fun q : Nat => s.heap.size ≤ q) (by decide) (hs _ (by decide +kernel)) (va_eqt (z := Int32.ofNat 100) (hs _ (by decide +kernel))) (fun j hj => va_eqt (m4 j hj)) hA
  have z4 : va_Z "java/lang/Intege\x72" "DigitTens" "[B" (.ref t4) (fun q : Nat => s.heap.size ≤ q) s s.heap := va_Zof (hts0 _ (List.mem_of_getElem? (l := lw_tbl) (i := 1064) (by decide +kernel))) (hts0 _ (List.mem_of_getElem? (l := lw_tbl) (i := 86) (by decide +kernel))) e4 hA
  have zQ : va_Zq "jdk/internal/util/Preconditions" "SIOOBE_FORMATTER" "Ljava/util/function/BiFunction;" (fun q : Nat => s.heap.size ≤ q) s s.heap := va_Zqof (hts0 _ (List.mem_of_getElem? (l := lw_tbl) (i := 1023) (by decide +kernel))) (hts0 _ (List.mem_of_getElem? (l := lw_tbl) (i := 85) (by decide +kernel))) (hs _ (by decide +kernel)) hA
  have hel : ∀ i : Nat, i < 5 → ∀ j : Nat, j < sLen.getD i 0 → (Cond.eq (.elem (.field (sTm i) "java/lang/String" "value" "[B") (.int (Int32.ofNat j))) (.int ((sByt.getD i []).getD j 0))).before #[Value.ref b] s = true := by
    intro i hi j hj
    rcases (show i = 0 ∨ i = 1 ∨ i = 2 ∨ i = 3 ∨ i = 4 by omega) with rfl | rfl | rfl | rfl | rfl
    · have hj : j < 2 := hj
      rcases (show j = 0 ∨ j = 1 by omega) with rfl | rfl <;> exact hs _ (by decide +kernel)
    · have hj : j < 2 := hj
      rcases (show j = 0 ∨ j = 1 by omega) with rfl | rfl <;> exact hs _ (by decide +kernel)
    · have hj : j < 6 := hj
      rcases (show j = 0 ∨ j = 1 ∨ j = 2 ∨ j = 3 ∨ j = 4 ∨ j = 5 by omega) with rfl | rfl | rfl | rfl | rfl | rfl <;> exact hs _ (by decide +kernel)
    · have hj : j < 6 := hj
      rcases (show j = 0 ∨ j = 1 ∨ j = 2 ∨ j = 3 ∨ j = 4 ∨ j = 5 by omega) with rfl | rfl | rfl | rfl | rfl | rfl <;> exact hs _ (by decide +kernel)
    · exact absurd hj (Nat.not_lt_zero _)
  have hne : ∀ i j : Nat, i < 5 → j < 5 → i ≠ j → (Cond.not (Cond.eq (sTm i) (sTm j))).before #[Value.ref b] s = true ∨ (Cond.not (Cond.eq (sTm j) (sTm i))).before #[Value.ref b] s = true := by
    intro i j hi hj hij
    rcases (show i = 0 ∨ i = 1 ∨ i = 2 ∨ i = 3 ∨ i = 4 by omega) with rfl | rfl | rfl | rfl | rfl <;> rcases (show j = 0 ∨ j = 1 ∨ j = 2 ∨ j = 3 ∨ j = 4 by omega) with rfl | rfl | rfl | rfl | rfl
    all_goals first | exact absurd rfl hij | exact Or.inl (hs _ (by decide +kernel)) | exact Or.inr (hs _ (by decide +kernel))
  obtain ⟨adK, adV, hvS, hvR⟩ := vk_Sof (args := #[Value.ref b]) (s := s) (N := 5) (tm := sTm) (len := sLen) (byt := sByt) (A := fun q : Nat => s.heap.size ≤ q) (by decide) (by intro i hi; rcases (show i = 0 ∨ i = 1 ∨ i = 2 ∨ i = 3 ∨ i = 4 by omega) with rfl | rfl | rfl | rfl | rfl <;> exact hs _ (by decide +kernel)) (by intro i hi; rcases (show i = 0 ∨ i = 1 ∨ i = 2 ∨ i = 3 ∨ i = 4 by omega) with rfl | rfl | rfl | rfl | rfl <;> exact hs _ (by decide +kernel)) (by intro i hi; rcases (show i = 0 ∨ i = 1 ∨ i = 2 ∨ i = 3 ∨ i = 4 by omega) with rfl | rfl | rfl | rfl | rfl <;> exact hs _ (by decide +kernel)) (by intro i hi; rcases (show i = 0 ∨ i = 1 ∨ i = 2 ∨ i = 3 ∨ i = 4 by omega) with rfl | rfl | rfl | rfl | rfl <;> exact hs _ (by decide +kernel)) hel hne hA
  refine ⟨((fun k => if k = 0 then c0 else if k = 1 then c1 else if k = 2 then c2 else if k = 3 then c3 else if k = 4 then c4 else if k = 5 then c5 else if k = 6 then c6 else if k = 7 then c7 else if k = 8 then c8 else if k = 9 then c9 else if k = 10 then c10 else if k = 11 then c11 else c12, fun k => if k = 0 then i0 else if k = 1 then i1 else if k = 2 then i2 else if k = 3 then i3 else if k = 4 then i4 else if k = 5 then i5 else if k = 6 then i6 else if k = 7 then i7 else if k = 8 then i8 else if k = 9 then i9 else if k = 10 then i10 else if k = 11 then i11 else i12), cA, cB, fun k => if k = 0 then t0 else if k = 1 then t1 else if k = 2 then t2 else if k = 3 then t3 else if k = 4 then t4 else if k < 20 then adK (k - 10) else adV (k - 20)), ⟨?_, ?_⟩, ⟨z0, v0⟩, ⟨z1, v1⟩, ⟨z2, v2⟩, ⟨?_, ?_⟩, zC, ⟨z3, v3⟩, ⟨z4, v4⟩, zQ, ?_, ?_, ?_⟩
  · intro k q hq
    match k, hq with
    | 0, hq => cases hq; exact k0
    | 1, hq => cases hq; exact k1
    | 2, hq => cases hq; exact k2
    | 3, hq => cases hq; exact k3
    | 4, hq => cases hq; exact k4
    | 5, hq => cases hq; exact k5
    | 6, hq => cases hq; exact k6
    | 7, hq => cases hq; exact k7
    | 8, hq => cases hq; exact k8
    | 9, hq => cases hq; exact k9
    | 10, hq => cases hq; exact k10
    | 11, hq => cases hq; exact k11
    | 12, hq => cases hq; exact k12
    | k + 13, hq => simp at hq
  · intro k q hq
    match k, hq with
    | 0, hq => cases hq; exact ⟨fun n z => ⟨fun k h => (by cases h), kA, a2, cp, a3⟩, a1⟩
    | 1, hq => cases hq; exact ⟨fun n z => ⟨fun k h => (by cases h), kB, b2, cq, b3⟩, b1⟩
    | k + 2, hq => simp at hq
  · intro q hq
    exact va_Nw.of rfl (hn1 q hq)
  · intro q hq
    exact va_Nw.of rfl (hn2 q hq)
  · exact vk_cong hvS (fun i hi => by rcases (show i = 0 ∨ i = 1 ∨ i = 2 ∨ i = 3 ∨ i = 4 by omega) with rfl | rfl | rfl | rfl | rfl <;> exact ⟨rfl, rfl⟩)
  · intro q hq
    simp only [sRef, List.mem_cons, List.not_mem_nil, or_false] at hq
    rcases hq with rfl | rfl | rfl | rfl | rfl | rfl | rfl | rfl | rfl
    · exact vk_R.of (A := #[Value.ref b]) (hts0 _ (List.mem_of_getElem? (l := lw_tbl) (i := 1082) (by decide +kernel))) (hvR 0 (by decide))
    · exact vk_R.of (A := #[Value.ref b]) (hts0 _ (List.mem_of_getElem? (l := lw_tbl) (i := 1121) (by decide +kernel))) (hvR 1 (by decide))
    · exact vk_R.of (A := #[Value.ref b]) (hts0 _ (List.mem_of_getElem? (l := lw_tbl) (i := 1122) (by decide +kernel))) (hvR 2 (by decide))
    · exact vk_R.of (A := #[Value.ref b]) (hts0 _ (List.mem_of_getElem? (l := lw_tbl) (i := 1123) (by decide +kernel))) (hvR 3 (by decide))
    · exact vk_R.of (A := #[Value.ref b]) (hts0 _ (List.mem_of_getElem? (l := lw_tbl) (i := 1603) (by decide +kernel))) (va_eqR (t := Term.string "FrequencyShelf$Entries" 99) (u := Term.string "FrequencyShelfModel" 246) (hs _ (by decide +kernel)) (hvR 0 (by decide)))
    · exact vk_R.of (A := #[Value.ref b]) (hts0 _ (List.mem_of_getElem? (l := lw_tbl) (i := 1625) (by decide +kernel))) (va_eqR (t := Term.string "FrequencyShelf$Entries" 104) (u := Term.string "FrequencyShelfModel" 252) (hs _ (by decide +kernel)) (hvR 1 (by decide)))
    · exact vk_R.of (A := #[Value.ref b]) (hts0 _ (List.mem_of_getElem? (l := lw_tbl) (i := 1626) (by decide +kernel))) (va_eqR (t := Term.string "FrequencyShelf$Entries" 106) (u := Term.string "FrequencyShelfModel" 254) (hs _ (by decide +kernel)) (hvR 2 (by decide)))
    · exact vk_R.of (A := #[Value.ref b]) (hts0 _ (List.mem_of_getElem? (l := lw_tbl) (i := 1628) (by decide +kernel))) (va_eqR (t := Term.string "FrequencyShelf$Entries" 108) (u := Term.string "FrequencyShelfModel" 258) (hs _ (by decide +kernel)) (hvR 3 (by decide)))
    · exact vk_R.of (A := #[Value.ref b]) (hts0 _ (List.mem_of_getElem? (l := lw_tbl) (i := 1627) (by decide +kernel))) (hvR 4 (by decide))
  · intro q hq
    simp only [sPriv, List.mem_cons, List.not_mem_nil, or_false] at hq
    rcases hq with rfl | rfl | rfl | rfl
    · exact va_Nw.of rfl (hts0 _ (List.mem_of_getElem? (l := lw_tbl) (i := 965) (by decide +kernel)))
    · exact va_Nw.of rfl (hts0 _ (List.mem_of_getElem? (l := lw_tbl) (i := 969) (by decide +kernel)))
    · exact va_Nw.of rfl (hts0 _ (List.mem_of_getElem? (l := lw_tbl) (i := 1107) (by decide +kernel)))
    · exact va_Nw.of rfl (hts0 _ (List.mem_of_getElem? (l := lw_tbl) (i := 1111) (by decide +kernel)))
