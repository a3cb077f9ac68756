abbrev cJ6_stringSize_0f7a4 : ByteArray := prog_17_method_13_code
def yJ6_stringSize_0f7a4 : MethodName := ⟨RJ6, "stringSize", "(I)I"⟩
theorem dJ6_stringSize_0f7a4_0 : decode cJ6_stringSize_0f7a4 0 = .ok (.iconst 1, 1) := by decide +kernel
theorem dJ6_stringSize_0f7a4_1 : decode cJ6_stringSize_0f7a4 1 = .ok (.istore_n 1, 1) := by decide +kernel
theorem dJ6_stringSize_0f7a4_2 : decode cJ6_stringSize_0f7a4 2 = .ok (.iload_n 0, 1) := by decide +kernel
theorem dJ6_stringSize_0f7a4_3 : decode cJ6_stringSize_0f7a4 3 = .ok (.ifCond .lt 8, 3) := by decide +kernel
theorem dJ6_stringSize_0f7a4_6 : decode cJ6_stringSize_0f7a4 6 = .ok (.iconst 0, 1) := by decide +kernel
theorem dJ6_stringSize_0f7a4_7 : decode cJ6_stringSize_0f7a4 7 = .ok (.istore_n 1, 1) := by decide +kernel
theorem dJ6_stringSize_0f7a4_8 : decode cJ6_stringSize_0f7a4 8 = .ok (.iload_n 0, 1) := by decide +kernel
theorem dJ6_stringSize_0f7a4_9 : decode cJ6_stringSize_0f7a4 9 = .ok (.ineg, 1) := by decide +kernel
theorem dJ6_stringSize_0f7a4_10 : decode cJ6_stringSize_0f7a4 10 = .ok (.istore_n 0, 1) := by decide +kernel
theorem dJ6_stringSize_0f7a4_11 : decode cJ6_stringSize_0f7a4 11 = .ok (.bipush (-10), 2) := by decide +kernel
theorem dJ6_stringSize_0f7a4_13 : decode cJ6_stringSize_0f7a4 13 = .ok (.istore_n 2, 1) := by decide +kernel
theorem dJ6_stringSize_0f7a4_14 : decode cJ6_stringSize_0f7a4 14 = .ok (.iconst 1, 1) := by decide +kernel
theorem dJ6_stringSize_0f7a4_15 : decode cJ6_stringSize_0f7a4 15 = .ok (.istore_n 3, 1) := by decide +kernel
theorem dJ6_stringSize_0f7a4_16 : decode cJ6_stringSize_0f7a4 16 = .ok (.iload_n 3, 1) := by decide +kernel
theorem dJ6_stringSize_0f7a4_17 : decode cJ6_stringSize_0f7a4 17 = .ok (.bipush 10, 2) := by decide +kernel
theorem dJ6_stringSize_0f7a4_19 : decode cJ6_stringSize_0f7a4 19 = .ok (.if_icmp .ge 23, 3) := by decide +kernel
theorem dJ6_stringSize_0f7a4_22 : decode cJ6_stringSize_0f7a4 22 = .ok (.iload_n 0, 1) := by decide +kernel
theorem dJ6_stringSize_0f7a4_23 : decode cJ6_stringSize_0f7a4 23 = .ok (.iload_n 2, 1) := by decide +kernel
theorem dJ6_stringSize_0f7a4_24 : decode cJ6_stringSize_0f7a4 24 = .ok (.if_icmp .le 7, 3) := by decide +kernel
theorem dJ6_stringSize_0f7a4_27 : decode cJ6_stringSize_0f7a4 27 = .ok (.iload_n 3, 1) := by decide +kernel
theorem dJ6_stringSize_0f7a4_28 : decode cJ6_stringSize_0f7a4 28 = .ok (.iload_n 1, 1) := by decide +kernel
theorem dJ6_stringSize_0f7a4_29 : decode cJ6_stringSize_0f7a4 29 = .ok (.iadd, 1) := by decide +kernel
theorem dJ6_stringSize_0f7a4_30 : decode cJ6_stringSize_0f7a4 30 = .ok (.ireturn, 1) := by decide +kernel
theorem dJ6_stringSize_0f7a4_31 : decode cJ6_stringSize_0f7a4 31 = .ok (.bipush 10, 2) := by decide +kernel
theorem dJ6_stringSize_0f7a4_33 : decode cJ6_stringSize_0f7a4 33 = .ok (.iload_n 2, 1) := by decide +kernel
theorem dJ6_stringSize_0f7a4_34 : decode cJ6_stringSize_0f7a4 34 = .ok (.imul, 1) := by decide +kernel
theorem dJ6_stringSize_0f7a4_35 : decode cJ6_stringSize_0f7a4 35 = .ok (.istore_n 2, 1) := by decide +kernel
theorem dJ6_stringSize_0f7a4_36 : decode cJ6_stringSize_0f7a4 36 = .ok (.iinc 3 1, 3) := by decide +kernel
theorem dJ6_stringSize_0f7a4_39 : decode cJ6_stringSize_0f7a4 39 = .ok (.goto (-23), 3) := by decide +kernel
theorem dJ6_stringSize_0f7a4_42 : decode cJ6_stringSize_0f7a4 42 = .ok (.bipush 10, 2) := by decide +kernel
theorem dJ6_stringSize_0f7a4_44 : decode cJ6_stringSize_0f7a4 44 = .ok (.iload_n 1, 1) := by decide +kernel
theorem dJ6_stringSize_0f7a4_45 : decode cJ6_stringSize_0f7a4 45 = .ok (.iadd, 1) := by decide +kernel
theorem dJ6_stringSize_0f7a4_46 : decode cJ6_stringSize_0f7a4 46 = .ok (.ireturn, 1) := by decide +kernel
abbrev cJ6_getChars_ba4f3 : ByteArray := prog_17_method_12_code
def yJ6_getChars_ba4f3 : MethodName := ⟨RJ6, "getChars", "(II[B)I"⟩
theorem dJ6_getChars_ba4f3_0 : decode cJ6_getChars_ba4f3 0 = .ok (.iload_n 1, 1) := by decide +kernel
theorem dJ6_getChars_ba4f3_1 : decode cJ6_getChars_ba4f3 1 = .ok (.istore 5, 2) := by decide +kernel
theorem dJ6_getChars_ba4f3_3 : decode cJ6_getChars_ba4f3 3 = .ok (.iload_n 0, 1) := by decide +kernel
theorem dJ6_getChars_ba4f3_4 : decode cJ6_getChars_ba4f3 4 = .ok (.ifCond .ge 7, 3) := by decide +kernel
theorem dJ6_getChars_ba4f3_7 : decode cJ6_getChars_ba4f3 7 = .ok (.iconst 1, 1) := by decide +kernel
theorem dJ6_getChars_ba4f3_8 : decode cJ6_getChars_ba4f3 8 = .ok (.goto 4, 3) := by decide +kernel
theorem dJ6_getChars_ba4f3_11 : decode cJ6_getChars_ba4f3 11 = .ok (.iconst 0, 1) := by decide +kernel
theorem dJ6_getChars_ba4f3_12 : decode cJ6_getChars_ba4f3 12 = .ok (.istore 6, 2) := by decide +kernel
theorem dJ6_getChars_ba4f3_14 : decode cJ6_getChars_ba4f3 14 = .ok (.iload 6, 2) := by decide +kernel
theorem dJ6_getChars_ba4f3_16 : decode cJ6_getChars_ba4f3 16 = .ok (.ifCond .ne 6, 3) := by decide +kernel
theorem dJ6_getChars_ba4f3_19 : decode cJ6_getChars_ba4f3 19 = .ok (.iload_n 0, 1) := by decide +kernel
theorem dJ6_getChars_ba4f3_20 : decode cJ6_getChars_ba4f3 20 = .ok (.ineg, 1) := by decide +kernel
theorem dJ6_getChars_ba4f3_21 : decode cJ6_getChars_ba4f3 21 = .ok (.istore_n 0, 1) := by decide +kernel
theorem dJ6_getChars_ba4f3_22 : decode cJ6_getChars_ba4f3 22 = .ok (.iload_n 0, 1) := by decide +kernel
theorem dJ6_getChars_ba4f3_23 : decode cJ6_getChars_ba4f3 23 = .ok (.bipush (-100), 2) := by decide +kernel
theorem dJ6_getChars_ba4f3_25 : decode cJ6_getChars_ba4f3 25 = .ok (.if_icmp .gt 47, 3) := by decide +kernel
theorem dJ6_getChars_ba4f3_28 : decode cJ6_getChars_ba4f3 28 = .ok (.iload_n 0, 1) := by decide +kernel
theorem dJ6_getChars_ba4f3_29 : decode cJ6_getChars_ba4f3 29 = .ok (.bipush 100, 2) := by decide +kernel
theorem dJ6_getChars_ba4f3_31 : decode cJ6_getChars_ba4f3 31 = .ok (.idiv, 1) := by decide +kernel
theorem dJ6_getChars_ba4f3_32 : decode cJ6_getChars_ba4f3 32 = .ok (.istore_n 3, 1) := by decide +kernel
theorem dJ6_getChars_ba4f3_33 : decode cJ6_getChars_ba4f3 33 = .ok (.iload_n 3, 1) := by decide +kernel
theorem dJ6_getChars_ba4f3_34 : decode cJ6_getChars_ba4f3 34 = .ok (.bipush 100, 2) := by decide +kernel
theorem dJ6_getChars_ba4f3_36 : decode cJ6_getChars_ba4f3 36 = .ok (.imul, 1) := by decide +kernel
theorem dJ6_getChars_ba4f3_37 : decode cJ6_getChars_ba4f3 37 = .ok (.iload_n 0, 1) := by decide +kernel
theorem dJ6_getChars_ba4f3_38 : decode cJ6_getChars_ba4f3 38 = .ok (.isub, 1) := by decide +kernel
theorem dJ6_getChars_ba4f3_39 : decode cJ6_getChars_ba4f3 39 = .ok (.istore 4, 2) := by decide +kernel
theorem dJ6_getChars_ba4f3_41 : decode cJ6_getChars_ba4f3 41 = .ok (.iload_n 3, 1) := by decide +kernel
theorem dJ6_getChars_ba4f3_42 : decode cJ6_getChars_ba4f3 42 = .ok (.istore_n 0, 1) := by decide +kernel
theorem dJ6_getChars_ba4f3_43 : decode cJ6_getChars_ba4f3 43 = .ok (.aload_n 2, 1) := by decide +kernel
theorem dJ6_getChars_ba4f3_44 : decode cJ6_getChars_ba4f3 44 = .ok (.iinc 5 (-1), 3) := by decide +kernel
theorem dJ6_getChars_ba4f3_47 : decode cJ6_getChars_ba4f3 47 = .ok (.iload 5, 2) := by decide +kernel
theorem dJ6_getChars_ba4f3_49 : decode cJ6_getChars_ba4f3 49 = .ok (.getstatic 83, 3) := by decide +kernel
theorem dJ6_getChars_ba4f3_52 : decode cJ6_getChars_ba4f3 52 = .ok (.iload 4, 2) := by decide +kernel
theorem dJ6_getChars_ba4f3_54 : decode cJ6_getChars_ba4f3 54 = .ok (.baload, 1) := by decide +kernel
theorem dJ6_getChars_ba4f3_55 : decode cJ6_getChars_ba4f3 55 = .ok (.bastore, 1) := by decide +kernel
theorem dJ6_getChars_ba4f3_56 : decode cJ6_getChars_ba4f3 56 = .ok (.aload_n 2, 1) := by decide +kernel
theorem dJ6_getChars_ba4f3_57 : decode cJ6_getChars_ba4f3 57 = .ok (.iinc 5 (-1), 3) := by decide +kernel
theorem dJ6_getChars_ba4f3_60 : decode cJ6_getChars_ba4f3 60 = .ok (.iload 5, 2) := by decide +kernel
theorem dJ6_getChars_ba4f3_62 : decode cJ6_getChars_ba4f3 62 = .ok (.getstatic 87, 3) := by decide +kernel
theorem dJ6_getChars_ba4f3_65 : decode cJ6_getChars_ba4f3 65 = .ok (.iload 4, 2) := by decide +kernel
theorem dJ6_getChars_ba4f3_67 : decode cJ6_getChars_ba4f3 67 = .ok (.baload, 1) := by decide +kernel
theorem dJ6_getChars_ba4f3_68 : decode cJ6_getChars_ba4f3 68 = .ok (.bastore, 1) := by decide +kernel
theorem dJ6_getChars_ba4f3_69 : decode cJ6_getChars_ba4f3 69 = .ok (.goto (-47), 3) := by decide +kernel
theorem dJ6_getChars_ba4f3_72 : decode cJ6_getChars_ba4f3 72 = .ok (.aload_n 2, 1) := by decide +kernel
theorem dJ6_getChars_ba4f3_73 : decode cJ6_getChars_ba4f3 73 = .ok (.iinc 5 (-1), 3) := by decide +kernel
theorem dJ6_getChars_ba4f3_76 : decode cJ6_getChars_ba4f3 76 = .ok (.iload 5, 2) := by decide +kernel
theorem dJ6_getChars_ba4f3_78 : decode cJ6_getChars_ba4f3 78 = .ok (.getstatic 83, 3) := by decide +kernel
theorem dJ6_getChars_ba4f3_81 : decode cJ6_getChars_ba4f3 81 = .ok (.iload_n 0, 1) := by decide +kernel
theorem dJ6_getChars_ba4f3_82 : decode cJ6_getChars_ba4f3 82 = .ok (.ineg, 1) := by decide +kernel
theorem dJ6_getChars_ba4f3_83 : decode cJ6_getChars_ba4f3 83 = .ok (.baload, 1) := by decide +kernel
theorem dJ6_getChars_ba4f3_84 : decode cJ6_getChars_ba4f3 84 = .ok (.bastore, 1) := by decide +kernel
theorem dJ6_getChars_ba4f3_85 : decode cJ6_getChars_ba4f3 85 = .ok (.iload_n 0, 1) := by decide +kernel
theorem dJ6_getChars_ba4f3_86 : decode cJ6_getChars_ba4f3 86 = .ok (.bipush (-9), 2) := by decide +kernel
theorem dJ6_getChars_ba4f3_88 : decode cJ6_getChars_ba4f3 88 = .ok (.if_icmp .ge 16, 3) := by decide +kernel
theorem dJ6_getChars_ba4f3_91 : decode cJ6_getChars_ba4f3 91 = .ok (.aload_n 2, 1) := by decide +kernel
theorem dJ6_getChars_ba4f3_92 : decode cJ6_getChars_ba4f3 92 = .ok (.iinc 5 (-1), 3) := by decide +kernel
theorem dJ6_getChars_ba4f3_95 : decode cJ6_getChars_ba4f3 95 = .ok (.iload 5, 2) := by decide +kernel
theorem dJ6_getChars_ba4f3_97 : decode cJ6_getChars_ba4f3 97 = .ok (.getstatic 87, 3) := by decide +kernel
theorem dJ6_getChars_ba4f3_100 : decode cJ6_getChars_ba4f3 100 = .ok (.iload_n 0, 1) := by decide +kernel
theorem dJ6_getChars_ba4f3_101 : decode cJ6_getChars_ba4f3 101 = .ok (.ineg, 1) := by decide +kernel
theorem dJ6_getChars_ba4f3_102 : decode cJ6_getChars_ba4f3 102 = .ok (.baload, 1) := by decide +kernel
theorem dJ6_getChars_ba4f3_103 : decode cJ6_getChars_ba4f3 103 = .ok (.bastore, 1) := by decide +kernel
theorem dJ6_getChars_ba4f3_104 : decode cJ6_getChars_ba4f3 104 = .ok (.iload 6, 2) := by decide +kernel
theorem dJ6_getChars_ba4f3_106 : decode cJ6_getChars_ba4f3 106 = .ok (.ifCond .eq 12, 3) := by decide +kernel
theorem dJ6_getChars_ba4f3_109 : decode cJ6_getChars_ba4f3 109 = .ok (.aload_n 2, 1) := by decide +kernel
theorem dJ6_getChars_ba4f3_110 : decode cJ6_getChars_ba4f3 110 = .ok (.iinc 5 (-1), 3) := by decide +kernel
theorem dJ6_getChars_ba4f3_113 : decode cJ6_getChars_ba4f3 113 = .ok (.iload 5, 2) := by decide +kernel
theorem dJ6_getChars_ba4f3_115 : decode cJ6_getChars_ba4f3 115 = .ok (.bipush 45, 2) := by decide +kernel
theorem dJ6_getChars_ba4f3_117 : decode cJ6_getChars_ba4f3 117 = .ok (.bastore, 1) := by decide +kernel
theorem dJ6_getChars_ba4f3_118 : decode cJ6_getChars_ba4f3 118 = .ok (.iload 5, 2) := by decide +kernel
theorem dJ6_getChars_ba4f3_120 : decode cJ6_getChars_ba4f3 120 = .ok (.ireturn, 1) := by decide +kernel
theorem kw_1061 : Cond.fieldLink "java/lang/Integer" 83 "java/lang/Integer" "DigitOnes" "[B" ∈ TB := tb_at 1061 (by decide +kernel) (by decide +kernel)
theorem kw_1063 : Cond.fieldLink "java/lang/Integer" 87 "java/lang/Integer" "DigitTens" "[B" ∈ TB := tb_at 1063 (by decide +kernel) (by decide +kernel)
-- J6_stringSize_0f7a4
def po_J6_stringSize_0f7a4 (E : mE)     (o : Int32) : Option Value → va_W → Prop := (fun (v : Option Value) (w' : va_W) => v = some (.int o) ∧ w' = [])
noncomputable def K_J6_stringSize_0f7a4_16 (N : Nat)  (rec : Int32 → Int32 → Option (Int32)) (k42 : Unit → Option (Int32)) (k27 : Int32 → Option (Int32)) (x0 : Int32) (x1 : Int32)  (x2 : Int32) (x3 : Int32)  : Option (Int32) :=
  if (10 ≤ x3 : Prop) then
  k42 ()
  else
  if (x0 ≤ x2 : Prop) then
  lt (10 * x2) (fun x2_1 =>
  lt (x3 + 1) (fun x3_2 =>
  rec x2_1 x3_2))
  else
  k27 x3
noncomputable def L_J6_stringSize_0f7a4_16 (N : Nat)  (k42 : Unit → Option (Int32)) (k27 : Int32 → Option (Int32)) (x0 : Int32) (x1 : Int32)  (n : Nat) : Int32 → Int32 → Option (Int32) :=
  Nat.rec (motive := fun _ => Int32 → Int32 → Option (Int32)) (fun _ _ => none) (fun _ rec => K_J6_stringSize_0f7a4_16 N rec k42 k27 x0 x1) n
set_option maxHeartbeats 4000000 in
set_option maxRecDepth 100000 in
theorem l_J6_stringSize_0f7a4_16 {E : mE} {l : Launch} {p : Program} {e : Env} {s : State} {m : MethodId} {args : Array Value} {below : List Frame} {meth : Method} {c : Code} {A : Nat → Prop} {Q : State → Prop} {N : Nat}     {o : Int32} (B : mB E yJ6_stringSize_0f7a4 cJ6_stringSize_0f7a4 4 (some .int) 0 0 (po_J6_stringSize_0f7a4 E o) p s m args below meth c A Q)   {x0 : Int32} {x1 : Int32} (k42 : Unit → Option (Int32)) (k27 : Int32 → Option (Int32))  (hk42 : ∀    (H : Heap) (locs : List Loc) (ls : Array Slot), k42 () = some o → mW E A s [] H locs → lv_has ls 4 [(1, .int x1)] → W p l e ({ frames := 0, cells := 0, slots := 0, locals := 0 } : Room) s m args below meth c H locs 0 0 Q (F0 m 42 ls [])) (hk27 : ∀ (x3 : Int32)   (H : Heap) (locs : List Loc) (ls : Array Slot), k27 x3 = some o → mW E A s [] H locs → lv_has ls 4 [(1, .int x1), (3, .int x3)] → W p l e ({ frames := 0, cells := 0, slots := 0, locals := 0 } : Room) s m args below meth c H locs 0 0 Q (F0 m 27 ls [])) : ∀ n : Nat, ∀ (x2 : Int32) (x3 : Int32)   (H : Heap) (locs : List Loc) (ls : Array Slot), L_J6_stringSize_0f7a4_16 N k42 k27 x0 x1 n x2 x3 = some o → mW E A s [] H locs → lv_has ls 4 [(0, .int x0), (1, .int x1), (2, .int x2), (3, .int x3)] → W p l e ({ frames := 0, cells := 0, slots := 0, locals := 0 } : Room) s m args below meth c H locs 0 0 Q (F0 m 16 ls []) := by
  obtain ⟨hx, hb, hml, hown, hts⟩ := id B.1
  intro n
  induction n with
  | zero =>
    intro x2 x3 H locs ls hf w hl
    exact nomatch hf
  | succ n hrec =>
    intro x2 x3 H locs ls hf w hl
    have hf : K_J6_stringSize_0f7a4_16 N (L_J6_stringSize_0f7a4_16 N k42 k27 x0 x1 n) k42 k27 x0 x1 x2 x3 = some o := hf
    unfold K_J6_stringSize_0f7a4_16 at hf
    refine lv_iload_n hx hb dJ6_stringSize_0f7a4_16 rfl (lv_at hl 3 rfl) ?_
    refine lv_bipush (v := 10) hx hb dJ6_stringSize_0f7a4_17 (by decide) ?_
    refine lv_icmp_ge (tgt := 42) hx hb dJ6_stringSize_0f7a4_19 (by decide) (fun hc => ?_) (fun hc => ?_)
    · have hf := it_t hc hf
      exact hk42 _ _ _ hf  w (lv_sub hl [1] rfl)
    · have hf := it_f hc hf
      refine lv_iload_n hx hb dJ6_stringSize_0f7a4_22 rfl (lv_at hl 0 rfl) ?_
      refine lv_iload_n hx hb dJ6_stringSize_0f7a4_23 rfl (lv_at hl 2 rfl) ?_
      refine lv_icmp_le (tgt := 31) hx hb dJ6_stringSize_0f7a4_24 (by decide) (fun hc => ?_) (fun hc => ?_)
      · have hf := it_t hc hf
        refine lv_bipush (v := 10) hx hb dJ6_stringSize_0f7a4_31 (by decide) ?_
        refine lv_iload_n hx hb dJ6_stringSize_0f7a4_33 rfl (lv_at hl 2 rfl) ?_
        refine lv_imul hx hb dJ6_stringSize_0f7a4_34 ?_
        refine lv_topi (fun x2_1 ev => ?_)
        have hf := lt_n ev hf; clear ev
        refine lv_istore_n (lv' := [(2, .int x2_1), (0, .int x0), (1, .int x1), (3, .int x3)]) hx hb dJ6_stringSize_0f7a4_35 rfl hl (by decide) rfl (fun ls hl => ?_)
        obtain ⟨x3_2, ev⟩ : ∃ y : Int32, y = x3 + 1 := ⟨_, rfl⟩
        refine lv_iinc (v := x3_2) (lv' := [(3, .int x3_2), (2, .int x2_1), (0, .int x0), (1, .int x1)]) hx hb dJ6_stringSize_0f7a4_36 hl (k := 3) rfl (by rw [ev]; rfl) (by decide) rfl (fun ls hl => ?_)
        have hf := lt_n ev hf; clear ev
        refine lv_goto (tgt := 16) hx hb dJ6_stringSize_0f7a4_39 (by decide) ?_
        exact hrec _ _ _ _ _ hf  w (lv_sub hl [2, 3, 1, 0] rfl)
      · have hf := it_f hc hf
        exact hk27 _ _ _ _ hf  w (lv_sub hl [1, 3] rfl)
noncomputable def J_J6_stringSize_0f7a4_11 (N : Nat)   (x0 : Int32) (x1 : Int32)  : Option (Int32) :=
  L_J6_stringSize_0f7a4_16 N (fun _ => some (10 + x1)) (fun x3 => some (x3 + x1)) x0 x1 N ((-10)) 1
set_option maxHeartbeats 4000000 in
set_option maxRecDepth 100000 in
theorem j_J6_stringSize_0f7a4_11 {E : mE} {l : Launch} {p : Program} {e : Env} {s : State} {m : MethodId} {args : Array Value} {below : List Frame} {meth : Method} {c : Code} {A : Nat → Prop} {Q : State → Prop} {N : Nat}     {o : Int32} (B : mB E yJ6_stringSize_0f7a4 cJ6_stringSize_0f7a4 4 (some .int) 0 0 (po_J6_stringSize_0f7a4 E o) p s m args below meth c A Q) {x0 : Int32} {x1 : Int32}     {H : Heap} {locs : List Loc} {ls : Array Slot} (hf : J_J6_stringSize_0f7a4_11 N x0 x1 = some o)  (w : mW E A s [] H locs) (hl : lv_has ls 4 [(0, .int x0), (1, .int x1)]) : W p l e ({ frames := 0, cells := 0, slots := 0, locals := 0 } : Room) s m args below meth c H locs 0 0 Q (F0 m 11 ls []) := by
  obtain ⟨hx, hb, hml, hown, hts⟩ := id B.1
  unfold J_J6_stringSize_0f7a4_11 at hf
  refine lv_bipush (v := (-10)) hx hb dJ6_stringSize_0f7a4_11 (by decide) ?_
  refine lv_istore_n (lv' := [(2, .int ((-10))), (0, .int x0), (1, .int x1)]) hx hb dJ6_stringSize_0f7a4_13 rfl hl (by decide) rfl (fun ls hl => ?_)
  refine lv_iconst (v := 1) hx hb dJ6_stringSize_0f7a4_14 (by decide) ?_
  refine lv_istore_n (lv' := [(3, .int 1), (2, .int ((-10))), (0, .int x0), (1, .int x1)]) hx hb dJ6_stringSize_0f7a4_15 rfl hl (by decide) rfl (fun ls hl => ?_)
  refine l_J6_stringSize_0f7a4_16 B _ _  ?_ ?_ N _ _ _ _ _ hf  w (lv_sub hl [2, 3, 1, 0] rfl)
  · intro H locs ls hf w hl
    refine lv_bipush (v := 10) hx hb dJ6_stringSize_0f7a4_42 (by decide) ?_
    refine lv_iload_n hx hb dJ6_stringSize_0f7a4_44 rfl (lv_at hl 0 rfl) ?_
    refine lv_iadd hx hb dJ6_stringSize_0f7a4_45 ?_
    cases hf
    exact mx_iret B w ⟨rfl, rfl⟩ dJ6_stringSize_0f7a4_46
  · intro x3 H locs ls hf w hl
    refine lv_iload_n hx hb dJ6_stringSize_0f7a4_27 rfl (lv_at hl 1 rfl) ?_
    refine lv_iload_n hx hb dJ6_stringSize_0f7a4_28 rfl (lv_at hl 0 rfl) ?_
    refine lv_iadd hx hb dJ6_stringSize_0f7a4_29 ?_
    cases hf
    exact mx_iret B w ⟨rfl, rfl⟩ dJ6_stringSize_0f7a4_30
noncomputable def F_J6_stringSize_0f7a4 (N : Nat)   (x0 : Int32) : Option (Int32) :=
  if (x0 < 0 : Prop) then
  J_J6_stringSize_0f7a4_11 N x0 1
  else
  lt (-x0) (fun x0_3 =>
  J_J6_stringSize_0f7a4_11 N x0_3 0)
set_option maxHeartbeats 4000000 in
set_option maxRecDepth 100000 in
theorem d_J6_stringSize_0f7a4 (E : mE) (l : Launch) (N : Nat)     (x0 : Int32)  (o : Int32) (hf : F_J6_stringSize_0f7a4 N x0 = some o) : MX E l yJ6_stringSize_0f7a4 cJ6_stringSize_0f7a4 4 (some .int) ({ frames := 0, cells := 0, slots := 0, locals := 0 } : Room) [.int x0] [] (po_J6_stringSize_0f7a4 E o) := by
  refine mx_intro (by decide +kernel) (Nat.le_of_ble_eq_true rfl) ?_
  intro p e s m args below meth c A Q ls B w hl
  obtain ⟨hx, hb, hml, hown, hts⟩ := id B.1
  unfold F_J6_stringSize_0f7a4 at hf
  have hl : lv_has ls 4 [(0, .int x0)] := hl
  refine lv_iconst (v := 1) hx hb dJ6_stringSize_0f7a4_0 (by decide) ?_
  refine lv_istore_n (lv' := [(1, .int 1), (0, .int x0)]) hx hb dJ6_stringSize_0f7a4_1 rfl hl (by decide) rfl (fun ls hl => ?_)
  refine lv_iload_n hx hb dJ6_stringSize_0f7a4_2 rfl (lv_at hl 1 rfl) ?_
  refine lv_if_lt (tgt := 11) hx hb dJ6_stringSize_0f7a4_3 (by decide) (fun hc => ?_) (fun hc => ?_)
  · have hf := it_t hc hf
    exact j_J6_stringSize_0f7a4_11 B   hf  w (lv_sub hl [1, 0] rfl)
  · have hf := it_f hc hf
    refine lv_iconst (v := 0) hx hb dJ6_stringSize_0f7a4_6 (by decide) ?_
    refine lv_istore_n (lv' := [(1, .int 0), (0, .int x0)]) hx hb dJ6_stringSize_0f7a4_7 rfl hl (by decide) rfl (fun ls hl => ?_)
    refine lv_iload_n hx hb dJ6_stringSize_0f7a4_8 rfl (lv_at hl 1 rfl) ?_
    refine lv_ineg hx hb dJ6_stringSize_0f7a4_9 ?_
    refine lv_topi (fun x0_3 ev => ?_)
    have hf := lt_n ev hf; clear ev
    refine lv_istore_n (lv' := [(0, .int x0_3), (1, .int 0)]) hx hb dJ6_stringSize_0f7a4_10 rfl hl (by decide) rfl (fun ls hl => ?_)
    exact j_J6_stringSize_0f7a4_11 B   hf  w (lv_sub hl [0, 1] rfl)
-- J6_getChars_ba4f3
def po_J6_getChars_ba4f3 (E : mE) (a2 : Nat) (L2 : Nat) (f2 : Nat → Int32)  (o : Int32 × (Nat → Int32)) : Option Value → va_W → Prop := (fun (v : Option Value) (w' : va_W) => v = some (.int o.1) ∧ w' = [(a2, .inl (E.2.2.1, L2, .inl o.2))])
noncomputable def K_J6_getChars_ba4f3_22 (N : Nat) (L2 : Nat) (rec : Int32 → Int32 → (Nat → Int32) → (Option (Int32 × (Nat → Int32)))) (k72 : Int32 → Int32 → (Nat → Int32) → (Option (Int32 × (Nat → Int32)))) (x6 : Int32)  (x0 : Int32) (x5 : Int32) (f2 : Nat → Int32) : Option (Int32 × (Nat → Int32)) :=
  if (((-100)) < x0 : Prop) then
  k72 x0 x5 f2
  else
  lt (x0 / 100) (fun x3_1 =>
  lt ((x3_1 * 100) - x0) (fun x4_2 =>
  lt (x5 + (-1)) (fun x5_3 =>
  ld zOnes 100 x4_2 (fun v_4 =>
  sto f2 L2 x5_3 (vp_nar .byte v_4) (fun f2_5 =>
  lt (x5_3 + (-1)) (fun x5_6 =>
  ld zTens 100 x4_2 (fun v_7 =>
  sto f2_5 L2 x5_6 (vp_nar .byte v_7) (fun f2_8 =>
  rec x3_1 x5_6 f2_8))))))))
noncomputable def L_J6_getChars_ba4f3_22 (N : Nat) (L2 : Nat) (k72 : Int32 → Int32 → (Nat → Int32) → (Option (Int32 × (Nat → Int32)))) (x6 : Int32)  (n : Nat) : Int32 → Int32 → (Nat → Int32) → (Option (Int32 × (Nat → Int32))) :=
  Nat.rec (motive := fun _ => Int32 → Int32 → (Nat → Int32) → (Option (Int32 × (Nat → Int32)))) (fun _ _ _ => none) (fun _ rec => K_J6_getChars_ba4f3_22 N L2 rec k72 x6) n
set_option maxHeartbeats 4000000 in
set_option maxRecDepth 100000 in
theorem l_J6_getChars_ba4f3_22 {E : mE} {l : Launch} {p : Program} {e : Env} {s : State} {m : MethodId} {args : Array Value} {below : List Frame} {meth : Method} {c : Code} {A : Nat → Prop} {Q : State → Prop} {N : Nat} {a2 : Nat} {L2 : Nat} {f20 : Nat → Int32}  {o : Int32 × (Nat → Int32)} (B : mB E yJ6_getChars_ba4f3 cJ6_getChars_ba4f3 7 (some .int) 0 0 (po_J6_getChars_ba4f3 E a2 L2 f20 o) p s m args below meth c A Q)   {x6 : Int32} (k72 : Int32 → Int32 → (Nat → Int32) → (Option (Int32 × (Nat → Int32))))  (hk72 : ∀ (x0 : Int32) (x5 : Int32) (f2 : Nat → Int32)  (H : Heap) (locs : List Loc) (ls : Array Slot), k72 x0 x5 f2 = some o → mW E A s [(a2, .inl (E.2.2.1, L2, .inl f2))] H locs → lv_has ls 7 [(0, .int x0), (2, .ref a2), (5, .int x5), (6, .int x6)] → W p l e ({ frames := 0, cells := 0, slots := 0, locals := 0 } : Room) s m args below meth c H locs 0 0 Q (F0 m 72 ls [])) : ∀ n : Nat, ∀ (x0 : Int32) (x5 : Int32) (f2 : Nat → Int32)  (H : Heap) (locs : List Loc) (ls : Array Slot), L_J6_getChars_ba4f3_22 N L2 k72 x6 n x0 x5 f2 = some o → mW E A s [(a2, .inl (E.2.2.1, L2, .inl f2))] H locs → lv_has ls 7 [(0, .int x0), (2, .ref a2), (5, .int x5), (6, .int x6)] → W p l e ({ frames := 0, cells := 0, slots := 0, locals := 0 } : Room) s m args below meth c H locs 0 0 Q (F0 m 22 ls []) := by
  obtain ⟨hx, hb, hml, hown, hts⟩ := id B.1
  intro n
  induction n with
  | zero =>
    intro x0 x5 f2 H locs ls hf w hl
    exact nomatch hf
  | succ n hrec =>
    intro x0 x5 f2 H locs ls hf w hl
    have hf : K_J6_getChars_ba4f3_22 N L2 (L_J6_getChars_ba4f3_22 N L2 k72 x6 n) k72 x6 x0 x5 f2 = some o := hf
    unfold K_J6_getChars_ba4f3_22 at hf
    refine lv_iload_n hx hb dJ6_getChars_ba4f3_22 rfl (lv_at hl 0 rfl) ?_
    refine lv_bipush (v := (-100)) hx hb dJ6_getChars_ba4f3_23 (by decide) ?_
    refine lv_icmp_gt (tgt := 72) hx hb dJ6_getChars_ba4f3_25 (by decide) (fun hc => ?_) (fun hc => ?_)
    · have hf := it_t hc hf
      exact hk72 _ _ _ _ _ _ hf  w (lv_sub hl [0, 1, 2, 3] rfl)
    · have hf := it_f hc hf
      refine lv_iload_n hx hb dJ6_getChars_ba4f3_28 rfl (lv_at hl 0 rfl) ?_
      refine lv_bipush (v := 100) hx hb dJ6_getChars_ba4f3_29 (by decide) ?_
      refine lv_idiv hx hb dJ6_getChars_ba4f3_31 (by decide) ?_
      refine lv_topi (fun x3_1 ev => ?_)
      have hf := lt_n ev hf; clear ev
      refine lv_istore_n (lv' := [(3, .int x3_1), (0, .int x0), (2, .ref a2), (5, .int x5), (6, .int x6)]) hx hb dJ6_getChars_ba4f3_32 rfl hl (by decide) rfl (fun ls hl => ?_)
      refine lv_iload_n hx hb dJ6_getChars_ba4f3_33 rfl (lv_at hl 0 rfl) ?_
      refine lv_bipush (v := 100) hx hb dJ6_getChars_ba4f3_34 (by decide) ?_
      refine lv_imul hx hb dJ6_getChars_ba4f3_36 ?_
      refine lv_iload_n hx hb dJ6_getChars_ba4f3_37 rfl (lv_at hl 1 rfl) ?_
      refine lv_isub hx hb dJ6_getChars_ba4f3_38 ?_
      refine lv_topi (fun x4_2 ev => ?_)
      have hf := lt_n ev hf; clear ev
      refine lv_istore (lv' := [(4, .int x4_2), (3, .int x3_1), (0, .int x0), (2, .ref a2), (5, .int x5), (6, .int x6)]) hx hb dJ6_getChars_ba4f3_39 hl (by decide) rfl (fun ls hl => ?_)
      refine lv_iload_n hx hb dJ6_getChars_ba4f3_41 rfl (lv_at hl 1 rfl) ?_
      refine lv_istore_n (lv' := [(0, .int x3_1), (4, .int x4_2), (3, .int x3_1), (2, .ref a2), (5, .int x5), (6, .int x6)]) hx hb dJ6_getChars_ba4f3_42 rfl hl (by decide) rfl (fun ls hl => ?_)
      refine lv_aload_n hx hb dJ6_getChars_ba4f3_43 rfl (lv_at hl 3 rfl) ?_
      obtain ⟨x5_3, ev⟩ : ∃ y : Int32, y = x5 + (-1) := ⟨_, rfl⟩
      refine lv_iinc (v := x5_3) (lv' := [(5, .int x5_3), (0, .int x3_1), (4, .int x4_2), (3, .int x3_1), (2, .ref a2), (6, .int x6)]) hx hb dJ6_getChars_ba4f3_44 hl (k := 4) rfl (by rw [ev]; rfl) (by decide) rfl (fun ls hl => ?_)
      have hf := lt_n ev hf; clear ev
      refine lv_iload hx hb dJ6_getChars_ba4f3_47 (lv_at hl 0 rfl) ?_
      refine va_gets hx hb (B.2.2.2.2.2.1.2.2.2.2.2.1.1) w.2.2 hown (hts _ kw_1061) (fun _ h => h) dJ6_getChars_ba4f3_49 ?_
      refine lv_iload hx hb dJ6_getChars_ba4f3_52 (lv_at hl 2 rfl) ?_
      obtain ⟨hin, hf⟩ := ld_e hf
      refine va_tb hx hb (B.2.2.2.2.2.1.2.2.2.2.2.1.2) w.2.2 hin rfl dJ6_getChars_ba4f3_54 ?_
      refine lv_topi (fun v_4 ev => ?_)
      have hf := hf _ ev; clear ev
      obtain ⟨hin, hf⟩ := sto_e hf
      refine mx_bast B w 0 rfl hin dJ6_getChars_ba4f3_55 (fun f2_5 H locs ev w => ?_)
      have hf := hf _ ev; clear ev
      have w : mW E A s [(a2, .inl (E.2.2.1, L2, .inl f2_5))] H locs := w
      refine lv_aload_n hx hb dJ6_getChars_ba4f3_56 rfl (lv_at hl 4 rfl) ?_
      obtain ⟨x5_6, ev⟩ : ∃ y : Int32, y = x5_3 + (-1) := ⟨_, rfl⟩
      refine lv_iinc (v := x5_6) (lv' := [(5, .int x5_6), (0, .int x3_1), (4, .int x4_2), (3, .int x3_1), (2, .ref a2), (6, .int x6)]) hx hb dJ6_getChars_ba4f3_57 hl (k := 0) rfl (by rw [ev]; rfl) (by decide) rfl (fun ls hl => ?_)
      have hf := lt_n ev hf; clear ev
      refine lv_iload hx hb dJ6_getChars_ba4f3_60 (lv_at hl 0 rfl) ?_
      refine va_gets hx hb (B.2.2.2.2.2.1.2.2.2.2.2.2.1.1) w.2.2 hown (hts _ kw_1063) (fun _ h => h) dJ6_getChars_ba4f3_62 ?_
      refine lv_iload hx hb dJ6_getChars_ba4f3_65 (lv_at hl 2 rfl) ?_
      obtain ⟨hin, hf⟩ := ld_e hf
      refine va_tb hx hb (B.2.2.2.2.2.1.2.2.2.2.2.2.1.2) w.2.2 hin rfl dJ6_getChars_ba4f3_67 ?_
      refine lv_topi (fun v_7 ev => ?_)
      have hf := hf _ ev; clear ev
      obtain ⟨hin, hf⟩ := sto_e hf
      refine mx_bast B w 0 rfl hin dJ6_getChars_ba4f3_68 (fun f2_8 H locs ev w => ?_)
      have hf := hf _ ev; clear ev
      have w : mW E A s [(a2, .inl (E.2.2.1, L2, .inl f2_8))] H locs := w
      refine lv_goto (tgt := 22) hx hb dJ6_getChars_ba4f3_69 (by decide) ?_
      exact hrec _ _ _ _ _ _ hf  w (lv_sub hl [1, 4, 0, 5] rfl)
noncomputable def J_J6_getChars_ba4f3_104 (N : Nat) (L2 : Nat)  (x5 : Int32) (x6 : Int32) (f2 : Nat → Int32) : Option (Int32 × (Nat → Int32)) :=
  if (x6 = 0 : Prop) then
  some (x5, f2)
  else
  lt (x5 + (-1)) (fun x5_12 =>
  sto f2 L2 x5_12 (vp_nar .byte 45) (fun f2_13 =>
  some (x5_12, f2_13)))
set_option maxHeartbeats 4000000 in
set_option maxRecDepth 100000 in
theorem j_J6_getChars_ba4f3_104 {E : mE} {l : Launch} {p : Program} {e : Env} {s : State} {m : MethodId} {args : Array Value} {below : List Frame} {meth : Method} {c : Code} {A : Nat → Prop} {Q : State → Prop} {N : Nat} {a2 : Nat} {L2 : Nat} {f20 : Nat → Int32}  {o : Int32 × (Nat → Int32)} (B : mB E yJ6_getChars_ba4f3 cJ6_getChars_ba4f3 7 (some .int) 0 0 (po_J6_getChars_ba4f3 E a2 L2 f20 o) p s m args below meth c A Q) {x5 : Int32} {x6 : Int32} {f2 : Nat → Int32}    {H : Heap} {locs : List Loc} {ls : Array Slot} (hf : J_J6_getChars_ba4f3_104 N L2 x5 x6 f2 = some o)  (w : mW E A s [(a2, .inl (E.2.2.1, L2, .inl f2))] H locs) (hl : lv_has ls 7 [(2, .ref a2), (5, .int x5), (6, .int x6)]) : W p l e ({ frames := 0, cells := 0, slots := 0, locals := 0 } : Room) s m args below meth c H locs 0 0 Q (F0 m 104 ls []) := by
  obtain ⟨hx, hb, hml, hown, hts⟩ := id B.1
  unfold J_J6_getChars_ba4f3_104 at hf
  refine lv_iload hx hb dJ6_getChars_ba4f3_104 (lv_at hl 2 rfl) ?_
  refine lv_if_eq (tgt := 118) hx hb dJ6_getChars_ba4f3_106 (by decide) (fun hc => ?_) (fun hc => ?_)
  · have hf := it_t hc hf
    refine lv_iload hx hb dJ6_getChars_ba4f3_118 (lv_at hl 1 rfl) ?_
    cases hf
    exact mx_iret B w ⟨rfl, rfl⟩ dJ6_getChars_ba4f3_120
  · have hf := it_f hc hf
    refine lv_aload_n hx hb dJ6_getChars_ba4f3_109 rfl (lv_at hl 0 rfl) ?_
    obtain ⟨x5_12, ev⟩ : ∃ y : Int32, y = x5 + (-1) := ⟨_, rfl⟩
    refine lv_iinc (v := x5_12) (lv' := [(5, .int x5_12), (2, .ref a2), (6, .int x6)]) hx hb dJ6_getChars_ba4f3_110 hl (k := 1) rfl (by rw [ev]; rfl) (by decide) rfl (fun ls hl => ?_)
    have hf := lt_n ev hf; clear ev
    refine lv_iload hx hb dJ6_getChars_ba4f3_113 (lv_at hl 0 rfl) ?_
    refine lv_bipush (v := 45) hx hb dJ6_getChars_ba4f3_115 (by decide) ?_
    obtain ⟨hin, hf⟩ := sto_e hf
    refine mx_bast B w 0 rfl hin dJ6_getChars_ba4f3_117 (fun f2_13 H locs ev w => ?_)
    have hf := hf _ ev; clear ev
    have w : mW E A s [(a2, .inl (E.2.2.1, L2, .inl f2_13))] H locs := w
    refine lv_iload hx hb dJ6_getChars_ba4f3_118 (lv_at hl 0 rfl) ?_
    cases hf
    exact mx_iret B w ⟨rfl, rfl⟩ dJ6_getChars_ba4f3_120
noncomputable def J_J6_getChars_ba4f3_12 (N : Nat) (L2 : Nat)  (t0 : Int32) (x0 : Int32) (x5 : Int32) (f2 : Nat → Int32) : Option (Int32 × (Nat → Int32)) :=
  if (t0 = 0 : Prop) then
  lt (-x0) (fun x0_17 =>
  L_J6_getChars_ba4f3_22 N L2 (fun x0 x5 f2 => lt (x5 + (-1)) (fun x5_18 =>
  ld zOnes 100 (-x0) (fun v_19 =>
  sto f2 L2 x5_18 (vp_nar .byte v_19) (fun f2_20 =>
  if (((-9)) ≤ x0 : Prop) then
  J_J6_getChars_ba4f3_104 N L2 x5_18 t0 f2_20
  else
  lt (x5_18 + (-1)) (fun x5_21 =>
  ld zTens 100 (-x0) (fun v_22 =>
  sto f2_20 L2 x5_21 (vp_nar .byte v_22) (fun f2_23 =>
  J_J6_getChars_ba4f3_104 N L2 x5_21 t0 f2_23))))))) t0 N x0_17 x5 f2)
  else
  L_J6_getChars_ba4f3_22 N L2 (fun x0 x5 f2 => lt (x5 + (-1)) (fun x5_9 =>
  ld zOnes 100 (-x0) (fun v_10 =>
  sto f2 L2 x5_9 (vp_nar .byte v_10) (fun f2_11 =>
  if (((-9)) ≤ x0 : Prop) then
  J_J6_getChars_ba4f3_104 N L2 x5_9 t0 f2_11
  else
  lt (x5_9 + (-1)) (fun x5_14 =>
  ld zTens 100 (-x0) (fun v_15 =>
  sto f2_11 L2 x5_14 (vp_nar .byte v_15) (fun f2_16 =>
  J_J6_getChars_ba4f3_104 N L2 x5_14 t0 f2_16))))))) t0 N x0 x5 f2
set_option maxHeartbeats 4000000 in
set_option maxRecDepth 100000 in
theorem j_J6_getChars_ba4f3_12 {E : mE} {l : Launch} {p : Program} {e : Env} {s : State} {m : MethodId} {args : Array Value} {below : List Frame} {meth : Method} {c : Code} {A : Nat → Prop} {Q : State → Prop} {N : Nat} {a2 : Nat} {L2 : Nat} {f20 : Nat → Int32}  {o : Int32 × (Nat → Int32)} (B : mB E yJ6_getChars_ba4f3 cJ6_getChars_ba4f3 7 (some .int) 0 0 (po_J6_getChars_ba4f3 E a2 L2 f20 o) p s m args below meth c A Q) {t0 : Int32} {x0 : Int32} {x5 : Int32} {f2 : Nat → Int32}    {H : Heap} {locs : List Loc} {ls : Array Slot} (hf : J_J6_getChars_ba4f3_12 N L2 t0 x0 x5 f2 = some o)  (w : mW E A s [(a2, .inl (E.2.2.1, L2, .inl f2))] H locs) (hl : lv_has ls 7 [(0, .int x0), (2, .ref a2), (5, .int x5)]) : W p l e ({ frames := 0, cells := 0, slots := 0, locals := 0 } : Room) s m args below meth c H locs 0 0 Q (F0 m 12 ls [.int t0]) := by
  obtain ⟨hx, hb, hml, hown, hts⟩ := id B.1
  unfold J_J6_getChars_ba4f3_12 at hf
  refine lv_istore (lv' := [(6, .int t0), (0, .int x0), (2, .ref a2), (5, .int x5)]) hx hb dJ6_getChars_ba4f3_12 hl (by decide) rfl (fun ls hl => ?_)
  refine lv_iload hx hb dJ6_getChars_ba4f3_14 (lv_at hl 0 rfl) ?_
  refine lv_if_ne (tgt := 22) hx hb dJ6_getChars_ba4f3_16 (by decide) (fun hc => ?_) (fun hc => ?_)
  · have hf := it_f hc hf
    refine l_J6_getChars_ba4f3_22 B _  ?_ N _ _ _ _ _ _ hf  w (lv_sub hl [1, 2, 3, 0] rfl)
    · intro x0 x5 f2 H locs ls hf w hl
      refine lv_aload_n hx hb dJ6_getChars_ba4f3_72 rfl (lv_at hl 1 rfl) ?_
      obtain ⟨x5_9, ev⟩ : ∃ y : Int32, y = x5 + (-1) := ⟨_, rfl⟩
      refine lv_iinc (v := x5_9) (lv' := [(5, .int x5_9), (0, .int x0), (2, .ref a2), (6, .int t0)]) hx hb dJ6_getChars_ba4f3_73 hl (k := 2) rfl (by rw [ev]; rfl) (by decide) rfl (fun ls hl => ?_)
      have hf := lt_n ev hf; clear ev
      refine lv_iload hx hb dJ6_getChars_ba4f3_76 (lv_at hl 0 rfl) ?_
      refine va_gets hx hb (B.2.2.2.2.2.1.2.2.2.2.2.1.1) w.2.2 hown (hts _ kw_1061) (fun _ h => h) dJ6_getChars_ba4f3_78 ?_
      refine lv_iload_n hx hb dJ6_getChars_ba4f3_81 rfl (lv_at hl 1 rfl) ?_
      refine lv_ineg hx hb dJ6_getChars_ba4f3_82 ?_
      obtain ⟨hin, hf⟩ := ld_e hf
      refine va_tb hx hb (B.2.2.2.2.2.1.2.2.2.2.2.1.2) w.2.2 hin rfl dJ6_getChars_ba4f3_83 ?_
      refine lv_topi (fun v_10 ev => ?_)
      have hf := hf _ ev; clear ev
      obtain ⟨hin, hf⟩ := sto_e hf
      refine mx_bast B w 0 rfl hin dJ6_getChars_ba4f3_84 (fun f2_11 H locs ev w => ?_)
      have hf := hf _ ev; clear ev
      have w : mW E A s [(a2, .inl (E.2.2.1, L2, .inl f2_11))] H locs := w
      refine lv_iload_n hx hb dJ6_getChars_ba4f3_85 rfl (lv_at hl 1 rfl) ?_
      refine lv_bipush (v := (-9)) hx hb dJ6_getChars_ba4f3_86 (by decide) ?_
      refine lv_icmp_ge (tgt := 104) hx hb dJ6_getChars_ba4f3_88 (by decide) (fun hc => ?_) (fun hc => ?_)
      · have hf := it_t hc hf
        exact j_J6_getChars_ba4f3_104 B   hf  w (lv_sub hl [2, 0, 3] rfl)
      · have hf := it_f hc hf
        refine lv_aload_n hx hb dJ6_getChars_ba4f3_91 rfl (lv_at hl 2 rfl) ?_
        obtain ⟨x5_14, ev⟩ : ∃ y : Int32, y = x5_9 + (-1) := ⟨_, rfl⟩
        refine lv_iinc (v := x5_14) (lv' := [(5, .int x5_14), (0, .int x0), (2, .ref a2), (6, .int t0)]) hx hb dJ6_getChars_ba4f3_92 hl (k := 0) rfl (by rw [ev]; rfl) (by decide) rfl (fun ls hl => ?_)
        have hf := lt_n ev hf; clear ev
        refine lv_iload hx hb dJ6_getChars_ba4f3_95 (lv_at hl 0 rfl) ?_
        refine va_gets hx hb (B.2.2.2.2.2.1.2.2.2.2.2.2.1.1) w.2.2 hown (hts _ kw_1063) (fun _ h => h) dJ6_getChars_ba4f3_97 ?_
        refine lv_iload_n hx hb dJ6_getChars_ba4f3_100 rfl (lv_at hl 1 rfl) ?_
        refine lv_ineg hx hb dJ6_getChars_ba4f3_101 ?_
        obtain ⟨hin, hf⟩ := ld_e hf
        refine va_tb hx hb (B.2.2.2.2.2.1.2.2.2.2.2.2.1.2) w.2.2 hin rfl dJ6_getChars_ba4f3_102 ?_
        refine lv_topi (fun v_15 ev => ?_)
        have hf := hf _ ev; clear ev
        obtain ⟨hin, hf⟩ := sto_e hf
        refine mx_bast B w 0 rfl hin dJ6_getChars_ba4f3_103 (fun f2_16 H locs ev w => ?_)
        have hf := hf _ ev; clear ev
        have w : mW E A s [(a2, .inl (E.2.2.1, L2, .inl f2_16))] H locs := w
        exact j_J6_getChars_ba4f3_104 B   hf  w (lv_sub hl [2, 0, 3] rfl)
  · have hf := it_t hc hf
    refine lv_iload_n hx hb dJ6_getChars_ba4f3_19 rfl (lv_at hl 1 rfl) ?_
    refine lv_ineg hx hb dJ6_getChars_ba4f3_20 ?_
    refine lv_topi (fun x0_17 ev => ?_)
    have hf := lt_n ev hf; clear ev
    refine lv_istore_n (lv' := [(0, .int x0_17), (6, .int t0), (2, .ref a2), (5, .int x5)]) hx hb dJ6_getChars_ba4f3_21 rfl hl (by decide) rfl (fun ls hl => ?_)
    refine l_J6_getChars_ba4f3_22 B _  ?_ N _ _ _ _ _ _ hf  w (lv_sub hl [0, 2, 3, 1] rfl)
    · intro x0 x5 f2 H locs ls hf w hl
      refine lv_aload_n hx hb dJ6_getChars_ba4f3_72 rfl (lv_at hl 1 rfl) ?_
      obtain ⟨x5_18, ev⟩ : ∃ y : Int32, y = x5 + (-1) := ⟨_, rfl⟩
      refine lv_iinc (v := x5_18) (lv' := [(5, .int x5_18), (0, .int x0), (2, .ref a2), (6, .int t0)]) hx hb dJ6_getChars_ba4f3_73 hl (k := 2) rfl (by rw [ev]; rfl) (by decide) rfl (fun ls hl => ?_)
      have hf := lt_n ev hf; clear ev
      refine lv_iload hx hb dJ6_getChars_ba4f3_76 (lv_at hl 0 rfl) ?_
      refine va_gets hx hb (B.2.2.2.2.2.1.2.2.2.2.2.1.1) w.2.2 hown (hts _ kw_1061) (fun _ h => h) dJ6_getChars_ba4f3_78 ?_
      refine lv_iload_n hx hb dJ6_getChars_ba4f3_81 rfl (lv_at hl 1 rfl) ?_
      refine lv_ineg hx hb dJ6_getChars_ba4f3_82 ?_
      obtain ⟨hin, hf⟩ := ld_e hf
      refine va_tb hx hb (B.2.2.2.2.2.1.2.2.2.2.2.1.2) w.2.2 hin rfl dJ6_getChars_ba4f3_83 ?_
      refine lv_topi (fun v_19 ev => ?_)
      have hf := hf _ ev; clear ev
      obtain ⟨hin, hf⟩ := sto_e hf
      refine mx_bast B w 0 rfl hin dJ6_getChars_ba4f3_84 (fun f2_20 H locs ev w => ?_)
      have hf := hf _ ev; clear ev
      have w : mW E A s [(a2, .inl (E.2.2.1, L2, .inl f2_20))] H locs := w
      refine lv_iload_n hx hb dJ6_getChars_ba4f3_85 rfl (lv_at hl 1 rfl) ?_
      refine lv_bipush (v := (-9)) hx hb dJ6_getChars_ba4f3_86 (by decide) ?_
      refine lv_icmp_ge (tgt := 104) hx hb dJ6_getChars_ba4f3_88 (by decide) (fun hc => ?_) (fun hc => ?_)
      · have hf := it_t hc hf
        exact j_J6_getChars_ba4f3_104 B   hf  w (lv_sub hl [2, 0, 3] rfl)
      · have hf := it_f hc hf
        refine lv_aload_n hx hb dJ6_getChars_ba4f3_91 rfl (lv_at hl 2 rfl) ?_
        obtain ⟨x5_21, ev⟩ : ∃ y : Int32, y = x5_18 + (-1) := ⟨_, rfl⟩
        refine lv_iinc (v := x5_21) (lv' := [(5, .int x5_21), (0, .int x0), (2, .ref a2), (6, .int t0)]) hx hb dJ6_getChars_ba4f3_92 hl (k := 0) rfl (by rw [ev]; rfl) (by decide) rfl (fun ls hl => ?_)
        have hf := lt_n ev hf; clear ev
        refine lv_iload hx hb dJ6_getChars_ba4f3_95 (lv_at hl 0 rfl) ?_
        refine va_gets hx hb (B.2.2.2.2.2.1.2.2.2.2.2.2.1.1) w.2.2 hown (hts _ kw_1063) (fun _ h => h) dJ6_getChars_ba4f3_97 ?_
        refine lv_iload_n hx hb dJ6_getChars_ba4f3_100 rfl (lv_at hl 1 rfl) ?_
        refine lv_ineg hx hb dJ6_getChars_ba4f3_101 ?_
        obtain ⟨hin, hf⟩ := ld_e hf
        refine va_tb hx hb (B.2.2.2.2.2.1.2.2.2.2.2.2.1.2) w.2.2 hin rfl dJ6_getChars_ba4f3_102 ?_
        refine lv_topi (fun v_22 ev => ?_)
        have hf := hf _ ev; clear ev
        obtain ⟨hin, hf⟩ := sto_e hf
        refine mx_bast B w 0 rfl hin dJ6_getChars_ba4f3_103 (fun f2_23 H locs ev w => ?_)
        have hf := hf _ ev; clear ev
        have w : mW E A s [(a2, .inl (E.2.2.1, L2, .inl f2_23))] H locs := w
        exact j_J6_getChars_ba4f3_104 B   hf  w (lv_sub hl [2, 0, 3] rfl)
noncomputable def F_J6_getChars_ba4f3 (N : Nat) (L2 : Nat) (f2 : Nat → Int32) (x0 : Int32) (x1 : Int32) : Option (Int32 × (Nat → Int32)) :=
  if (0 ≤ x0 : Prop) then
  J_J6_getChars_ba4f3_12 N L2 0 x0 x1 f2
  else
  J_J6_getChars_ba4f3_12 N L2 1 x0 x1 f2
set_option maxHeartbeats 4000000 in
set_option maxRecDepth 100000 in
theorem d_J6_getChars_ba4f3 (E : mE) (l : Launch) (N : Nat) (a2 : Nat) (L2 : Nat) (f2 : Nat → Int32)  (x0 : Int32) (x1 : Int32)  (o : Int32 × (Nat → Int32)) (hf : F_J6_getChars_ba4f3 N L2 f2 x0 x1 = some o) : MX E l yJ6_getChars_ba4f3 cJ6_getChars_ba4f3 7 (some .int) ({ frames := 0, cells := 0, slots := 0, locals := 0 } : Room) [.int x0, .int x1, .ref a2] [(a2, .inl (E.2.2.1, L2, .inl f2))] (po_J6_getChars_ba4f3 E a2 L2 f2 o) := by
  refine mx_intro (by decide +kernel) (Nat.le_of_ble_eq_true rfl) ?_
  intro p e s m args below meth c A Q ls B w hl
  obtain ⟨hx, hb, hml, hown, hts⟩ := id B.1
  unfold F_J6_getChars_ba4f3 at hf
  have hl : lv_has ls 7 [(0, .int x0), (1, .int x1), (2, .ref a2)] := hl
  refine lv_iload_n hx hb dJ6_getChars_ba4f3_0 rfl (lv_at hl 1 rfl) ?_
  refine lv_istore (lv' := [(5, .int x1), (0, .int x0), (1, .int x1), (2, .ref a2)]) hx hb dJ6_getChars_ba4f3_1 hl (by decide) rfl (fun ls hl => ?_)
  refine lv_iload_n hx hb dJ6_getChars_ba4f3_3 rfl (lv_at hl 1 rfl) ?_
  refine lv_if_ge (tgt := 11) hx hb dJ6_getChars_ba4f3_4 (by decide) (fun hc => ?_) (fun hc => ?_)
  · have hf := it_t hc hf
    refine lv_iconst (v := 0) hx hb dJ6_getChars_ba4f3_11 (by decide) ?_
    exact j_J6_getChars_ba4f3_12 B   hf  w (lv_sub hl [1, 3, 0] rfl)
  · have hf := it_f hc hf
    refine lv_iconst (v := 1) hx hb dJ6_getChars_ba4f3_7 (by decide) ?_
    refine lv_goto (tgt := 12) hx hb dJ6_getChars_ba4f3_8 (by decide) ?_
    exact j_J6_getChars_ba4f3_12 B   hf  w (lv_sub hl [1, 3, 0] rfl)
