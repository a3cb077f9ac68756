abbrev cX12_puts : ByteArray := prog_14_method_85_code
def yX12_puts : MethodName := ⟨RX12, "puts", "(I)V"⟩
theorem dX12_puts_0 : decode cX12_puts 0 = .ok (.aload_n 0, 1) := by decide +kernel
theorem dX12_puts_1 : decode cX12_puts 1 = .ok (.getfield 20, 3) := by decide +kernel
theorem dX12_puts_4 : decode cX12_puts 4 = .ok (.aload_n 0, 1) := by decide +kernel
theorem dX12_puts_5 : decode cX12_puts 5 = .ok (.getfield 228, 3) := by decide +kernel
theorem dX12_puts_8 : decode cX12_puts 8 = .ok (.iload_n 1, 1) := by decide +kernel
theorem dX12_puts_9 : decode cX12_puts 9 = .ok (.iastore, 1) := by decide +kernel
theorem dX12_puts_10 : decode cX12_puts 10 = .ok (.aload_n 0, 1) := by decide +kernel
theorem dX12_puts_11 : decode cX12_puts 11 = .ok (.dup, 1) := by decide +kernel
theorem dX12_puts_12 : decode cX12_puts 12 = .ok (.getfield 228, 3) := by decide +kernel
theorem dX12_puts_15 : decode cX12_puts 15 = .ok (.iconst 1, 1) := by decide +kernel
theorem dX12_puts_16 : decode cX12_puts 16 = .ok (.iadd, 1) := by decide +kernel
theorem dX12_puts_17 : decode cX12_puts 17 = .ok (.putfield 228, 3) := by decide +kernel
theorem dX12_puts_20 : decode cX12_puts 20 = .ok (.return_, 1) := by decide +kernel
theorem kw_1234 : Cond.fieldLink "FrequencyShelfModel" 228 "FrequencyShelfModel" "writtenMany" "I" ∈ TB := tb_at 1234 (by decide +kernel) (by decide +kernel)
theorem fl_X12_228 : mF RX12 228 11 7 := ⟨RX12, TX12, 14, tyX12, rfl, by decide, in_X12, kw_1234, tyX12_ok, nmX12⟩
theorem fi_X12_7 : mFi 11 7 := fun _ _ _ h => by cases h; exact ⟨rfl, by decide +kernel⟩
abbrev cX12_putsNumber : ByteArray := prog_14_method_86_code
def yX12_putsNumber : MethodName := ⟨RX12, "putsNumbe\x72", "(I)V"⟩
theorem dX12_putsNumber_0 : decode cX12_putsNumber 0 = .ok (.iconst 1, 1) := by decide +kernel
theorem dX12_putsNumber_1 : decode cX12_putsNumber 1 = .ok (.istore_n 2, 1) := by decide +kernel
theorem dX12_putsNumber_2 : decode cX12_putsNumber 2 = .ok (.iload_n 1, 1) := by decide +kernel
theorem dX12_putsNumber_3 : decode cX12_putsNumber 3 = .ok (.iload_n 2, 1) := by decide +kernel
theorem dX12_putsNumber_4 : decode cX12_putsNumber 4 = .ok (.idiv, 1) := by decide +kernel
theorem dX12_putsNumber_5 : decode cX12_putsNumber 5 = .ok (.bipush 10, 2) := by decide +kernel
theorem dX12_putsNumber_7 : decode cX12_putsNumber 7 = .ok (.if_icmp .lt 11, 3) := by decide +kernel
theorem dX12_putsNumber_10 : decode cX12_putsNumber 10 = .ok (.iload_n 2, 1) := by decide +kernel
theorem dX12_putsNumber_11 : decode cX12_putsNumber 11 = .ok (.bipush 10, 2) := by decide +kernel
theorem dX12_putsNumber_13 : decode cX12_putsNumber 13 = .ok (.imul, 1) := by decide +kernel
theorem dX12_putsNumber_14 : decode cX12_putsNumber 14 = .ok (.istore_n 2, 1) := by decide +kernel
theorem dX12_putsNumber_15 : decode cX12_putsNumber 15 = .ok (.goto (-13), 3) := by decide +kernel
theorem dX12_putsNumber_18 : decode cX12_putsNumber 18 = .ok (.iload_n 2, 1) := by decide +kernel
theorem dX12_putsNumber_19 : decode cX12_putsNumber 19 = .ok (.ifCond .le 24, 3) := by decide +kernel
theorem dX12_putsNumber_22 : decode cX12_putsNumber 22 = .ok (.aload_n 0, 1) := by decide +kernel
theorem dX12_putsNumber_23 : decode cX12_putsNumber 23 = .ok (.bipush 48, 2) := by decide +kernel
theorem dX12_putsNumber_25 : decode cX12_putsNumber 25 = .ok (.iload_n 1, 1) := by decide +kernel
theorem dX12_putsNumber_26 : decode cX12_putsNumber 26 = .ok (.iload_n 2, 1) := by decide +kernel
theorem dX12_putsNumber_27 : decode cX12_putsNumber 27 = .ok (.idiv, 1) := by decide +kernel
theorem dX12_putsNumber_28 : decode cX12_putsNumber 28 = .ok (.bipush 10, 2) := by decide +kernel
theorem dX12_putsNumber_30 : decode cX12_putsNumber 30 = .ok (.irem, 1) := by decide +kernel
theorem dX12_putsNumber_31 : decode cX12_putsNumber 31 = .ok (.iadd, 1) := by decide +kernel
theorem dX12_putsNumber_32 : decode cX12_putsNumber 32 = .ok (.invokevirtual 231, 3) := by decide +kernel
theorem dX12_putsNumber_35 : decode cX12_putsNumber 35 = .ok (.iload_n 2, 1) := by decide +kernel
theorem dX12_putsNumber_36 : decode cX12_putsNumber 36 = .ok (.bipush 10, 2) := by decide +kernel
theorem dX12_putsNumber_38 : decode cX12_putsNumber 38 = .ok (.idiv, 1) := by decide +kernel
theorem dX12_putsNumber_39 : decode cX12_putsNumber 39 = .ok (.istore_n 2, 1) := by decide +kernel
theorem dX12_putsNumber_40 : decode cX12_putsNumber 40 = .ok (.goto (-22), 3) := by decide +kernel
theorem dX12_putsNumber_43 : decode cX12_putsNumber 43 = .ok (.return_, 1) := by decide +kernel
theorem kw_1595 : Cond.methodLink "FrequencyShelfModel" 231 yX12_puts ∈ TB := tb_at 1595 (by decide +kernel) (by decide +kernel)
theorem kw_1598 : Cond.code yX12_puts cX12_puts 2 none ∈ TB := tb_at 1598 (by decide +kernel) (by decide +kernel)
theorem kw_1597 : Cond.instanceMethod yX12_puts ∈ TB := tb_at 1597 (by decide +kernel) (by decide +kernel)
theorem kw_57 : Cond.selects "FrequencyShelfModel" yX12_puts yX12_puts ∈ TB := tb_at 57 (by decide +kernel) (by decide +kernel)
theorem cv_X12_puts : Cond.code yX12_puts cX12_puts 2 none ∈ TB ∧ Cond.instanceMethod yX12_puts ∈ TB ∧ Cond.selects "FrequencyShelfModel" yX12_puts yX12_puts ∈ TB ∧ Cond.initialized "FrequencyShelfModel" ∈ TB := ⟨kw_1598, kw_1597, kw_57, kw_75⟩
-- X12_puts
def po_X12_puts (E : mE) (h : Nat) (a_g : Nat) (a_kept : Nat) (a_tape : Nat) (a_written : Nat) (a_asked : Nat) (a_there : Nat) (a_counts : Nat) (a_lasts : Nat) (a_cames : Nat)  (g : Nat → Int32) (kept : Nat → Int32) (isKept : Int32) (tape : Nat → Int32) (taped : Int32) (spot : Int32) (written : Nat → Int32) (writtenMany : Int32) (asked : Nat → Int32) (askedMany : Int32) (there : Nat → Int32) (counts : Nat → Int32) (lasts : Nat → Int32) (cames : Nat → Int32)  (o : (Nat → Int32) × Int32) : Option Value → va_W → Prop := (fun (v : Option Value) (w' : va_W) => v = none ∧ w' = [(h, .inr (11, [.ref a_g, .ref a_kept, .int isKept, .ref a_tape, .int taped, .int spot, .ref a_written, .int o.2, .ref a_asked, .int askedMany, .ref a_there, .ref a_counts, .ref a_lasts, .ref a_cames])), (a_g, .inl (E.2.1, 8787, .inl g)), (a_kept, .inl (E.2.1, 8787, .inl kept)), (a_tape, .inl (E.2.2.1, 60, .inl tape)), (a_written, .inl (E.2.1, 40, .inl o.1)), (a_asked, .inl (E.2.1, 60, .inl asked)), (a_there, .inl (E.2.1, 12, .inl there)), (a_counts, .inl (E.2.1, 12, .inl counts)), (a_lasts, .inl (E.2.1, 12, .inl lasts)), (a_cames, .inl (E.2.1, 12, .inl cames))])
noncomputable def F_X12_puts  (written : Nat → Int32) (writtenMany : Int32) (x1 : Int32) : Option ((Nat → Int32) × Int32) :=
  sto written 40 writtenMany x1 (fun written_1 =>
  lt ((writtenMany + 1)) (fun writtenMany_2 =>
  some (written_1, writtenMany_2)))
set_option maxHeartbeats 4000000 in
set_option maxRecDepth 100000 in
theorem d_X12_puts (E : mE) (l : Launch) (h : Nat) (a_g : Nat) (a_kept : Nat) (a_tape : Nat) (a_written : Nat) (a_asked : Nat) (a_there : Nat) (a_counts : Nat) (a_lasts : Nat) (a_cames : Nat)  (g : Nat → Int32) (kept : Nat → Int32) (isKept : Int32) (tape : Nat → Int32) (taped : Int32) (spot : Int32) (written : Nat → Int32) (writtenMany : Int32) (asked : Nat → Int32) (askedMany : Int32) (there : Nat → Int32) (counts : Nat → Int32) (lasts : Nat → Int32) (cames : Nat → Int32)  (x1 : Int32)  (o : (Nat → Int32) × Int32) (hf : F_X12_puts written writtenMany x1 = some o) : MX E l yX12_puts cX12_puts 2 none ({ frames := 0, cells := 0, slots := 0, locals := 0 } : Room) [.ref h, .int x1] [(h, .inr (11, [.ref a_g, .ref a_kept, .int isKept, .ref a_tape, .int taped, .int spot, .ref a_written, .int writtenMany, .ref a_asked, .int askedMany, .ref a_there, .ref a_counts, .ref a_lasts, .ref a_cames])), (a_g, .inl (E.2.1, 8787, .inl g)), (a_kept, .inl (E.2.1, 8787, .inl kept)), (a_tape, .inl (E.2.2.1, 60, .inl tape)), (a_written, .inl (E.2.1, 40, .inl written)), (a_asked, .inl (E.2.1, 60, .inl asked)), (a_there, .inl (E.2.1, 12, .inl there)), (a_counts, .inl (E.2.1, 12, .inl counts)), (a_lasts, .inl (E.2.1, 12, .inl lasts)), (a_cames, .inl (E.2.1, 12, .inl cames))] (po_X12_puts E h a_g a_kept a_tape a_written a_asked a_there a_counts a_lasts a_cames g kept isKept tape taped spot written writtenMany asked askedMany there counts lasts cames o) := by
  refine mx_intro (by decide +kernel) (Nat.le_of_ble_eq_true rfl) ?_
  intro p e s m args below meth c A Q ls B w hl
  obtain ⟨hx, hb, hml, hown, hts⟩ := id B.1
  unfold F_X12_puts at hf
  have hl : lv_has ls 2 [(0, .ref h), (1, .int x1)] := hl
  refine lv_aload_n hx hb dX12_puts_0 rfl (lv_at hl 0 rfl) ?_
  refine mx_get B w 0 fl_X12_20 rfl rfl dX12_puts_1 ?_
  refine lv_aload_n hx hb dX12_puts_4 rfl (lv_at hl 0 rfl) ?_
  refine mx_get B w 0 fl_X12_228 rfl rfl dX12_puts_5 ?_
  refine lv_iload_n hx hb dX12_puts_8 rfl (lv_at hl 1 rfl) ?_
  obtain ⟨hin, hf⟩ := sto_e hf
  refine mx_iast B w 4 rfl hin dX12_puts_9 (fun written_1 H locs ev w => ?_)
  have hf := hf _ ev; clear ev
  have w : mW E A s [(h, .inr (11, [.ref a_g, .ref a_kept, .int isKept, .ref a_tape, .int taped, .int spot, .ref a_written, .int writtenMany, .ref a_asked, .int askedMany, .ref a_there, .ref a_counts, .ref a_lasts, .ref a_cames])), (a_g, .inl (E.2.1, 8787, .inl g)), (a_kept, .inl (E.2.1, 8787, .inl kept)), (a_tape, .inl (E.2.2.1, 60, .inl tape)), (a_written, .inl (E.2.1, 40, .inl written_1)), (a_asked, .inl (E.2.1, 60, .inl asked)), (a_there, .inl (E.2.1, 12, .inl there)), (a_counts, .inl (E.2.1, 12, .inl counts)), (a_lasts, .inl (E.2.1, 12, .inl lasts)), (a_cames, .inl (E.2.1, 12, .inl cames))] H locs := w
  refine lv_aload_n hx hb dX12_puts_10 rfl (lv_at hl 0 rfl) ?_
  refine lv_dup hx hb dX12_puts_11 rfl ?_
  refine mx_get B w 0 fl_X12_228 rfl rfl dX12_puts_12 ?_
  refine lv_iconst (v := 1) hx hb dX12_puts_15 (by decide) ?_
  refine lv_iadd hx hb dX12_puts_16 ?_
  refine mx_puti B w 0 fl_X12_228 fi_X12_7 rfl (Nat.le_of_ble_eq_true rfl) dX12_puts_17 (fun writtenMany_2 H locs ev w => ?_)
  have hf := lt_n ev hf; clear ev
  have w : mW E A s [(h, .inr (11, [.ref a_g, .ref a_kept, .int isKept, .ref a_tape, .int taped, .int spot, .ref a_written, .int writtenMany_2, .ref a_asked, .int askedMany, .ref a_there, .ref a_counts, .ref a_lasts, .ref a_cames])), (a_g, .inl (E.2.1, 8787, .inl g)), (a_kept, .inl (E.2.1, 8787, .inl kept)), (a_tape, .inl (E.2.2.1, 60, .inl tape)), (a_written, .inl (E.2.1, 40, .inl written_1)), (a_asked, .inl (E.2.1, 60, .inl asked)), (a_there, .inl (E.2.1, 12, .inl there)), (a_counts, .inl (E.2.1, 12, .inl counts)), (a_lasts, .inl (E.2.1, 12, .inl lasts)), (a_cames, .inl (E.2.1, 12, .inl cames))] H locs := w
  cases hf
  exact mx_vret B w ⟨rfl, rfl⟩ dX12_puts_20
-- X12_putsNumber
def po_X12_putsNumber (E : mE) (h : Nat) (a_g : Nat) (a_kept : Nat) (a_tape : Nat) (a_written : Nat) (a_asked : Nat) (a_there : Nat) (a_counts : Nat) (a_lasts : Nat) (a_cames : Nat)  (g : Nat → Int32) (kept : Nat → Int32) (isKept : Int32) (tape : Nat → Int32) (taped : Int32) (spot : Int32) (written : Nat → Int32) (writtenMany : Int32) (asked : Nat → Int32) (askedMany : Int32) (there : Nat → Int32) (counts : Nat → Int32) (lasts : Nat → Int32) (cames : Nat → Int32)  (o : (Nat → Int32) × Int32) : Option Value → va_W → Prop := (fun (v : Option Value) (w' : va_W) => v = none ∧ w' = [(h, .inr (11, [.ref a_g, .ref a_kept, .int isKept, .ref a_tape, .int taped, .int spot, .ref a_written, .int o.2, .ref a_asked, .int askedMany, .ref a_there, .ref a_counts, .ref a_lasts, .ref a_cames])), (a_g, .inl (E.2.1, 8787, .inl g)), (a_kept, .inl (E.2.1, 8787, .inl kept)), (a_tape, .inl (E.2.2.1, 60, .inl tape)), (a_written, .inl (E.2.1, 40, .inl o.1)), (a_asked, .inl (E.2.1, 60, .inl asked)), (a_there, .inl (E.2.1, 12, .inl there)), (a_counts, .inl (E.2.1, 12, .inl counts)), (a_lasts, .inl (E.2.1, 12, .inl lasts)), (a_cames, .inl (E.2.1, 12, .inl cames))])
noncomputable def K_X12_putsNumber_2 (N : Nat)  (rec : Int32 → (Option ((Nat → Int32) × Int32))) (k18 : Int32 → (Option ((Nat → Int32) × Int32))) (x1 : Int32) (written : Nat → Int32) (writtenMany : Int32) (x2 : Int32)  : Option ((Nat → Int32) × Int32) :=
  ck (¬ x2 = 0) (if ((x1 / x2) < 10 : Prop) then
  k18 x2
  else
  lt (x2 * 10) (fun x2_1 =>
  rec x2_1))
noncomputable def L_X12_putsNumber_2 (N : Nat)  (k18 : Int32 → (Option ((Nat → Int32) × Int32))) (x1 : Int32) (written : Nat → Int32) (writtenMany : Int32) (n : Nat) : Int32 → (Option ((Nat → Int32) × Int32)) :=
  Nat.rec (motive := fun _ => Int32 → (Option ((Nat → Int32) × Int32))) (fun _ => none) (fun _ rec => K_X12_putsNumber_2 N rec k18 x1 written writtenMany) n
set_option maxHeartbeats 4000000 in
set_option maxRecDepth 100000 in
theorem l_X12_putsNumber_2 {E : mE} {l : Launch} {p : Program} {e : Env} {s : State} {m : MethodId} {args : Array Value} {below : List Frame} {meth : Method} {c : Code} {A : Nat → Prop} {Q : State → Prop} {N : Nat} {h : Nat} {a_g : Nat} {a_kept : Nat} {a_tape : Nat} {a_written : Nat} {a_asked : Nat} {a_there : Nat} {a_counts : Nat} {a_lasts : Nat} {a_cames : Nat}  {g : Nat → Int32} {kept : Nat → Int32} {isKept : Int32} {tape : Nat → Int32} {taped : Int32} {spot : Int32} {written0 : Nat → Int32} {writtenMany0 : Int32} {asked : Nat → Int32} {askedMany : Int32} {there : Nat → Int32} {counts : Nat → Int32} {lasts : Nat → Int32} {cames : Nat → Int32}  {o : (Nat → Int32) × Int32} (B : mB E yX12_putsNumber cX12_putsNumber 3 none 0 0 (po_X12_putsNumber E h a_g a_kept a_tape a_written a_asked a_there a_counts a_lasts a_cames g kept isKept tape taped spot written0 writtenMany0 asked askedMany there counts lasts cames o) p s m args below meth c A Q) {written : Nat → Int32} {writtenMany : Int32}  {x1 : Int32} (k18 : Int32 → (Option ((Nat → Int32) × Int32)))  (hk18 : ∀ (x2 : Int32)   (H : Heap) (locs : List Loc) (ls : Array Slot), k18 x2 = some o → mW E A s [(h, .inr (11, [.ref a_g, .ref a_kept, .int isKept, .ref a_tape, .int taped, .int spot, .ref a_written, .int writtenMany, .ref a_asked, .int askedMany, .ref a_there, .ref a_counts, .ref a_lasts, .ref a_cames])), (a_g, .inl (E.2.1, 8787, .inl g)), (a_kept, .inl (E.2.1, 8787, .inl kept)), (a_tape, .inl (E.2.2.1, 60, .inl tape)), (a_written, .inl (E.2.1, 40, .inl written)), (a_asked, .inl (E.2.1, 60, .inl asked)), (a_there, .inl (E.2.1, 12, .inl there)), (a_counts, .inl (E.2.1, 12, .inl counts)), (a_lasts, .inl (E.2.1, 12, .inl lasts)), (a_cames, .inl (E.2.1, 12, .inl cames))] H locs → lv_has ls 3 [(0, .ref h), (1, .int x1), (2, .int x2)] → W p l e ({ frames := 1, cells := 0, slots := 0, locals := 21 } : Room) s m args below meth c H locs 0 0 Q (F0 m 18 ls [])) : ∀ n : Nat, ∀ (x2 : Int32)   (H : Heap) (locs : List Loc) (ls : Array Slot), L_X12_putsNumber_2 N k18 x1 written writtenMany n x2 = some o → mW E A s [(h, .inr (11, [.ref a_g, .ref a_kept, .int isKept, .ref a_tape, .int taped, .int spot, .ref a_written, .int writtenMany, .ref a_asked, .int askedMany, .ref a_there, .ref a_counts, .ref a_lasts, .ref a_cames])), (a_g, .inl (E.2.1, 8787, .inl g)), (a_kept, .inl (E.2.1, 8787, .inl kept)), (a_tape, .inl (E.2.2.1, 60, .inl tape)), (a_written, .inl (E.2.1, 40, .inl written)), (a_asked, .inl (E.2.1, 60, .inl asked)), (a_there, .inl (E.2.1, 12, .inl there)), (a_counts, .inl (E.2.1, 12, .inl counts)), (a_lasts, .inl (E.2.1, 12, .inl lasts)), (a_cames, .inl (E.2.1, 12, .inl cames))] H locs → lv_has ls 3 [(0, .ref h), (1, .int x1), (2, .int x2)] → W p l e ({ frames := 1, cells := 0, slots := 0, locals := 21 } : Room) s m args below meth c H locs 0 0 Q (F0 m 2 ls []) := by
  obtain ⟨hx, hb, hml, hown, hts⟩ := id B.1
  intro n
  induction n with
  | zero =>
    intro x2 H locs ls hf w hl
    exact nomatch hf
  | succ n hrec =>
    intro x2 H locs ls hf w hl
    have hf : K_X12_putsNumber_2 N (L_X12_putsNumber_2 N k18 x1 written writtenMany n) k18 x1 written writtenMany x2 = some o := hf
    unfold K_X12_putsNumber_2 at hf
    refine lv_iload_n hx hb dX12_putsNumber_2 rfl (lv_at hl 1 rfl) ?_
    refine lv_iload_n hx hb dX12_putsNumber_3 rfl (lv_at hl 2 rfl) ?_
    obtain ⟨hne, hf⟩ := ck_e hf
    refine lv_idiv hx hb dX12_putsNumber_4 hne ?_
    refine lv_bipush (v := 10) hx hb dX12_putsNumber_5 (by decide) ?_
    refine lv_icmp_lt (tgt := 18) hx hb dX12_putsNumber_7 (by decide) (fun hc => ?_) (fun hc => ?_)
    · have hf := it_t hc hf
      exact hk18 _ _ _ _ hf  w (lv_sub hl [0, 1, 2] rfl)
    · have hf := it_f hc hf
      refine lv_iload_n hx hb dX12_putsNumber_10 rfl (lv_at hl 2 rfl) ?_
      refine lv_bipush (v := 10) hx hb dX12_putsNumber_11 (by decide) ?_
      refine lv_imul hx hb dX12_putsNumber_13 ?_
      refine lv_topi (fun x2_1 ev => ?_)
      have hf := lt_n ev hf; clear ev
      refine lv_istore_n (lv' := [(2, .int x2_1), (0, .ref h), (1, .int x1)]) hx hb dX12_putsNumber_14 rfl hl (by decide) rfl (fun ls hl => ?_)
      refine lv_goto (tgt := 2) hx hb dX12_putsNumber_15 (by decide) ?_
      exact hrec _ _ _ _ hf  w (lv_sub hl [1, 2, 0] rfl)
noncomputable def K_X12_putsNumber_18 (N : Nat)  (rec : Int32 → (Nat → Int32) → Int32 → (Option ((Nat → Int32) × Int32))) (k43 : (Nat → Int32) → Int32 → (Option ((Nat → Int32) × Int32))) (x1 : Int32)  (x2 : Int32) (written : Nat → Int32) (writtenMany : Int32) : Option ((Nat → Int32) × Int32) :=
  if (x2 ≤ 0 : Prop) then
  k43 written writtenMany
  else
  ck (¬ x2 = 0) (bd (F_X12_puts written writtenMany (48 + (irm (x1 / x2) 10))) (fun o_2 =>
  lt (x2 / 10) (fun x2_3 =>
  rec x2_3 o_2.1 o_2.2)))
noncomputable def L_X12_putsNumber_18 (N : Nat)  (k43 : (Nat → Int32) → Int32 → (Option ((Nat → Int32) × Int32))) (x1 : Int32)  (n : Nat) : Int32 → (Nat → Int32) → Int32 → (Option ((Nat → Int32) × Int32)) :=
  Nat.rec (motive := fun _ => Int32 → (Nat → Int32) → Int32 → (Option ((Nat → Int32) × Int32))) (fun _ _ _ => none) (fun _ rec => K_X12_putsNumber_18 N rec k43 x1) n
set_option maxHeartbeats 4000000 in
set_option maxRecDepth 100000 in
theorem l_X12_putsNumber_18 {E : mE} {l : Launch} {p : Program} {e : Env} {s : State} {m : MethodId} {args : Array Value} {below : List Frame} {meth : Method} {c : Code} {A : Nat → Prop} {Q : State → Prop} {N : Nat} {h : Nat} {a_g : Nat} {a_kept : Nat} {a_tape : Nat} {a_written : Nat} {a_asked : Nat} {a_there : Nat} {a_counts : Nat} {a_lasts : Nat} {a_cames : Nat}  {g : Nat → Int32} {kept : Nat → Int32} {isKept : Int32} {tape : Nat → Int32} {taped : Int32} {spot : Int32} {written0 : Nat → Int32} {writtenMany0 : Int32} {asked : Nat → Int32} {askedMany : Int32} {there : Nat → Int32} {counts : Nat → Int32} {lasts : Nat → Int32} {cames : Nat → Int32}  {o : (Nat → Int32) × Int32} (B : mB E yX12_putsNumber cX12_putsNumber 3 none 0 0 (po_X12_putsNumber E h a_g a_kept a_tape a_written a_asked a_there a_counts a_lasts a_cames g kept isKept tape taped spot written0 writtenMany0 asked askedMany there counts lasts cames o) p s m args below meth c A Q)   {x1 : Int32} (k43 : (Nat → Int32) → Int32 → (Option ((Nat → Int32) × Int32)))  (hk43 : ∀  (written : Nat → Int32) (writtenMany : Int32)  (H : Heap) (locs : List Loc) (ls : Array Slot), k43 written writtenMany = some o → mW E A s [(h, .inr (11, [.ref a_g, .ref a_kept, .int isKept, .ref a_tape, .int taped, .int spot, .ref a_written, .int writtenMany, .ref a_asked, .int askedMany, .ref a_there, .ref a_counts, .ref a_lasts, .ref a_cames])), (a_g, .inl (E.2.1, 8787, .inl g)), (a_kept, .inl (E.2.1, 8787, .inl kept)), (a_tape, .inl (E.2.2.1, 60, .inl tape)), (a_written, .inl (E.2.1, 40, .inl written)), (a_asked, .inl (E.2.1, 60, .inl asked)), (a_there, .inl (E.2.1, 12, .inl there)), (a_counts, .inl (E.2.1, 12, .inl counts)), (a_lasts, .inl (E.2.1, 12, .inl lasts)), (a_cames, .inl (E.2.1, 12, .inl cames))] H locs → lv_has ls 3 [] → W p l e ({ frames := 1, cells := 0, slots := 0, locals := 21 } : Room) s m args below meth c H locs 0 0 Q (F0 m 43 ls [])) : ∀ n : Nat, ∀ (x2 : Int32) (written : Nat → Int32) (writtenMany : Int32)  (H : Heap) (locs : List Loc) (ls : Array Slot), L_X12_putsNumber_18 N k43 x1 n x2 written writtenMany = some o → mW E A s [(h, .inr (11, [.ref a_g, .ref a_kept, .int isKept, .ref a_tape, .int taped, .int spot, .ref a_written, .int writtenMany, .ref a_asked, .int askedMany, .ref a_there, .ref a_counts, .ref a_lasts, .ref a_cames])), (a_g, .inl (E.2.1, 8787, .inl g)), (a_kept, .inl (E.2.1, 8787, .inl kept)), (a_tape, .inl (E.2.2.1, 60, .inl tape)), (a_written, .inl (E.2.1, 40, .inl written)), (a_asked, .inl (E.2.1, 60, .inl asked)), (a_there, .inl (E.2.1, 12, .inl there)), (a_counts, .inl (E.2.1, 12, .inl counts)), (a_lasts, .inl (E.2.1, 12, .inl lasts)), (a_cames, .inl (E.2.1, 12, .inl cames))] H locs → lv_has ls 3 [(0, .ref h), (1, .int x1), (2, .int x2)] → W p l e ({ frames := 1, cells := 0, slots := 0, locals := 21 } : Room) s m args below meth c H locs 0 0 Q (F0 m 18 ls []) := by
  obtain ⟨hx, hb, hml, hown, hts⟩ := id B.1
  intro n
  induction n with
  | zero =>
    intro x2 written writtenMany H locs ls hf w hl
    exact nomatch hf
  | succ n hrec =>
    intro x2 written writtenMany H locs ls hf w hl
    have hf : K_X12_putsNumber_18 N (L_X12_putsNumber_18 N k43 x1 n) k43 x1 x2 written writtenMany = some o := hf
    unfold K_X12_putsNumber_18 at hf
    refine lv_iload_n hx hb dX12_putsNumber_18 rfl (lv_at hl 2 rfl) ?_
    refine lv_if_le (tgt := 43) hx hb dX12_putsNumber_19 (by decide) (fun hc => ?_) (fun hc => ?_)
    · have hf := it_t hc hf
      exact hk43 _ _ _ _ _ hf  w (lv_sub hl [] rfl)
    · have hf := it_f hc hf
      refine lv_aload_n hx hb dX12_putsNumber_22 rfl (lv_at hl 0 rfl) ?_
      refine lv_bipush (v := 48) hx hb dX12_putsNumber_23 (by decide) ?_
      refine lv_iload_n hx hb dX12_putsNumber_25 rfl (lv_at hl 1 rfl) ?_
      refine lv_iload_n hx hb dX12_putsNumber_26 rfl (lv_at hl 2 rfl) ?_
      obtain ⟨hne, hf⟩ := ck_e hf
      refine lv_idiv hx hb dX12_putsNumber_27 hne ?_
      refine lv_bipush (v := 10) hx hb dX12_putsNumber_28 (by decide) ?_
      refine lv_irem hx hb dX12_putsNumber_30 (by decide) ?_
      refine lv_iadd hx hb dX12_putsNumber_31 ?_
      obtain ⟨o_2, hq, hf⟩ := bd_e hf
      refine mx_callV (As := [.int (48 + (irm (x1 / x2) 10))]) (rest := []) (wr := []) (d_X12_puts E l  h a_g a_kept a_tape a_written a_asked a_there a_counts a_lasts a_cames g kept isKept tape taped spot written writtenMany asked askedMany there counts lasts cames (48 + (irm (x1 / x2) 10))  o_2 hq) B w [0, 1, 2, 3, 4, 5, 6, 7, 8, 9] [] rfl rfl (by decide) (by decide) (by decide) 0 rfl rfl cv_X12_puts kw_1595 1 (by decide +kernel) ⟨Nat.le_of_ble_eq_true rfl, Nat.le_of_ble_eq_true rfl⟩ rfl hl.1 rfl (Nat.le_of_ble_eq_true rfl) dX12_putsNumber_32 rfl rfl ⟨Nat.zero_le _, Nat.zero_le _⟩ (fun v w' H locs hpo w => ?_)
      clear hq
      obtain ⟨rfl, rfl⟩ := hpo
      have w : mW E A s [(h, .inr (11, [.ref a_g, .ref a_kept, .int isKept, .ref a_tape, .int taped, .int spot, .ref a_written, .int o_2.2, .ref a_asked, .int askedMany, .ref a_there, .ref a_counts, .ref a_lasts, .ref a_cames])), (a_g, .inl (E.2.1, 8787, .inl g)), (a_kept, .inl (E.2.1, 8787, .inl kept)), (a_tape, .inl (E.2.2.1, 60, .inl tape)), (a_written, .inl (E.2.1, 40, .inl o_2.1)), (a_asked, .inl (E.2.1, 60, .inl asked)), (a_there, .inl (E.2.1, 12, .inl there)), (a_counts, .inl (E.2.1, 12, .inl counts)), (a_lasts, .inl (E.2.1, 12, .inl lasts)), (a_cames, .inl (E.2.1, 12, .inl cames))] H locs := w
      refine lv_iload_n hx hb dX12_putsNumber_35 rfl (lv_at hl 2 rfl) ?_
      refine lv_bipush (v := 10) hx hb dX12_putsNumber_36 (by decide) ?_
      refine lv_idiv hx hb dX12_putsNumber_38 (by decide) ?_
      refine lv_topi (fun x2_3 ev => ?_)
      have hf := lt_n ev hf; clear ev
      refine lv_istore_n (lv' := [(2, .int x2_3), (0, .ref h), (1, .int x1)]) hx hb dX12_putsNumber_39 rfl hl (by decide) rfl (fun ls hl => ?_)
      refine lv_goto (tgt := 18) hx hb dX12_putsNumber_40 (by decide) ?_
      exact hrec _ _ _ _ _ _ hf  w (lv_sub hl [1, 2, 0] rfl)
noncomputable def F_X12_putsNumber (N : Nat)  (written : Nat → Int32) (writtenMany : Int32) (x1 : Int32) : Option ((Nat → Int32) × Int32) :=
  L_X12_putsNumber_2 N (fun x2 => L_X12_putsNumber_18 N (fun written writtenMany => some (written, writtenMany)) x1 N x2 written writtenMany) x1 written writtenMany N 1
set_option maxHeartbeats 4000000 in
set_option maxRecDepth 100000 in
theorem d_X12_putsNumber (E : mE) (l : Launch) (N : Nat) (h : Nat) (a_g : Nat) (a_kept : Nat) (a_tape : Nat) (a_written : Nat) (a_asked : Nat) (a_there : Nat) (a_counts : Nat) (a_lasts : Nat) (a_cames : Nat)  (g : Nat → Int32) (kept : Nat → Int32) (isKept : Int32) (tape : Nat → Int32) (taped : Int32) (spot : Int32) (written : Nat → Int32) (writtenMany : Int32) (asked : Nat → Int32) (askedMany : Int32) (there : Nat → Int32) (counts : Nat → Int32) (lasts : Nat → Int32) (cames : Nat → Int32)  (x1 : Int32)  (o : (Nat → Int32) × Int32) (hf : F_X12_putsNumber N written writtenMany x1 = some o) : MX E l yX12_putsNumber cX12_putsNumber 3 none ({ frames := 1, cells := 0, slots := 0, locals := 21 } : Room) [.ref h, .int x1] [(h, .inr (11, [.ref a_g, .ref a_kept, .int isKept, .ref a_tape, .int taped, .int spot, .ref a_written, .int writtenMany, .ref a_asked, .int askedMany, .ref a_there, .ref a_counts, .ref a_lasts, .ref a_cames])), (a_g, .inl (E.2.1, 8787, .inl g)), (a_kept, .inl (E.2.1, 8787, .inl kept)), (a_tape, .inl (E.2.2.1, 60, .inl tape)), (a_written, .inl (E.2.1, 40, .inl written)), (a_asked, .inl (E.2.1, 60, .inl asked)), (a_there, .inl (E.2.1, 12, .inl there)), (a_counts, .inl (E.2.1, 12, .inl counts)), (a_lasts, .inl (E.2.1, 12, .inl lasts)), (a_cames, .inl (E.2.1, 12, .inl cames))] (po_X12_putsNumber E h a_g a_kept a_tape a_written a_asked a_there a_counts a_lasts a_cames g kept isKept tape taped spot written writtenMany asked askedMany there counts lasts cames o) := by
  refine mx_intro (by decide +kernel) (Nat.le_of_ble_eq_true rfl) ?_
  intro p e s m args below meth c A Q ls B w hl
  obtain ⟨hx, hb, hml, hown, hts⟩ := id B.1
  unfold F_X12_putsNumber at hf
  have hl : lv_has ls 3 [(0, .ref h), (1, .int x1)] := hl
  refine lv_iconst (v := 1) hx hb dX12_putsNumber_0 (by decide) ?_
  refine lv_istore_n (lv' := [(2, .int 1), (0, .ref h), (1, .int x1)]) hx hb dX12_putsNumber_1 rfl hl (by decide) rfl (fun ls hl => ?_)
  refine l_X12_putsNumber_2 B _  ?_ N _ _ _ _ hf  w (lv_sub hl [1, 2, 0] rfl)
  · intro x2 H locs ls hf w hl
    refine l_X12_putsNumber_18 B _  ?_ N _ _ _ _ _ _ hf  w (lv_sub hl [0, 1, 2] rfl)
    · intro written writtenMany H locs ls hf w hl
      cases hf
      exact mx_vret B w ⟨rfl, rfl⟩ dX12_putsNumber_43
abbrev cX12_putsWord : ByteArray := prog_14_method_87_code
def yX12_putsWord : MethodName := ⟨RX12, "putsWord", "(Ljava/lang/String;)V"⟩
theorem dX12_putsWord_0 : decode cX12_putsWord 0 = .ok (.iconst 0, 1) := by decide +kernel
theorem dX12_putsWord_1 : decode cX12_putsWord 1 = .ok (.istore_n 2, 1) := by decide +kernel
theorem dX12_putsWord_2 : decode cX12_putsWord 2 = .ok (.iload_n 2, 1) := by decide +kernel
theorem dX12_putsWord_3 : decode cX12_putsWord 3 = .ok (.aload_n 1, 1) := by decide +kernel
theorem dX12_putsWord_4 : decode cX12_putsWord 4 = .ok (.invokevirtual 234, 3) := by decide +kernel
theorem dX12_putsWord_7 : decode cX12_putsWord 7 = .ok (.if_icmp .ge 18, 3) := by decide +kernel
theorem dX12_putsWord_10 : decode cX12_putsWord 10 = .ok (.aload_n 0, 1) := by decide +kernel
theorem dX12_putsWord_11 : decode cX12_putsWord 11 = .ok (.aload_n 1, 1) := by decide +kernel
theorem dX12_putsWord_12 : decode cX12_putsWord 12 = .ok (.iload_n 2, 1) := by decide +kernel
theorem dX12_putsWord_13 : decode cX12_putsWord 13 = .ok (.invokevirtual 239, 3) := by decide +kernel
theorem dX12_putsWord_16 : decode cX12_putsWord 16 = .ok (.invokevirtual 231, 3) := by decide +kernel
theorem dX12_putsWord_19 : decode cX12_putsWord 19 = .ok (.iinc 2 1, 3) := by decide +kernel
theorem dX12_putsWord_22 : decode cX12_putsWord 22 = .ok (.goto (-20), 3) := by decide +kernel
theorem dX12_putsWord_25 : decode cX12_putsWord 25 = .ok (.return_, 1) := by decide +kernel
theorem kw_1100 : Cond.code yJ0_length_8abf5 cJ0_length_8abf5 1 (some .int) ∈ TB := tb_at 1100 (by decide +kernel) (by decide +kernel)
theorem kw_1098 : Cond.instanceMethod yJ0_length_8abf5 ∈ TB := tb_at 1098 (by decide +kernel) (by decide +kernel)
theorem kw_1099 : Cond.selects "java/lang/String" yJ0_length_8abf5 yJ0_length_8abf5 ∈ TB := tb_at 1099 (by decide +kernel) (by decide +kernel)
theorem kw_1608 : Cond.methodLink "FrequencyShelfModel" 234 yJ0_length_8abf5 ∈ TB := tb_at 1608 (by decide +kernel) (by decide +kernel)
theorem kw_1612 : Cond.code yJ0_charAt_5068e cJ0_charAt_5068e 2 (some .char) ∈ TB := tb_at 1612 (by decide +kernel) (by decide +kernel)
theorem kw_1610 : Cond.instanceMethod yJ0_charAt_5068e ∈ TB := tb_at 1610 (by decide +kernel) (by decide +kernel)
theorem kw_1611 : Cond.selects "java/lang/String" yJ0_charAt_5068e yJ0_charAt_5068e ∈ TB := tb_at 1611 (by decide +kernel) (by decide +kernel)
theorem kw_1609 : Cond.methodLink "FrequencyShelfModel" 239 yJ0_charAt_5068e ∈ TB := tb_at 1609 (by decide +kernel) (by decide +kernel)
noncomputable def F_pw : List Int32 → (Nat → Int32) → Int32 → Option ((Nat → Int32) × Int32)
  | [], f, k => some (f, k)
  | b :: bs, f, k => bd (F_X12_puts f k b) (fun o => F_pw bs o.1 o.2)
noncomputable def F_X12_putsWord (written : Nat → Int32) (writtenMany : Int32) (i : Nat) : Option ((Nat → Int32) × Int32) := F_pw (sByt.getD i []) written writtenMany
def po_X12_putsWord (E : mE) (h : Nat) (a_g : Nat) (a_kept : Nat) (a_tape : Nat) (a_written : Nat) (a_asked : Nat) (a_there : Nat) (a_counts : Nat) (a_lasts : Nat) (a_cames : Nat)  (g : Nat → Int32) (kept : Nat → Int32) (isKept : Int32) (tape : Nat → Int32) (taped : Int32) (spot : Int32) (written : Nat → Int32) (writtenMany : Int32) (asked : Nat → Int32) (askedMany : Int32) (there : Nat → Int32) (counts : Nat → Int32) (lasts : Nat → Int32) (cames : Nat → Int32)  (o : (Nat → Int32) × Int32) : Option Value → va_W → Prop := (fun (v : Option Value) (w' : va_W) => v = none ∧ w' = [(h, .inr (11, [.ref a_g, .ref a_kept, .int isKept, .ref a_tape, .int taped, .int spot, .ref a_written, .int o.2, .ref a_asked, .int askedMany, .ref a_there, .ref a_counts, .ref a_lasts, .ref a_cames])), (a_g, .inl (E.2.1, 8787, .inl g)), (a_kept, .inl (E.2.1, 8787, .inl kept)), (a_tape, .inl (E.2.2.1, 60, .inl tape)), (a_written, .inl (E.2.1, 40, .inl o.1)), (a_asked, .inl (E.2.1, 60, .inl asked)), (a_there, .inl (E.2.1, 12, .inl there)), (a_counts, .inl (E.2.1, 12, .inl counts)), (a_lasts, .inl (E.2.1, 12, .inl lasts)), (a_cames, .inl (E.2.1, 12, .inl cames))])
theorem str_len : ∀ i, i < 5 → (sByt.getD i []).length = sLen.getD i 0 ∧ sLen.getD i 0 ≤ 6 := by decide +kernel
set_option maxHeartbeats 4000000 in
theorem l_pw {E : mE} {l : Launch} {p : Program} {e : Env} {s : State} {m : MethodId} {args : Array Value} {below : List Frame} {meth : Method} {c : Code} {A : Nat → Prop} {Q : State → Prop} {h : Nat} {a_g : Nat} {a_kept : Nat} {a_tape : Nat} {a_written : Nat} {a_asked : Nat} {a_there : Nat} {a_counts : Nat} {a_lasts : Nat} {a_cames : Nat} {g : Nat → Int32} {kept : Nat → Int32} {isKept : Int32} {tape : Nat → Int32} {taped : Int32} {spot : Int32} {written0 : Nat → Int32} {writtenMany0 : Int32} {asked : Nat → Int32} {askedMany : Int32} {there : Nat → Int32} {counts : Nat → Int32} {lasts : Nat → Int32} {cames : Nat → Int32} {o : (Nat → Int32) × Int32} {i : Nat} (hi : i < 5) (B : mB E yX12_putsWord cX12_putsWord 3 none 0 0 (po_X12_putsWord E h a_g a_kept a_tape a_written a_asked a_there a_counts a_lasts a_cames g kept isKept tape taped spot written0 writtenMany0 asked askedMany there counts lasts cames o) p s m args below meth c A Q) : ∀ (bs : List Int32) (j : Nat) (written : Nat → Int32) (writtenMany : Int32) (H : Heap) (locs : List Loc) (ls : Array Slot), (sByt.getD i []).drop j = bs → j + bs.length = sLen.getD i 0 → F_pw bs written writtenMany = some o → mW E A s [(h, .inr (11, [.ref a_g, .ref a_kept, .int isKept, .ref a_tape, .int taped, .int spot, .ref a_written, .int writtenMany, .ref a_asked, .int askedMany, .ref a_there, .ref a_counts, .ref a_lasts, .ref a_cames])), (a_g, .inl (E.2.1, 8787, .inl g)), (a_kept, .inl (E.2.1, 8787, .inl kept)), (a_tape, .inl (E.2.2.1, 60, .inl tape)), (a_written, .inl (E.2.1, 40, .inl written)), (a_asked, .inl (E.2.1, 60, .inl asked)), (a_there, .inl (E.2.1, 12, .inl there)), (a_counts, .inl (E.2.1, 12, .inl counts)), (a_lasts, .inl (E.2.1, 12, .inl lasts)), (a_cames, .inl (E.2.1, 12, .inl cames))] H locs → lv_has ls 3 [(2, .int (nI j)), (0, .ref h), (1, .ref (E.2.2.2 (10 + i)))] → W p l e ({ frames := 4, cells := 0, slots := 0, locals := 86 } : Room) s m args below meth c H locs 0 0 Q (F0 m 2 ls []) := by
  obtain ⟨hx, hb, hml, hown, hts⟩ := id B.1
  have hL := (str_len i hi).2
  intro bs
  induction bs with
  | nil =>
    intro j written writtenMany H locs ls hd hj hf w hl
    have hj : j = sLen.getD i 0 := by simpa using hj
    refine lv_iload_n hx hb dX12_putsWord_2 rfl (lv_at hl 0 rfl) ?_
    refine lv_aload_n hx hb dX12_putsWord_3 rfl (lv_at hl 2 rfl) ?_
    refine mx_callK i hi (As := []) (rest := [.int (nI j)]) (wr := [(h, .inr (11, [.ref a_g, .ref a_kept, .int isKept, .ref a_tape, .int taped, .int spot, .ref a_written, .int writtenMany, .ref a_asked, .int askedMany, .ref a_there, .ref a_counts, .ref a_lasts, .ref a_cames])), (a_g, .inl (E.2.1, 8787, .inl g)), (a_kept, .inl (E.2.1, 8787, .inl kept)), (a_tape, .inl (E.2.2.1, 60, .inl tape)), (a_written, .inl (E.2.1, 40, .inl written)), (a_asked, .inl (E.2.1, 60, .inl asked)), (a_there, .inl (E.2.1, 12, .inl there)), (a_counts, .inl (E.2.1, 12, .inl counts)), (a_lasts, .inl (E.2.1, 12, .inl lasts)), (a_cames, .inl (E.2.1, 12, .inl cames))]) (t_J0_length_8abf5 E l i hi) B w [] [0, 1, 2, 3, 4, 5, 6, 7, 8, 9] rfl rfl rfl (by decide) (by decide) ⟨kw_1100, kw_1098, kw_1099, kw_79⟩ kw_1608 0 (by decide +kernel) ⟨Nat.le_of_ble_eq_true rfl, Nat.le_of_ble_eq_true rfl⟩ rfl hl.1 rfl (Nat.le_of_ble_eq_true rfl) dX12_putsWord_4 rfl rfl ⟨Nat.zero_le _, Nat.zero_le _⟩ (fun v w' H locs hpo w => ?_)
    obtain ⟨rfl, rfl⟩ := hpo
    have w : mW E A s [(h, .inr (11, [.ref a_g, .ref a_kept, .int isKept, .ref a_tape, .int taped, .int spot, .ref a_written, .int writtenMany, .ref a_asked, .int askedMany, .ref a_there, .ref a_counts, .ref a_lasts, .ref a_cames])), (a_g, .inl (E.2.1, 8787, .inl g)), (a_kept, .inl (E.2.1, 8787, .inl kept)), (a_tape, .inl (E.2.2.1, 60, .inl tape)), (a_written, .inl (E.2.1, 40, .inl written)), (a_asked, .inl (E.2.1, 60, .inl asked)), (a_there, .inl (E.2.1, 12, .inl there)), (a_counts, .inl (E.2.1, 12, .inl counts)), (a_lasts, .inl (E.2.1, 12, .inl lasts)), (a_cames, .inl (E.2.1, 12, .inl cames))] H locs := w
    refine lv_icmp_ge (tgt := 25) hx hb dX12_putsWord_7 (by decide) (fun _ => ?_) (fun hc => absurd (nI_le (by omega) (by omega)) hc)
    cases hf
    exact mx_vret B w ⟨rfl, rfl⟩ dX12_putsWord_25
  | cons b bs ih =>
    intro j written writtenMany H locs ls hd hj hf w hl
    have hj' : j < sLen.getD i 0 := by rw [List.length_cons] at hj; omega
    have hb0 : (sByt.getD i []).getD j 0 = b := by
      have hjl : j < (sByt.getD i []).length := by rw [(str_len i hi).1]; exact hj'
      rw [List.drop_eq_getElem_cons hjl] at hd
      rw [List.getD_eq_getElem?_getD, List.getElem?_eq_getElem hjl]
      exact (List.cons.inj hd).1
    have hd1 : (sByt.getD i []).drop (j + 1) = bs := by
      rw [← List.tail_drop, hd]
      rfl
    obtain ⟨o1, hq, hf⟩ := bd_e hf
    refine lv_iload_n hx hb dX12_putsWord_2 rfl (lv_at hl 0 rfl) ?_
    refine lv_aload_n hx hb dX12_putsWord_3 rfl (lv_at hl 2 rfl) ?_
    refine mx_callK i hi (As := []) (rest := [.int (nI j)]) (wr := [(h, .inr (11, [.ref a_g, .ref a_kept, .int isKept, .ref a_tape, .int taped, .int spot, .ref a_written, .int writtenMany, .ref a_asked, .int askedMany, .ref a_there, .ref a_counts, .ref a_lasts, .ref a_cames])), (a_g, .inl (E.2.1, 8787, .inl g)), (a_kept, .inl (E.2.1, 8787, .inl kept)), (a_tape, .inl (E.2.2.1, 60, .inl tape)), (a_written, .inl (E.2.1, 40, .inl written)), (a_asked, .inl (E.2.1, 60, .inl asked)), (a_there, .inl (E.2.1, 12, .inl there)), (a_counts, .inl (E.2.1, 12, .inl counts)), (a_lasts, .inl (E.2.1, 12, .inl lasts)), (a_cames, .inl (E.2.1, 12, .inl cames))]) (t_J0_length_8abf5 E l i hi) B w [] [0, 1, 2, 3, 4, 5, 6, 7, 8, 9] rfl rfl rfl (by decide) (by decide) ⟨kw_1100, kw_1098, kw_1099, kw_79⟩ kw_1608 0 (by decide +kernel) ⟨Nat.le_of_ble_eq_true rfl, Nat.le_of_ble_eq_true rfl⟩ rfl hl.1 rfl (Nat.le_of_ble_eq_true rfl) dX12_putsWord_4 rfl rfl ⟨Nat.zero_le _, Nat.zero_le _⟩ (fun v w' H locs hpo w => ?_)
    obtain ⟨rfl, rfl⟩ := hpo
    have w : mW E A s [(h, .inr (11, [.ref a_g, .ref a_kept, .int isKept, .ref a_tape, .int taped, .int spot, .ref a_written, .int writtenMany, .ref a_asked, .int askedMany, .ref a_there, .ref a_counts, .ref a_lasts, .ref a_cames])), (a_g, .inl (E.2.1, 8787, .inl g)), (a_kept, .inl (E.2.1, 8787, .inl kept)), (a_tape, .inl (E.2.2.1, 60, .inl tape)), (a_written, .inl (E.2.1, 40, .inl written)), (a_asked, .inl (E.2.1, 60, .inl asked)), (a_there, .inl (E.2.1, 12, .inl there)), (a_counts, .inl (E.2.1, 12, .inl counts)), (a_lasts, .inl (E.2.1, 12, .inl lasts)), (a_cames, .inl (E.2.1, 12, .inl cames))] H locs := w
    refine lv_icmp_ge (tgt := 25) hx hb dX12_putsWord_7 (by decide) (fun hc => absurd hc (nI_ge hj' (by omega))) (fun _ => ?_)
    refine lv_aload_n hx hb dX12_putsWord_10 rfl (lv_at hl 1 rfl) ?_
    refine lv_aload_n hx hb dX12_putsWord_11 rfl (lv_at hl 2 rfl) ?_
    refine lv_iload_n hx hb dX12_putsWord_12 rfl (lv_at hl 0 rfl) ?_
    refine mx_callK i hi (As := [.int (nI j)]) (rest := [.ref h]) (wr := [(h, .inr (11, [.ref a_g, .ref a_kept, .int isKept, .ref a_tape, .int taped, .int spot, .ref a_written, .int writtenMany, .ref a_asked, .int askedMany, .ref a_there, .ref a_counts, .ref a_lasts, .ref a_cames])), (a_g, .inl (E.2.1, 8787, .inl g)), (a_kept, .inl (E.2.1, 8787, .inl kept)), (a_tape, .inl (E.2.2.1, 60, .inl tape)), (a_written, .inl (E.2.1, 40, .inl written)), (a_asked, .inl (E.2.1, 60, .inl asked)), (a_there, .inl (E.2.1, 12, .inl there)), (a_counts, .inl (E.2.1, 12, .inl counts)), (a_lasts, .inl (E.2.1, 12, .inl lasts)), (a_cames, .inl (E.2.1, 12, .inl cames))]) (t_J0_charAt_5068e E l i hi j hj') B w [] [0, 1, 2, 3, 4, 5, 6, 7, 8, 9] rfl rfl rfl (by decide) (by decide) ⟨kw_1612, kw_1610, kw_1611, kw_79⟩ kw_1609 1 (by decide +kernel) ⟨Nat.le_of_ble_eq_true rfl, Nat.le_of_ble_eq_true rfl⟩ rfl hl.1 rfl (Nat.le_of_ble_eq_true rfl) dX12_putsWord_13 rfl rfl ⟨Nat.zero_le _, Nat.zero_le _⟩ (fun v w' H locs hpo w => ?_)
    obtain ⟨rfl, rfl⟩ := hpo
    have w : mW E A s [(h, .inr (11, [.ref a_g, .ref a_kept, .int isKept, .ref a_tape, .int taped, .int spot, .ref a_written, .int writtenMany, .ref a_asked, .int askedMany, .ref a_there, .ref a_counts, .ref a_lasts, .ref a_cames])), (a_g, .inl (E.2.1, 8787, .inl g)), (a_kept, .inl (E.2.1, 8787, .inl kept)), (a_tape, .inl (E.2.2.1, 60, .inl tape)), (a_written, .inl (E.2.1, 40, .inl written)), (a_asked, .inl (E.2.1, 60, .inl asked)), (a_there, .inl (E.2.1, 12, .inl there)), (a_counts, .inl (E.2.1, 12, .inl counts)), (a_lasts, .inl (E.2.1, 12, .inl lasts)), (a_cames, .inl (E.2.1, 12, .inl cames))] H locs := w
    rw [← hb0] at hq
    refine mx_callV (As := [.int ((sByt.getD i []).getD j 0)]) (rest := []) (wr := []) (d_X12_puts E l h a_g a_kept a_tape a_written a_asked a_there a_counts a_lasts a_cames g kept isKept tape taped spot written writtenMany asked askedMany there counts lasts cames ((sByt.getD i []).getD j 0) o1 hq) B w [0, 1, 2, 3, 4, 5, 6, 7, 8, 9] [] rfl rfl (by decide) (by decide) (by decide) 0 rfl rfl cv_X12_puts kw_1595 1 (by decide +kernel) ⟨Nat.le_of_ble_eq_true rfl, Nat.le_of_ble_eq_true rfl⟩ rfl hl.1 rfl (Nat.le_of_ble_eq_true rfl) dX12_putsWord_16 rfl rfl ⟨Nat.zero_le _, Nat.zero_le _⟩ (fun v w' H locs hpo w => ?_)
    obtain ⟨rfl, rfl⟩ := hpo
    have w : mW E A s [(h, .inr (11, [.ref a_g, .ref a_kept, .int isKept, .ref a_tape, .int taped, .int spot, .ref a_written, .int o1.2, .ref a_asked, .int askedMany, .ref a_there, .ref a_counts, .ref a_lasts, .ref a_cames])), (a_g, .inl (E.2.1, 8787, .inl g)), (a_kept, .inl (E.2.1, 8787, .inl kept)), (a_tape, .inl (E.2.2.1, 60, .inl tape)), (a_written, .inl (E.2.1, 40, .inl o1.1)), (a_asked, .inl (E.2.1, 60, .inl asked)), (a_there, .inl (E.2.1, 12, .inl there)), (a_counts, .inl (E.2.1, 12, .inl counts)), (a_lasts, .inl (E.2.1, 12, .inl lasts)), (a_cames, .inl (E.2.1, 12, .inl cames))] H locs := w
    refine lv_iinc (v := nI (j + 1)) (lv' := [(2, .int (nI (j + 1))), (0, .ref h), (1, .ref (E.2.2.2 (10 + i)))]) hx hb dX12_putsWord_19 hl (k := 0) rfl (by show nI j + nI 1 = _; rw [nI_add]) (by decide) rfl (fun ls hl => ?_)
    refine lv_goto (tgt := 2) hx hb dX12_putsWord_22 (by decide) ?_
    exact ih (j + 1) o1.1 o1.2 H locs ls hd1 (by rw [List.length_cons] at hj; omega) hf w hl
set_option maxHeartbeats 4000000 in
theorem d_X12_putsWord (E : mE) (l : Launch) (h : Nat) (a_g : Nat) (a_kept : Nat) (a_tape : Nat) (a_written : Nat) (a_asked : Nat) (a_there : Nat) (a_counts : Nat) (a_lasts : Nat) (a_cames : Nat)  (g : Nat → Int32) (kept : Nat → Int32) (isKept : Int32) (tape : Nat → Int32) (taped : Int32) (spot : Int32) (written : Nat → Int32) (writtenMany : Int32) (asked : Nat → Int32) (askedMany : Int32) (there : Nat → Int32) (counts : Nat → Int32) (lasts : Nat → Int32) (cames : Nat → Int32)  (i : Nat) (o : (Nat → Int32) × Int32) (hf : F_X12_putsWord written writtenMany i = some o) (hi : i < 5 := by decide) : MX E l yX12_putsWord cX12_putsWord 3 none ({ frames := 4, cells := 0, slots := 0, locals := 86 } : Room) [.ref h, .ref (E.2.2.2 (10 + i))] [(h, .inr (11, [.ref a_g, .ref a_kept, .int isKept, .ref a_tape, .int taped, .int spot, .ref a_written, .int writtenMany, .ref a_asked, .int askedMany, .ref a_there, .ref a_counts, .ref a_lasts, .ref a_cames])), (a_g, .inl (E.2.1, 8787, .inl g)), (a_kept, .inl (E.2.1, 8787, .inl kept)), (a_tape, .inl (E.2.2.1, 60, .inl tape)), (a_written, .inl (E.2.1, 40, .inl written)), (a_asked, .inl (E.2.1, 60, .inl asked)), (a_there, .inl (E.2.1, 12, .inl there)), (a_counts, .inl (E.2.1, 12, .inl counts)), (a_lasts, .inl (E.2.1, 12, .inl lasts)), (a_cames, .inl (E.2.1, 12, .inl cames))] (po_X12_putsWord E h a_g a_kept a_tape a_written a_asked a_there a_counts a_lasts a_cames g kept isKept tape taped spot written writtenMany asked askedMany there counts lasts cames o) := by
  refine mx_intro (by decide +kernel) (Nat.le_of_ble_eq_true rfl) ?_
  intro p e s m args below meth c A Q ls B w hl
  obtain ⟨hx, hb, hml, hown, hts⟩ := id B.1
  have hl : lv_has ls 3 [(0, .ref h), (1, .ref (E.2.2.2 (10 + i)))] := hl
  refine lv_iconst (v := 0) hx hb dX12_putsWord_0 (by decide) ?_
  refine lv_istore_n (lv' := [(2, .int 0), (0, .ref h), (1, .ref (E.2.2.2 (10 + i)))]) hx hb dX12_putsWord_1 rfl hl (by decide) rfl (fun ls hl => ?_)
  exact l_pw hi B (sByt.getD i []) 0 written writtenMany _ _ ls rfl (by rw [(str_len i hi).1]; omega) hf w hl
abbrev cX12_text : ByteArray := prog_14_method_88_code
def yX12_text : MethodName := ⟨RX12, "text", "(II)I"⟩
theorem dX12_text_0 : decode cX12_text 0 = .ok (.iload_n 1, 1) := by decide +kernel
theorem dX12_text_1 : decode cX12_text 1 = .ok (.ifCond .lt 8, 3) := by decide +kernel
theorem dX12_text_4 : decode cX12_text 4 = .ok (.iload_n 2, 1) := by decide +kernel
theorem dX12_text_5 : decode cX12_text 5 = .ok (.iconst (-1), 1) := by decide +kernel
theorem dX12_text_6 : decode cX12_text 6 = .ok (.if_icmp .ge 7, 3) := by decide +kernel
theorem dX12_text_9 : decode cX12_text 9 = .ok (.sipush (-1001), 3) := by decide +kernel
theorem dX12_text_12 : decode cX12_text 12 = .ok (.ireturn, 1) := by decide +kernel
theorem dX12_text_13 : decode cX12_text 13 = .ok (.aload_n 0, 1) := by decide +kernel
theorem dX12_text_14 : decode cX12_text 14 = .ok (.iload_n 1, 1) := by decide +kernel
theorem dX12_text_15 : decode cX12_text 15 = .ok (.invokevirtual 225, 3) := by decide +kernel
theorem dX12_text_18 : decode cX12_text 18 = .ok (.istore_n 3, 1) := by decide +kernel
theorem dX12_text_19 : decode cX12_text 19 = .ok (.iload_n 3, 1) := by decide +kernel
theorem dX12_text_20 : decode cX12_text 20 = .ok (.ifCond .ge 7, 3) := by decide +kernel
theorem dX12_text_23 : decode cX12_text 23 = .ok (.sipush (-1003), 3) := by decide +kernel
theorem dX12_text_26 : decode cX12_text 26 = .ok (.ireturn, 1) := by decide +kernel
theorem dX12_text_27 : decode cX12_text 27 = .ok (.aload_n 0, 1) := by decide +kernel
theorem dX12_text_28 : decode cX12_text 28 = .ok (.iconst 0, 1) := by decide +kernel
theorem dX12_text_29 : decode cX12_text 29 = .ok (.putfield 228, 3) := by decide +kernel
theorem dX12_text_32 : decode cX12_text 32 = .ok (.aload_n 0, 1) := by decide +kernel
theorem dX12_text_33 : decode cX12_text 33 = .ok (.iload_n 3, 1) := by decide +kernel
theorem dX12_text_34 : decode cX12_text 34 = .ok (.iconst 0, 1) := by decide +kernel
theorem dX12_text_35 : decode cX12_text 35 = .ok (.invokevirtual 86, 3) := by decide +kernel
theorem dX12_text_38 : decode cX12_text 38 = .ok (.invokestatic 42, 3) := by decide +kernel
theorem dX12_text_41 : decode cX12_text 41 = .ok (.istore 4, 2) := by decide +kernel
theorem dX12_text_43 : decode cX12_text 43 = .ok (.iconst 0, 1) := by decide +kernel
theorem dX12_text_44 : decode cX12_text 44 = .ok (.istore 5, 2) := by decide +kernel
theorem dX12_text_46 : decode cX12_text 46 = .ok (.iload 5, 2) := by decide +kernel
theorem dX12_text_48 : decode cX12_text 48 = .ok (.iload 4, 2) := by decide +kernel
theorem dX12_text_50 : decode cX12_text 50 = .ok (.if_icmp .ge 24, 3) := by decide +kernel
theorem dX12_text_53 : decode cX12_text 53 = .ok (.aload_n 0, 1) := by decide +kernel
theorem dX12_text_54 : decode cX12_text 54 = .ok (.aload_n 0, 1) := by decide +kernel
theorem dX12_text_55 : decode cX12_text 55 = .ok (.iload_n 3, 1) := by decide +kernel
theorem dX12_text_56 : decode cX12_text 56 = .ok (.iconst 0, 1) := by decide +kernel
theorem dX12_text_57 : decode cX12_text 57 = .ok (.invokevirtual 86, 3) := by decide +kernel
theorem dX12_text_60 : decode cX12_text 60 = .ok (.iload 5, 2) := by decide +kernel
theorem dX12_text_62 : decode cX12_text 62 = .ok (.invokestatic 46, 3) := by decide +kernel
theorem dX12_text_65 : decode cX12_text 65 = .ok (.invokevirtual 231, 3) := by decide +kernel
theorem dX12_text_68 : decode cX12_text 68 = .ok (.iinc 5 1, 3) := by decide +kernel
theorem dX12_text_71 : decode cX12_text 71 = .ok (.goto (-25), 3) := by decide +kernel
theorem dX12_text_74 : decode cX12_text 74 = .ok (.aload_n 0, 1) := by decide +kernel
theorem dX12_text_75 : decode cX12_text 75 = .ok (.bipush 32, 2) := by decide +kernel
theorem dX12_text_77 : decode cX12_text 77 = .ok (.invokevirtual 231, 3) := by decide +kernel
theorem dX12_text_80 : decode cX12_text 80 = .ok (.aload_n 0, 1) := by decide +kernel
theorem dX12_text_81 : decode cX12_text 81 = .ok (.aload_n 0, 1) := by decide +kernel
theorem dX12_text_82 : decode cX12_text 82 = .ok (.iload_n 3, 1) := by decide +kernel
theorem dX12_text_83 : decode cX12_text 83 = .ok (.iconst 1, 1) := by decide +kernel
theorem dX12_text_84 : decode cX12_text 84 = .ok (.invokevirtual 86, 3) := by decide +kernel
theorem dX12_text_87 : decode cX12_text 87 = .ok (.invokevirtual 243, 3) := by decide +kernel
theorem dX12_text_90 : decode cX12_text 90 = .ok (.aload_n 0, 1) := by decide +kernel
theorem dX12_text_91 : decode cX12_text 91 = .ok (.ldc 246, 2) := by decide +kernel
theorem dX12_text_93 : decode cX12_text 93 = .ok (.invokevirtual 248, 3) := by decide +kernel
theorem dX12_text_96 : decode cX12_text 96 = .ok (.aload_n 0, 1) := by decide +kernel
theorem dX12_text_97 : decode cX12_text 97 = .ok (.aload_n 0, 1) := by decide +kernel
theorem dX12_text_98 : decode cX12_text 98 = .ok (.iload_n 3, 1) := by decide +kernel
theorem dX12_text_99 : decode cX12_text 99 = .ok (.iconst 2, 1) := by decide +kernel
theorem dX12_text_100 : decode cX12_text 100 = .ok (.invokevirtual 86, 3) := by decide +kernel
theorem dX12_text_103 : decode cX12_text 103 = .ok (.invokevirtual 243, 3) := by decide +kernel
theorem dX12_text_106 : decode cX12_text 106 = .ok (.aload_n 0, 1) := by decide +kernel
theorem dX12_text_107 : decode cX12_text 107 = .ok (.ldc 252, 2) := by decide +kernel
theorem dX12_text_109 : decode cX12_text 109 = .ok (.invokevirtual 248, 3) := by decide +kernel
theorem dX12_text_112 : decode cX12_text 112 = .ok (.aload_n 0, 1) := by decide +kernel
theorem dX12_text_113 : decode cX12_text 113 = .ok (.aload_n 0, 1) := by decide +kernel
theorem dX12_text_114 : decode cX12_text 114 = .ok (.iload_n 3, 1) := by decide +kernel
theorem dX12_text_115 : decode cX12_text 115 = .ok (.iconst 5, 1) := by decide +kernel
theorem dX12_text_116 : decode cX12_text 116 = .ok (.invokevirtual 86, 3) := by decide +kernel
theorem dX12_text_119 : decode cX12_text 119 = .ok (.invokevirtual 243, 3) := by decide +kernel
theorem dX12_text_122 : decode cX12_text 122 = .ok (.aload_n 0, 1) := by decide +kernel
theorem dX12_text_123 : decode cX12_text 123 = .ok (.aload_n 0, 1) := by decide +kernel
theorem dX12_text_124 : decode cX12_text 124 = .ok (.iload_n 3, 1) := by decide +kernel
theorem dX12_text_125 : decode cX12_text 125 = .ok (.bipush 8, 2) := by decide +kernel
theorem dX12_text_127 : decode cX12_text 127 = .ok (.invokevirtual 86, 3) := by decide +kernel
theorem dX12_text_130 : decode cX12_text 130 = .ok (.ifCond .eq 8, 3) := by decide +kernel
theorem dX12_text_133 : decode cX12_text 133 = .ok (.ldc 254, 2) := by decide +kernel
theorem dX12_text_135 : decode cX12_text 135 = .ok (.goto 6, 3) := by decide +kernel
theorem dX12_text_138 : decode cX12_text 138 = .ok (.ldc_w 256, 3) := by decide +kernel
theorem dX12_text_141 : decode cX12_text 141 = .ok (.invokevirtual 248, 3) := by decide +kernel
theorem dX12_text_144 : decode cX12_text 144 = .ok (.aload_n 0, 1) := by decide +kernel
theorem dX12_text_145 : decode cX12_text 145 = .ok (.aload_n 0, 1) := by decide +kernel
theorem dX12_text_146 : decode cX12_text 146 = .ok (.iload_n 3, 1) := by decide +kernel
theorem dX12_text_147 : decode cX12_text 147 = .ok (.invokevirtual 93, 3) := by decide +kernel
theorem dX12_text_150 : decode cX12_text 150 = .ok (.ifCond .eq 9, 3) := by decide +kernel
theorem dX12_text_153 : decode cX12_text 153 = .ok (.ldc_w 258, 3) := by decide +kernel
theorem dX12_text_156 : decode cX12_text 156 = .ok (.goto 6, 3) := by decide +kernel
theorem dX12_text_159 : decode cX12_text 159 = .ok (.ldc_w 256, 3) := by decide +kernel
theorem dX12_text_162 : decode cX12_text 162 = .ok (.invokevirtual 248, 3) := by decide +kernel
theorem dX12_text_165 : decode cX12_text 165 = .ok (.iload_n 2, 1) := by decide +kernel
theorem dX12_text_166 : decode cX12_text 166 = .ok (.ifCond .ge 10, 3) := by decide +kernel
theorem dX12_text_169 : decode cX12_text 169 = .ok (.aload_n 0, 1) := by decide +kernel
theorem dX12_text_170 : decode cX12_text 170 = .ok (.getfield 228, 3) := by decide +kernel
theorem dX12_text_173 : decode cX12_text 173 = .ok (.goto 23, 3) := by decide +kernel
theorem dX12_text_176 : decode cX12_text 176 = .ok (.iload_n 2, 1) := by decide +kernel
theorem dX12_text_177 : decode cX12_text 177 = .ok (.aload_n 0, 1) := by decide +kernel
theorem dX12_text_178 : decode cX12_text 178 = .ok (.getfield 228, 3) := by decide +kernel
theorem dX12_text_181 : decode cX12_text 181 = .ok (.if_icmp .ge 12, 3) := by decide +kernel
theorem dX12_text_184 : decode cX12_text 184 = .ok (.aload_n 0, 1) := by decide +kernel
theorem dX12_text_185 : decode cX12_text 185 = .ok (.getfield 20, 3) := by decide +kernel
theorem dX12_text_188 : decode cX12_text 188 = .ok (.iload_n 2, 1) := by decide +kernel
theorem dX12_text_189 : decode cX12_text 189 = .ok (.iaload, 1) := by decide +kernel
theorem dX12_text_190 : decode cX12_text 190 = .ok (.goto 6, 3) := by decide +kernel
theorem dX12_text_193 : decode cX12_text 193 = .ok (.sipush (-1003), 3) := by decide +kernel
theorem dX12_text_196 : decode cX12_text 196 = .ok (.ireturn, 1) := by decide +kernel
theorem kw_1599 : Cond.methodLink "FrequencyShelfModel" 243 yX12_putsNumber ∈ TB := tb_at 1599 (by decide +kernel) (by decide +kernel)
theorem kw_1602 : Cond.code yX12_putsNumber cX12_putsNumber 3 none ∈ TB := tb_at 1602 (by decide +kernel) (by decide +kernel)
theorem kw_1601 : Cond.instanceMethod yX12_putsNumber ∈ TB := tb_at 1601 (by decide +kernel) (by decide +kernel)
theorem kw_58 : Cond.selects "FrequencyShelfModel" yX12_putsNumber yX12_putsNumber ∈ TB := tb_at 58 (by decide +kernel) (by decide +kernel)
theorem cv_X12_putsNumber : Cond.code yX12_putsNumber cX12_putsNumber 3 none ∈ TB ∧ Cond.instanceMethod yX12_putsNumber ∈ TB ∧ Cond.selects "FrequencyShelfModel" yX12_putsNumber yX12_putsNumber ∈ TB ∧ Cond.initialized "FrequencyShelfModel" ∈ TB := ⟨kw_1602, kw_1601, kw_58, kw_75⟩
theorem kw_1604 : Cond.methodLink "FrequencyShelfModel" 248 yX12_putsWord ∈ TB := tb_at 1604 (by decide +kernel) (by decide +kernel)
theorem kw_1607 : Cond.code yX12_putsWord cX12_putsWord 3 none ∈ TB := tb_at 1607 (by decide +kernel) (by decide +kernel)
theorem kw_1606 : Cond.instanceMethod yX12_putsWord ∈ TB := tb_at 1606 (by decide +kernel) (by decide +kernel)
theorem kw_59 : Cond.selects "FrequencyShelfModel" yX12_putsWord yX12_putsWord ∈ TB := tb_at 59 (by decide +kernel) (by decide +kernel)
theorem cv_X12_putsWord : Cond.code yX12_putsWord cX12_putsWord 3 none ∈ TB ∧ Cond.instanceMethod yX12_putsWord ∈ TB ∧ Cond.selects "FrequencyShelfModel" yX12_putsWord yX12_putsWord ∈ TB ∧ Cond.initialized "FrequencyShelfModel" ∈ TB := ⟨kw_1607, kw_1606, kw_59, kw_75⟩
-- X12_text
def po_X12_text (E : mE) (h : Nat) (a_g : Nat) (a_kept : Nat) (a_tape : Nat) (a_written : Nat) (a_asked : Nat) (a_there : Nat) (a_counts : Nat) (a_lasts : Nat) (a_cames : Nat)  (g : Nat → Int32) (kept : Nat → Int32) (isKept : Int32) (tape : Nat → Int32) (taped : Int32) (spot : Int32) (written : Nat → Int32) (writtenMany : Int32) (asked : Nat → Int32) (askedMany : Int32) (there : Nat → Int32) (counts : Nat → Int32) (lasts : Nat → Int32) (cames : Nat → Int32)  (o : Int32 × (Nat → Int32) × Int32) : Option Value → va_W → Prop := (fun (v : Option Value) (w' : va_W) => v = some (.int o.1) ∧ w' = [(h, .inr (11, [.ref a_g, .ref a_kept, .int isKept, .ref a_tape, .int taped, .int spot, .ref a_written, .int o.2.2, .ref a_asked, .int askedMany, .ref a_there, .ref a_counts, .ref a_lasts, .ref a_cames])), (a_g, .inl (E.2.1, 8787, .inl g)), (a_kept, .inl (E.2.1, 8787, .inl kept)), (a_tape, .inl (E.2.2.1, 60, .inl tape)), (a_written, .inl (E.2.1, 40, .inl o.2.1)), (a_asked, .inl (E.2.1, 60, .inl asked)), (a_there, .inl (E.2.1, 12, .inl there)), (a_counts, .inl (E.2.1, 12, .inl counts)), (a_lasts, .inl (E.2.1, 12, .inl lasts)), (a_cames, .inl (E.2.1, 12, .inl cames))])
noncomputable def K_X12_text_46 (N : Nat)  (rec : Int32 → (Nat → Int32) → Int32 → (Option (Int32 × (Nat → Int32) × Int32))) (k74 : (Nat → Int32) → Int32 → (Option (Int32 × (Nat → Int32) × Int32))) (x2 : Int32) (x3 : Int32) (x4 : Int32) (g : Nat → Int32) (x5 : Int32) (written : Nat → Int32) (writtenMany : Int32) : Option (Int32 × (Nat → Int32) × Int32) :=
  if (x4 ≤ x5 : Prop) then
  k74 written writtenMany
  else
  bd (F_X12_at g x3 0) (fun o_5 =>
  bd (F_X12_byteOf N o_5 x5) (fun o_6 =>
  bd (F_X12_puts written writtenMany o_6) (fun o_7 =>
  lt (x5 + 1) (fun x5_8 =>
  rec x5_8 o_7.1 o_7.2))))
noncomputable def L_X12_text_46 (N : Nat)  (k74 : (Nat → Int32) → Int32 → (Option (Int32 × (Nat → Int32) × Int32))) (x2 : Int32) (x3 : Int32) (x4 : Int32) (g : Nat → Int32) (n : Nat) : Int32 → (Nat → Int32) → Int32 → (Option (Int32 × (Nat → Int32) × Int32)) :=
  Nat.rec (motive := fun _ => Int32 → (Nat → Int32) → Int32 → (Option (Int32 × (Nat → Int32) × Int32))) (fun _ _ _ => none) (fun _ rec => K_X12_text_46 N rec k74 x2 x3 x4 g) n
set_option maxHeartbeats 4000000 in
set_option maxRecDepth 100000 in
theorem l_X12_text_46 {E : mE} {l : Launch} {p : Program} {e : Env} {s : State} {m : MethodId} {args : Array Value} {below : List Frame} {meth : Method} {c : Code} {A : Nat → Prop} {Q : State → Prop} {N : Nat} {h : Nat} {a_g : Nat} {a_kept : Nat} {a_tape : Nat} {a_written : Nat} {a_asked : Nat} {a_there : Nat} {a_counts : Nat} {a_lasts : Nat} {a_cames : Nat}  {g : Nat → Int32} {kept : Nat → Int32} {isKept : Int32} {tape : Nat → Int32} {taped : Int32} {spot : Int32} {written0 : Nat → Int32} {writtenMany0 : Int32} {asked : Nat → Int32} {askedMany : Int32} {there : Nat → Int32} {counts : Nat → Int32} {lasts : Nat → Int32} {cames : Nat → Int32}  {o : Int32 × (Nat → Int32) × Int32} (B : mB E yX12_text cX12_text 6 (some .int) 0 0 (po_X12_text E h a_g a_kept a_tape a_written a_asked a_there a_counts a_lasts a_cames g kept isKept tape taped spot written0 writtenMany0 asked askedMany there counts lasts cames o) p s m args below meth c A Q)   {x2 : Int32} {x3 : Int32} {x4 : Int32} (k74 : (Nat → Int32) → Int32 → (Option (Int32 × (Nat → Int32) × Int32)))  (hk74 : ∀  (written : Nat → Int32) (writtenMany : Int32)  (H : Heap) (locs : List Loc) (ls : Array Slot), k74 written writtenMany = some o → mW E A s [(h, .inr (11, [.ref a_g, .ref a_kept, .int isKept, .ref a_tape, .int taped, .int spot, .ref a_written, .int writtenMany, .ref a_asked, .int askedMany, .ref a_there, .ref a_counts, .ref a_lasts, .ref a_cames])), (a_g, .inl (E.2.1, 8787, .inl g)), (a_kept, .inl (E.2.1, 8787, .inl kept)), (a_tape, .inl (E.2.2.1, 60, .inl tape)), (a_written, .inl (E.2.1, 40, .inl written)), (a_asked, .inl (E.2.1, 60, .inl asked)), (a_there, .inl (E.2.1, 12, .inl there)), (a_counts, .inl (E.2.1, 12, .inl counts)), (a_lasts, .inl (E.2.1, 12, .inl lasts)), (a_cames, .inl (E.2.1, 12, .inl cames))] H locs → lv_has ls 6 [(0, .ref h), (2, .int x2), (3, .int x3)] → W p l e ({ frames := 5, cells := 0, slots := 0, locals := 108 } : Room) s m args below meth c H locs 0 0 Q (F0 m 74 ls [])) : ∀ n : Nat, ∀ (x5 : Int32) (written : Nat → Int32) (writtenMany : Int32)  (H : Heap) (locs : List Loc) (ls : Array Slot), L_X12_text_46 N k74 x2 x3 x4 g n x5 written writtenMany = some o → mW E A s [(h, .inr (11, [.ref a_g, .ref a_kept, .int isKept, .ref a_tape, .int taped, .int spot, .ref a_written, .int writtenMany, .ref a_asked, .int askedMany, .ref a_there, .ref a_counts, .ref a_lasts, .ref a_cames])), (a_g, .inl (E.2.1, 8787, .inl g)), (a_kept, .inl (E.2.1, 8787, .inl kept)), (a_tape, .inl (E.2.2.1, 60, .inl tape)), (a_written, .inl (E.2.1, 40, .inl written)), (a_asked, .inl (E.2.1, 60, .inl asked)), (a_there, .inl (E.2.1, 12, .inl there)), (a_counts, .inl (E.2.1, 12, .inl counts)), (a_lasts, .inl (E.2.1, 12, .inl lasts)), (a_cames, .inl (E.2.1, 12, .inl cames))] H locs → lv_has ls 6 [(0, .ref h), (2, .int x2), (3, .int x3), (4, .int x4), (5, .int x5)] → W p l e ({ frames := 5, cells := 0, slots := 0, locals := 108 } : Room) s m args below meth c H locs 0 0 Q (F0 m 46 ls []) := by
  obtain ⟨hx, hb, hml, hown, hts⟩ := id B.1
  intro n
  induction n with
  | zero =>
    intro x5 written writtenMany H locs ls hf w hl
    exact nomatch hf
  | succ n hrec =>
    intro x5 written writtenMany H locs ls hf w hl
    have hf : K_X12_text_46 N (L_X12_text_46 N k74 x2 x3 x4 g n) k74 x2 x3 x4 g x5 written writtenMany = some o := hf
    unfold K_X12_text_46 at hf
    refine lv_iload hx hb dX12_text_46 (lv_at hl 4 rfl) ?_
    refine lv_iload hx hb dX12_text_48 (lv_at hl 3 rfl) ?_
    refine lv_icmp_ge (tgt := 74) hx hb dX12_text_50 (by decide) (fun hc => ?_) (fun hc => ?_)
    · have hf := it_t hc hf
      exact hk74 _ _ _ _ _ hf  w (lv_sub hl [0, 1, 2] rfl)
    · have hf := it_f hc hf
      refine lv_aload_n hx hb dX12_text_53 rfl (lv_at hl 0 rfl) ?_
      refine lv_aload_n hx hb dX12_text_54 rfl (lv_at hl 0 rfl) ?_
      refine lv_iload_n hx hb dX12_text_55 rfl (lv_at hl 2 rfl) ?_
      refine lv_iconst (v := 0) hx hb dX12_text_56 (by decide) ?_
      obtain ⟨o_5, hq, hf⟩ := bd_e hf
      refine mx_callV (As := [.int x3, .int 0]) (rest := [.ref h]) (wr := []) (d_X12_at E l  h a_g a_kept a_tape a_written a_asked a_there a_counts a_lasts a_cames g kept isKept tape taped spot written writtenMany asked askedMany there counts lasts cames x3 0  o_5 hq) B w [0, 1, 2, 3, 4, 5, 6, 7, 8, 9] [] rfl rfl (by decide) (by decide) (by decide) 0 rfl rfl cv_X12_at kw_1325 2 (by decide +kernel) ⟨Nat.le_of_ble_eq_true rfl, Nat.le_of_ble_eq_true rfl⟩ rfl hl.1 rfl (Nat.le_of_ble_eq_true rfl) dX12_text_57 rfl rfl ⟨Nat.zero_le _, Nat.zero_le _⟩ (fun v w' H locs hpo w => ?_)
      clear hq
      obtain ⟨rfl, rfl⟩ := hpo
      have w : mW E A s [(h, .inr (11, [.ref a_g, .ref a_kept, .int isKept, .ref a_tape, .int taped, .int spot, .ref a_written, .int writtenMany, .ref a_asked, .int askedMany, .ref a_there, .ref a_counts, .ref a_lasts, .ref a_cames])), (a_g, .inl (E.2.1, 8787, .inl g)), (a_kept, .inl (E.2.1, 8787, .inl kept)), (a_tape, .inl (E.2.2.1, 60, .inl tape)), (a_written, .inl (E.2.1, 40, .inl written)), (a_asked, .inl (E.2.1, 60, .inl asked)), (a_there, .inl (E.2.1, 12, .inl there)), (a_counts, .inl (E.2.1, 12, .inl counts)), (a_lasts, .inl (E.2.1, 12, .inl lasts)), (a_cames, .inl (E.2.1, 12, .inl cames))] H locs := w
      refine lv_iload hx hb dX12_text_60 (lv_at hl 4 rfl) ?_
      obtain ⟨o_6, hq, hf⟩ := bd_e hf
      refine mx_callS (As := [.int o_5, .int x5]) (rest := [.ref h]) (wr := [(h, .inr (11, [.ref a_g, .ref a_kept, .int isKept, .ref a_tape, .int taped, .int spot, .ref a_written, .int writtenMany, .ref a_asked, .int askedMany, .ref a_there, .ref a_counts, .ref a_lasts, .ref a_cames])), (a_g, .inl (E.2.1, 8787, .inl g)), (a_kept, .inl (E.2.1, 8787, .inl kept)), (a_tape, .inl (E.2.2.1, 60, .inl tape)), (a_written, .inl (E.2.1, 40, .inl written)), (a_asked, .inl (E.2.1, 60, .inl asked)), (a_there, .inl (E.2.1, 12, .inl there)), (a_counts, .inl (E.2.1, 12, .inl counts)), (a_lasts, .inl (E.2.1, 12, .inl lasts)), (a_cames, .inl (E.2.1, 12, .inl cames))]) (d_X12_byteOf E l N  o_5 x5  o_6 hq) B w [] [0, 1, 2, 3, 4, 5, 6, 7, 8, 9] rfl rfl (by decide) (by decide) (by decide) cs_X12_byteOf kw_1302 2 (by decide +kernel) ⟨Nat.le_of_ble_eq_true rfl, Nat.le_of_ble_eq_true rfl⟩ rfl hl.1 rfl (Nat.le_of_ble_eq_true rfl) dX12_text_62 rfl rfl ⟨Nat.zero_le _, Nat.zero_le _⟩ (fun v w' H locs hpo w => ?_)
      clear hq
      obtain ⟨rfl, rfl⟩ := hpo
      have w : mW E A s [(h, .inr (11, [.ref a_g, .ref a_kept, .int isKept, .ref a_tape, .int taped, .int spot, .ref a_written, .int writtenMany, .ref a_asked, .int askedMany, .ref a_there, .ref a_counts, .ref a_lasts, .ref a_cames])), (a_g, .inl (E.2.1, 8787, .inl g)), (a_kept, .inl (E.2.1, 8787, .inl kept)), (a_tape, .inl (E.2.2.1, 60, .inl tape)), (a_written, .inl (E.2.1, 40, .inl written)), (a_asked, .inl (E.2.1, 60, .inl asked)), (a_there, .inl (E.2.1, 12, .inl there)), (a_counts, .inl (E.2.1, 12, .inl counts)), (a_lasts, .inl (E.2.1, 12, .inl lasts)), (a_cames, .inl (E.2.1, 12, .inl cames))] H locs := w
      obtain ⟨o_7, hq, hf⟩ := bd_e hf
      refine mx_callV (As := [.int o_6]) (rest := []) (wr := []) (d_X12_puts E l  h a_g a_kept a_tape a_written a_asked a_there a_counts a_lasts a_cames g kept isKept tape taped spot written writtenMany asked askedMany there counts lasts cames o_6  o_7 hq) B w [0, 1, 2, 3, 4, 5, 6, 7, 8, 9] [] rfl rfl (by decide) (by decide) (by decide) 0 rfl rfl cv_X12_puts kw_1595 1 (by decide +kernel) ⟨Nat.le_of_ble_eq_true rfl, Nat.le_of_ble_eq_true rfl⟩ rfl hl.1 rfl (Nat.le_of_ble_eq_true rfl) dX12_text_65 rfl rfl ⟨Nat.zero_le _, Nat.zero_le _⟩ (fun v w' H locs hpo w => ?_)
      clear hq
      obtain ⟨rfl, rfl⟩ := hpo
      have w : mW E A s [(h, .inr (11, [.ref a_g, .ref a_kept, .int isKept, .ref a_tape, .int taped, .int spot, .ref a_written, .int o_7.2, .ref a_asked, .int askedMany, .ref a_there, .ref a_counts, .ref a_lasts, .ref a_cames])), (a_g, .inl (E.2.1, 8787, .inl g)), (a_kept, .inl (E.2.1, 8787, .inl kept)), (a_tape, .inl (E.2.2.1, 60, .inl tape)), (a_written, .inl (E.2.1, 40, .inl o_7.1)), (a_asked, .inl (E.2.1, 60, .inl asked)), (a_there, .inl (E.2.1, 12, .inl there)), (a_counts, .inl (E.2.1, 12, .inl counts)), (a_lasts, .inl (E.2.1, 12, .inl lasts)), (a_cames, .inl (E.2.1, 12, .inl cames))] H locs := w
      obtain ⟨x5_8, ev⟩ : ∃ y : Int32, y = x5 + 1 := ⟨_, rfl⟩
      refine lv_iinc (v := x5_8) (lv' := [(5, .int x5_8), (0, .ref h), (2, .int x2), (3, .int x3), (4, .int x4)]) hx hb dX12_text_68 hl (k := 4) rfl (by rw [ev]; rfl) (by decide) rfl (fun ls hl => ?_)
      have hf := lt_n ev hf; clear ev
      refine lv_goto (tgt := 46) hx hb dX12_text_71 (by decide) ?_
      exact hrec _ _ _ _ _ _ hf  w (lv_sub hl [1, 2, 3, 4, 0] rfl)
noncomputable def F_X12_text (N : Nat)  (g : Nat → Int32) (written : Nat → Int32) (writtenMany : Int32) (x1 : Int32) (x2 : Int32) : Option (Int32 × (Nat → Int32) × Int32) :=
  if (x1 < 0 : Prop) then
  some ((-1001), written, writtenMany)
  else
  if (((-1)) ≤ x2 : Prop) then
  bd (F_X12_goingAt N g x1) (fun o_1 =>
  if (0 ≤ o_1 : Prop) then
  lt (0) (fun writtenMany_2 =>
  bd (F_X12_at g o_1 0) (fun o_3 =>
  bd (F_X12_sizeOf N o_3) (fun o_4 =>
  L_X12_text_46 N (fun written writtenMany => bd (F_X12_puts written writtenMany 32) (fun o_9 =>
  bd (F_X12_at g o_1 1) (fun o_10 =>
  bd (F_X12_putsNumber N o_9.1 o_9.2 o_10) (fun o_11 =>
  bd (F_X12_putsWord o_11.1 o_11.2 0) (fun o_12 =>
  bd (F_X12_at g o_1 2) (fun o_13 =>
  bd (F_X12_putsNumber N o_12.1 o_12.2 o_13) (fun o_14 =>
  bd (F_X12_putsWord o_14.1 o_14.2 1) (fun o_15 =>
  bd (F_X12_at g o_1 5) (fun o_16 =>
  bd (F_X12_putsNumber N o_15.1 o_15.2 o_16) (fun o_17 =>
  bd (F_X12_at g o_1 8) (fun o_18 =>
  if (o_18 = 0 : Prop) then
  bd (F_X12_putsWord o_17.1 o_17.2 4) (fun o_19 =>
  bd (F_X12_isStale g o_1) (fun o_20 =>
  if (o_20 = 0 : Prop) then
  bd (F_X12_putsWord o_19.1 o_19.2 4) (fun o_21 =>
  if (0 ≤ x2 : Prop) then
  if (o_21.2 ≤ x2 : Prop) then
  some ((-1003), o_21.1, o_21.2)
  else
  ld o_21.1 40 x2 (fun v_22 =>
  some (v_22, o_21.1, o_21.2))
  else
  some (o_21.2, o_21.1, o_21.2))
  else
  bd (F_X12_putsWord o_19.1 o_19.2 3) (fun o_23 =>
  if (0 ≤ x2 : Prop) then
  if (o_23.2 ≤ x2 : Prop) then
  some ((-1003), o_23.1, o_23.2)
  else
  ld o_23.1 40 x2 (fun v_24 =>
  some (v_24, o_23.1, o_23.2))
  else
  some (o_23.2, o_23.1, o_23.2))))
  else
  bd (F_X12_putsWord o_17.1 o_17.2 2) (fun o_25 =>
  bd (F_X12_isStale g o_1) (fun o_26 =>
  if (o_26 = 0 : Prop) then
  bd (F_X12_putsWord o_25.1 o_25.2 4) (fun o_27 =>
  if (0 ≤ x2 : Prop) then
  if (o_27.2 ≤ x2 : Prop) then
  some ((-1003), o_27.1, o_27.2)
  else
  ld o_27.1 40 x2 (fun v_28 =>
  some (v_28, o_27.1, o_27.2))
  else
  some (o_27.2, o_27.1, o_27.2))
  else
  bd (F_X12_putsWord o_25.1 o_25.2 3) (fun o_29 =>
  if (0 ≤ x2 : Prop) then
  if (o_29.2 ≤ x2 : Prop) then
  some ((-1003), o_29.1, o_29.2)
  else
  ld o_29.1 40 x2 (fun v_30 =>
  some (v_30, o_29.1, o_29.2))
  else
  some (o_29.2, o_29.1, o_29.2))))))))))))))) x2 o_1 o_4 g N 0 written writtenMany_2)))
  else
  some ((-1003), written, writtenMany))
  else
  some ((-1001), written, writtenMany)
set_option maxHeartbeats 4000000 in
set_option maxRecDepth 100000 in
theorem d_X12_text (E : mE) (l : Launch) (N : Nat) (h : Nat) (a_g : Nat) (a_kept : Nat) (a_tape : Nat) (a_written : Nat) (a_asked : Nat) (a_there : Nat) (a_counts : Nat) (a_lasts : Nat) (a_cames : Nat)  (g : Nat → Int32) (kept : Nat → Int32) (isKept : Int32) (tape : Nat → Int32) (taped : Int32) (spot : Int32) (written : Nat → Int32) (writtenMany : Int32) (asked : Nat → Int32) (askedMany : Int32) (there : Nat → Int32) (counts : Nat → Int32) (lasts : Nat → Int32) (cames : Nat → Int32)  (x1 : Int32) (x2 : Int32)  (o : Int32 × (Nat → Int32) × Int32) (hf : F_X12_text N g written writtenMany x1 x2 = some o) : MX E l yX12_text cX12_text 6 (some .int) ({ frames := 5, cells := 0, slots := 0, locals := 108 } : Room) [.ref h, .int x1, .int x2] [(h, .inr (11, [.ref a_g, .ref a_kept, .int isKept, .ref a_tape, .int taped, .int spot, .ref a_written, .int writtenMany, .ref a_asked, .int askedMany, .ref a_there, .ref a_counts, .ref a_lasts, .ref a_cames])), (a_g, .inl (E.2.1, 8787, .inl g)), (a_kept, .inl (E.2.1, 8787, .inl kept)), (a_tape, .inl (E.2.2.1, 60, .inl tape)), (a_written, .inl (E.2.1, 40, .inl written)), (a_asked, .inl (E.2.1, 60, .inl asked)), (a_there, .inl (E.2.1, 12, .inl there)), (a_counts, .inl (E.2.1, 12, .inl counts)), (a_lasts, .inl (E.2.1, 12, .inl lasts)), (a_cames, .inl (E.2.1, 12, .inl cames))] (po_X12_text E h a_g a_kept a_tape a_written a_asked a_there a_counts a_lasts a_cames g kept isKept tape taped spot written writtenMany asked askedMany there counts lasts cames o) := by
  refine mx_intro (by decide +kernel) (Nat.le_of_ble_eq_true rfl) ?_
  intro p e s m args below meth c A Q ls B w hl
  obtain ⟨hx, hb, hml, hown, hts⟩ := id B.1
  unfold F_X12_text at hf
  have hl : lv_has ls 6 [(0, .ref h), (1, .int x1), (2, .int x2)] := hl
  refine lv_iload_n hx hb dX12_text_0 rfl (lv_at hl 1 rfl) ?_
  refine lv_if_lt (tgt := 9) hx hb dX12_text_1 (by decide) (fun hc => ?_) (fun hc => ?_)
  · have hf := it_t hc hf
    refine lv_sipush (v := (-1001)) hx hb dX12_text_9 (by decide) ?_
    cases hf
    exact mx_iret B w ⟨rfl, rfl⟩ dX12_text_12
  · have hf := it_f hc hf
    refine lv_iload_n hx hb dX12_text_4 rfl (lv_at hl 2 rfl) ?_
    refine lv_iconst (v := (-1)) hx hb dX12_text_5 (by decide) ?_
    refine lv_icmp_ge (tgt := 13) hx hb dX12_text_6 (by decide) (fun hc => ?_) (fun hc => ?_)
    · have hf := it_t hc hf
      refine lv_aload_n hx hb dX12_text_13 rfl (lv_at hl 0 rfl) ?_
      refine lv_iload_n hx hb dX12_text_14 rfl (lv_at hl 1 rfl) ?_
      obtain ⟨o_1, hq, hf⟩ := bd_e hf
      refine mx_callV (As := [.int x1]) (rest := []) (wr := []) (d_X12_goingAt E l N h a_g a_kept a_tape a_written a_asked a_there a_counts a_lasts a_cames g kept isKept tape taped spot written writtenMany asked askedMany there counts lasts cames x1  o_1 hq) B w [0, 1, 2, 3, 4, 5, 6, 7, 8, 9] [] rfl rfl (by decide) (by decide) (by decide) 0 rfl rfl cv_X12_goingAt kw_1575 1 (by decide +kernel) ⟨Nat.le_of_ble_eq_true rfl, Nat.le_of_ble_eq_true rfl⟩ rfl hl.1 rfl (Nat.le_of_ble_eq_true rfl) dX12_text_15 rfl rfl ⟨Nat.zero_le _, Nat.zero_le _⟩ (fun v w' H locs hpo w => ?_)
      clear hq
      obtain ⟨rfl, rfl⟩ := hpo
      have w : mW E A s [(h, .inr (11, [.ref a_g, .ref a_kept, .int isKept, .ref a_tape, .int taped, .int spot, .ref a_written, .int writtenMany, .ref a_asked, .int askedMany, .ref a_there, .ref a_counts, .ref a_lasts, .ref a_cames])), (a_g, .inl (E.2.1, 8787, .inl g)), (a_kept, .inl (E.2.1, 8787, .inl kept)), (a_tape, .inl (E.2.2.1, 60, .inl tape)), (a_written, .inl (E.2.1, 40, .inl written)), (a_asked, .inl (E.2.1, 60, .inl asked)), (a_there, .inl (E.2.1, 12, .inl there)), (a_counts, .inl (E.2.1, 12, .inl counts)), (a_lasts, .inl (E.2.1, 12, .inl lasts)), (a_cames, .inl (E.2.1, 12, .inl cames))] H locs := w
      refine lv_istore_n (lv' := [(3, .int o_1), (0, .ref h), (1, .int x1), (2, .int x2)]) hx hb dX12_text_18 rfl hl (by decide) rfl (fun ls hl => ?_)
      refine lv_iload_n hx hb dX12_text_19 rfl (lv_at hl 0 rfl) ?_
      refine lv_if_ge (tgt := 27) hx hb dX12_text_20 (by decide) (fun hc => ?_) (fun hc => ?_)
      · have hf := it_t hc hf
        refine lv_aload_n hx hb dX12_text_27 rfl (lv_at hl 1 rfl) ?_
        refine lv_iconst (v := 0) hx hb dX12_text_28 (by decide) ?_
        refine mx_puti B w 0 fl_X12_228 fi_X12_7 rfl (Nat.le_of_ble_eq_true rfl) dX12_text_29 (fun writtenMany_2 H locs ev w => ?_)
        have hf := lt_n ev hf; clear ev
        have w : mW E A s [(h, .inr (11, [.ref a_g, .ref a_kept, .int isKept, .ref a_tape, .int taped, .int spot, .ref a_written, .int writtenMany_2, .ref a_asked, .int askedMany, .ref a_there, .ref a_counts, .ref a_lasts, .ref a_cames])), (a_g, .inl (E.2.1, 8787, .inl g)), (a_kept, .inl (E.2.1, 8787, .inl kept)), (a_tape, .inl (E.2.2.1, 60, .inl tape)), (a_written, .inl (E.2.1, 40, .inl written)), (a_asked, .inl (E.2.1, 60, .inl asked)), (a_there, .inl (E.2.1, 12, .inl there)), (a_counts, .inl (E.2.1, 12, .inl counts)), (a_lasts, .inl (E.2.1, 12, .inl lasts)), (a_cames, .inl (E.2.1, 12, .inl cames))] H locs := w
        refine lv_aload_n hx hb dX12_text_32 rfl (lv_at hl 1 rfl) ?_
        refine lv_iload_n hx hb dX12_text_33 rfl (lv_at hl 0 rfl) ?_
        refine lv_iconst (v := 0) hx hb dX12_text_34 (by decide) ?_
        obtain ⟨o_3, hq, hf⟩ := bd_e hf
        refine mx_callV (As := [.int o_1, .int 0]) (rest := []) (wr := []) (d_X12_at E l  h a_g a_kept a_tape a_written a_asked a_there a_counts a_lasts a_cames g kept isKept tape taped spot written writtenMany_2 asked askedMany there counts lasts cames o_1 0  o_3 hq) B w [0, 1, 2, 3, 4, 5, 6, 7, 8, 9] [] rfl rfl (by decide) (by decide) (by decide) 0 rfl rfl cv_X12_at kw_1325 2 (by decide +kernel) ⟨Nat.le_of_ble_eq_true rfl, Nat.le_of_ble_eq_true rfl⟩ rfl hl.1 rfl (Nat.le_of_ble_eq_true rfl) dX12_text_35 rfl rfl ⟨Nat.zero_le _, Nat.zero_le _⟩ (fun v w' H locs hpo w => ?_)
        clear hq
        obtain ⟨rfl, rfl⟩ := hpo
        have w : mW E A s [(h, .inr (11, [.ref a_g, .ref a_kept, .int isKept, .ref a_tape, .int taped, .int spot, .ref a_written, .int writtenMany_2, .ref a_asked, .int askedMany, .ref a_there, .ref a_counts, .ref a_lasts, .ref a_cames])), (a_g, .inl (E.2.1, 8787, .inl g)), (a_kept, .inl (E.2.1, 8787, .inl kept)), (a_tape, .inl (E.2.2.1, 60, .inl tape)), (a_written, .inl (E.2.1, 40, .inl written)), (a_asked, .inl (E.2.1, 60, .inl asked)), (a_there, .inl (E.2.1, 12, .inl there)), (a_counts, .inl (E.2.1, 12, .inl counts)), (a_lasts, .inl (E.2.1, 12, .inl lasts)), (a_cames, .inl (E.2.1, 12, .inl cames))] H locs := w
        obtain ⟨o_4, hq, hf⟩ := bd_e hf
        refine mx_callS (As := [.int o_3]) (rest := []) (wr := [(h, .inr (11, [.ref a_g, .ref a_kept, .int isKept, .ref a_tape, .int taped, .int spot, .ref a_written, .int writtenMany_2, .ref a_asked, .int askedMany, .ref a_there, .ref a_counts, .ref a_lasts, .ref a_cames])), (a_g, .inl (E.2.1, 8787, .inl g)), (a_kept, .inl (E.2.1, 8787, .inl kept)), (a_tape, .inl (E.2.2.1, 60, .inl tape)), (a_written, .inl (E.2.1, 40, .inl written)), (a_asked, .inl (E.2.1, 60, .inl asked)), (a_there, .inl (E.2.1, 12, .inl there)), (a_counts, .inl (E.2.1, 12, .inl counts)), (a_lasts, .inl (E.2.1, 12, .inl lasts)), (a_cames, .inl (E.2.1, 12, .inl cames))]) (d_X12_sizeOf E l N  o_3  o_4 hq) B w [] [0, 1, 2, 3, 4, 5, 6, 7, 8, 9] rfl rfl (by decide) (by decide) (by decide) cs_X12_sizeOf kw_1299 1 (by decide +kernel) ⟨Nat.le_of_ble_eq_true rfl, Nat.le_of_ble_eq_true rfl⟩ rfl hl.1 rfl (Nat.le_of_ble_eq_true rfl) dX12_text_38 rfl rfl ⟨Nat.zero_le _, Nat.zero_le _⟩ (fun v w' H locs hpo w => ?_)
        clear hq
        obtain ⟨rfl, rfl⟩ := hpo
        have w : mW E A s [(h, .inr (11, [.ref a_g, .ref a_kept, .int isKept, .ref a_tape, .int taped, .int spot, .ref a_written, .int writtenMany_2, .ref a_asked, .int askedMany, .ref a_there, .ref a_counts, .ref a_lasts, .ref a_cames])), (a_g, .inl (E.2.1, 8787, .inl g)), (a_kept, .inl (E.2.1, 8787, .inl kept)), (a_tape, .inl (E.2.2.1, 60, .inl tape)), (a_written, .inl (E.2.1, 40, .inl written)), (a_asked, .inl (E.2.1, 60, .inl asked)), (a_there, .inl (E.2.1, 12, .inl there)), (a_counts, .inl (E.2.1, 12, .inl counts)), (a_lasts, .inl (E.2.1, 12, .inl lasts)), (a_cames, .inl (E.2.1, 12, .inl cames))] H locs := w
        refine lv_istore (lv' := [(4, .int o_4), (3, .int o_1), (0, .ref h), (1, .int x1), (2, .int x2)]) hx hb dX12_text_41 hl (by decide) rfl (fun ls hl => ?_)
        refine lv_iconst (v := 0) hx hb dX12_text_43 (by decide) ?_
        refine lv_istore (lv' := [(5, .int 0), (4, .int o_4), (3, .int o_1), (0, .ref h), (1, .int x1), (2, .int x2)]) hx hb dX12_text_44 hl (by decide) rfl (fun ls hl => ?_)
        refine l_X12_text_46 B _  ?_ N _ _ _ _ _ _ hf  w (lv_sub hl [3, 5, 2, 1, 0] rfl)
        · intro written writtenMany H locs ls hf w hl
          refine lv_aload_n hx hb dX12_text_74 rfl (lv_at hl 0 rfl) ?_
          refine lv_bipush (v := 32) hx hb dX12_text_75 (by decide) ?_
          obtain ⟨o_9, hq, hf⟩ := bd_e hf
          refine mx_callV (As := [.int 32]) (rest := []) (wr := []) (d_X12_puts E l  h a_g a_kept a_tape a_written a_asked a_there a_counts a_lasts a_cames g kept isKept tape taped spot written writtenMany asked askedMany there counts lasts cames 32  o_9 hq) B w [0, 1, 2, 3, 4, 5, 6, 7, 8, 9] [] rfl rfl (by decide) (by decide) (by decide) 0 rfl rfl cv_X12_puts kw_1595 1 (by decide +kernel) ⟨Nat.le_of_ble_eq_true rfl, Nat.le_of_ble_eq_true rfl⟩ rfl hl.1 rfl (Nat.le_of_ble_eq_true rfl) dX12_text_77 rfl rfl ⟨Nat.zero_le _, Nat.zero_le _⟩ (fun v w' H locs hpo w => ?_)
          clear hq
          obtain ⟨rfl, rfl⟩ := hpo
          have w : mW E A s [(h, .inr (11, [.ref a_g, .ref a_kept, .int isKept, .ref a_tape, .int taped, .int spot, .ref a_written, .int o_9.2, .ref a_asked, .int askedMany, .ref a_there, .ref a_counts, .ref a_lasts, .ref a_cames])), (a_g, .inl (E.2.1, 8787, .inl g)), (a_kept, .inl (E.2.1, 8787, .inl kept)), (a_tape, .inl (E.2.2.1, 60, .inl tape)), (a_written, .inl (E.2.1, 40, .inl o_9.1)), (a_asked, .inl (E.2.1, 60, .inl asked)), (a_there, .inl (E.2.1, 12, .inl there)), (a_counts, .inl (E.2.1, 12, .inl counts)), (a_lasts, .inl (E.2.1, 12, .inl lasts)), (a_cames, .inl (E.2.1, 12, .inl cames))] H locs := w
          refine lv_aload_n hx hb dX12_text_80 rfl (lv_at hl 0 rfl) ?_
          refine lv_aload_n hx hb dX12_text_81 rfl (lv_at hl 0 rfl) ?_
          refine lv_iload_n hx hb dX12_text_82 rfl (lv_at hl 2 rfl) ?_
          refine lv_iconst (v := 1) hx hb dX12_text_83 (by decide) ?_
          obtain ⟨o_10, hq, hf⟩ := bd_e hf
          refine mx_callV (As := [.int o_1, .int 1]) (rest := [.ref h]) (wr := []) (d_X12_at E l  h a_g a_kept a_tape a_written a_asked a_there a_counts a_lasts a_cames g kept isKept tape taped spot o_9.1 o_9.2 asked askedMany there counts lasts cames o_1 1  o_10 hq) B w [0, 1, 2, 3, 4, 5, 6, 7, 8, 9] [] rfl rfl (by decide) (by decide) (by decide) 0 rfl rfl cv_X12_at kw_1325 2 (by decide +kernel) ⟨Nat.le_of_ble_eq_true rfl, Nat.le_of_ble_eq_true rfl⟩ rfl hl.1 rfl (Nat.le_of_ble_eq_true rfl) dX12_text_84 rfl rfl ⟨Nat.zero_le _, Nat.zero_le _⟩ (fun v w' H locs hpo w => ?_)
          clear hq
          obtain ⟨rfl, rfl⟩ := hpo
          have w : mW E A s [(h, .inr (11, [.ref a_g, .ref a_kept, .int isKept, .ref a_tape, .int taped, .int spot, .ref a_written, .int o_9.2, .ref a_asked, .int askedMany, .ref a_there, .ref a_counts, .ref a_lasts, .ref a_cames])), (a_g, .inl (E.2.1, 8787, .inl g)), (a_kept, .inl (E.2.1, 8787, .inl kept)), (a_tape, .inl (E.2.2.1, 60, .inl tape)), (a_written, .inl (E.2.1, 40, .inl o_9.1)), (a_asked, .inl (E.2.1, 60, .inl asked)), (a_there, .inl (E.2.1, 12, .inl there)), (a_counts, .inl (E.2.1, 12, .inl counts)), (a_lasts, .inl (E.2.1, 12, .inl lasts)), (a_cames, .inl (E.2.1, 12, .inl cames))] H locs := w
          obtain ⟨o_11, hq, hf⟩ := bd_e hf
          refine mx_callV (As := [.int o_10]) (rest := []) (wr := []) (d_X12_putsNumber E l N h a_g a_kept a_tape a_written a_asked a_there a_counts a_lasts a_cames g kept isKept tape taped spot o_9.1 o_9.2 asked askedMany there counts lasts cames o_10  o_11 hq) B w [0, 1, 2, 3, 4, 5, 6, 7, 8, 9] [] rfl rfl (by decide) (by decide) (by decide) 0 rfl rfl cv_X12_putsNumber kw_1599 1 (by decide +kernel) ⟨Nat.le_of_ble_eq_true rfl, Nat.le_of_ble_eq_true rfl⟩ rfl hl.1 rfl (Nat.le_of_ble_eq_true rfl) dX12_text_87 rfl rfl ⟨Nat.zero_le _, Nat.zero_le _⟩ (fun v w' H locs hpo w => ?_)
          clear hq
          obtain ⟨rfl, rfl⟩ := hpo
          have w : mW E A s [(h, .inr (11, [.ref a_g, .ref a_kept, .int isKept, .ref a_tape, .int taped, .int spot, .ref a_written, .int o_11.2, .ref a_asked, .int askedMany, .ref a_there, .ref a_counts, .ref a_lasts, .ref a_cames])), (a_g, .inl (E.2.1, 8787, .inl g)), (a_kept, .inl (E.2.1, 8787, .inl kept)), (a_tape, .inl (E.2.2.1, 60, .inl tape)), (a_written, .inl (E.2.1, 40, .inl o_11.1)), (a_asked, .inl (E.2.1, 60, .inl asked)), (a_there, .inl (E.2.1, 12, .inl there)), (a_counts, .inl (E.2.1, 12, .inl counts)), (a_lasts, .inl (E.2.1, 12, .inl lasts)), (a_cames, .inl (E.2.1, 12, .inl cames))] H locs := w
          refine lv_aload_n hx hb dX12_text_90 rfl (lv_at hl 0 rfl) ?_
          refine va_ldcS hx hb hown (B.2.2.2.2.2.1.2.2.2.2.2.2.2.2.2.1 _ (by simp [sRef] : ("FrequencyShelfModel", 246, " w", 0) ∈ sRef)) dX12_text_91 ?_
          obtain ⟨o_12, hq, hf⟩ := bd_e hf
          refine mx_callV (As := [.ref (E.2.2.2 (10 + 0))]) (rest := []) (wr := []) (d_X12_putsWord E l  h a_g a_kept a_tape a_written a_asked a_there a_counts a_lasts a_cames g kept isKept tape taped spot o_11.1 o_11.2 asked askedMany there counts lasts cames 0  o_12 hq) B w [0, 1, 2, 3, 4, 5, 6, 7, 8, 9] [] rfl rfl (by decide) (by decide) (by decide) 0 rfl rfl cv_X12_putsWord kw_1604 1 (by decide +kernel) ⟨Nat.le_of_ble_eq_true rfl, Nat.le_of_ble_eq_true rfl⟩ rfl hl.1 rfl (Nat.le_of_ble_eq_true rfl) dX12_text_93 rfl rfl ⟨Nat.zero_le _, Nat.zero_le _⟩ (fun v w' H locs hpo w => ?_)
          clear hq
          obtain ⟨rfl, rfl⟩ := hpo
          have w : mW E A s [(h, .inr (11, [.ref a_g, .ref a_kept, .int isKept, .ref a_tape, .int taped, .int spot, .ref a_written, .int o_12.2, .ref a_asked, .int askedMany, .ref a_there, .ref a_counts, .ref a_lasts, .ref a_cames])), (a_g, .inl (E.2.1, 8787, .inl g)), (a_kept, .inl (E.2.1, 8787, .inl kept)), (a_tape, .inl (E.2.2.1, 60, .inl tape)), (a_written, .inl (E.2.1, 40, .inl o_12.1)), (a_asked, .inl (E.2.1, 60, .inl asked)), (a_there, .inl (E.2.1, 12, .inl there)), (a_counts, .inl (E.2.1, 12, .inl counts)), (a_lasts, .inl (E.2.1, 12, .inl lasts)), (a_cames, .inl (E.2.1, 12, .inl cames))] H locs := w
          refine lv_aload_n hx hb dX12_text_96 rfl (lv_at hl 0 rfl) ?_
          refine lv_aload_n hx hb dX12_text_97 rfl (lv_at hl 0 rfl) ?_
          refine lv_iload_n hx hb dX12_text_98 rfl (lv_at hl 2 rfl) ?_
          refine lv_iconst (v := 2) hx hb dX12_text_99 (by decide) ?_
          obtain ⟨o_13, hq, hf⟩ := bd_e hf
          refine mx_callV (As := [.int o_1, .int 2]) (rest := [.ref h]) (wr := []) (d_X12_at E l  h a_g a_kept a_tape a_written a_asked a_there a_counts a_lasts a_cames g kept isKept tape taped spot o_12.1 o_12.2 asked askedMany there counts lasts cames o_1 2  o_13 hq) B w [0, 1, 2, 3, 4, 5, 6, 7, 8, 9] [] rfl rfl (by decide) (by decide) (by decide) 0 rfl rfl cv_X12_at kw_1325 2 (by decide +kernel) ⟨Nat.le_of_ble_eq_true rfl, Nat.le_of_ble_eq_true rfl⟩ rfl hl.1 rfl (Nat.le_of_ble_eq_true rfl) dX12_text_100 rfl rfl ⟨Nat.zero_le _, Nat.zero_le _⟩ (fun v w' H locs hpo w => ?_)
          clear hq
          obtain ⟨rfl, rfl⟩ := hpo
          have w : mW E A s [(h, .inr (11, [.ref a_g, .ref a_kept, .int isKept, .ref a_tape, .int taped, .int spot, .ref a_written, .int o_12.2, .ref a_asked, .int askedMany, .ref a_there, .ref a_counts, .ref a_lasts, .ref a_cames])), (a_g, .inl (E.2.1, 8787, .inl g)), (a_kept, .inl (E.2.1, 8787, .inl kept)), (a_tape, .inl (E.2.2.1, 60, .inl tape)), (a_written, .inl (E.2.1, 40, .inl o_12.1)), (a_asked, .inl (E.2.1, 60, .inl asked)), (a_there, .inl (E.2.1, 12, .inl there)), (a_counts, .inl (E.2.1, 12, .inl counts)), (a_lasts, .inl (E.2.1, 12, .inl lasts)), (a_cames, .inl (E.2.1, 12, .inl cames))] H locs := w
          obtain ⟨o_14, hq, hf⟩ := bd_e hf
          refine mx_callV (As := [.int o_13]) (rest := []) (wr := []) (d_X12_putsNumber E l N h a_g a_kept a_tape a_written a_asked a_there a_counts a_lasts a_cames g kept isKept tape taped spot o_12.1 o_12.2 asked askedMany there counts lasts cames o_13  o_14 hq) B w [0, 1, 2, 3, 4, 5, 6, 7, 8, 9] [] rfl rfl (by decide) (by decide) (by decide) 0 rfl rfl cv_X12_putsNumber kw_1599 1 (by decide +kernel) ⟨Nat.le_of_ble_eq_true rfl, Nat.le_of_ble_eq_true rfl⟩ rfl hl.1 rfl (Nat.le_of_ble_eq_true rfl) dX12_text_103 rfl rfl ⟨Nat.zero_le _, Nat.zero_le _⟩ (fun v w' H locs hpo w => ?_)
          clear hq
          obtain ⟨rfl, rfl⟩ := hpo
          have w : mW E A s [(h, .inr (11, [.ref a_g, .ref a_kept, .int isKept, .ref a_tape, .int taped, .int spot, .ref a_written, .int o_14.2, .ref a_asked, .int askedMany, .ref a_there, .ref a_counts, .ref a_lasts, .ref a_cames])), (a_g, .inl (E.2.1, 8787, .inl g)), (a_kept, .inl (E.2.1, 8787, .inl kept)), (a_tape, .inl (E.2.2.1, 60, .inl tape)), (a_written, .inl (E.2.1, 40, .inl o_14.1)), (a_asked, .inl (E.2.1, 60, .inl asked)), (a_there, .inl (E.2.1, 12, .inl there)), (a_counts, .inl (E.2.1, 12, .inl counts)), (a_lasts, .inl (E.2.1, 12, .inl lasts)), (a_cames, .inl (E.2.1, 12, .inl cames))] H locs := w
          refine lv_aload_n hx hb dX12_text_106 rfl (lv_at hl 0 rfl) ?_
          refine va_ldcS hx hb hown (B.2.2.2.2.2.1.2.2.2.2.2.2.2.2.2.1 _ (by simp [sRef] : ("FrequencyShelfModel", 252, " c", 1) ∈ sRef)) dX12_text_107 ?_
          obtain ⟨o_15, hq, hf⟩ := bd_e hf
          refine mx_callV (As := [.ref (E.2.2.2 (10 + 1))]) (rest := []) (wr := []) (d_X12_putsWord E l  h a_g a_kept a_tape a_written a_asked a_there a_counts a_lasts a_cames g kept isKept tape taped spot o_14.1 o_14.2 asked askedMany there counts lasts cames 1  o_15 hq) B w [0, 1, 2, 3, 4, 5, 6, 7, 8, 9] [] rfl rfl (by decide) (by decide) (by decide) 0 rfl rfl cv_X12_putsWord kw_1604 1 (by decide +kernel) ⟨Nat.le_of_ble_eq_true rfl, Nat.le_of_ble_eq_true rfl⟩ rfl hl.1 rfl (Nat.le_of_ble_eq_true rfl) dX12_text_109 rfl rfl ⟨Nat.zero_le _, Nat.zero_le _⟩ (fun v w' H locs hpo w => ?_)
          clear hq
          obtain ⟨rfl, rfl⟩ := hpo
          have w : mW E A s [(h, .inr (11, [.ref a_g, .ref a_kept, .int isKept, .ref a_tape, .int taped, .int spot, .ref a_written, .int o_15.2, .ref a_asked, .int askedMany, .ref a_there, .ref a_counts, .ref a_lasts, .ref a_cames])), (a_g, .inl (E.2.1, 8787, .inl g)), (a_kept, .inl (E.2.1, 8787, .inl kept)), (a_tape, .inl (E.2.2.1, 60, .inl tape)), (a_written, .inl (E.2.1, 40, .inl o_15.1)), (a_asked, .inl (E.2.1, 60, .inl asked)), (a_there, .inl (E.2.1, 12, .inl there)), (a_counts, .inl (E.2.1, 12, .inl counts)), (a_lasts, .inl (E.2.1, 12, .inl lasts)), (a_cames, .inl (E.2.1, 12, .inl cames))] H locs := w
          refine lv_aload_n hx hb dX12_text_112 rfl (lv_at hl 0 rfl) ?_
          refine lv_aload_n hx hb dX12_text_113 rfl (lv_at hl 0 rfl) ?_
          refine lv_iload_n hx hb dX12_text_114 rfl (lv_at hl 2 rfl) ?_
          refine lv_iconst (v := 5) hx hb dX12_text_115 (by decide) ?_
          obtain ⟨o_16, hq, hf⟩ := bd_e hf
          refine mx_callV (As := [.int o_1, .int 5]) (rest := [.ref h]) (wr := []) (d_X12_at E l  h a_g a_kept a_tape a_written a_asked a_there a_counts a_lasts a_cames g kept isKept tape taped spot o_15.1 o_15.2 asked askedMany there counts lasts cames o_1 5  o_16 hq) B w [0, 1, 2, 3, 4, 5, 6, 7, 8, 9] [] rfl rfl (by decide) (by decide) (by decide) 0 rfl rfl cv_X12_at kw_1325 2 (by decide +kernel) ⟨Nat.le_of_ble_eq_true rfl, Nat.le_of_ble_eq_true rfl⟩ rfl hl.1 rfl (Nat.le_of_ble_eq_true rfl) dX12_text_116 rfl rfl ⟨Nat.zero_le _, Nat.zero_le _⟩ (fun v w' H locs hpo w => ?_)
          clear hq
          obtain ⟨rfl, rfl⟩ := hpo
          have w : mW E A s [(h, .inr (11, [.ref a_g, .ref a_kept, .int isKept, .ref a_tape, .int taped, .int spot, .ref a_written, .int o_15.2, .ref a_asked, .int askedMany, .ref a_there, .ref a_counts, .ref a_lasts, .ref a_cames])), (a_g, .inl (E.2.1, 8787, .inl g)), (a_kept, .inl (E.2.1, 8787, .inl kept)), (a_tape, .inl (E.2.2.1, 60, .inl tape)), (a_written, .inl (E.2.1, 40, .inl o_15.1)), (a_asked, .inl (E.2.1, 60, .inl asked)), (a_there, .inl (E.2.1, 12, .inl there)), (a_counts, .inl (E.2.1, 12, .inl counts)), (a_lasts, .inl (E.2.1, 12, .inl lasts)), (a_cames, .inl (E.2.1, 12, .inl cames))] H locs := w
          obtain ⟨o_17, hq, hf⟩ := bd_e hf
          refine mx_callV (As := [.int o_16]) (rest := []) (wr := []) (d_X12_putsNumber E l N h a_g a_kept a_tape a_written a_asked a_there a_counts a_lasts a_cames g kept isKept tape taped spot o_15.1 o_15.2 asked askedMany there counts lasts cames o_16  o_17 hq) B w [0, 1, 2, 3, 4, 5, 6, 7, 8, 9] [] rfl rfl (by decide) (by decide) (by decide) 0 rfl rfl cv_X12_putsNumber kw_1599 1 (by decide +kernel) ⟨Nat.le_of_ble_eq_true rfl, Nat.le_of_ble_eq_true rfl⟩ rfl hl.1 rfl (Nat.le_of_ble_eq_true rfl) dX12_text_119 rfl rfl ⟨Nat.zero_le _, Nat.zero_le _⟩ (fun v w' H locs hpo w => ?_)
          clear hq
          obtain ⟨rfl, rfl⟩ := hpo
          have w : mW E A s [(h, .inr (11, [.ref a_g, .ref a_kept, .int isKept, .ref a_tape, .int taped, .int spot, .ref a_written, .int o_17.2, .ref a_asked, .int askedMany, .ref a_there, .ref a_counts, .ref a_lasts, .ref a_cames])), (a_g, .inl (E.2.1, 8787, .inl g)), (a_kept, .inl (E.2.1, 8787, .inl kept)), (a_tape, .inl (E.2.2.1, 60, .inl tape)), (a_written, .inl (E.2.1, 40, .inl o_17.1)), (a_asked, .inl (E.2.1, 60, .inl asked)), (a_there, .inl (E.2.1, 12, .inl there)), (a_counts, .inl (E.2.1, 12, .inl counts)), (a_lasts, .inl (E.2.1, 12, .inl lasts)), (a_cames, .inl (E.2.1, 12, .inl cames))] H locs := w
          refine lv_aload_n hx hb dX12_text_122 rfl (lv_at hl 0 rfl) ?_
          refine lv_aload_n hx hb dX12_text_123 rfl (lv_at hl 0 rfl) ?_
          refine lv_iload_n hx hb dX12_text_124 rfl (lv_at hl 2 rfl) ?_
          refine lv_bipush (v := 8) hx hb dX12_text_125 (by decide) ?_
          obtain ⟨o_18, hq, hf⟩ := bd_e hf
          refine mx_callV (As := [.int o_1, .int 8]) (rest := [.ref h]) (wr := []) (d_X12_at E l  h a_g a_kept a_tape a_written a_asked a_there a_counts a_lasts a_cames g kept isKept tape taped spot o_17.1 o_17.2 asked askedMany there counts lasts cames o_1 8  o_18 hq) B w [0, 1, 2, 3, 4, 5, 6, 7, 8, 9] [] rfl rfl (by decide) (by decide) (by decide) 0 rfl rfl cv_X12_at kw_1325 2 (by decide +kernel) ⟨Nat.le_of_ble_eq_true rfl, Nat.le_of_ble_eq_true rfl⟩ rfl hl.1 rfl (Nat.le_of_ble_eq_true rfl) dX12_text_127 rfl rfl ⟨Nat.zero_le _, Nat.zero_le _⟩ (fun v w' H locs hpo w => ?_)
          clear hq
          obtain ⟨rfl, rfl⟩ := hpo
          have w : mW E A s [(h, .inr (11, [.ref a_g, .ref a_kept, .int isKept, .ref a_tape, .int taped, .int spot, .ref a_written, .int o_17.2, .ref a_asked, .int askedMany, .ref a_there, .ref a_counts, .ref a_lasts, .ref a_cames])), (a_g, .inl (E.2.1, 8787, .inl g)), (a_kept, .inl (E.2.1, 8787, .inl kept)), (a_tape, .inl (E.2.2.1, 60, .inl tape)), (a_written, .inl (E.2.1, 40, .inl o_17.1)), (a_asked, .inl (E.2.1, 60, .inl asked)), (a_there, .inl (E.2.1, 12, .inl there)), (a_counts, .inl (E.2.1, 12, .inl counts)), (a_lasts, .inl (E.2.1, 12, .inl lasts)), (a_cames, .inl (E.2.1, 12, .inl cames))] H locs := w
          refine lv_if_eq (tgt := 138) hx hb dX12_text_130 (by decide) (fun hc => ?_) (fun hc => ?_)
          · have hf := it_t hc hf
            refine tx_ldcwS hx hb hown (B.2.2.2.2.2.1.2.2.2.2.2.2.2.2.2.1 _ (by simp [sRef] : ("FrequencyShelfModel", 256, "", 4) ∈ sRef)) dX12_text_138 ?_
            obtain ⟨o_19, hq, hf⟩ := bd_e hf
            refine mx_callV (As := [.ref (E.2.2.2 (10 + 4))]) (rest := []) (wr := []) (d_X12_putsWord E l  h a_g a_kept a_tape a_written a_asked a_there a_counts a_lasts a_cames g kept isKept tape taped spot o_17.1 o_17.2 asked askedMany there counts lasts cames 4  o_19 hq) B w [0, 1, 2, 3, 4, 5, 6, 7, 8, 9] [] rfl rfl (by decide) (by decide) (by decide) 0 rfl rfl cv_X12_putsWord kw_1604 1 (by decide +kernel) ⟨Nat.le_of_ble_eq_true rfl, Nat.le_of_ble_eq_true rfl⟩ rfl hl.1 rfl (Nat.le_of_ble_eq_true rfl) dX12_text_141 rfl rfl ⟨Nat.zero_le _, Nat.zero_le _⟩ (fun v w' H locs hpo w => ?_)
            clear hq
            obtain ⟨rfl, rfl⟩ := hpo
            have w : mW E A s [(h, .inr (11, [.ref a_g, .ref a_kept, .int isKept, .ref a_tape, .int taped, .int spot, .ref a_written, .int o_19.2, .ref a_asked, .int askedMany, .ref a_there, .ref a_counts, .ref a_lasts, .ref a_cames])), (a_g, .inl (E.2.1, 8787, .inl g)), (a_kept, .inl (E.2.1, 8787, .inl kept)), (a_tape, .inl (E.2.2.1, 60, .inl tape)), (a_written, .inl (E.2.1, 40, .inl o_19.1)), (a_asked, .inl (E.2.1, 60, .inl asked)), (a_there, .inl (E.2.1, 12, .inl there)), (a_counts, .inl (E.2.1, 12, .inl counts)), (a_lasts, .inl (E.2.1, 12, .inl lasts)), (a_cames, .inl (E.2.1, 12, .inl cames))] H locs := w
            refine lv_aload_n hx hb dX12_text_144 rfl (lv_at hl 0 rfl) ?_
            refine lv_aload_n hx hb dX12_text_145 rfl (lv_at hl 0 rfl) ?_
            refine lv_iload_n hx hb dX12_text_146 rfl (lv_at hl 2 rfl) ?_
            obtain ⟨o_20, hq, hf⟩ := bd_e hf
            refine mx_callV (As := [.int o_1]) (rest := [.ref h]) (wr := []) (d_X12_isStale E l  h a_g a_kept a_tape a_written a_asked a_there a_counts a_lasts a_cames g kept isKept tape taped spot o_19.1 o_19.2 asked askedMany there counts lasts cames o_1  o_20 hq) B w [0, 1, 2, 3, 4, 5, 6, 7, 8, 9] [] rfl rfl (by decide) (by decide) (by decide) 0 rfl rfl cv_X12_isStale kw_1337 1 (by decide +kernel) ⟨Nat.le_of_ble_eq_true rfl, Nat.le_of_ble_eq_true rfl⟩ rfl hl.1 rfl (Nat.le_of_ble_eq_true rfl) dX12_text_147 rfl rfl ⟨Nat.zero_le _, Nat.zero_le _⟩ (fun v w' H locs hpo w => ?_)
            clear hq
            obtain ⟨rfl, rfl⟩ := hpo
            have w : mW E A s [(h, .inr (11, [.ref a_g, .ref a_kept, .int isKept, .ref a_tape, .int taped, .int spot, .ref a_written, .int o_19.2, .ref a_asked, .int askedMany, .ref a_there, .ref a_counts, .ref a_lasts, .ref a_cames])), (a_g, .inl (E.2.1, 8787, .inl g)), (a_kept, .inl (E.2.1, 8787, .inl kept)), (a_tape, .inl (E.2.2.1, 60, .inl tape)), (a_written, .inl (E.2.1, 40, .inl o_19.1)), (a_asked, .inl (E.2.1, 60, .inl asked)), (a_there, .inl (E.2.1, 12, .inl there)), (a_counts, .inl (E.2.1, 12, .inl counts)), (a_lasts, .inl (E.2.1, 12, .inl lasts)), (a_cames, .inl (E.2.1, 12, .inl cames))] H locs := w
            refine lv_if_eq (tgt := 159) hx hb dX12_text_150 (by decide) (fun hc => ?_) (fun hc => ?_)
            · have hf := it_t hc hf
              refine tx_ldcwS hx hb hown (B.2.2.2.2.2.1.2.2.2.2.2.2.2.2.2.1 _ (by simp [sRef] : ("FrequencyShelfModel", 256, "", 4) ∈ sRef)) dX12_text_159 ?_
              obtain ⟨o_21, hq, hf⟩ := bd_e hf
              refine mx_callV (As := [.ref (E.2.2.2 (10 + 4))]) (rest := []) (wr := []) (d_X12_putsWord E l  h a_g a_kept a_tape a_written a_asked a_there a_counts a_lasts a_cames g kept isKept tape taped spot o_19.1 o_19.2 asked askedMany there counts lasts cames 4  o_21 hq) B w [0, 1, 2, 3, 4, 5, 6, 7, 8, 9] [] rfl rfl (by decide) (by decide) (by decide) 0 rfl rfl cv_X12_putsWord kw_1604 1 (by decide +kernel) ⟨Nat.le_of_ble_eq_true rfl, Nat.le_of_ble_eq_true rfl⟩ rfl hl.1 rfl (Nat.le_of_ble_eq_true rfl) dX12_text_162 rfl rfl ⟨Nat.zero_le _, Nat.zero_le _⟩ (fun v w' H locs hpo w => ?_)
              clear hq
              obtain ⟨rfl, rfl⟩ := hpo
              have w : mW E A s [(h, .inr (11, [.ref a_g, .ref a_kept, .int isKept, .ref a_tape, .int taped, .int spot, .ref a_written, .int o_21.2, .ref a_asked, .int askedMany, .ref a_there, .ref a_counts, .ref a_lasts, .ref a_cames])), (a_g, .inl (E.2.1, 8787, .inl g)), (a_kept, .inl (E.2.1, 8787, .inl kept)), (a_tape, .inl (E.2.2.1, 60, .inl tape)), (a_written, .inl (E.2.1, 40, .inl o_21.1)), (a_asked, .inl (E.2.1, 60, .inl asked)), (a_there, .inl (E.2.1, 12, .inl there)), (a_counts, .inl (E.2.1, 12, .inl counts)), (a_lasts, .inl (E.2.1, 12, .inl lasts)), (a_cames, .inl (E.2.1, 12, .inl cames))] H locs := w
              refine lv_iload_n hx hb dX12_text_165 rfl (lv_at hl 1 rfl) ?_
              refine lv_if_ge (tgt := 176) hx hb dX12_text_166 (by decide) (fun hc => ?_) (fun hc => ?_)
              · have hf := it_t hc hf
                refine lv_iload_n hx hb dX12_text_176 rfl (lv_at hl 1 rfl) ?_
                refine lv_aload_n hx hb dX12_text_177 rfl (lv_at hl 0 rfl) ?_
                refine mx_get B w 0 fl_X12_228 rfl rfl dX12_text_178 ?_
                refine lv_icmp_ge (tgt := 193) hx hb dX12_text_181 (by decide) (fun hc => ?_) (fun hc => ?_)
                · have hf := it_t hc hf
                  refine lv_sipush (v := (-1003)) hx hb dX12_text_193 (by decide) ?_
                  cases hf
                  exact mx_iret B w ⟨rfl, rfl⟩ dX12_text_196
                · have hf := it_f hc hf
                  refine lv_aload_n hx hb dX12_text_184 rfl (lv_at hl 0 rfl) ?_
                  refine mx_get B w 0 fl_X12_20 rfl rfl dX12_text_185 ?_
                  refine lv_iload_n hx hb dX12_text_188 rfl (lv_at hl 1 rfl) ?_
                  obtain ⟨hin, hf⟩ := ld_e hf
                  refine mx_iald B w 4 rfl hin dX12_text_189 (fun v_22 ev => ?_)
                  have hf := hf _ ev; clear ev
                  refine lv_goto (tgt := 196) hx hb dX12_text_190 (by decide) ?_
                  cases hf
                  exact mx_iret B w ⟨rfl, rfl⟩ dX12_text_196
              · have hf := it_f hc hf
                refine lv_aload_n hx hb dX12_text_169 rfl (lv_at hl 0 rfl) ?_
                refine mx_get B w 0 fl_X12_228 rfl rfl dX12_text_170 ?_
                refine lv_goto (tgt := 196) hx hb dX12_text_173 (by decide) ?_
                cases hf
                exact mx_iret B w ⟨rfl, rfl⟩ dX12_text_196
            · have hf := it_f hc hf
              refine tx_ldcwS hx hb hown (B.2.2.2.2.2.1.2.2.2.2.2.2.2.2.2.1 _ (by simp [sRef] : ("FrequencyShelfModel", 258, " stale", 3) ∈ sRef)) dX12_text_153 ?_
              refine lv_goto (tgt := 162) hx hb dX12_text_156 (by decide) ?_
              obtain ⟨o_23, hq, hf⟩ := bd_e hf
              refine mx_callV (As := [.ref (E.2.2.2 (10 + 3))]) (rest := []) (wr := []) (d_X12_putsWord E l  h a_g a_kept a_tape a_written a_asked a_there a_counts a_lasts a_cames g kept isKept tape taped spot o_19.1 o_19.2 asked askedMany there counts lasts cames 3  o_23 hq) B w [0, 1, 2, 3, 4, 5, 6, 7, 8, 9] [] rfl rfl (by decide) (by decide) (by decide) 0 rfl rfl cv_X12_putsWord kw_1604 1 (by decide +kernel) ⟨Nat.le_of_ble_eq_true rfl, Nat.le_of_ble_eq_true rfl⟩ rfl hl.1 rfl (Nat.le_of_ble_eq_true rfl) dX12_text_162 rfl rfl ⟨Nat.zero_le _, Nat.zero_le _⟩ (fun v w' H locs hpo w => ?_)
              clear hq
              obtain ⟨rfl, rfl⟩ := hpo
              have w : mW E A s [(h, .inr (11, [.ref a_g, .ref a_kept, .int isKept, .ref a_tape, .int taped, .int spot, .ref a_written, .int o_23.2, .ref a_asked, .int askedMany, .ref a_there, .ref a_counts, .ref a_lasts, .ref a_cames])), (a_g, .inl (E.2.1, 8787, .inl g)), (a_kept, .inl (E.2.1, 8787, .inl kept)), (a_tape, .inl (E.2.2.1, 60, .inl tape)), (a_written, .inl (E.2.1, 40, .inl o_23.1)), (a_asked, .inl (E.2.1, 60, .inl asked)), (a_there, .inl (E.2.1, 12, .inl there)), (a_counts, .inl (E.2.1, 12, .inl counts)), (a_lasts, .inl (E.2.1, 12, .inl lasts)), (a_cames, .inl (E.2.1, 12, .inl cames))] H locs := w
              refine lv_iload_n hx hb dX12_text_165 rfl (lv_at hl 1 rfl) ?_
              refine lv_if_ge (tgt := 176) hx hb dX12_text_166 (by decide) (fun hc => ?_) (fun hc => ?_)
              · have hf := it_t hc hf
                refine lv_iload_n hx hb dX12_text_176 rfl (lv_at hl 1 rfl) ?_
                refine lv_aload_n hx hb dX12_text_177 rfl (lv_at hl 0 rfl) ?_
                refine mx_get B w 0 fl_X12_228 rfl rfl dX12_text_178 ?_
                refine lv_icmp_ge (tgt := 193) hx hb dX12_text_181 (by decide) (fun hc => ?_) (fun hc => ?_)
                · have hf := it_t hc hf
                  refine lv_sipush (v := (-1003)) hx hb dX12_text_193 (by decide) ?_
                  cases hf
                  exact mx_iret B w ⟨rfl, rfl⟩ dX12_text_196
                · have hf := it_f hc hf
                  refine lv_aload_n hx hb dX12_text_184 rfl (lv_at hl 0 rfl) ?_
                  refine mx_get B w 0 fl_X12_20 rfl rfl dX12_text_185 ?_
                  refine lv_iload_n hx hb dX12_text_188 rfl (lv_at hl 1 rfl) ?_
                  obtain ⟨hin, hf⟩ := ld_e hf
                  refine mx_iald B w 4 rfl hin dX12_text_189 (fun v_24 ev => ?_)
                  have hf := hf _ ev; clear ev
                  refine lv_goto (tgt := 196) hx hb dX12_text_190 (by decide) ?_
                  cases hf
                  exact mx_iret B w ⟨rfl, rfl⟩ dX12_text_196
              · have hf := it_f hc hf
                refine lv_aload_n hx hb dX12_text_169 rfl (lv_at hl 0 rfl) ?_
                refine mx_get B w 0 fl_X12_228 rfl rfl dX12_text_170 ?_
                refine lv_goto (tgt := 196) hx hb dX12_text_173 (by decide) ?_
                cases hf
                exact mx_iret B w ⟨rfl, rfl⟩ dX12_text_196
          · have hf := it_f hc hf
            refine va_ldcS hx hb hown (B.2.2.2.2.2.1.2.2.2.2.2.2.2.2.2.1 _ (by simp [sRef] : ("FrequencyShelfModel", 254, " dirty", 2) ∈ sRef)) dX12_text_133 ?_
            refine lv_goto (tgt := 141) hx hb dX12_text_135 (by decide) ?_
            obtain ⟨o_25, hq, hf⟩ := bd_e hf
            refine mx_callV (As := [.ref (E.2.2.2 (10 + 2))]) (rest := []) (wr := []) (d_X12_putsWord E l  h a_g a_kept a_tape a_written a_asked a_there a_counts a_lasts a_cames g kept isKept tape taped spot o_17.1 o_17.2 asked askedMany there counts lasts cames 2  o_25 hq) B w [0, 1, 2, 3, 4, 5, 6, 7, 8, 9] [] rfl rfl (by decide) (by decide) (by decide) 0 rfl rfl cv_X12_putsWord kw_1604 1 (by decide +kernel) ⟨Nat.le_of_ble_eq_true rfl, Nat.le_of_ble_eq_true rfl⟩ rfl hl.1 rfl (Nat.le_of_ble_eq_true rfl) dX12_text_141 rfl rfl ⟨Nat.zero_le _, Nat.zero_le _⟩ (fun v w' H locs hpo w => ?_)
            clear hq
            obtain ⟨rfl, rfl⟩ := hpo
            have w : mW E A s [(h, .inr (11, [.ref a_g, .ref a_kept, .int isKept, .ref a_tape, .int taped, .int spot, .ref a_written, .int o_25.2, .ref a_asked, .int askedMany, .ref a_there, .ref a_counts, .ref a_lasts, .ref a_cames])), (a_g, .inl (E.2.1, 8787, .inl g)), (a_kept, .inl (E.2.1, 8787, .inl kept)), (a_tape, .inl (E.2.2.1, 60, .inl tape)), (a_written, .inl (E.2.1, 40, .inl o_25.1)), (a_asked, .inl (E.2.1, 60, .inl asked)), (a_there, .inl (E.2.1, 12, .inl there)), (a_counts, .inl (E.2.1, 12, .inl counts)), (a_lasts, .inl (E.2.1, 12, .inl lasts)), (a_cames, .inl (E.2.1, 12, .inl cames))] H locs := w
            refine lv_aload_n hx hb dX12_text_144 rfl (lv_at hl 0 rfl) ?_
            refine lv_aload_n hx hb dX12_text_145 rfl (lv_at hl 0 rfl) ?_
            refine lv_iload_n hx hb dX12_text_146 rfl (lv_at hl 2 rfl) ?_
            obtain ⟨o_26, hq, hf⟩ := bd_e hf
            refine mx_callV (As := [.int o_1]) (rest := [.ref h]) (wr := []) (d_X12_isStale E l  h a_g a_kept a_tape a_written a_asked a_there a_counts a_lasts a_cames g kept isKept tape taped spot o_25.1 o_25.2 asked askedMany there counts lasts cames o_1  o_26 hq) B w [0, 1, 2, 3, 4, 5, 6, 7, 8, 9] [] rfl rfl (by decide) (by decide) (by decide) 0 rfl rfl cv_X12_isStale kw_1337 1 (by decide +kernel) ⟨Nat.le_of_ble_eq_true rfl, Nat.le_of_ble_eq_true rfl⟩ rfl hl.1 rfl (Nat.le_of_ble_eq_true rfl) dX12_text_147 rfl rfl ⟨Nat.zero_le _, Nat.zero_le _⟩ (fun v w' H locs hpo w => ?_)
            clear hq
            obtain ⟨rfl, rfl⟩ := hpo
            have w : mW E A s [(h, .inr (11, [.ref a_g, .ref a_kept, .int isKept, .ref a_tape, .int taped, .int spot, .ref a_written, .int o_25.2, .ref a_asked, .int askedMany, .ref a_there, .ref a_counts, .ref a_lasts, .ref a_cames])), (a_g, .inl (E.2.1, 8787, .inl g)), (a_kept, .inl (E.2.1, 8787, .inl kept)), (a_tape, .inl (E.2.2.1, 60, .inl tape)), (a_written, .inl (E.2.1, 40, .inl o_25.1)), (a_asked, .inl (E.2.1, 60, .inl asked)), (a_there, .inl (E.2.1, 12, .inl there)), (a_counts, .inl (E.2.1, 12, .inl counts)), (a_lasts, .inl (E.2.1, 12, .inl lasts)), (a_cames, .inl (E.2.1, 12, .inl cames))] H locs := w
            refine lv_if_eq (tgt := 159) hx hb dX12_text_150 (by decide) (fun hc => ?_) (fun hc => ?_)
            · have hf := it_t hc hf
              refine tx_ldcwS hx hb hown (B.2.2.2.2.2.1.2.2.2.2.2.2.2.2.2.1 _ (by simp [sRef] : ("FrequencyShelfModel", 256, "", 4) ∈ sRef)) dX12_text_159 ?_
              obtain ⟨o_27, hq, hf⟩ := bd_e hf
              refine mx_callV (As := [.ref (E.2.2.2 (10 + 4))]) (rest := []) (wr := []) (d_X12_putsWord E l  h a_g a_kept a_tape a_written a_asked a_there a_counts a_lasts a_cames g kept isKept tape taped spot o_25.1 o_25.2 asked askedMany there counts lasts cames 4  o_27 hq) B w [0, 1, 2, 3, 4, 5, 6, 7, 8, 9] [] rfl rfl (by decide) (by decide) (by decide) 0 rfl rfl cv_X12_putsWord kw_1604 1 (by decide +kernel) ⟨Nat.le_of_ble_eq_true rfl, Nat.le_of_ble_eq_true rfl⟩ rfl hl.1 rfl (Nat.le_of_ble_eq_true rfl) dX12_text_162 rfl rfl ⟨Nat.zero_le _, Nat.zero_le _⟩ (fun v w' H locs hpo w => ?_)
              clear hq
              obtain ⟨rfl, rfl⟩ := hpo
              have w : mW E A s [(h, .inr (11, [.ref a_g, .ref a_kept, .int isKept, .ref a_tape, .int taped, .int spot, .ref a_written, .int o_27.2, .ref a_asked, .int askedMany, .ref a_there, .ref a_counts, .ref a_lasts, .ref a_cames])), (a_g, .inl (E.2.1, 8787, .inl g)), (a_kept, .inl (E.2.1, 8787, .inl kept)), (a_tape, .inl (E.2.2.1, 60, .inl tape)), (a_written, .inl (E.2.1, 40, .inl o_27.1)), (a_asked, .inl (E.2.1, 60, .inl asked)), (a_there, .inl (E.2.1, 12, .inl there)), (a_counts, .inl (E.2.1, 12, .inl counts)), (a_lasts, .inl (E.2.1, 12, .inl lasts)), (a_cames, .inl (E.2.1, 12, .inl cames))] H locs := w
              refine lv_iload_n hx hb dX12_text_165 rfl (lv_at hl 1 rfl) ?_
              refine lv_if_ge (tgt := 176) hx hb dX12_text_166 (by decide) (fun hc => ?_) (fun hc => ?_)
              · have hf := it_t hc hf
                refine lv_iload_n hx hb dX12_text_176 rfl (lv_at hl 1 rfl) ?_
                refine lv_aload_n hx hb dX12_text_177 rfl (lv_at hl 0 rfl) ?_
                refine mx_get B w 0 fl_X12_228 rfl rfl dX12_text_178 ?_
                refine lv_icmp_ge (tgt := 193) hx hb dX12_text_181 (by decide) (fun hc => ?_) (fun hc => ?_)
                · have hf := it_t hc hf
                  refine lv_sipush (v := (-1003)) hx hb dX12_text_193 (by decide) ?_
                  cases hf
                  exact mx_iret B w ⟨rfl, rfl⟩ dX12_text_196
                · have hf := it_f hc hf
                  refine lv_aload_n hx hb dX12_text_184 rfl (lv_at hl 0 rfl) ?_
                  refine mx_get B w 0 fl_X12_20 rfl rfl dX12_text_185 ?_
                  refine lv_iload_n hx hb dX12_text_188 rfl (lv_at hl 1 rfl) ?_
                  obtain ⟨hin, hf⟩ := ld_e hf
                  refine mx_iald B w 4 rfl hin dX12_text_189 (fun v_28 ev => ?_)
                  have hf := hf _ ev; clear ev
                  refine lv_goto (tgt := 196) hx hb dX12_text_190 (by decide) ?_
                  cases hf
                  exact mx_iret B w ⟨rfl, rfl⟩ dX12_text_196
              · have hf := it_f hc hf
                refine lv_aload_n hx hb dX12_text_169 rfl (lv_at hl 0 rfl) ?_
                refine mx_get B w 0 fl_X12_228 rfl rfl dX12_text_170 ?_
                refine lv_goto (tgt := 196) hx hb dX12_text_173 (by decide) ?_
                cases hf
                exact mx_iret B w ⟨rfl, rfl⟩ dX12_text_196
            · have hf := it_f hc hf
              refine tx_ldcwS hx hb hown (B.2.2.2.2.2.1.2.2.2.2.2.2.2.2.2.1 _ (by simp [sRef] : ("FrequencyShelfModel", 258, " stale", 3) ∈ sRef)) dX12_text_153 ?_
              refine lv_goto (tgt := 162) hx hb dX12_text_156 (by decide) ?_
              obtain ⟨o_29, hq, hf⟩ := bd_e hf
              refine mx_callV (As := [.ref (E.2.2.2 (10 + 3))]) (rest := []) (wr := []) (d_X12_putsWord E l  h a_g a_kept a_tape a_written a_asked a_there a_counts a_lasts a_cames g kept isKept tape taped spot o_25.1 o_25.2 asked askedMany there counts lasts cames 3  o_29 hq) B w [0, 1, 2, 3, 4, 5, 6, 7, 8, 9] [] rfl rfl (by decide) (by decide) (by decide) 0 rfl rfl cv_X12_putsWord kw_1604 1 (by decide +kernel) ⟨Nat.le_of_ble_eq_true rfl, Nat.le_of_ble_eq_true rfl⟩ rfl hl.1 rfl (Nat.le_of_ble_eq_true rfl) dX12_text_162 rfl rfl ⟨Nat.zero_le _, Nat.zero_le _⟩ (fun v w' H locs hpo w => ?_)
              clear hq
              obtain ⟨rfl, rfl⟩ := hpo
              have w : mW E A s [(h, .inr (11, [.ref a_g, .ref a_kept, .int isKept, .ref a_tape, .int taped, .int spot, .ref a_written, .int o_29.2, .ref a_asked, .int askedMany, .ref a_there, .ref a_counts, .ref a_lasts, .ref a_cames])), (a_g, .inl (E.2.1, 8787, .inl g)), (a_kept, .inl (E.2.1, 8787, .inl kept)), (a_tape, .inl (E.2.2.1, 60, .inl tape)), (a_written, .inl (E.2.1, 40, .inl o_29.1)), (a_asked, .inl (E.2.1, 60, .inl asked)), (a_there, .inl (E.2.1, 12, .inl there)), (a_counts, .inl (E.2.1, 12, .inl counts)), (a_lasts, .inl (E.2.1, 12, .inl lasts)), (a_cames, .inl (E.2.1, 12, .inl cames))] H locs := w
              refine lv_iload_n hx hb dX12_text_165 rfl (lv_at hl 1 rfl) ?_
              refine lv_if_ge (tgt := 176) hx hb dX12_text_166 (by decide) (fun hc => ?_) (fun hc => ?_)
              · have hf := it_t hc hf
                refine lv_iload_n hx hb dX12_text_176 rfl (lv_at hl 1 rfl) ?_
                refine lv_aload_n hx hb dX12_text_177 rfl (lv_at hl 0 rfl) ?_
                refine mx_get B w 0 fl_X12_228 rfl rfl dX12_text_178 ?_
                refine lv_icmp_ge (tgt := 193) hx hb dX12_text_181 (by decide) (fun hc => ?_) (fun hc => ?_)
                · have hf := it_t hc hf
                  refine lv_sipush (v := (-1003)) hx hb dX12_text_193 (by decide) ?_
                  cases hf
                  exact mx_iret B w ⟨rfl, rfl⟩ dX12_text_196
                · have hf := it_f hc hf
                  refine lv_aload_n hx hb dX12_text_184 rfl (lv_at hl 0 rfl) ?_
                  refine mx_get B w 0 fl_X12_20 rfl rfl dX12_text_185 ?_
                  refine lv_iload_n hx hb dX12_text_188 rfl (lv_at hl 1 rfl) ?_
                  obtain ⟨hin, hf⟩ := ld_e hf
                  refine mx_iald B w 4 rfl hin dX12_text_189 (fun v_30 ev => ?_)
                  have hf := hf _ ev; clear ev
                  refine lv_goto (tgt := 196) hx hb dX12_text_190 (by decide) ?_
                  cases hf
                  exact mx_iret B w ⟨rfl, rfl⟩ dX12_text_196
              · have hf := it_f hc hf
                refine lv_aload_n hx hb dX12_text_169 rfl (lv_at hl 0 rfl) ?_
                refine mx_get B w 0 fl_X12_228 rfl rfl dX12_text_170 ?_
                refine lv_goto (tgt := 196) hx hb dX12_text_173 (by decide) ?_
                cases hf
                exact mx_iret B w ⟨rfl, rfl⟩ dX12_text_196
      · have hf := it_f hc hf
        refine lv_sipush (v := (-1003)) hx hb dX12_text_23 (by decide) ?_
        cases hf
        exact mx_iret B w ⟨rfl, rfl⟩ dX12_text_26
    · have hf := it_f hc hf
      refine lv_sipush (v := (-1001)) hx hb dX12_text_9 (by decide) ?_
      cases hf
      exact mx_iret B w ⟨rfl, rfl⟩ dX12_text_12
