abbrev cX12_puts : ByteArray := prog_14_method_85_code
def yX12_puts : MethodName := ⟨RX12, "puts", "(I)V"⟩
theorem dX12_puts_0 : decode cX12_puts 0 = .ok (.aload_n 0, 1) := by decide +kernel
theorem dX12_puts_1 : decode cX12_puts 1 = .ok (.getfield 20, 3) := by decide +kernel
theorem dX12_puts_4 : decode cX12_puts 4 = .ok (.aload_n 0, 1) := by decide +kernel
theorem dX12_puts_5 : decode cX12_puts 5 = .ok (.getfield 228, 3) := by decide +kernel
theorem dX12_puts_8 : decode cX12_puts 8 = .ok (.iload_n 1, 1) := by decide +kernel
theorem dX12_puts_9 : decode cX12_puts 9 = .ok (.iastore, 1) := by decide +kernel
theorem dX12_puts_10 : decode cX12_puts 10 = .ok (.aload_n 0, 1) := by decide +kernel
theorem dX12_puts_11 : decode cX12_puts 11 = .ok (.dup, 1) := by decide +kernel
theorem dX12_puts_12 : decode cX12_puts 12 = .ok (.getfield 228, 3) := by decide +kernel
theorem dX12_puts_15 : decode cX12_puts 15 = .ok (.iconst 1, 1) := by decide +kernel
theorem dX12_puts_16 : decode cX12_puts 16 = .ok (.iadd, 1) := by decide +kernel
theorem dX12_puts_17 : decode cX12_puts 17 = .ok (.putfield 228, 3) := by decide +kernel
theorem dX12_puts_20 : decode cX12_puts 20 = .ok (.return_, 1) := by decide +kernel
theorem kw_1234 : Cond.fieldLink "FrequencyShelfModel" 228 "FrequencyShelfModel" "writtenMany" "I" ∈ TB := tb_at 1234 (by decide +kernel) (by decide +kernel)
theorem fl_X12_228 : mF RX12 228 11 7 := ⟨RX12, TX12, 14, tyX12, rfl, by decide, in_X12, kw_1234, tyX12_ok, nmX12⟩
theorem fi_X12_7 : mFi 11 7 := fun _ _ _ h => by cases h; exact ⟨rfl, by decide +kernel⟩
abbrev cX12_putsNumber : ByteArray := prog_14_method_86_code
def yX12_putsNumber : MethodName := ⟨RX12, "putsNumber", "(I)V"⟩
theorem dX12_putsNumber_0 : decode cX12_putsNumber 0 = .ok (.iconst 1, 1) := by decide +kernel
theorem dX12_putsNumber_1 : decode cX12_putsNumber 1 = .ok (.istore_n 2, 1) := by decide +kernel
theorem dX12_putsNumber_2 : decode cX12_putsNumber 2 = .ok (.iload_n 1, 1) := by decide +kernel
theorem dX12_putsNumber_3 : decode cX12_putsNumber 3 = .ok (.iload_n 2, 1) := by decide +kernel
theorem dX12_putsNumber_4 : decode cX12_putsNumber 4 = .ok (.idiv, 1) := by decide +kernel
theorem dX12_putsNumber_5 : decode cX12_putsNumber 5 = .ok (.bipush 10, 2) := by decide +kernel
theorem dX12_putsNumber_7 : decode cX12_putsNumber 7 = .ok (.if_icmp .lt 11, 3) := by decide +kernel
theorem dX12_putsNumber_10 : decode cX12_putsNumber 10 = .ok (.iload_n 2, 1) := by decide +kernel
theorem dX12_putsNumber_11 : decode cX12_putsNumber 11 = .ok (.bipush 10, 2) := by decide +kernel
theorem dX12_putsNumber_13 : decode cX12_putsNumber 13 = .ok (.imul, 1) := by decide +kernel
theorem dX12_putsNumber_14 : decode cX12_putsNumber 14 = .ok (.istore_n 2, 1) := by decide +kernel
theorem dX12_putsNumber_15 : decode cX12_putsNumber 15 = .ok (.goto (-13), 3) := by decide +kernel
theorem dX12_putsNumber_18 : decode cX12_putsNumber 18 = .ok (.iload_n 2, 1) := by decide +kernel
theorem dX12_putsNumber_19 : decode cX12_putsNumber 19 = .ok (.ifCond .le 24, 3) := by decide +kernel
theorem dX12_putsNumber_22 : decode cX12_putsNumber 22 = .ok (.aload_n 0, 1) := by decide +kernel
theorem dX12_putsNumber_23 : decode cX12_putsNumber 23 = .ok (.bipush 48, 2) := by decide +kernel
theorem dX12_putsNumber_25 : decode cX12_putsNumber 25 = .ok (.iload_n 1, 1) := by decide +kernel
theorem dX12_putsNumber_26 : decode cX12_putsNumber 26 = .ok (.iload_n 2, 1) := by decide +kernel
theorem dX12_putsNumber_27 : decode cX12_putsNumber 27 = .ok (.idiv, 1) := by decide +kernel
theorem dX12_putsNumber_28 : decode cX12_putsNumber 28 = .ok (.bipush 10, 2) := by decide +kernel
theorem dX12_putsNumber_30 : decode cX12_putsNumber 30 = .ok (.irem, 1) := by decide +kernel
theorem dX12_putsNumber_31 : decode cX12_putsNumber 31 = .ok (.iadd, 1) := by decide +kernel
theorem dX12_putsNumber_32 : decode cX12_putsNumber 32 = .ok (.invokevirtual 231, 3) := by decide +kernel
theorem dX12_putsNumber_35 : decode cX12_putsNumber 35 = .ok (.iload_n 2, 1) := by decide +kernel
theorem dX12_putsNumber_36 : decode cX12_putsNumber 36 = .ok (.bipush 10, 2) := by decide +kernel
theorem dX12_putsNumber_38 : decode cX12_putsNumber 38 = .ok (.idiv, 1) := by decide +kernel
theorem dX12_putsNumber_39 : decode cX12_putsNumber 39 = .ok (.istore_n 2, 1) := by decide +kernel
theorem dX12_putsNumber_40 : decode cX12_putsNumber 40 = .ok (.goto (-22), 3) := by decide +kernel
theorem dX12_putsNumber_43 : decode cX12_putsNumber 43 = .ok (.return_, 1) := by decide +kernel
theorem kw_1595 : Cond.methodLink "FrequencyShelfModel" 231 yX12_puts ∈ TB := tb_at 1595 (by decide +kernel) (by decide +kernel)
theorem kw_1598 : Cond.code yX12_puts cX12_puts 2 none ∈ TB := tb_at 1598 (by decide +kernel) (by decide +kernel)
theorem kw_1597 : Cond.instanceMethod yX12_puts ∈ TB := tb_at 1597 (by decide +kernel) (by decide +kernel)
theorem kw_57 : Cond.selects "FrequencyShelfModel" yX12_puts yX12_puts ∈ TB := tb_at 57 (by decide +kernel) (by decide +kernel)
theorem cv_X12_puts : Cond.code yX12_puts cX12_puts 2 none ∈ TB ∧ Cond.instanceMethod yX12_puts ∈ TB ∧ Cond.selects "FrequencyShelfModel" yX12_puts yX12_puts ∈ TB ∧ Cond.initialized "FrequencyShelfModel" ∈ TB := ⟨kw_1598, kw_1597, kw_57, kw_75⟩
-- X12_puts
def po_X12_puts (E : mE) (h : Nat) (a_g : Nat) (a_kept : Nat) (a_tape : Nat) (a_written : Nat) (a_asked : Nat) (a_there : Nat) (a_counts : Nat) (a_lasts : Nat) (a_cames : Nat)  (g : Nat → Int32) (kept : Nat → Int32) (isKept : Int32) (tape : Nat → Int32) (taped : Int32) (spot : Int32) (written : Nat → Int32) (writtenMany : Int32) (asked : Nat → Int32) (askedMany : Int32) (there : Nat → Int32) (counts : Nat → Int32) (lasts : Nat → Int32) (cames : Nat → Int32)  (o : (Nat → Int32) × Int32) : Option Value → va_W → Prop := (fun (v : Option Value) (w' : va_W) => v = none ∧ w' = [(h, .inr (11, [.ref a_g, .ref a_kept, .int isKept, .ref a_tape, .int taped, .int spot, .ref a_written, .int o.2, .ref a_asked, .int askedMany, .ref a_there, .ref a_counts, .ref a_lasts, .ref a_cames])), (a_g, .inl (E.2.1, 8787, .inl g)), (a_kept, .inl (E.2.1, 8787, .inl kept)), (a_tape, .inl (E.2.2.1, 60, .inl tape)), (a_written, .inl (E.2.1, 40, .inl o.1)), (a_asked, .inl (E.2.1, 60, .inl asked)), (a_there, .inl (E.2.1, 12, .inl there)), (a_counts, .inl (E.2.1, 12, .inl counts)), (a_lasts, .inl (E.2.1, 12, .inl lasts)), (a_cames, .inl (E.2.1, 12, .inl cames))])
noncomputable def F_X12_puts  (written : Nat → Int32) (writtenMany : Int32) (x1 : Int32) : Option ((Nat → Int32) × Int32) :=
  sto written 40 writtenMany x1 (fun written_1 =>
  lt ((writtenMany + 1)) (fun writtenMany_2 =>
  some (written_1, writtenMany_2)))
set_option maxHeartbeats 4000000 in
set_option maxRecDepth 100000 in
theorem d_X12_puts (E : mE) (l : Launch) (h : Nat) (a_g : Nat) (a_kept : Nat) (a_tape : Nat) (a_written : Nat) (a_asked : Nat) (a_there : Nat) (a_counts : Nat) (a_lasts : Nat) (a_cames : Nat)  (g : Nat → Int32) (kept : Nat → Int32) (isKept : Int32) (tape : Nat → Int32) (taped : Int32) (spot : Int32) (written : Nat → Int32) (writtenMany : Int32) (asked : Nat → Int32) (askedMany : Int32) (there : Nat → Int32) (counts : Nat → Int32) (lasts : Nat → Int32) (cames : Nat → Int32)  (x1 : Int32)  (o : (Nat → Int32) × Int32) (hf : F_X12_puts written writtenMany x1 = some o) : MX E l yX12_puts cX12_puts 2 none ({ frames := 0, cells := 0, slots := 0, locals := 0 } : Room) [.ref h, .int x1] [(h, .inr (11, [.ref a_g, .ref a_kept, .int isKept, .ref a_tape, .int taped, .int spot, .ref a_written, .int writtenMany, .ref a_asked, .int askedMany, .ref a_there, .ref a_counts, .ref a_lasts, .ref a_cames])), (a_g, .inl (E.2.1, 8787, .inl g)), (a_kept, .inl (E.2.1, 8787, .inl kept)), (a_tape, .inl (E.2.2.1, 60, .inl tape)), (a_written, .inl (E.2.1, 40, .inl written)), (a_asked, .inl (E.2.1, 60, .inl asked)), (a_there, .inl (E.2.1, 12, .inl there)), (a_counts, .inl (E.2.1, 12, .inl counts)), (a_lasts, .inl (E.2.1, 12, .inl lasts)), (a_cames, .inl (E.2.1, 12, .inl cames))] (po_X12_puts E h a_g a_kept a_tape a_written a_asked a_there a_counts a_lasts a_cames g kept isKept tape taped spot written writtenMany asked askedMany there counts lasts cames o) := by
  refine mx_intro (by decide +kernel) (Nat.le_of_ble_eq_true rfl) ?_
  intro p e s m args below meth c A Q ls B w hl
  obtain ⟨hx, hb, hml, hown, hts⟩ := id B.1
  unfold F_X12_puts at hf
  have hl : lv_has ls 2 [(0, .ref h), (1, .int x1)] := hl
  refine lv_aload_n hx hb dX12_puts_0 rfl (lv_at hl 0 rfl) ?_
  refine mx_get B w 0 fl_X12_20 rfl rfl dX12_puts_1 ?_
  refine lv_aload_n hx hb dX12_puts_4 rfl (lv_at hl 0 rfl) ?_
  refine mx_get B w 0 fl_X12_228 rfl rfl dX12_puts_5 ?_
  refine lv_iload_n hx hb dX12_puts_8 rfl (lv_at hl 1 rfl) ?_
  obtain ⟨hin, hf⟩ := sto_e hf
  refine mx_iast B w 4 rfl hin dX12_puts_9 (fun written_1 H locs ev w => ?_)
  have hf := hf _ ev; clear ev
  have w : mW E A s [(h, .inr (11, [.ref a_g, .ref a_kept, .int isKept, .ref a_tape, .int taped, .int spot, .ref a_written, .int writtenMany, .ref a_asked, .int askedMany, .ref a_there, .ref a_counts, .ref a_lasts, .ref a_cames])), (a_g, .inl (E.2.1, 8787, .inl g)), (a_kept, .inl (E.2.1, 8787, .inl kept)), (a_tape, .inl (E.2.2.1, 60, .inl tape)), (a_written, .inl (E.2.1, 40, .inl written_1)), (a_asked, .inl (E.2.1, 60, .inl asked)), (a_there, .inl (E.2.1, 12, .inl there)), (a_counts, .inl (E.2.1, 12, .inl counts)), (a_lasts, .inl (E.2.1, 12, .inl lasts)), (a_cames, .inl (E.2.1, 12, .inl cames))] H locs := w
  refine lv_aload_n hx hb dX12_puts_10 rfl (lv_at hl 0 rfl) ?_
  refine lv_dup hx hb dX12_puts_11 rfl ?_
  refine mx_get B w 0 fl_X12_228 rfl rfl dX12_puts_12 ?_
  refine lv_iconst (v := 1) hx hb dX12_puts_15 (by decide) ?_
  refine lv_iadd hx hb dX12_puts_16 ?_
  refine mx_puti B w 0 fl_X12_228 fi_X12_7 rfl (Nat.le_of_ble_eq_true rfl) dX12_puts_17 (fun writtenMany_2 H locs ev w => ?_)
  have hf := lt_n ev hf; clear ev
  have w : mW E A s [(h, .inr (11, [.ref a_g, .ref a_kept, .int isKept, .ref a_tape, .int taped, .int spot, .ref a_written, .int writtenMany_2, .ref a_asked, .int askedMany, .ref a_there, .ref a_counts, .ref a_lasts, .ref a_cames])), (a_g, .inl (E.2.1, 8787, .inl g)), (a_kept, .inl (E.2.1, 8787, .inl kept)), (a_tape, .inl (E.2.2.1, 60, .inl tape)), (a_written, .inl (E.2.1, 40, .inl written_1)), (a_asked, .inl (E.2.1, 60, .inl asked)), (a_there, .inl (E.2.1, 12, .inl there)), (a_counts, .inl (E.2.1, 12, .inl counts)), (a_lasts, .inl (E.2.1, 12, .inl lasts)), (a_cames, .inl (E.2.1, 12, .inl cames))] H locs := w
  cases hf
  exact mx_vret B w ⟨rfl, rfl⟩ dX12_puts_20
-- X12_putsNumber
def po_X12_putsNumber (E : mE) (h : Nat) (a_g : Nat) (a_kept : Nat) (a_tape : Nat) (a_written : Nat) (a_asked : Nat) (a_there : Nat) (a_counts : Nat) (a_lasts : Nat) (a_cames : Nat)  (g : Nat → Int32) (kept : Nat → Int32) (isKept : Int32) (tape : Nat → Int32) (taped : Int32) (spot : Int32) (written : Nat → Int32) (writtenMany : Int32) (asked : Nat → Int32) (askedMany : Int32) (there : Nat → Int32) (counts : Nat → Int32) (lasts : Nat → Int32) (cames : Nat → Int32)  (o : (Nat → Int32) × Int32) : Option Value → va_W → Prop := (fun (v : Option Value) (w' : va_W) => v = none ∧ w' = [(h, .inr (11, [.ref a_g, .ref a_kept, .int isKept, .ref a_tape, .int taped, .int spot, .ref a_written, .int o.2, .ref a_asked, .int askedMany, .ref a_there, .ref a_counts, .ref a_lasts, .ref a_cames])), (a_g, .inl (E.2.1, 8787, .inl g)), (a_kept, .inl (E.2.1, 8787, .inl kept)), (a_tape, .inl (E.2.2.1, 60, .inl tape)), (a_written, .inl (E.2.1, 40, .inl o.1)), (a_asked, .inl (E.2.1, 60, .inl asked)), (a_there, .inl (E.2.1, 12, .inl there)), (a_counts, .inl (E.2.1, 12, .inl counts)), (a_lasts, .inl (E.2.1, 12, .inl lasts)), (a_cames, .inl (E.2.1, 12, .inl cames))])
noncomputable def K_X12_putsNumber_2 (N : Nat)  (rec : Int32 → (Option ((Nat → Int32) × Int32))) (k18 : Int32 → (Option ((Nat → Int32) × Int32))) (x1 : Int32) (written : Nat → Int32) (writtenMany : Int32) (x2 : Int32)  : Option ((Nat → Int32) × Int32) :=
  ck (¬ x2 = 0) (if ((x1 / x2) < 10 : Prop) then
  k18 x2
  else
  lt (x2 * 10) (fun x2_1 =>
  rec x2_1))
noncomputable def L_X12_putsNumber_2 (N : Nat)  (k18 : Int32 → (Option ((Nat → Int32) × Int32))) (x1 : Int32) (written : Nat → Int32) (writtenMany : Int32) (n : Nat) : Int32 → (Option ((Nat → Int32) × Int32)) :=
  Nat.rec (motive := fun _ => Int32 → (Option ((Nat → Int32) × Int32))) (fun _ => none) (fun _ rec => K_X12_putsNumber_2 N rec k18 x1 written writtenMany) n
set_option maxHeartbeats 4000000 in
set_option maxRecDepth 100000 in
theorem l_X12_putsNumber_2 {E : mE} {l : Launch} {p : Program} {e : Env} {s : State} {m : MethodId} {args : Array Value} {below : List Frame} {meth : Method} {c : Code} {A : Nat → Prop} {Q : State → Prop} {N : Nat} {h : Nat} {a_g : Nat} {a_kept : Nat} {a_tape : Nat} {a_written : Nat} {a_asked : Nat} {a_there : Nat} {a_counts : Nat} {a_lasts : Nat} {a_cames : Nat}  {g : Nat → Int32} {kept : Nat → Int32} {isKept : Int32} {tape : Nat → Int32} {taped : Int32} {spot : Int32} {written0 : Nat → Int32} {writtenMany0 : Int32} {asked : Nat → Int32} {askedMany : Int32} {there : Nat → Int32} {counts : Nat → Int32} {lasts : Nat → Int32} {cames : Nat → Int32}  {o : (Nat → Int32) × Int32} (B : mB E yX12_putsNumber cX12_putsNumber 3 none 0 0 (po_X12_putsNumber E h a_g a_kept a_tape a_written a_asked a_there a_counts a_lasts a_cames g kept isKept tape taped spot written0 writtenMany0 asked askedMany there counts lasts cames o) p s m args below meth c A Q) {written : Nat → Int32} {writtenMany : Int32}  {x1 : Int32} (k18 : Int32 → (Option ((Nat → Int32) × Int32)))  (hk18 : ∀ (x2 : Int32)   (H : Heap) (locs : List Loc) (ls : Array Slot), k18 x2 = some o → mW E A s [(h, .inr (11, [.ref a_g, .ref a_kept, .int isKept, .ref a_tape, .int taped, .int spot, .ref a_written, .int writtenMany, .ref a_asked, .int askedMany, .ref a_there, .ref a_counts, .ref a_lasts, .ref a_cames])), (a_g, .inl (E.2.1, 8787, .inl g)), (a_kept, .inl (E.2.1, 8787, .inl kept)), (a_tape, .inl (E.2.2.1, 60, .inl tape)), (a_written, .inl (E.2.1, 40, .inl written)), (a_asked, .inl (E.2.1, 60, .inl asked)), (a_there, .inl (E.2.1, 12, .inl there)), (a_counts, .inl (E.2.1, 12, .inl counts)), (a_lasts, .inl (E.2.1, 12, .inl lasts)), (a_cames, .inl (E.2.1, 12, .inl cames))] H locs → lv_has ls 3 [(0, .ref h), (1, .int x1), (2, .int x2)] → W p l e ({ frames := 1, cells := 0, slots := 0, locals := 21 } : Room) s m args below meth c H locs 0 0 Q (F0 m 18 ls [])) : ∀ n : Nat, ∀ (x2 : Int32)   (H : Heap) (locs : List Loc) (ls : Array Slot), L_X12_putsNumber_2 N k18 x1 written writtenMany n x2 = some o → mW E A s [(h, .inr (11, [.ref a_g, .ref a_kept, .int isKept, .ref a_tape, .int taped, .int spot, .ref a_written, .int writtenMany, .ref a_asked, .int askedMany, .ref a_there, .ref a_counts, .ref a_lasts, .ref a_cames])), (a_g, .inl (E.2.1, 8787, .inl g)), (a_kept, .inl (E.2.1, 8787, .inl kept)), (a_tape, .inl (E.2.2.1, 60, .inl tape)), (a_written, .inl (E.2.1, 40, .inl written)), (a_asked, .inl (E.2.1, 60, .inl asked)), (a_there, .inl (E.2.1, 12, .inl there)), (a_counts, .inl (E.2.1, 12, .inl counts)), (a_lasts, .inl (E.2.1, 12, .inl lasts)), (a_cames, .inl (E.2.1, 12, .inl cames))] H locs → lv_has ls 3 [(0, .ref h), (1, .int x1), (2, .int x2)] → W p l e ({ frames := 1, cells := 0, slots := 0, locals := 21 } : Room) s m args below meth c H locs 0 0 Q (F0 m 2 ls []) := by
  obtain ⟨hx, hb, hml, hown, hts⟩ := id B.1
  intro n
  induction n with
  | zero =>
    intro x2 H locs ls hf w hl
    exact nomatch hf
  | succ n hrec =>
    intro x2 H locs ls hf w hl
    have hf : K_X12_putsNumber_2 N (L_X12_putsNumber_2 N k18 x1 written writtenMany n) k18 x1 written writtenMany x2 = some o := hf
    unfold K_X12_putsNumber_2 at hf
    refine lv_iload_n hx hb dX12_putsNumber_2 rfl (lv_at hl 1 rfl) ?_
    refine lv_iload_n hx hb dX12_putsNumber_3 rfl (lv_at hl 2 rfl) ?_
    obtain ⟨hne, hf⟩ := ck_e hf
    refine lv_idiv hx hb dX12_putsNumber_4 hne ?_
    refine lv_bipush (v := 10) hx hb dX12_putsNumber_5 (by decide) ?_
    refine lv_icmp_lt (tgt := 18) hx hb dX12_putsNumber_7 (by decide) (fun hc => ?_) (fun hc => ?_)
    · have hf := it_t hc hf
      exact hk18 _ _ _ _ hf  w (lv_sub hl [0, 1, 2] rfl)
    · have hf := it_f hc hf
      refine lv_iload_n hx hb dX12_putsNumber_10 rfl (lv_at hl 2 rfl) ?_
      refine lv_bipush (v := 10) hx hb dX12_putsNumber_11 (by decide) ?_
      refine lv_imul hx hb dX12_putsNumber_13 ?_
      refine lv_topi (fun x2_1 ev => ?_)
      have hf := lt_n ev hf; clear ev
      refine lv_istore_n (lv' := [(2, .int x2_1), (0, .ref h), (1, .int x1)]) hx hb dX12_putsNumber_14 rfl hl (by decide) rfl (fun ls hl => ?_)
      refine lv_goto (tgt := 2) hx hb dX12_putsNumber_15 (by decide) ?_
      exact hrec _ _ _ _ hf  w (lv_sub hl [1, 2, 0] rfl)
noncomputable def K_X12_putsNumber_18 (N : Nat)  (rec : Int32 → (Nat → Int32) → Int32 → (Option ((Nat → Int32) × Int32))) (k43 : (Nat → Int32) → Int32 → (Option ((Nat → Int32) × Int32))) (x1 : Int32)  (x2 : Int32) (written : Nat → Int32) (writtenMany : Int32) : Option ((Nat → Int32) × Int32) :=
  if (x2 ≤ 0 : Prop) then
  k43 written writtenMany
  else
  ck (¬ x2 = 0) (bd (F_X12_puts written writtenMany (48 + (irm (x1 / x2) 10))) (fun o_2 =>
  lt (x2 / 10) (fun x2_3 =>
  rec x2_3 o_2.1 o_2.2)))
noncomputable def L_X12_putsNumber_18 (N : Nat)  (k43 : (Nat → Int32) → Int32 → (Option ((Nat → Int32) × Int32))) (x1 : Int32)  (n : Nat) : Int32 → (Nat → Int32) → Int32 → (Option ((Nat → Int32) × Int32)) :=
  Nat.rec (motive := fun _ => Int32 → (Nat → Int32) → Int32 → (Option ((Nat → Int32) × Int32))) (fun _ _ _ => none) (fun _ rec => K_X12_putsNumber_18 N rec k43 x1) n
set_option maxHeartbeats 4000000 in
set_option maxRecDepth 100000 in
theorem l_X12_putsNumber_18 {E : mE} {l : Launch} {p : Program} {e : Env} {s : State} {m : MethodId} {args : Array Value} {below : List Frame} {meth : Method} {c : Code} {A : Nat → Prop} {Q : State → Prop} {N : Nat} {h : Nat} {a_g : Nat} {a_kept : Nat} {a_tape : Nat} {a_written : Nat} {a_asked : Nat} {a_there : Nat} {a_counts : Nat} {a_lasts : Nat} {a_cames : Nat}  {g : Nat → Int32} {kept : Nat → Int32} {isKept : Int32} {tape : Nat → Int32} {taped : Int32} {spot : Int32} {written0 : Nat → Int32} {writtenMany0 : Int32} {asked : Nat → Int32} {askedMany : Int32} {there : Nat → Int32} {counts : Nat → Int32} {lasts : Nat → Int32} {cames : Nat → Int32}  {o : (Nat → Int32) × Int32} (B : mB E yX12_putsNumber cX12_putsNumber 3 none 0 0 (po_X12_putsNumber E h a_g a_kept a_tape a_written a_asked a_there a_counts a_lasts a_cames g kept isKept tape taped spot written0 writtenMany0 asked askedMany there counts lasts cames o) p s m args below meth c A Q)   {x1 : Int32} (k43 : (Nat → Int32) → Int32 → (Option ((Nat → Int32) × Int32)))  (hk43 : ∀  (written : Nat → Int32) (writtenMany : Int32)  (H : Heap) (locs : List Loc) (ls : Array Slot), k43 written writtenMany = some o → mW E A s [(h, .inr (11, [.ref a_g, .ref a_kept, .int isKept, .ref a_tape, .int taped, .int spot, .ref a_written, .int writtenMany, .ref a_asked, .int askedMany, .ref a_there, .ref a_counts, .ref a_lasts, .ref a_cames])), (a_g, .inl (E.2.1, 8787, .inl g)), (a_kept, .inl (E.2.1, 8787, .inl kept)), (a_tape, .inl (E.2.2.1, 60, .inl tape)), (a_written, .inl (E.2.1, 40, .inl written)), (a_asked, .inl (E.2.1, 60, .inl asked)), (a_there, .inl (E.2.1, 12, .inl there)), (a_counts, .inl (E.2.1, 12, .inl counts)), (a_lasts, .inl (E.2.1, 12, .inl lasts)), (a_cames, .inl (E.2.1, 12, .inl cames))] H locs → lv_has ls 3 [] → W p l e ({ frames := 1, cells := 0, slots := 0, locals := 21 } : Room) s m args below meth c H locs 0 0 Q (F0 m 43 ls [])) : ∀ n : Nat, ∀ (x2 : Int32) (written : Nat → Int32) (writtenMany : Int32)  (H : Heap) (locs : List Loc) (ls : Array Slot), L_X12_putsNumber_18 N k43 x1 n x2 written writtenMany = some o → mW E A s [(h, .inr (11, [.ref a_g, .ref a_kept, .int isKept, .ref a_tape, .int taped, .int spot, .ref a_written, .int writtenMany, .ref a_asked, .int askedMany, .ref a_there, .ref a_counts, .ref a_lasts, .ref a_cames])), (a_g, .inl (E.2.1, 8787, .inl g)), (a_kept, .inl (E.2.1, 8787, .inl kept)), (a_tape, .inl (E.2.2.1, 60, .inl tape)), (a_written, .inl (E.2.1, 40, .inl written)), (a_asked, .inl (E.2.1, 60, .inl asked)), (a_there, .inl (E.2.1, 12, .inl there)), (a_counts, .inl (E.2.1, 12, .inl counts)), (a_lasts, .inl (E.2.1, 12, .inl lasts)), (a_cames, .inl (E.2.1, 12, .inl cames))] H locs → lv_has ls 3 [(0, .ref h), (1, .int x1), (2, .int x2)] → W p l e ({ frames := 1, cells := 0, slots := 0, locals := 21 } : Room) s m args below meth c H locs 0 0 Q (F0 m 18 ls []) := by
  obtain ⟨hx, hb, hml, hown, hts⟩ := id B.1
  intro n
  induction n with
  | zero =>
    intro x2 written writtenMany H locs ls hf w hl
    exact nomatch hf
  | succ n hrec =>
    intro x2 written writtenMany H locs ls hf w hl
    have hf : K_X12_putsNumber_18 N (L_X12_putsNumber_18 N k43 x1 n) k43 x1 x2 written writtenMany = some o := hf
    unfold K_X12_putsNumber_18 at hf
    refine lv_iload_n hx hb dX12_putsNumber_18 rfl (lv_at hl 2 rfl) ?_
    refine lv_if_le (tgt := 43) hx hb dX12_putsNumber_19 (by decide) (fun hc => ?_) (fun hc => ?_)
    · have hf := it_t hc hf
      exact hk43 _ _ _ _ _ hf  w (lv_sub hl [] rfl)
    · have hf := it_f hc hf
      refine lv_aload_n hx hb dX12_putsNumber_22 rfl (lv_at hl 0 rfl) ?_
      refine lv_bipush (v := 48) hx hb dX12_putsNumber_23 (by decide) ?_
      refine lv_iload_n hx hb dX12_putsNumber_25 rfl (lv_at hl 1 rfl) ?_
      refine lv_iload_n hx hb dX12_putsNumber_26 rfl (lv_at hl 2 rfl) ?_
      obtain ⟨hne, hf⟩ := ck_e hf
      refine lv_idiv hx hb dX12_putsNumber_27 hne ?_
      refine lv_bipush (v := 10) hx hb dX12_putsNumber_28 (by decide) ?_
      refine lv_irem hx hb dX12_putsNumber_30 (by decide) ?_
      refine lv_iadd hx hb dX12_putsNumber_31 ?_
      obtain ⟨o_2, hq, hf⟩ := bd_e hf
      refine mx_callV (As := [.int (48 + (irm (x1 / x2) 10))]) (rest := []) (wr := []) (d_X12_puts E l  h a_g a_kept a_tape a_written a_asked a_there a_counts a_lasts a_cames g kept isKept tape taped spot written writtenMany asked askedMany there counts lasts cames (48 + (irm (x1 / x2) 10))  o_2 hq) B w [0, 1, 2, 3, 4, 5, 6, 7, 8, 9] [] rfl rfl (by decide) (by decide) (by decide) 0 rfl rfl cv_X12_puts kw_1595 1 (by decide +kernel) ⟨Nat.le_of_ble_eq_true rfl, Nat.le_of_ble_eq_true rfl⟩ rfl hl.1 rfl (Nat.le_of_ble_eq_true rfl) dX12_putsNumber_32 rfl rfl ⟨Nat.zero_le _, Nat.zero_le _⟩ (fun v w' H locs hpo w => ?_)
      clear hq
      obtain ⟨rfl, rfl⟩ := hpo
      have w : mW E A s [(h, .inr (11, [.ref a_g, .ref a_kept, .int isKept, .ref a_tape, .int taped, .int spot, .ref a_written, .int o_2.2, .ref a_asked, .int askedMany, .ref a_there, .ref a_counts, .ref a_lasts, .ref a_cames])), (a_g, .inl (E.2.1, 8787, .inl g)), (a_kept, .inl (E.2.1, 8787, .inl kept)), (a_tape, .inl (E.2.2.1, 60, .inl tape)), (a_written, .inl (E.2.1, 40, .inl o_2.1)), (a_asked, .inl (E.2.1, 60, .inl asked)), (a_there, .inl (E.2.1, 12, .inl there)), (a_counts, .inl (E.2.1, 12, .inl counts)), (a_lasts, .inl (E.2.1, 12, .inl lasts)), (a_cames, .inl (E.2.1, 12, .inl cames))] H locs := w
      refine lv_iload_n hx hb dX12_putsNumber_35 rfl (lv_at hl 2 rfl) ?_
      refine lv_bipush (v := 10) hx hb dX12_putsNumber_36 (by decide) ?_
      refine lv_idiv hx hb dX12_putsNumber_38 (by decide) ?_
      refine lv_topi (fun x2_3 ev => ?_)
      have hf := lt_n ev hf; clear ev
      refine lv_istore_n (lv' := [(2, .int x2_3), (0, .ref h), (1, .int x1)]) hx hb dX12_putsNumber_39 rfl hl (by decide) rfl (fun ls hl => ?_)
      refine lv_goto (tgt := 18) hx hb dX12_putsNumber_40 (by decide) ?_
      exact hrec _ _ _ _ _ _ hf  w (lv_sub hl [1, 2, 0] rfl)
noncomputable def F_X12_putsNumber (N : Nat)  (written : Nat → Int32) (writtenMany : Int32) (x1 : Int32) : Option ((Nat → Int32) × Int32) :=
  L_X12_putsNumber_2 N (fun x2 => L_X12_putsNumber_18 N (fun written writtenMany => some (written, writtenMany)) x1 N x2 written writtenMany) x1 written writtenMany N 1
set_option maxHeartbeats 4000000 in
set_option maxRecDepth 100000 in
theorem d_X12_putsNumber (E : mE) (l : Launch) (N : Nat) (h : Nat) (a_g : Nat) (a_kept : Nat) (a_tape : Nat) (a_written : Nat) (a_asked : Nat) (a_there : Nat) (a_counts : Nat) (a_lasts : Nat) (a_cames : Nat)  (g : Nat → Int32) (kept : Nat → Int32) (isKept : Int32) (tape : Nat → Int32) (taped : Int32) (spot : Int32) (written : Nat → Int32) (writtenMany : Int32) (asked : Nat → Int32) (askedMany : Int32) (there : Nat → Int32) (counts : Nat → Int32) (lasts : Nat → Int32) (cames : Nat → Int32)  (x1 : Int32)  (o : (Nat → Int32) × Int32) (hf : F_X12_putsNumber N written writtenMany x1 = some o) : MX E l yX12_putsNumber cX12_putsNumber 3 none ({ frames := 1, cells := 0, slots := 0, locals := 21 } : Room) [.ref h, .int x1] [(h, .inr (11, [.ref a_g, .ref a_kept, .int isKept, .ref a_tape, .int taped, .int spot, .ref a_written, .int writtenMany, .ref a_asked, .int askedMany, .ref a_there, .ref a_counts, .ref a_lasts, .ref a_cames])), (a_g, .inl (E.2.1, 8787, .inl g)), (a_kept, .inl (E.2.1, 8787, .inl kept)), (a_tape, .inl (E.2.2.1, 60, .inl tape)), (a_written, .inl (E.2.1, 40, .inl written)), (a_asked, .inl (E.2.1, 60, .inl asked)), (a_there, .inl (E.2.1, 12, .inl there)), (a_counts, .inl (E.2.1, 12, .inl counts)), (a_lasts, .inl (E.2.1, 12, .inl lasts)), (a_cames, .inl (E.2.1, 12, .inl cames))] (po_X12_putsNumber E h a_g a_kept a_tape a_written a_asked a_there a_counts a_lasts a_cames g kept isKept tape taped spot written writtenMany asked askedMany there counts lasts cames o) := by
  refine mx_intro (by decide +kernel) (Nat.le_of_ble_eq_true rfl) ?_
  intro p e s m args below meth c A Q ls B w hl
  obtain ⟨hx, hb, hml, hown, hts⟩ := id B.1
  unfold F_X12_putsNumber at hf
  have hl : lv_has ls 3 [(0, .ref h), (1, .int x1)] := hl
  refine lv_iconst (v := 1) hx hb dX12_putsNumber_0 (by decide) ?_
  refine lv_istore_n (lv' := [(2, .int 1), (0, .ref h), (1, .int x1)]) hx hb dX12_putsNumber_1 rfl hl (by decide) rfl (fun ls hl => ?_)
  refine l_X12_putsNumber_2 B _  ?_ N _ _ _ _ hf  w (lv_sub hl [1, 2, 0] rfl)
  · intro x2 H locs ls hf w hl
    refine l_X12_putsNumber_18 B _  ?_ N _ _ _ _ _ _ hf  w (lv_sub hl [0, 1, 2] rfl)
    · intro written writtenMany H locs ls hf w hl
      cases hf
      exact mx_vret B w ⟨rfl, rfl⟩ dX12_putsNumber_43
abbrev cX12_putsWord : ByteArray := prog_14_method_87_code
def yX12_putsWord : MethodName := ⟨RX12, "putsWord", "(Ljava/lang/String;)V"⟩
theorem dX12_putsWord_0 : decode cX12_putsWord 0 = .ok (.iconst 0, 1) := by decide +kernel
theorem dX12_putsWord_1 : decode cX12_putsWord 1 = .ok (.istore_n 2, 1) := by decide +kernel
theorem dX12_putsWord_2 : decode cX12_putsWord 2 = .ok (.iload_n 2, 1) := by decide +kernel
theorem dX12_putsWord_3 : decode cX12_putsWord 3 = .ok (.aload_n 1, 1) := by decide +kernel
theorem dX12_putsWord_4 : decode cX12_putsWord 4 = .ok (.invokevirtual 234, 3) := by decide +kernel
theorem dX12_putsWord_7 : decode cX12_putsWord 7 = .ok (.if_icmp .ge 18, 3) := by decide +kernel
theorem dX12_putsWord_10 : decode cX12_putsWord 10 = .ok (.aload_n 0, 1) := by decide +kernel
theorem dX12_putsWord_11 : decode cX12_putsWord 11 = .ok (.aload_n 1, 1) := by decide +kernel
theorem dX12_putsWord_12 : decode cX12_putsWord 12 = .ok (.iload_n 2, 1) := by decide +kernel
theorem dX12_putsWord_13 : decode cX12_putsWord 13 = .ok (.invokevirtual 239, 3) := by decide +kernel
theorem dX12_putsWord_16 : decode cX12_putsWord 16 = .ok (.invokevirtual 231, 3) := by decide +kernel
theorem dX12_putsWord_19 : decode cX12_putsWord 19 = .ok (.iinc 2 1, 3) := by decide +kernel
theorem dX12_putsWord_22 : decode cX12_putsWord 22 = .ok (.goto (-20), 3) := by decide +kernel
theorem dX12_putsWord_25 : decode cX12_putsWord 25 = .ok (.return_, 1) := by decide +kernel
theorem kw_1100 : Cond.code yJ0_length_8abf5 cJ0_length_8abf5 1 (some .int) ∈ TB := tb_at 1100 (by decide +kernel) (by decide +kernel)
theorem kw_1098 : Cond.instanceMethod yJ0_length_8abf5 ∈ TB := tb_at 1098 (by decide +kernel) (by decide +kernel)
theorem kw_1099 : Cond.selects "java/lang/String" yJ0_length_8abf5 yJ0_length_8abf5 ∈ TB := tb_at 1099 (by decide +kernel) (by decide +kernel)
theorem kw_1608 : Cond.methodLink "FrequencyShelfModel" 234 yJ0_length_8abf5 ∈ TB := tb_at 1608 (by decide +kernel) (by decide +kernel)
theorem kw_1612 : Cond.code yJ0_charAt_5068e cJ0_charAt_5068e 2 (some .char) ∈ TB := tb_at 1612 (by decide +kernel) (by decide +kernel)
theorem kw_1610 : Cond.instanceMethod yJ0_charAt_5068e ∈ TB := tb_at 1610 (by decide +kernel) (by decide +kernel)
theorem kw_1611 : Cond.selects "java/lang/String" yJ0_charAt_5068e yJ0_charAt_5068e ∈ TB := tb_at 1611 (by decide +kernel) (by decide +kernel)
theorem kw_1609 : Cond.methodLink "FrequencyShelfModel" 239 yJ0_charAt_5068e ∈ TB := tb_at 1609 (by decide +kernel) (by decide +kernel)
noncomputable def F_pw : List Int32 → (Nat → Int32) → Int32 → Option ((Nat → Int32) × Int32)
  | [], f, k => some (f, k)
  | b :: bs, f, k => bd (F_X12_puts f k b) (fun o => F_pw bs o.1 o.2)
noncomputable def F_X12_putsWord (written : Nat → Int32) (writtenMany : Int32) (i : Nat) : Option ((Nat → Int32) × Int32) := F_pw (sByt.getD i []) written writtenMany
def po_X12_putsWord (E : mE) (h : Nat) (a_g : Nat) (a_kept : Nat) (a_tape : Nat) (a_written : Nat) (a_asked : Nat) (a_there : Nat) (a_counts : Nat) (a_lasts : Nat) (a_cames : Nat)  (g : Nat → Int32) (kept : Nat → Int32) (isKept : Int32) (tape : Nat → Int32) (taped : Int32) (spot : Int32) (written : Nat → Int32) (writtenMany : Int32) (asked : Nat → Int32) (askedMany : Int32) (there : Nat → Int32) (counts : Nat → Int32) (lasts : Nat → Int32) (cames : Nat → Int32)  (o : (Nat → Int32) × Int32) : Option Value → va_W → Prop := (fun (v : Option Value) (w' : va_W) => v = none ∧ w' = [(h, .inr (11, [.ref a_g, .ref a_kept, .int isKept, .ref a_tape, .int taped, .int spot, .ref a_written, .int o.2, .ref a_asked, .int askedMany, .ref a_there, .ref a_counts, .ref a_lasts, .ref a_cames])), (a_g, .inl (E.2.1, 8787, .inl g)), (a_kept, .inl (E.2.1, 8787, .inl kept)), (a_tape, .inl (E.2.2.1, 60, .inl tape)), (a_written, .inl (E.2.1, 40, .inl o.1)), (a_asked, .inl (E.2.1, 60, .inl asked)), (a_there, .inl (E.2.1, 12, .inl there)), (a_counts, .inl (E.2.1, 12, .inl counts)), (a_lasts, .inl (E.2.1, 12, .inl lasts)), (a_cames, .inl (E.2.1, 12, .inl cames))])
theorem str_len : ∀ i, i < 5 → (sByt.getD i []).length = sLen.getD i 0 ∧ sLen.getD i 0 ≤ 6 := by decide +kernel
set_option maxHeartbeats 4000000 in
theorem l_pw {E : mE} {l : Launch} {p : Program} {e : Env} {s : State} {m : MethodId} {args : Array Value} {below : List Frame} {meth : Method} {c : Code} {A : Nat → Prop} {Q : State → Prop} {h : Nat} {a_g : Nat} {a_kept : Nat} {a_tape : Nat} {a_written : Nat} {a_asked : Nat} {a_there : Nat} {a_counts : Nat} {a_lasts : Nat} {a_cames : Nat} {g : Nat → Int32} {kept : Nat → Int32} {isKept : Int32} {tape : Nat → Int32} {taped : Int32} {spot : Int32} {written0 : Nat → Int32} {writtenMany0 : Int32} {asked : Nat → Int32} {askedMany : Int32} {there : Nat → Int32} {counts : Nat → Int32} {lasts : Nat → Int32} {cames : Nat → Int32} {o : (Nat → Int32) × Int32} {i : Nat} (hi : i < 5) (B : mB E yX12_putsWord cX12_putsWord 3 none 0 0 (po_X12_putsWord E h a_g a_kept a_tape a_written a_asked a_there a_counts a_lasts a_cames g kept isKept tape taped spot written0 writtenMany0 asked askedMany there counts lasts cames o) p s m args below meth c A Q) : ∀ (bs : List Int32) (j : Nat) (written : Nat → Int32) (writtenMany : Int32) (H : Heap) (locs : List Loc) (ls : Array Slot), (sByt.getD i []).drop j = bs → j + bs.length = sLen.getD i 0 → F_pw bs written writtenMany = some o → mW E A s [(h, .inr (11, [.ref a_g, .ref a_kept, .int isKept, .ref a_tape, .int taped, .int spot, .ref a_written, .int writtenMany, .ref a_asked, .int askedMany, .ref a_there, .ref a_counts, .ref a_lasts, .ref a_cames])), (a_g, .inl (E.2.1, 8787, .inl g)), (a_kept, .inl (E.2.1, 8787, .inl kept)), (a_tape, .inl (E.2.2.1, 60, .inl tape)), (a_written, .inl (E.2.1, 40, .inl written)), (a_asked, .inl (E.2.1, 60, .inl asked)), (a_there, .inl (E.2.1, 12, .inl there)), (a_counts, .inl (E.2.1, 12, .inl counts)), (a_lasts, .inl (E.2.1, 12, .inl lasts)), (a_cames, .inl (E.2.1, 12, .inl cames))] H locs → lv_has ls 3 [(2, .int (nI j)), (0, .ref h), (1, .ref (E.2.2.2 (10 + i)))] → W p l e ({ frames := 4, cells := 0, slots := 0, locals := 86 } : Room) s m args below meth c H locs 0 0 Q (F0 m 2 ls []) := by
  obtain ⟨hx, hb, hml, hown, hts⟩ := id B.1
  have hL := (str_len i hi).2
  intro bs
  induction bs with
  | nil =>
    intro j written writtenMany H locs ls hd hj hf w hl
    have hj : j = sLen.getD i 0 := by simpa using hj
    refine lv_iload_n hx hb dX12_putsWord_2 rfl (lv_at hl 0 rfl) ?_
    refine lv_aload_n hx hb dX12_putsWord_3 rfl (lv_at hl 2 rfl) ?_
    refine mx_callK i hi (As := []) (rest := [.int (nI j)]) (wr := [(h, .inr (11, [.ref a_g, .ref a_kept, .int isKept, .ref a_tape, .int taped, .int spot, .ref a_written, .int writtenMany, .ref a_asked, .int askedMany, .ref a_there, .ref a_counts, .ref a_lasts, .ref a_cames])), (a_g, .inl (E.2.1, 8787, .inl g)), (a_kept, .inl (E.2.1, 8787, .inl kept)), (a_tape, .inl (E.2.2.1, 60, .inl tape)), (a_written, .inl (E.2.1, 40, .inl written)), (a_asked, .inl (E.2.1, 60, .inl asked)), (a_there, .inl (E.2.1, 12, .inl there)), (a_counts, .inl (E.2.1, 12, .inl counts)), (a_lasts, .inl (E.2.1, 12, .inl lasts)), (a_cames, .inl (E.2.1, 12, .inl cames))]) (t_J0_length_8abf5 E l i hi) B w [] [0, 1, 2, 3, 4, 5, 6, 7, 8, 9] rfl rfl rfl (by decide) (by decide) ⟨kw_1100, kw_1098, kw_1099, kw_79⟩ kw_1608 0 (by decide +kernel) ⟨Nat.le_of_ble_eq_true rfl, Nat.le_of_ble_eq_true rfl⟩ rfl hl.1 rfl (Nat.le_of_ble_eq_true rfl) dX12_putsWord_4 rfl rfl ⟨Nat.zero_le _, Nat.zero_le _⟩ (fun v w' H locs hpo w => ?_)
    obtain ⟨rfl, rfl⟩ := hpo
    have w : mW E A s [(h, .inr (11, [.ref a_g, .ref a_kept, .int isKept, .ref a_tape, .int taped, .int spot, .ref a_written, .int writtenMany, .ref a_asked, .int askedMany, .ref a_there, .ref a_counts, .ref a_lasts, .ref a_cames])), (a_g, .inl (E.2.1, 8787, .inl g)), (a_kept, .inl (E.2.1, 8787, .inl kept)), (a_tape, .inl (E.2.2.1, 60, .inl tape)), (a_written, .inl (E.2.1, 40, .inl written)), (a_asked, .inl (E.2.1, 60, .inl asked)), (a_there, .inl (E.2.1, 12, .inl there)), (a_counts, .inl (E.2.1, 12, .inl counts)), (a_lasts, .inl (E.2.1, 12, .inl lasts)), (a_cames, .inl (E.2.1, 12, .inl cames))] H locs := w
    refine lv_icmp_ge (tgt := 25) hx hb dX12_putsWord_7 (by decide) (fun _ => ?_) (fun hc => absurd (nI_le (by omega) (by omega)) hc)
    cases hf
    exact mx_vret B w ⟨rfl, rfl⟩ dX12_putsWord_25
  | cons b bs ih =>
    intro j written writtenMany H locs ls hd hj hf w hl
    have hj' : j < sLen.getD i 0 := by rw [List.length_cons] at hj; omega
    have hb0 : (sByt.getD i []).getD j 0 = b := by
      have hjl : j < (sByt.getD i []).length := by rw [(str_len i hi).1]; exact hj'
      rw [List.drop_eq_getElem_cons hjl] at hd
      rw [List.getD_eq_getElem?_getD, List.getElem?_eq_getElem hjl]
      exact (List.cons.inj hd).1
    have hd1 : (sByt.getD i []).drop (j + 1) = bs := by
      rw [← List.tail_drop, hd]
      rfl
    obtain ⟨o1, hq, hf⟩ := bd_e hf
    refine lv_iload_n hx hb dX12_putsWord_2 rfl (lv_at hl 0 rfl) ?_
    refine lv_aload_n hx hb dX12_putsWord_3 rfl (lv_at hl 2 rfl) ?_
    refine mx_callK i hi (As := []) (rest := [.int (nI j)]) (wr := [(h, .inr (11, [.ref a_g, .ref a_kept, .int isKept, .ref a_tape, .int taped, .int spot, .ref a_written, .int writtenMany, .ref a_asked, .int askedMany, .ref a_there, .ref a_counts, .ref a_lasts, .ref a_cames])), (a_g, .inl (E.2.1, 8787, .inl g)), (a_kept, .inl (E.2.1, 8787, .inl kept)), (a_tape, .inl (E.2.2.1, 60, .inl tape)), (a_written, .inl (E.2.1, 40, .inl written)), (a_asked, .inl (E.2.1, 60, .inl asked)), (a_there, .inl (E.2.1, 12, .inl there)), (a_counts, .inl (E.2.1, 12, .inl counts)), (a_lasts, .inl (E.2.1, 12, .inl lasts)), (a_cames, .inl (E.2.1, 12, .inl cames))]) (t_J0_length_8abf5 E l i hi) B w [] [0, 1, 2, 3, 4, 5, 6, 7, 8, 9] rfl rfl rfl (by decide) (by decide) ⟨kw_1100, kw_1098, kw_1099, kw_79⟩ kw_1608 0 (by decide +kernel) ⟨Nat.le_of_ble_eq_true rfl, Nat.le_of_ble_eq_true rfl⟩ rfl hl.1 rfl (Nat.le_of_ble_eq_true rfl) dX12_putsWord_4 rfl rfl ⟨Nat.zero_le _, Nat.zero_le _⟩ (fun v w' H locs hpo w => ?_)
    obtain ⟨rfl, rfl⟩ := hpo
    have w : mW E A s [(h, .inr (11, [.ref a_g, .ref a_kept, .int isKept, .ref a_tape, .int taped, .int spot, .ref a_written, .int writtenMany, .ref a_asked, .int askedMany, .ref a_there, .ref a_counts, .ref a_lasts, .ref a_cames])), (a_g, .inl (E.2.1, 8787, .inl g)), (a_kept, .inl (E.2.1, 8787, .inl kept)), (a_tape, .inl (E.2.2.1, 60, .inl tape)), (a_written, .inl (E.2.1, 40, .inl written)), (a_asked, .inl (E.2.1, 60, .inl asked)), (a_there, .inl (E.2.1, 12, .inl there)), (a_counts, .inl (E.2.1, 12, .inl counts)), (a_lasts, .inl (E.2.1, 12, .inl lasts)), (a_cames, .inl (E.2.1, 12, .inl cames))] H locs := w
    refine lv_icmp_ge (tgt := 25) hx hb dX12_putsWord_7 (by decide) (fun hc => absurd hc (nI_ge hj' (by omega))) (fun _ => ?_)
    refine lv_aload_n hx hb dX12_putsWord_10 rfl (lv_at hl 1 rfl) ?_
    refine lv_aload_n hx hb dX12_putsWord_11 rfl (lv_at hl 2 rfl) ?_
    refine lv_iload_n hx hb dX12_putsWord_12 rfl (lv_at hl 0 rfl) ?_
    refine mx_callK i hi (As := [.int (nI j)]) (rest := [.ref h]) (wr := [(h, .inr (11, [.ref a_g, .ref a_kept, .int isKept, .ref a_tape, .int taped, .int spot, .ref a_written, .int writtenMany, .ref a_asked, .int askedMany, .ref a_there, .ref a_counts, .ref a_lasts, .ref a_cames])), (a_g, .inl (E.2.1, 8787, .inl g)), (a_kept, .inl (E.2.1, 8787, .inl kept)), (a_tape, .inl (E.2.2.1, 60, .inl tape)), (a_written, .inl (E.2.1, 40, .inl written)), (a_asked, .inl (E.2.1, 60, .inl asked)), (a_there, .inl (E.2.1, 12, .inl there)), (a_counts, .inl (E.2.1, 12, .inl counts)), (a_lasts, .inl (E.2.1, 12, .inl lasts)), (a_cames, .inl (E.2.1, 12, .inl cames))]) (t_J0_charAt_5068e E l i hi j hj') B w [] [0, 1, 2, 3, 4, 5, 6, 7, 8, 9] rfl rfl rfl (by decide) (by decide) ⟨kw_1612, kw_1610, kw_1611, kw_79⟩ kw_1609 1 (by decide +kernel) ⟨Nat.le_of_ble_eq_true rfl, Nat.le_of_ble_eq_true rfl⟩ rfl hl.1 rfl (Nat.le_of_ble_eq_true rfl) dX12_putsWord_13 rfl rfl ⟨Nat.zero_le _, Nat.zero_le _⟩ (fun v w' H locs hpo w => ?_)
    obtain ⟨rfl, rfl⟩ := hpo
    have w : mW E A s [(h, .inr (11, [.ref a_g, .ref a_kept, .int isKept, .ref a_tape, .int taped, .int spot, .ref a_written, .int writtenMany, .ref a_asked, .int askedMany, .ref a_there, .ref a_counts, .ref a_lasts, .ref a_cames])), (a_g, .inl (E.2.1, 8787, .inl g)), (a_kept, .inl (E.2.1, 8787, .inl kept)), (a_tape, .inl (E.2.2.1, 60, .inl tape)), (a_written, .inl (E.2.1, 40, .inl written)), (a_asked, .inl (E.2.1, 60, .inl asked)), (a_there, .inl (E.2.1, 12, .inl there)), (a_counts, .inl (E.2.1, 12, .inl counts)), (a_lasts, .inl (E.2.1, 12, .inl lasts)), (a_cames, .inl (E.2.1, 12, .inl cames))] H locs := w
    rw [← hb0] at hq
    refine mx_callV (As := [.int ((sByt.getD i []).getD j 0)]) (rest := []) (wr := []) (d_X12_puts E l h a_g a_kept a_tape a_written a_asked a_there a_counts a_lasts a_cames g kept isKept tape taped spot written writtenMany asked askedMany there counts lasts cames ((sByt.getD i []).getD j 0) o1 hq) B w [0, 1, 2, 3, 4, 5, 6, 7, 8, 9] [] rfl rfl (by decide) (by decide) (by decide) 0 rfl rfl cv_X12_puts kw_1595 1 (by decide +kernel) ⟨Nat.le_of_ble_eq_true rfl, Nat.le_of_ble_eq_true rfl⟩ rfl hl.1 rfl (Nat.le_of_ble_eq_true rfl) dX12_putsWord_16 rfl rfl ⟨Nat.zero_le _, Nat.zero_le _⟩ (fun v w' H locs hpo w => ?_)
    obtain ⟨rfl, rfl⟩ := hpo
    have w : mW E A s [(h, .inr (11, [.ref a_g, .ref a_kept, .int isKept, .ref a_tape, .int taped, .int spot, .ref a_written, .int o1.2, .ref a_asked, .int askedMany, .ref a_there, .ref a_counts, .ref a_lasts, .ref a_cames])), (a_g, .inl (E.2.1, 8787, .inl g)), (a_kept, .inl (E.2.1, 8787, .inl kept)), (a_tape, .inl (E.2.2.1, 60, .inl tape)), (a_written, .inl (E.2.1, 40, .inl o1.1)), (a_asked, .inl (E.2.1, 60, .inl asked)), (a_there, .inl (E.2.1, 12, .inl there)), (a_counts, .inl (E.2.1, 12, .inl counts)), (a_lasts, .inl (E.2.1, 12, .inl lasts)), (a_cames, .inl (E.2.1, 12, .inl cames))] H locs := w
    refine lv_iinc (v := nI (j + 1)) (lv' := [(2, .int (nI (j + 1))), (0, .ref h), (1, .ref (E.2.2.2 (10 + i)))]) hx hb dX12_putsWord_19 hl (k := 0) rfl (by show nI j + nI 1 = _; rw [nI_add]) (by decide) rfl (fun ls hl => ?_)
    refine lv_goto (tgt := 2) hx hb dX12_putsWord_22 (by decide) ?_
    exact ih (j + 1) o1.1 o1.2 H locs ls hd1 (by rw [List.length_cons] at hj; omega) hf w hl
set_option maxHeartbeats 4000000 in
theorem d_X12_putsWord (E : mE) (l : Launch) (h : Nat) (a_g : Nat) (a_kept : Nat) (a_tape : Nat) (a_written : Nat) (a_asked : Nat) (a_there : Nat) (a_counts : Nat) (a_lasts : Nat) (a_cames : Nat)  (g : Nat → Int32) (kept : Nat → Int32) (isKept : Int32) (tape : Nat → Int32) (taped : Int32) (spot : Int32) (written : Nat → Int32) (writtenMany : Int32) (asked : Nat → Int32) (askedMany : Int32) (there : Nat → Int32) (counts : Nat → Int32) (lasts : Nat → Int32) (cames : Nat → Int32)  (i : Nat) (o : (Nat → Int32) × Int32) (hf : F_X12_putsWord written writtenMany i = some o) (hi : i < 5 := by decide) : MX E l yX12_putsWord cX12_putsWord 3 none ({ frames := 4, cells := 0, slots := 0, locals := 86 } : Room) [.ref h, .ref (E.2.2.2 (10 + i))] [(h, .inr (11, [.ref a_g, .ref a_kept, .int isKept, .ref a_tape, .int taped, .int spot, .ref a_written, .int writtenMany, .ref a_asked, .int askedMany, .ref a_there, .ref a_counts, .ref a_lasts, .ref a_cames])), (a_g, .inl (E.2.1, 8787, .inl g)), (a_kept, .inl (E.2.1, 8787, .inl kept)), (a_tape, .inl (E.2.2.1, 60, .inl tape)), (a_written, .inl (E.2.1, 40, .inl written)), (a_asked, .inl (E.2.1, 60, .inl asked)), (a_there, .inl (E.2.1, 12, .inl there)), (a_counts, .inl (E.2.1, 12, .inl counts)), (a_lasts, .inl (E.2.1, 12, .inl lasts)), (a_cames, .inl (E.2.1, 12, .inl cames))] (po_X12_putsWord E h a_g a_kept a_tape a_written a_asked a_there a_counts a_lasts a_cames g kept isKept tape taped spot written writtenMany asked askedMany there counts lasts cames o) := by
  refine mx_intro (by decide +kernel) (Nat.le_of_ble_eq_true rfl) ?_
  intro p e s m args below meth c A Q ls B w hl
  obtain ⟨hx, hb, hml, hown, hts⟩ := id B.1
  have hl : lv_has ls 3 [(0, .ref h), (1, .ref (E.2.2.2 (10 + i)))] := hl
  refine lv_iconst (v := 0) hx hb dX12_putsWord_0 (by decide) ?_
  refine lv_istore_n (lv' := [(2, .int 0), (0, .ref h), (1, .ref (E.2.2.2 (10 + i)))]) hx hb dX12_putsWord_1 rfl hl (by decide) rfl (fun ls hl => ?_)
  exact l_pw hi B (sByt.getD i []) 0 written writtenMany _ _ ls rfl (by rw [(str_len i hi).1]; omega) hf w hl
