def tclear (_ : Rows) : Rows := []
noncomputable def F_X5_allow   (x0 : Int32) (x1 : Int32) : Option (Int32) :=
  if (x0 < 0 : Prop) then
  some (0)
  else
  if (8 ≤ x0 : Prop) then
  some (0)
  else
  if (8 ≤ x0 : Prop) then
  some (0)
  else
  ld zLEAST 8 x0 (fun v_1 =>
  if (x1 < v_1 : Prop) then
  some (0)
  else
  ld zMOST 8 x0 (fun v_2 =>
  if (v_2 < x1 : Prop) then
  some (0)
  else
  some (1)))
noncomputable def F_X5_value  (vals : Nat → Int32) (x1 : Int32) : Option (Int32) :=
  if (x1 < 0 : Prop) then
  some (0)
  else
  if ((nI 8) ≤ x1 : Prop) then
  some (0)
  else
  ld vals 8 x1 (fun v_1 =>
  some (v_1))
noncomputable def F_X5_set  (vals : Nat → Int32) (x1 : Int32) (x2 : Int32) : Option ((Nat → Int32)) :=
  if (x1 < 0 : Prop) then
  some (vals)
  else
  if ((nI 8) ≤ x1 : Prop) then
  some (vals)
  else
  sto vals 8 x1 x2 (fun vals_1 =>
  some (vals_1))
noncomputable def F_X0_size (dm : Nat) (rows : Rows)  : Option (Int32) :=
  lt (tsize rows) (fun o_1 =>
  some (o_1))
noncomputable def K_X0_weight_4 (N : Nat) (dm : Nat) (rec : Int32 → Int32 → Option (Int32)) (k33 : Int32 → Option (Int32))  (rows : Rows) (x1 : Int32) (x2 : Int32)  : Option (Int32) :=
  lt (tsize rows) (fun o_1 =>
  if (o_1 ≤ x2 : Prop) then
  k33 x1
  else
  lt (tget rows x2 1) (fun o_2 =>
  lt (x1 + o_2) (fun x1_3 =>
  lt (x2 + 1) (fun x2_4 =>
  rec x1_3 x2_4))))
noncomputable def L_X0_weight_4 (N : Nat) (dm : Nat) (k33 : Int32 → Option (Int32))  (rows : Rows) (n : Nat) : Int32 → Int32 → Option (Int32) :=
  Nat.rec (motive := fun _ => Int32 → Int32 → Option (Int32)) (fun _ _ => none) (fun _ rec => K_X0_weight_4 N dm rec k33 rows) n
noncomputable def F_X0_weight (N : Nat) (dm : Nat) (rows : Rows)  : Option (Int32) :=
  L_X0_weight_4 N dm (fun x1 => some (x1)) rows N 0 0
noncomputable def J_X5_hasPassed_23   (t0 : Int32) (x2 : Int32) (vals : Nat → Int32) (now : Int32) : Option (Int32) :=
  if (t0 = 0 : Prop) then
  some (0)
  else
  if (now < (x2 + t0) : Prop) then
  some (0)
  else
  some (1)
noncomputable def J_X5_hasPassed_22   (x2 : Int32) (vals : Nat → Int32) (now : Int32) : Option (Int32) :=
  J_X5_hasPassed_23 0 x2 vals now
noncomputable def F_X5_hasPassed  (vals : Nat → Int32) (now : Int32) (x1 : Int32) (x2 : Int32) : Option (Int32) :=
  if (x1 < 0 : Prop) then
  J_X5_hasPassed_22 x2 vals now
  else
  if ((nI 8) ≤ x1 : Prop) then
  J_X5_hasPassed_22 x2 vals now
  else
  ld vals 8 x1 (fun v_1 =>
  J_X5_hasPassed_23 v_1 x2 vals now)
noncomputable def F_X0_isStale (dm : Nat) (vals : Nat → Int32) (now : Int32) (rows : Rows) (x1 : Int32) : Option (Int32) :=
  lt (tget rows x1 6) (fun o_1 =>
  bd (F_X5_hasPassed vals now 2 o_1) (fun o_2 =>
  ck (o_2 = 0 ∨ o_2 = 1) (some (o_2))))
noncomputable def K_X0_goesAhead_20 (N : Nat) (dm : Nat) (rec : Int32 → Option (Int32)) (k76 : Unit → Option (Int32)) (k57 : Int32 → Int32 → Option (Int32)) (x1 : Int32) (x2 : Int32) (vals : Nat → Int32) (now : Int32) (rows : Rows) (x4 : Int32)  : Option (Int32) :=
  if (5 < x4 : Prop) then
  k76 ()
  else
  lt (tget rows x1 x4) (fun o_3 =>
  lt (tget rows x2 x4) (fun o_4 =>
  if (o_3 = o_4 : Prop) then
  lt (x4 + 1) (fun x4_5 =>
  rec x4_5)
  else
  k57 o_3 o_4))
noncomputable def L_X0_goesAhead_20 (N : Nat) (dm : Nat) (k76 : Unit → Option (Int32)) (k57 : Int32 → Int32 → Option (Int32)) (x1 : Int32) (x2 : Int32) (vals : Nat → Int32) (now : Int32) (rows : Rows) (n : Nat) : Int32 → Option (Int32) :=
  Nat.rec (motive := fun _ => Int32 → Option (Int32)) (fun _ => none) (fun _ rec => K_X0_goesAhead_20 N dm rec k76 k57 x1 x2 vals now rows) n
noncomputable def F_X0_goesAhead (N : Nat) (dm : Nat) (vals : Nat → Int32) (now : Int32) (rows : Rows) (x1 : Int32) (x2 : Int32) : Option (Int32) :=
  bd (F_X0_isStale dm vals now rows x1) (fun o_1 =>
  bd (F_X0_isStale dm vals now rows x2) (fun o_2 =>
  if (o_1 = o_2 : Prop) then
  L_X0_goesAhead_20 N dm (fun _ => some (0)) (fun x5 x6 => if (x6 ≤ x5 : Prop) then
  some (0)
  else
  some (1)) x1 x2 vals now rows N 3
  else
  ck (o_1 = 0 ∨ o_1 = 1) (some (o_1))))
noncomputable def J_X0_nextToGo_68 (N : Nat) (dm : Nat) (rec : Int32 → Int32 → Option (Int32)) (k74 : Int32 → Option (Int32)) (x1 : Int32) (x2 : Int32) (x3 : Int32) (x4 : Int32) (vals : Nat → Int32) (now : Int32) (rows : Rows) : Option (Int32) :=
  lt (x4 + 1) (fun x4_3 =>
  rec x3 x4_3)
noncomputable def J_X0_nextToGo_65 (N : Nat) (dm : Nat) (rec : Int32 → Int32 → Option (Int32)) (k74 : Int32 → Option (Int32)) (x1 : Int32) (x2 : Int32) (x4 : Int32) (vals : Nat → Int32) (now : Int32) (rows : Rows) : Option (Int32) :=
  J_X0_nextToGo_68 N dm rec k74 x1 x2 x4 x4 vals now rows
noncomputable def J_X0_nextToGo_50 (N : Nat) (dm : Nat) (rec : Int32 → Int32 → Option (Int32)) (k74 : Int32 → Option (Int32)) (x1 : Int32) (x2 : Int32) (x3 : Int32) (x4 : Int32) (vals : Nat → Int32) (now : Int32) (rows : Rows) : Option (Int32) :=
  if (x3 = ((-1)) : Prop) then
  J_X0_nextToGo_65 N dm rec k74 x1 x2 x4 vals now rows
  else
  bd (F_X0_goesAhead N dm vals now rows x4 x3) (fun o_4 =>
  if (o_4 = 0 : Prop) then
  J_X0_nextToGo_68 N dm rec k74 x1 x2 x3 x4 vals now rows
  else
  J_X0_nextToGo_65 N dm rec k74 x1 x2 x4 vals now rows)
noncomputable def K_X0_nextToGo_5 (N : Nat) (dm : Nat) (rec : Int32 → Int32 → Option (Int32)) (k74 : Int32 → Option (Int32)) (x1 : Int32) (x2 : Int32) (vals : Nat → Int32) (now : Int32) (rows : Rows) (x3 : Int32) (x4 : Int32)  : Option (Int32) :=
  lt (tsize rows) (fun o_1 =>
  if (o_1 ≤ x4 : Prop) then
  k74 x3
  else
  lt (tget rows x4 7) (fun o_2 =>
  if (o_2 = x2 : Prop) then
  J_X0_nextToGo_68 N dm rec k74 x1 x2 x3 x4 vals now rows
  else
  if (x1 = ((-1)) : Prop) then
  J_X0_nextToGo_50 N dm rec k74 x1 x2 x3 x4 vals now rows
  else
  bd (F_X0_goesAhead N dm vals now rows x1 x4) (fun o_5 =>
  if (o_5 = 0 : Prop) then
  J_X0_nextToGo_68 N dm rec k74 x1 x2 x3 x4 vals now rows
  else
  J_X0_nextToGo_50 N dm rec k74 x1 x2 x3 x4 vals now rows)))
noncomputable def L_X0_nextToGo_5 (N : Nat) (dm : Nat) (k74 : Int32 → Option (Int32)) (x1 : Int32) (x2 : Int32) (vals : Nat → Int32) (now : Int32) (rows : Rows) (n : Nat) : Int32 → Int32 → Option (Int32) :=
  Nat.rec (motive := fun _ => Int32 → Int32 → Option (Int32)) (fun _ _ => none) (fun _ rec => K_X0_nextToGo_5 N dm rec k74 x1 x2 vals now rows) n
noncomputable def F_X0_nextToGo (N : Nat) (dm : Nat) (vals : Nat → Int32) (now : Int32) (rows : Rows) (x1 : Int32) (x2 : Int32) : Option (Int32) :=
  L_X0_nextToGo_5 N dm (fun x3 => some (x3)) x1 x2 vals now rows N ((-1)) 0
noncomputable def F_X0_get (dm : Nat) (rows : Rows) (x1 : Int32) (x2 : Int32) : Option (Int32) :=
  lt (tget rows x1 x2) (fun o_1 =>
  some (o_1))
noncomputable def F_X0_add (dm : Nat) (rows : Rows) (x1 : Int32) (x2 : Int32) (x3 : Int32) (x4 : Int32) (x5 : Int32) : Option (Int32 × Rows) :=
  lt (tpush dm 9 rows x2 x3 x4) (fun o_1 =>
  lt (tset o_1.2 o_1.1 7 x1) (fun o_4 =>
  lt (tset o_4 o_1.1 6 x5) (fun o_7 =>
  some (o_1.1, o_7))))
noncomputable def F_X0_remove (dm : Nat) (rows : Rows) (x1 : Int32) : Option (Rows) :=
  lt (tremove rows x1) (fun o_1 =>
  some (o_1))
noncomputable def K_X6_trimCold_18 (N : Nat)  (rec : Int32 → Rows → Option (Rows)) (k36 : Rows → Option (Rows))  (vals : Nat → Int32) (x1 : Int32) (colds : Rows) : Option (Rows) :=
  if (x1 ≤ 0 : Prop) then
  k36 colds
  else
  bd (F_X0_remove 20 colds 0) (fun o_4 =>
  lt (x1 + (-1)) (fun x1_7 =>
  rec x1_7 o_4))
noncomputable def L_X6_trimCold_18 (N : Nat)  (k36 : Rows → Option (Rows))  (vals : Nat → Int32) (n : Nat) : Int32 → Rows → Option (Rows) :=
  Nat.rec (motive := fun _ => Int32 → Rows → Option (Rows)) (fun _ _ => none) (fun _ rec => K_X6_trimCold_18 N rec k36 vals) n
noncomputable def F_X6_trimCold (N : Nat)  (vals : Nat → Int32) (colds : Rows)  : Option (Rows) :=
  bd (F_X0_size 20 colds) (fun o_1 =>
  bd (F_X5_value vals 6) (fun o_2 =>
  lt (o_1 - o_2) (fun x1_3 =>
  L_X6_trimCold_18 N (fun colds => some (colds)) vals N x1_3 colds)))
noncomputable def F_X6_putOnCold (N : Nat)  (vals : Nat → Int32) (ents : Rows) (colds : Rows) (x1 : Int32) : Option (Rows) :=
  bd (F_X0_get 200 ents x1 7) (fun o_1 =>
  bd (F_X0_get 200 ents x1 0) (fun o_2 =>
  bd (F_X0_get 200 ents x1 1) (fun o_3 =>
  bd (F_X0_get 200 ents x1 2) (fun o_4 =>
  bd (F_X0_get 200 ents x1 6) (fun o_5 =>
  bd (F_X0_add 20 colds o_1 o_2 o_3 o_4 o_5) (fun o_6 =>
  bd (F_X6_trimCold N vals o_6.2) (fun o_9 =>
  some (o_9))))))))
noncomputable def F_X0_isDirty (dm : Nat) (rows : Rows) (x1 : Int32) : Option (Int32) :=
  lt (tget rows x1 8) (fun o_1 =>
  if (o_1 = 0 : Prop) then
  some (0)
  else
  some (1))
noncomputable def F_X5_now  (now : Int32)  : Option (Int32) :=
  some (now)
noncomputable def J_X1_number_37 (N : Nat)  (rec : Int32 → Int32 → Option (Int32)) (k43 : Int32 → Option (Int32)) (x0 : Int32) (x1 : Int32) (x2 : Int32)  : Option (Int32) :=
  lt (x2 + (-5)) (fun x2_2 =>
  rec x1 x2_2)
noncomputable def K_X1_number_12 (N : Nat)  (rec : Int32 → Int32 → Option (Int32)) (k43 : Int32 → Option (Int32)) (x0 : Int32)  (x1 : Int32) (x2 : Int32)  : Option (Int32) :=
  if (x2 < 0 : Prop) then
  k43 x1
  else
  lt ((x0 >>> (x2 &&& 31)) &&& 31) (fun x3_1 =>
  if (x3_1 = 0 : Prop) then
  J_X1_number_37 N rec k43 x0 x1 x2
  else
  lt (((x1 * 31) + x3_1) + 96) (fun x1_3 =>
  J_X1_number_37 N rec k43 x0 x1_3 x2))
noncomputable def L_X1_number_12 (N : Nat)  (k43 : Int32 → Option (Int32)) (x0 : Int32)  (n : Nat) : Int32 → Int32 → Option (Int32) :=
  Nat.rec (motive := fun _ => Int32 → Int32 → Option (Int32)) (fun _ _ => none) (fun _ rec => K_X1_number_12 N rec k43 x0) n
noncomputable def F_X1_number (N : Nat)   (x0 : Int32) : Option (Int32) :=
  if (x0 = 0 : Prop) then
  some (0)
  else
  L_X1_number_12 N (fun x1 => some (x1)) x0 N 7 25
noncomputable def F_X2_tally  (sums : Nat → Int32) (x1 : Int32) : Option ((Nat → Int32)) :=
  if (x1 < 0 : Prop) then
  some (sums)
  else
  if ((nI 14) ≤ x1 : Prop) then
  some (sums)
  else
  ld sums 14 x1 (fun v_1 =>
  sto sums 14 x1 (v_1 + 1) (fun sums_2 =>
  some (sums_2)))
noncomputable def F_X2_note (N : Nat)  (now : Int32) (book : Rows) (sums : Nat → Int32) (x1 : Int32) (x2 : Int32) : Option (Rows × (Nat → Int32)) :=
  bd (F_X5_now now) (fun o_1 =>
  bd (F_X1_number N x2) (fun o_2 =>
  lt (tpush 40 3 book x1 o_1 o_2) (fun o_3 =>
  if (x1 < 0 : Prop) then
  some (o_3.2, sums)
  else
  if (14 ≤ x1 : Prop) then
  some (o_3.2, sums)
  else
  ld zSUM_OF 14 x1 (fun v_6 =>
  bd (F_X2_tally sums v_6) (fun o_7 =>
  some (o_3.2, o_7))))))
noncomputable def F_X2_noteWritten (N : Nat)  (now : Int32) (book : Rows) (written : Rows) (sums : Nat → Int32) (x1 : Int32) (x2 : Int32) : Option (Rows × Rows × (Nat → Int32)) :=
  lt (tpush 40 2 written x1 x2 0) (fun o_1 =>
  bd (F_X2_note N now book sums 11 x1) (fun o_4 =>
  some (o_4.1, o_1.2, o_4.2)))
noncomputable def J_X6_letGo_39 (N : Nat)   (x1 : Int32) (x2 : Int32) (x3 : Int32) (now : Int32) (book : Rows) (written : Rows) (sums : Nat → Int32) (ents : Rows) : Option (Rows × Rows × (Nat → Int32) × Rows) :=
  bd (F_X2_note N now book sums x2 x3) (fun o_3 =>
  bd (F_X0_remove 200 ents x1) (fun o_6 =>
  some (o_3.1, written, o_3.2, o_6)))
noncomputable def F_X6_letGo (N : Nat)  (now : Int32) (book : Rows) (written : Rows) (sums : Nat → Int32) (ents : Rows) (x1 : Int32) (x2 : Int32) : Option (Rows × Rows × (Nat → Int32) × Rows) :=
  bd (F_X0_get 200 ents x1 7) (fun o_1 =>
  bd (F_X0_isDirty 200 ents x1) (fun o_2 =>
  if (o_2 = 0 : Prop) then
  J_X6_letGo_39 N x1 x2 o_1 now book written sums ents
  else
  bd (F_X0_get 200 ents x1 0) (fun o_9 =>
  bd (F_X2_noteWritten N now book written sums o_1 o_9) (fun o_10 =>
  J_X6_letGo_39 N x1 x2 o_1 now o_10.1 o_10.2.1 o_10.2.2 ents))))
noncomputable def J_X6_makePlace_59 (N : Nat)  (rec : Int32 → Rows → Rows → (Nat → Int32) → Rows → Rows → (Option (Rows × Rows × (Nat → Int32) × Rows × Rows))) (k73 : Rows → Rows → (Nat → Int32) → Rows → Rows → (Option (Rows × Rows × (Nat → Int32) × Rows × Rows))) (k40 : Rows → Rows → (Nat → Int32) → Rows → Rows → (Option (Rows × Rows × (Nat → Int32) × Rows × Rows))) (x1 : Int32) (x2 : Int32) (x3 : Int32) (x4 : Int32) (vals : Nat → Int32) (now : Int32) (book : Rows) (written : Rows) (sums : Nat → Int32) (ents : Rows) (colds : Rows) : Option (Rows × Rows × (Nat → Int32) × Rows × Rows) :=
  bd (F_X6_letGo N now book written sums ents x4 7) (fun o_5 =>
  lt (x3 + (-1)) (fun x3_12 =>
  rec x3_12 o_5.1 o_5.2.1 o_5.2.2.1 o_5.2.2.2 colds))
noncomputable def K_X6_makePlace_8 (N : Nat)  (rec : Int32 → Rows → Rows → (Nat → Int32) → Rows → Rows → (Option (Rows × Rows × (Nat → Int32) × Rows × Rows))) (k73 : Rows → Rows → (Nat → Int32) → Rows → Rows → (Option (Rows × Rows × (Nat → Int32) × Rows × Rows))) (k40 : Rows → Rows → (Nat → Int32) → Rows → Rows → (Option (Rows × Rows × (Nat → Int32) × Rows × Rows))) (x1 : Int32) (x2 : Int32) (vals : Nat → Int32) (now : Int32) (x3 : Int32) (book : Rows) (written : Rows) (sums : Nat → Int32) (ents : Rows) (colds : Rows) : Option (Rows × Rows × (Nat → Int32) × Rows × Rows) :=
  if (x3 ≤ 0 : Prop) then
  k73 book written sums ents colds
  else
  bd (F_X0_weight N 200 ents) (fun o_2 =>
  if (o_2 ≤ x1 : Prop) then
  k73 book written sums ents colds
  else
  bd (F_X0_nextToGo N 200 vals now ents ((-1)) x2) (fun o_3 =>
  if (o_3 = ((-1)) : Prop) then
  k40 book written sums ents colds
  else
  bd (F_X0_isStale 200 vals now ents o_3) (fun o_4 =>
  if (o_4 = 0 : Prop) then
  bd (F_X6_putOnCold N vals ents colds o_3) (fun o_13 =>
  J_X6_makePlace_59 N rec k73 k40 x1 x2 x3 o_3 vals now book written sums ents o_13)
  else
  J_X6_makePlace_59 N rec k73 k40 x1 x2 x3 o_3 vals now book written sums ents colds)))
noncomputable def L_X6_makePlace_8 (N : Nat)  (k73 : Rows → Rows → (Nat → Int32) → Rows → Rows → (Option (Rows × Rows × (Nat → Int32) × Rows × Rows))) (k40 : Rows → Rows → (Nat → Int32) → Rows → Rows → (Option (Rows × Rows × (Nat → Int32) × Rows × Rows))) (x1 : Int32) (x2 : Int32) (vals : Nat → Int32) (now : Int32) (n : Nat) : Int32 → Rows → Rows → (Nat → Int32) → Rows → Rows → (Option (Rows × Rows × (Nat → Int32) × Rows × Rows)) :=
  Nat.rec (motive := fun _ => Int32 → Rows → Rows → (Nat → Int32) → Rows → Rows → (Option (Rows × Rows × (Nat → Int32) × Rows × Rows))) (fun _ _ _ _ _ _ => none) (fun _ rec => K_X6_makePlace_8 N rec k73 k40 x1 x2 vals now) n
noncomputable def F_X6_makePlace (N : Nat)  (vals : Nat → Int32) (now : Int32) (book : Rows) (written : Rows) (sums : Nat → Int32) (ents : Rows) (colds : Rows) (x1 : Int32) (x2 : Int32) : Option (Rows × Rows × (Nat → Int32) × Rows × Rows) :=
  bd (F_X0_size 200 ents) (fun o_1 =>
  L_X6_makePlace_8 N (fun book written sums ents colds => some (book, written, sums, ents, colds)) (fun book written sums ents colds => some (book, written, sums, ents, colds)) x1 x2 vals now N o_1 book written sums ents colds)
noncomputable def F_X6_fitInto (N : Nat)  (vals : Nat → Int32) (now : Int32) (book : Rows) (written : Rows) (sums : Nat → Int32) (ents : Rows) (colds : Rows) (x1 : Int32) : Option (Rows × Rows × (Nat → Int32) × Rows × Rows) :=
  bd (F_X6_makePlace N vals now book written sums ents colds x1 0) (fun o_1 =>
  some (o_1.1, o_1.2.1, o_1.2.2.1, o_1.2.2.2.1, o_1.2.2.2.2))
noncomputable def F_X6_beginWindow  (usesInWindow : Int32)  : Option (Int32) :=
  lt (0) (fun usesInWindow_1 =>
  some (usesInWindow_1))
noncomputable def F_X3_running  (line : Rows)  : Option (Int32) :=
  lt (thowMany line 1 1) (fun o_1 =>
  some (o_1))
noncomputable def F_X2_noteTold (N : Nat)  (now : Int32) (book : Rows) (told : Rows) (sums : Nat → Int32) (x1 : Int32) : Option (Rows × Rows × (Nat → Int32)) :=
  lt (tpush 60 1 told x1 0 0) (fun o_1 =>
  bd (F_X2_note N now book sums 3 x1) (fun o_4 =>
  some (o_4.1, o_1.2, o_4.2)))
noncomputable def K_X3_runWhatMay_16 (N : Nat)  (rec : Int32 → Int32 → Rows → Rows → (Nat → Int32) → Rows → (Option (Rows × Rows × (Nat → Int32) × Rows))) (k82 : Rows → Rows → (Nat → Int32) → Rows → (Option (Rows × Rows × (Nat → Int32) × Rows)))  (vals : Nat → Int32) (now : Int32) (x1 : Int32) (x2 : Int32) (book : Rows) (told : Rows) (sums : Nat → Int32) (line : Rows) : Option (Rows × Rows × (Nat → Int32) × Rows) :=
  if (x2 ≤ 0 : Prop) then
  k82 book told sums line
  else
  lt (tsize line) (fun o_4 =>
  if (o_4 ≤ x1 : Prop) then
  k82 book told sums line
  else
  lt (tset line x1 1 1) (fun o_5 =>
  bd (F_X5_now now) (fun o_8 =>
  lt (tset o_5 x1 2 o_8) (fun o_9 =>
  lt (tget o_9 x1 0) (fun o_12 =>
  bd (F_X2_noteTold N now book told sums o_12) (fun o_13 =>
  lt (x1 + 1) (fun x1_18 =>
  lt (x2 + (-1)) (fun x2_19 =>
  rec x1_18 x2_19 o_13.1 o_13.2.1 o_13.2.2 o_9))))))))
noncomputable def L_X3_runWhatMay_16 (N : Nat)  (k82 : Rows → Rows → (Nat → Int32) → Rows → (Option (Rows × Rows × (Nat → Int32) × Rows)))  (vals : Nat → Int32) (now : Int32) (n : Nat) : Int32 → Int32 → Rows → Rows → (Nat → Int32) → Rows → (Option (Rows × Rows × (Nat → Int32) × Rows)) :=
  Nat.rec (motive := fun _ => Int32 → Int32 → Rows → Rows → (Nat → Int32) → Rows → (Option (Rows × Rows × (Nat → Int32) × Rows))) (fun _ _ _ _ _ _ => none) (fun _ rec => K_X3_runWhatMay_16 N rec k82 vals now) n
noncomputable def F_X3_runWhatMay (N : Nat)  (vals : Nat → Int32) (now : Int32) (book : Rows) (told : Rows) (sums : Nat → Int32) (line : Rows)  : Option (Rows × Rows × (Nat → Int32) × Rows) :=
  bd (F_X3_running line) (fun o_1 =>
  bd (F_X5_value vals 4) (fun o_2 =>
  lt (o_2 - o_1) (fun x2_3 =>
  L_X3_runWhatMay_16 N (fun book told sums line => some (book, told, sums, line)) vals now N o_1 x2_3 book told sums line)))
noncomputable def F_X11_rule (N : Nat)  (vals : Nat → Int32) (now : Int32) (book : Rows) (told : Rows) (written : Rows) (sums : Nat → Int32) (ents : Rows) (colds : Rows) (usesInWindow : Int32) (line : Rows) (x1 : Int32) (x2 : Int32) : Option (Int32 × (Nat → Int32) × Rows × Rows × Rows × (Nat → Int32) × Rows × Rows × Int32 × Rows) :=
  bd (F_X5_allow x1 x2) (fun o_1 =>
  if (o_1 = 0 : Prop) then
  some ((-1001), vals, book, told, written, sums, ents, colds, usesInWindow, line)
  else
  bd (F_X5_value vals x1) (fun o_2 =>
  bd (F_X5_set vals x1 x2) (fun o_3 =>
  if (x1 = 0 : Prop) then
  bd (F_X6_fitInto N o_3 now book written sums ents colds x2) (fun o_15 =>
  some (o_2, o_3, o_15.1, told, o_15.2.1, o_15.2.2.1, o_15.2.2.2.1, o_15.2.2.2.2, usesInWindow, line))
  else
  if (x1 = 1 : Prop) then
  bd (F_X6_beginWindow usesInWindow) (fun o_14 =>
  some (o_2, o_3, book, told, written, sums, ents, colds, o_14, line))
  else
  if (x1 = 4 : Prop) then
  bd (F_X3_runWhatMay N o_3 now book told sums line) (fun o_7 =>
  some (o_2, o_3, o_7.1, o_7.2.1, written, o_7.2.2.1, ents, colds, usesInWindow, o_7.2.2.2))
  else
  if (x1 = 6 : Prop) then
  bd (F_X6_trimCold N o_3 colds) (fun o_4 =>
  some (o_2, o_3, book, told, written, sums, ents, o_4, usesInWindow, line))
  else
  some (o_2, o_3, book, told, written, sums, ents, colds, usesInWindow, line))))
noncomputable def F_X5_pass  (now : Int32) (x1 : Int32) : Option (Int32) :=
  lt ((now + x1)) (fun now_1 =>
  some (now_1))
noncomputable def F_X3_firstDelivery  (boxes : Rows) (x1 : Int32) : Option (Int32) :=
  lt (tfind boxes 0 x1 0) (fun o_1 =>
  some (o_1))
noncomputable def F_X2_tallyOf  (asum : Nat → Int32) (x1 : Int32) (x2 : Int32) : Option ((Nat → Int32)) :=
  lt ((x1 * 4) + x2) (fun x3_1 =>
  if (x3_1 < 0 : Prop) then
  some (asum)
  else
  if ((nI 64) ≤ x3_1 : Prop) then
  some (asum)
  else
  ld asum 64 x3_1 (fun v_2 =>
  sto asum 64 x3_1 (v_2 + 1) (fun asum_3 =>
  some (asum_3))))
noncomputable def F_X2_noteDelivered  (sums : Nat → Int32) (asum : Nat → Int32) (x1 : Int32) : Option ((Nat → Int32) × (Nat → Int32)) :=
  bd (F_X2_tally sums 8) (fun o_1 =>
  bd (F_X2_tallyOf asum x1 2) (fun o_2 =>
  some (o_1, o_2)))
noncomputable def J_X3_deliver_35   (x1 : Int32) (x2 : Int32) (x3 : Int32) (sums : Nat → Int32) (asum : Nat → Int32) (boxes : Rows) : Option ((Nat → Int32) × (Nat → Int32) × Rows) :=
  lt (tpush 192 3 boxes x1 x2 x3) (fun o_2 =>
  bd (F_X2_noteDelivered sums asum x1) (fun o_5 =>
  some (o_5.1, o_5.2, o_2.2)))
noncomputable def F_X3_deliver  (sums : Nat → Int32) (asum : Nat → Int32) (boxes : Rows) (x1 : Int32) (x2 : Int32) (x3 : Int32) : Option ((Nat → Int32) × (Nat → Int32) × Rows) :=
  lt (thowMany boxes 0 x1) (fun o_1 =>
  if (o_1 < 12 : Prop) then
  J_X3_deliver_35 x1 x2 x3 sums asum boxes
  else
  bd (F_X3_firstDelivery boxes x1) (fun o_6 =>
  lt (tremove boxes o_6) (fun o_7 =>
  bd (F_X2_tally sums 9) (fun o_10 =>
  J_X3_deliver_35 x1 x2 x3 o_10 asum o_7))))
noncomputable def F_X3_rowOf  (line : Rows) (x1 : Int32) : Option (Int32) :=
  lt (tfind line 0 x1 0) (fun o_1 =>
  some (o_1))
noncomputable def J_X3_end_50 (N : Nat)  (rec : Int32 → Int32 → (Nat → Int32) → (Nat → Int32) → Rows → (Option (Int32 × (Nat → Int32) × (Nat → Int32) × Rows × Rows × Rows))) (k56 : Int32 → (Nat → Int32) → (Nat → Int32) → Rows → (Option (Int32 × (Nat → Int32) × (Nat → Int32) × Rows × Rows × Rows))) (x1 : Int32) (x2 : Int32) (x3 : Int32) (x4 : Int32) (sums : Nat → Int32) (asum : Nat → Int32) (line : Rows) (waits : Rows) (boxes : Rows) : Option (Int32 × (Nat → Int32) × (Nat → Int32) × Rows × Rows × Rows) :=
  lt (x4 + 1) (fun x4_3 =>
  rec x3 x4_3 sums asum boxes)
noncomputable def K_X3_end_5 (N : Nat)  (rec : Int32 → Int32 → (Nat → Int32) → (Nat → Int32) → Rows → (Option (Int32 × (Nat → Int32) × (Nat → Int32) × Rows × Rows × Rows))) (k56 : Int32 → (Nat → Int32) → (Nat → Int32) → Rows → (Option (Int32 × (Nat → Int32) × (Nat → Int32) × Rows × Rows × Rows))) (x1 : Int32) (x2 : Int32) (line : Rows) (waits : Rows) (x3 : Int32) (x4 : Int32) (sums : Nat → Int32) (asum : Nat → Int32) (boxes : Rows) : Option (Int32 × (Nat → Int32) × (Nat → Int32) × Rows × Rows × Rows) :=
  lt (tsize waits) (fun o_1 =>
  if (o_1 ≤ x4 : Prop) then
  k56 x3 sums asum boxes
  else
  lt (tget waits x4 0) (fun o_2 =>
  if (o_2 = x1 : Prop) then
  lt (tget waits x4 1) (fun o_4 =>
  bd (F_X3_deliver sums asum boxes o_4 x1 x2) (fun o_5 =>
  lt (x3 + 1) (fun x3_8 =>
  J_X3_end_50 N rec k56 x1 x2 x3_8 x4 o_5.1 o_5.2.1 line waits o_5.2.2)))
  else
  J_X3_end_50 N rec k56 x1 x2 x3 x4 sums asum line waits boxes))
noncomputable def L_X3_end_5 (N : Nat)  (k56 : Int32 → (Nat → Int32) → (Nat → Int32) → Rows → (Option (Int32 × (Nat → Int32) × (Nat → Int32) × Rows × Rows × Rows))) (x1 : Int32) (x2 : Int32) (line : Rows) (waits : Rows) (n : Nat) : Int32 → Int32 → (Nat → Int32) → (Nat → Int32) → Rows → (Option (Int32 × (Nat → Int32) × (Nat → Int32) × Rows × Rows × Rows)) :=
  Nat.rec (motive := fun _ => Int32 → Int32 → (Nat → Int32) → (Nat → Int32) → Rows → (Option (Int32 × (Nat → Int32) × (Nat → Int32) × Rows × Rows × Rows))) (fun _ _ _ _ _ => none) (fun _ rec => K_X3_end_5 N rec k56 x1 x2 line waits) n
noncomputable def F_X3_end (N : Nat)  (sums : Nat → Int32) (asum : Nat → Int32) (line : Rows) (waits : Rows) (boxes : Rows) (x1 : Int32) (x2 : Int32) : Option (Int32 × (Nat → Int32) × (Nat → Int32) × Rows × Rows × Rows) :=
  L_X3_end_5 N (fun x3 sums asum boxes => lt (tremoveAll waits 0 x1) (fun o_9 =>
  bd (F_X3_rowOf line x1) (fun o_12 =>
  lt (tremove line o_12) (fun o_13 =>
  some (x3, sums, asum, o_13, o_9, boxes))))) x1 x2 line waits N 0 0 sums asum boxes
noncomputable def F_X3_fail (N : Nat)  (vals : Nat → Int32) (now : Int32) (book : Rows) (told : Rows) (sums : Nat → Int32) (asum : Nat → Int32) (line : Rows) (waits : Rows) (boxes : Rows) (x1 : Int32) (x2 : Int32) : Option (Int32 × Rows × Rows × (Nat → Int32) × (Nat → Int32) × Rows × Rows × Rows) :=
  bd (F_X2_note N now book sums 6 x1) (fun o_1 =>
  bd (F_X3_end N o_1.2 asum line waits boxes x1 (-x2)) (fun o_4 =>
  bd (F_X3_runWhatMay N vals now o_1.1 told o_4.2.1 o_4.2.2.2.1) (fun o_11 =>
  some (o_4.1, o_11.1, o_11.2.1, o_11.2.2.1, o_4.2.2.1, o_11.2.2.2, o_4.2.2.2.2.1, o_4.2.2.2.2.2))))
noncomputable def K_X3_endLeases_5 (N : Nat)  (rec : Int32 → Rows → Rows → (Nat → Int32) → (Nat → Int32) → Rows → Rows → Rows → (Option (Rows × Rows × (Nat → Int32) × (Nat → Int32) × Rows × Rows × Rows))) (k64 : Rows → Rows → (Nat → Int32) → (Nat → Int32) → Rows → Rows → Rows → (Option (Rows × Rows × (Nat → Int32) × (Nat → Int32) × Rows × Rows × Rows)))  (vals : Nat → Int32) (now : Int32) (x1 : Int32) (book : Rows) (told : Rows) (sums : Nat → Int32) (asum : Nat → Int32) (line : Rows) (waits : Rows) (boxes : Rows) : Option (Rows × Rows × (Nat → Int32) × (Nat → Int32) × Rows × Rows × Rows) :=
  if (x1 ≤ 0 : Prop) then
  k64 book told sums asum line waits boxes
  else
  lt (tget line 0 2) (fun o_2 =>
  bd (F_X5_hasPassed vals now 7 o_2) (fun o_3 =>
  if (o_3 = 0 : Prop) then
  k64 book told sums asum line waits boxes
  else
  lt (tget line 0 0) (fun o_4 =>
  bd (F_X2_note N now book sums 13 o_4) (fun o_5 =>
  bd (F_X3_fail N vals now o_5.1 told o_5.2 asum line waits boxes o_4 99) (fun o_8 =>
  lt (x1 + (-1)) (fun x1_19 =>
  rec x1_19 o_8.2.1 o_8.2.2.1 o_8.2.2.2.1 o_8.2.2.2.2.1 o_8.2.2.2.2.2.1 o_8.2.2.2.2.2.2.1 o_8.2.2.2.2.2.2.2))))))
noncomputable def L_X3_endLeases_5 (N : Nat)  (k64 : Rows → Rows → (Nat → Int32) → (Nat → Int32) → Rows → Rows → Rows → (Option (Rows × Rows × (Nat → Int32) × (Nat → Int32) × Rows × Rows × Rows)))  (vals : Nat → Int32) (now : Int32) (n : Nat) : Int32 → Rows → Rows → (Nat → Int32) → (Nat → Int32) → Rows → Rows → Rows → (Option (Rows × Rows × (Nat → Int32) × (Nat → Int32) × Rows × Rows × Rows)) :=
  Nat.rec (motive := fun _ => Int32 → Rows → Rows → (Nat → Int32) → (Nat → Int32) → Rows → Rows → Rows → (Option (Rows × Rows × (Nat → Int32) × (Nat → Int32) × Rows × Rows × Rows))) (fun _ _ _ _ _ _ _ _ => none) (fun _ rec => K_X3_endLeases_5 N rec k64 vals now) n
noncomputable def F_X3_endLeases (N : Nat)  (vals : Nat → Int32) (now : Int32) (book : Rows) (told : Rows) (sums : Nat → Int32) (asum : Nat → Int32) (line : Rows) (waits : Rows) (boxes : Rows)  : Option (Rows × Rows × (Nat → Int32) × (Nat → Int32) × Rows × Rows × Rows) :=
  bd (F_X3_running line) (fun o_1 =>
  L_X3_endLeases_5 N (fun book told sums asum line waits boxes => some (book, told, sums, asum, line, waits, boxes)) vals now N o_1 book told sums asum line waits boxes)
noncomputable def F_X11_step (N : Nat)  (vals : Nat → Int32) (now : Int32) (book : Rows) (told : Rows) (sums : Nat → Int32) (asum : Nat → Int32) (line : Rows) (waits : Rows) (boxes : Rows) (x1 : Int32) : Option (Int32 × Int32 × Rows × Rows × (Nat → Int32) × (Nat → Int32) × Rows × Rows × Rows) :=
  if (x1 < 1 : Prop) then
  some ((-1001), now, book, told, sums, asum, line, waits, boxes)
  else
  if (x1 ≤ 1000 : Prop) then
  bd (F_X5_now now) (fun o_1 =>
  if ((o_1 + x1) ≤ 99999 : Prop) then
  bd (F_X5_pass now x1) (fun o_2 =>
  bd (F_X3_endLeases N vals o_2 book told sums asum line waits boxes) (fun o_3 =>
  bd (F_X5_now o_2) (fun o_14 =>
  some (o_14, o_2, o_3.1, o_3.2.1, o_3.2.2.1, o_3.2.2.2.1, o_3.2.2.2.2.1, o_3.2.2.2.2.2.1, o_3.2.2.2.2.2.2))))
  else
  some ((-1004), now, book, told, sums, asum, line, waits, boxes))
  else
  some ((-1001), now, book, told, sums, asum, line, waits, boxes)
noncomputable def F_X1_isLetter   (x0 : Int32) : Option (Int32) :=
  if (x0 < 97 : Prop) then
  some (0)
  else
  if (122 < x0 : Prop) then
  some (0)
  else
  some (1)
noncomputable def F_X10_add  (tby : Nat → Int32) (tsz : Int32) (x1 : Int32) : Option (Int32 × (Nat → Int32) × Int32) :=
  if (tsz < 0 : Prop) then
  some (0, tby, tsz)
  else
  if (tsz < (nI 60) : Prop) then
  sto tby 60 tsz x1 (fun tby_1 =>
  lt ((tsz + 1)) (fun tsz_2 =>
  some (1, tby_1, tsz_2)))
  else
  some (0, tby, tsz)
noncomputable def F_X10_size  (tsz : Int32)  : Option (Int32) :=
  some (tsz)
noncomputable def J_X11_feed_17   (x1 : Int32) (tby : Nat → Int32) (tsz : Int32) : Option (Int32 × (Nat → Int32) × Int32) :=
  bd (F_X10_add tby tsz x1) (fun o_2 =>
  if (o_2.1 = 0 : Prop) then
  some ((-1004), o_2.2.1, o_2.2.2)
  else
  bd (F_X10_size o_2.2.2) (fun o_3 =>
  some (o_3, o_2.2.1, o_2.2.2)))
noncomputable def F_X11_feed  (tby : Nat → Int32) (tsz : Int32) (x1 : Int32) : Option (Int32 × (Nat → Int32) × Int32) :=
  bd (F_X1_isLetter x1) (fun o_1 =>
  if (o_1 = 0 : Prop) then
  if (x1 = 32 : Prop) then
  J_X11_feed_17 x1 tby tsz
  else
  some ((-1001), tby, tsz)
  else
  J_X11_feed_17 x1 tby tsz)
noncomputable def F_X11_isAsker   (x0 : Int32) : Option (Int32) :=
  if (x0 < 0 : Prop) then
  some (0)
  else
  if (16 ≤ x0 : Prop) then
  some (0)
  else
  some (1)
noncomputable def F_X1_with   (x0 : Int32) (x1 : Int32) : Option (Int32) :=
  some ((x0 <<< (5 &&& 31)) ||| ((x1 - 96) &&& 31))
noncomputable def K_X10_takeKey_22 (N : Nat)  (rec : Int32 → Int32 → Option (Int32 × Int32)) (k66 : Int32 → Option (Int32 × Int32)) (k47 : Unit → Option (Int32 × Int32)) (x1 : Int32) (tby : Nat → Int32) (tsz : Int32) (x2 : Int32) (x3 : Int32)  : Option (Int32 × Int32) :=
  if (x1 ≤ x3 : Prop) then
  k66 x2
  else
  if ((nI 60) ≤ x3 : Prop) then
  k66 x2
  else
  ld tby 60 x3 (fun v_2 =>
  if (v_2 = 32 : Prop) then
  k47 ()
  else
  ld tby 60 x3 (fun v_3 =>
  bd (F_X1_with x2 v_3) (fun o_4 =>
  lt (x3 + 1) (fun x3_5 =>
  rec o_4 x3_5))))
noncomputable def L_X10_takeKey_22 (N : Nat)  (k66 : Int32 → Option (Int32 × Int32)) (k47 : Unit → Option (Int32 × Int32)) (x1 : Int32) (tby : Nat → Int32) (tsz : Int32) (n : Nat) : Int32 → Int32 → Option (Int32 × Int32) :=
  Nat.rec (motive := fun _ => Int32 → Int32 → Option (Int32 × Int32)) (fun _ _ => none) (fun _ rec => K_X10_takeKey_22 N rec k66 k47 x1 tby tsz) n
noncomputable def F_X10_takeKey (N : Nat)  (tby : Nat → Int32) (tsz : Int32)  : Option (Int32 × Int32) :=
  lt (0) (fun tsz_1 =>
  if (tsz ≤ 6 : Prop) then
  L_X10_takeKey_22 N (fun x2 => some (x2, tsz_1)) (fun _ => some (0, tsz_1)) tsz tby tsz_1 N 0 0
  else
  some (0, tsz_1))
noncomputable def F_X2_noteUse  (late : Rows) (sums : Nat → Int32) (asum : Nat → Int32) (x1 : Int32) (x2 : Int32) : Option (Rows × (Nat → Int32) × (Nat → Int32)) :=
  lt (tpush 60 1 late x2 0 0) (fun o_1 =>
  bd (F_X2_tally sums 0) (fun o_4 =>
  bd (F_X2_tallyOf asum x1 0) (fun o_5 =>
  some (o_1.2, o_4, o_5))))
noncomputable def F_X7_placeOf   (x0 : Int32) (x1 : Int32) : Option (Int32) :=
  some ((x1 * 16) + (irm (ush (x0 * ((2 * x1) + 1)) (3 + (5 * x1))) 16))
noncomputable def J_X7_add_57 (N : Nat)  (rec : Int32 → (Nat → Int32) → (Option ((Nat → Int32)))) (k63 : (Nat → Int32) → (Option ((Nat → Int32)))) (x2 : Int32) (x3 : Int32) (cnt : Nat → Int32) : Option ((Nat → Int32)) :=
  lt (x3 + 1) (fun x3_3 =>
  rec x3_3 cnt)
noncomputable def K_X7_add_7 (N : Nat)  (rec : Int32 → (Nat → Int32) → (Option ((Nat → Int32)))) (k63 : (Nat → Int32) → (Option ((Nat → Int32)))) (x2 : Int32)  (x3 : Int32) (cnt : Nat → Int32) : Option ((Nat → Int32)) :=
  if (4 ≤ x3 : Prop) then
  k63 cnt
  else
  bd (F_X7_placeOf x2 x3) (fun o_2 =>
  if (o_2 < 0 : Prop) then
  J_X7_add_57 N rec k63 x2 x3 cnt
  else
  if ((nI 64) ≤ o_2 : Prop) then
  J_X7_add_57 N rec k63 x2 x3 cnt
  else
  ld cnt 64 o_2 (fun v_4 =>
  if (15 ≤ v_4 : Prop) then
  J_X7_add_57 N rec k63 x2 x3 cnt
  else
  ld cnt 64 o_2 (fun v_5 =>
  sto cnt 64 o_2 (v_5 + 1) (fun cnt_6 =>
  J_X7_add_57 N rec k63 x2 x3 cnt_6))))
noncomputable def L_X7_add_7 (N : Nat)  (k63 : (Nat → Int32) → (Option ((Nat → Int32)))) (x2 : Int32)  (n : Nat) : Int32 → (Nat → Int32) → (Option ((Nat → Int32))) :=
  Nat.rec (motive := fun _ => Int32 → (Nat → Int32) → (Option ((Nat → Int32)))) (fun _ _ => none) (fun _ rec => K_X7_add_7 N rec k63 x2) n
noncomputable def F_X7_add (N : Nat)  (cnt : Nat → Int32) (x1 : Int32) : Option ((Nat → Int32)) :=
  bd (F_X1_number N x1) (fun o_1 =>
  L_X7_add_7 N (fun cnt => some (cnt)) o_1 N 0 cnt)
noncomputable def F_X0_rowOf (dm : Nat) (rows : Rows) (x1 : Int32) : Option (Int32) :=
  lt (tfind rows 7 x1 0) (fun o_1 =>
  some (o_1))
noncomputable def J_X6_beginUse_60 (N : Nat)   (x1 : Int32) (vals : Nat → Int32) (now : Int32) (book : Rows) (written : Rows) (sums : Nat → Int32) (ents : Rows) (colds : Rows) (cnt : Nat → Int32) (uses : Int32) (usesInWindow : Int32) : Option (Rows × Rows × (Nat → Int32) × Rows × Rows × (Nat → Int32) × Int32 × Int32) :=
  bd (F_X0_rowOf 20 colds x1) (fun o_5 =>
  if (o_5 = ((-1)) : Prop) then
  some (book, written, sums, ents, colds, cnt, uses, usesInWindow)
  else
  bd (F_X0_isStale 20 vals now colds o_5) (fun o_6 =>
  if (o_6 = 0 : Prop) then
  some (book, written, sums, ents, colds, cnt, uses, usesInWindow)
  else
  bd (F_X0_remove 20 colds o_5) (fun o_7 =>
  some (book, written, sums, ents, o_7, cnt, uses, usesInWindow))))
noncomputable def F_X6_beginUse (N : Nat)  (vals : Nat → Int32) (now : Int32) (book : Rows) (written : Rows) (sums : Nat → Int32) (ents : Rows) (colds : Rows) (cnt : Nat → Int32) (uses : Int32) (usesInWindow : Int32) (x1 : Int32) : Option (Rows × Rows × (Nat → Int32) × Rows × Rows × (Nat → Int32) × Int32 × Int32) :=
  lt ((uses + 1)) (fun uses_1 =>
  lt ((usesInWindow + 1)) (fun usesInWindow_2 =>
  bd (F_X7_add N cnt x1) (fun o_3 =>
  bd (F_X0_rowOf 200 ents x1) (fun o_4 =>
  if (o_4 = ((-1)) : Prop) then
  J_X6_beginUse_60 N x1 vals now book written sums ents colds o_3 uses_1 usesInWindow_2
  else
  bd (F_X0_isStale 200 vals now ents o_4) (fun o_10 =>
  if (o_10 = 0 : Prop) then
  J_X6_beginUse_60 N x1 vals now book written sums ents colds o_3 uses_1 usesInWindow_2
  else
  bd (F_X6_letGo N now book written sums ents o_4 8) (fun o_11 =>
  J_X6_beginUse_60 N x1 vals now o_11.1 o_11.2.1 o_11.2.2.1 o_11.2.2.2 colds o_3 uses_1 usesInWindow_2))))))
noncomputable def F_X0_has (dm : Nat) (rows : Rows) (x1 : Int32) : Option (Int32) :=
  bd (F_X0_rowOf dm rows x1) (fun o_1 =>
  if (o_1 = ((-1)) : Prop) then
  some (0)
  else
  some (1))
noncomputable def F_X0_countUse (dm : Nat) (rows : Rows) (x1 : Int32) (x2 : Int32) : Option (Rows) :=
  lt (tget rows x1 3) (fun o_1 =>
  lt (tset rows x1 3 (imn 999 (o_1 + 1))) (fun o_2 =>
  lt (tset o_2 x1 4 x2) (fun o_5 =>
  some (o_5))))
noncomputable def F_X6_hit  (ents : Rows) (uses : Int32) (x1 : Int32) : Option (Int32 × Rows) :=
  bd (F_X0_rowOf 200 ents x1) (fun o_1 =>
  bd (F_X0_countUse 200 ents o_1 uses) (fun o_2 =>
  some (o_1, o_2)))
noncomputable def F_X2_noteHit (N : Nat)  (now : Int32) (book : Rows) (sums : Nat → Int32) (asum : Nat → Int32) (x1 : Int32) (x2 : Int32) : Option (Rows × (Nat → Int32) × (Nat → Int32)) :=
  bd (F_X2_note N now book sums 0 x2) (fun o_1 =>
  bd (F_X2_tallyOf asum x1 1) (fun o_4 =>
  some (o_1.1, o_1.2, o_4)))
noncomputable def F_X0_isDue (dm : Nat) (vals : Nat → Int32) (now : Int32) (rows : Rows) (x1 : Int32) : Option (Int32) :=
  bd (F_X0_isStale dm vals now rows x1) (fun o_1 =>
  if (o_1 = 0 : Prop) then
  lt (tget rows x1 6) (fun o_2 =>
  bd (F_X5_hasPassed vals now 3 o_2) (fun o_3 =>
  if (o_3 = 0 : Prop) then
  some (0)
  else
  some (1)))
  else
  some (0))
noncomputable def F_X3_lineUp (N : Nat)  (vals : Nat → Int32) (now : Int32) (book : Rows) (told : Rows) (sums : Nat → Int32) (line : Rows) (x1 : Int32) : Option (Rows × Rows × (Nat → Int32) × Rows) :=
  lt (tpush 256 3 line x1 0 0) (fun o_1 =>
  bd (F_X2_note N now book sums 1 x1) (fun o_4 =>
  bd (F_X3_runWhatMay N vals now o_4.1 told o_4.2 o_1.2) (fun o_7 =>
  some (o_7.1, o_7.2.1, o_7.2.2.1, o_7.2.2.2))))
noncomputable def J_X11_hit_52 (N : Nat)   (x3 : Int32) (vals : Nat → Int32) (now : Int32) (book : Rows) (told : Rows) (sums : Nat → Int32) (asum : Nat → Int32) (ents : Rows) (uses : Int32) (line : Rows) : Option (Int32 × Rows × Rows × (Nat → Int32) × (Nat → Int32) × Rows × Rows) :=
  bd (F_X0_get 200 ents x3 0) (fun o_8 =>
  some (o_8, book, told, sums, asum, ents, line))
noncomputable def F_X11_hit (N : Nat)  (vals : Nat → Int32) (now : Int32) (book : Rows) (told : Rows) (sums : Nat → Int32) (asum : Nat → Int32) (ents : Rows) (uses : Int32) (line : Rows) (x1 : Int32) (x2 : Int32) : Option (Int32 × Rows × Rows × (Nat → Int32) × (Nat → Int32) × Rows × Rows) :=
  bd (F_X6_hit ents uses x2) (fun o_1 =>
  bd (F_X2_noteHit N now book sums asum x1 x2) (fun o_4 =>
  bd (F_X0_isDue 200 vals now o_1.2 o_1.1) (fun o_7 =>
  if (o_7 = 0 : Prop) then
  J_X11_hit_52 N o_1.1 vals now o_4.1 told o_4.2.1 o_4.2.2 o_1.2 uses line
  else
  bd (F_X3_rowOf line x2) (fun o_9 =>
  if (o_9 = ((-1)) : Prop) then
  bd (F_X3_lineUp N vals now o_4.1 told o_4.2.1 line x2) (fun o_10 =>
  J_X11_hit_52 N o_1.1 vals now o_10.1 o_10.2.1 o_10.2.2.1 o_4.2.2 o_1.2 uses o_10.2.2.2)
  else
  J_X11_hit_52 N o_1.1 vals now o_4.1 told o_4.2.1 o_4.2.2 o_1.2 uses line))))
noncomputable def J_X7_least_59 (N : Nat)  (rec : Int32 → Int32 → Option (Int32)) (k65 : Int32 → Option (Int32)) (x2 : Int32) (x3 : Int32) (x4 : Int32) (cnt : Nat → Int32) : Option (Int32) :=
  lt (x4 + 1) (fun x4_3 =>
  rec x3 x4_3)
noncomputable def K_X7_least_11 (N : Nat)  (rec : Int32 → Int32 → Option (Int32)) (k65 : Int32 → Option (Int32)) (x2 : Int32) (cnt : Nat → Int32) (x3 : Int32) (x4 : Int32)  : Option (Int32) :=
  if (4 ≤ x4 : Prop) then
  k65 x3
  else
  bd (F_X7_placeOf x2 x4) (fun o_2 =>
  if (o_2 < 0 : Prop) then
  J_X7_least_59 N rec k65 x2 x3 x4 cnt
  else
  if ((nI 64) ≤ o_2 : Prop) then
  J_X7_least_59 N rec k65 x2 x3 x4 cnt
  else
  ld cnt 64 o_2 (fun v_4 =>
  if (x3 ≤ v_4 : Prop) then
  J_X7_least_59 N rec k65 x2 x3 x4 cnt
  else
  ld cnt 64 o_2 (fun v_5 =>
  J_X7_least_59 N rec k65 x2 v_5 x4 cnt)))
noncomputable def L_X7_least_11 (N : Nat)  (k65 : Int32 → Option (Int32)) (x2 : Int32) (cnt : Nat → Int32) (n : Nat) : Int32 → Int32 → Option (Int32) :=
  Nat.rec (motive := fun _ => Int32 → Int32 → Option (Int32)) (fun _ _ => none) (fun _ rec => K_X7_least_11 N rec k65 x2 cnt) n
noncomputable def F_X7_least (N : Nat)  (cnt : Nat → Int32) (x1 : Int32) : Option (Int32) :=
  bd (F_X1_number N x1) (fun o_1 =>
  L_X7_least_11 N (fun x3 => some (x3)) o_1 cnt N 15 0)
noncomputable def F_X6_mayComeIn (N : Nat)  (vals : Nat → Int32) (now : Int32) (ents : Rows) (cnt : Nat → Int32) (x1 : Int32) (x2 : Int32) : Option (Int32) :=
  bd (F_X5_value vals 0) (fun o_1 =>
  if (x2 ≤ o_1 : Prop) then
  bd (F_X5_value vals 5) (fun o_2 =>
  if (o_2 = 0 : Prop) then
  some (1)
  else
  bd (F_X0_weight N 200 ents) (fun o_3 =>
  if (o_1 < (o_3 + x2) : Prop) then
  bd (F_X0_nextToGo N 200 vals now ents ((-1)) 0) (fun o_4 =>
  bd (F_X0_isStale 200 vals now ents o_4) (fun o_5 =>
  if (o_5 = 0 : Prop) then
  bd (F_X0_get 200 ents o_4 3) (fun o_6 =>
  bd (F_X7_least N cnt x1) (fun o_7 =>
  if (o_7 ≤ o_6 : Prop) then
  some (0)
  else
  some (1)))
  else
  some (1)))
  else
  some (1)))
  else
  some (0))
noncomputable def F_X0_set (dm : Nat) (rows : Rows) (x1 : Int32) (x2 : Int32) (x3 : Int32) : Option (Rows) :=
  lt (tset rows x1 x2 x3) (fun o_1 =>
  some (o_1))
noncomputable def F_X6_letIn (N : Nat)  (vals : Nat → Int32) (now : Int32) (book : Rows) (written : Rows) (sums : Nat → Int32) (ents : Rows) (colds : Rows) (cnt : Nat → Int32) (uses : Int32) (entriesSoFar : Int32) (x1 : Int32) (x2 : Int32) (x3 : Int32) (x4 : Int32) (x5 : Int32) : Option (Int32 × Rows × Rows × (Nat → Int32) × Rows × Rows × Int32) :=
  bd (F_X6_mayComeIn N vals now ents cnt x1 x3) (fun o_1 =>
  if (o_1 = 0 : Prop) then
  some (0, book, written, sums, ents, colds, entriesSoFar)
  else
  bd (F_X5_value vals 0) (fun o_2 =>
  bd (F_X6_makePlace N vals now book written sums ents colds (o_2 - x3) 0) (fun o_3 =>
  bd (F_X0_add 200 o_3.2.2.2.1 x1 x2 x3 x4 x5) (fun o_12 =>
  lt ((entriesSoFar + 1)) (fun entriesSoFar_15 =>
  bd (F_X7_least N cnt x1) (fun o_16 =>
  bd (F_X0_set 200 o_12.2 o_12.1 3 o_16) (fun o_17 =>
  bd (F_X0_set 200 o_17 o_12.1 4 uses) (fun o_20 =>
  bd (F_X0_set 200 o_20 o_12.1 5 entriesSoFar_15) (fun o_23 =>
  some (1, o_3.1, o_3.2.1, o_3.2.2.1, o_23, o_3.2.2.2.2, entriesSoFar_15))))))))))
noncomputable def J_X6_warm_120 (N : Nat)   (t1 : Int32) (x1 : Int32) (x3 : Int32) (vals : Nat → Int32) (now : Int32) (book : Rows) (written : Rows) (sums : Nat → Int32) (ents : Rows) (colds : Rows) (cnt : Nat → Int32) (uses : Int32) (entriesSoFar : Int32) : Option (Int32 × Rows × Rows × (Nat → Int32) × Rows × Rows × Int32) :=
  bd (F_X2_note N now book sums t1 x1) (fun o_21 =>
  some (x3, o_21.1, written, o_21.2, ents, colds, entriesSoFar))
noncomputable def J_X6_warm_106 (N : Nat)   (x1 : Int32) (x3 : Int32) (x7 : Int32) (vals : Nat → Int32) (now : Int32) (book : Rows) (written : Rows) (sums : Nat → Int32) (ents : Rows) (colds : Rows) (cnt : Nat → Int32) (uses : Int32) (entriesSoFar : Int32) : Option (Int32 × Rows × Rows × (Nat → Int32) × Rows × Rows × Int32) :=
  if (x7 = 0 : Prop) then
  J_X6_warm_120 N 5 x1 x3 vals now book written sums ents colds cnt uses entriesSoFar
  else
  J_X6_warm_120 N 4 x1 x3 vals now book written sums ents colds cnt uses entriesSoFar
noncomputable def F_X6_warm (N : Nat)  (vals : Nat → Int32) (now : Int32) (book : Rows) (written : Rows) (sums : Nat → Int32) (ents : Rows) (colds : Rows) (cnt : Nat → Int32) (uses : Int32) (entriesSoFar : Int32) (x1 : Int32) : Option (Int32 × Rows × Rows × (Nat → Int32) × Rows × Rows × Int32) :=
  bd (F_X0_rowOf 20 colds x1) (fun o_1 =>
  bd (F_X0_get 20 colds o_1 0) (fun o_2 =>
  bd (F_X0_get 20 colds o_1 1) (fun o_3 =>
  bd (F_X0_get 20 colds o_1 2) (fun o_4 =>
  bd (F_X0_get 20 colds o_1 6) (fun o_5 =>
  bd (F_X0_remove 20 colds o_1) (fun o_6 =>
  bd (F_X2_note N now book sums 12 x1) (fun o_9 =>
  bd (F_X6_letIn N vals now o_9.1 written o_9.2 ents o_6 cnt uses entriesSoFar x1 o_2 o_3 o_4 o_5) (fun o_12 =>
  if (o_12.1 = 0 : Prop) then
  bd (F_X0_add 20 o_12.2.2.2.2.2.1 x1 o_2 o_3 o_4 o_5) (fun o_24 =>
  J_X6_warm_106 N x1 o_2 o_12.1 vals now o_12.2.1 o_12.2.2.1 o_12.2.2.2.1 o_12.2.2.2.2.1 o_24.2 cnt uses o_12.2.2.2.2.2.2)
  else
  J_X6_warm_106 N x1 o_2 o_12.1 vals now o_12.2.1 o_12.2.2.1 o_12.2.2.2.1 o_12.2.2.2.2.1 o_12.2.2.2.2.2.1 cnt uses o_12.2.2.2.2.2.2))))))))
noncomputable def J_X3_rowOfWait_41 (N : Nat)  (rec : Int32 → Option (Int32)) (k47 : Unit → Option (Int32)) (k39 : Int32 → Option (Int32)) (x1 : Int32) (x2 : Int32) (x3 : Int32) (waits : Rows) : Option (Int32) :=
  lt (x3 + 1) (fun x3_3 =>
  rec x3_3)
noncomputable def K_X3_rowOfWait_2 (N : Nat)  (rec : Int32 → Option (Int32)) (k47 : Unit → Option (Int32)) (k39 : Int32 → Option (Int32)) (x1 : Int32) (x2 : Int32) (waits : Rows) (x3 : Int32)  : Option (Int32) :=
  lt (tsize waits) (fun o_1 =>
  if (o_1 ≤ x3 : Prop) then
  k47 ()
  else
  lt (tget waits x3 0) (fun o_2 =>
  if (o_2 = x2 : Prop) then
  lt (tget waits x3 1) (fun o_4 =>
  if (o_4 = x1 : Prop) then
  k39 x3
  else
  J_X3_rowOfWait_41 N rec k47 k39 x1 x2 x3 waits)
  else
  J_X3_rowOfWait_41 N rec k47 k39 x1 x2 x3 waits))
noncomputable def L_X3_rowOfWait_2 (N : Nat)  (k47 : Unit → Option (Int32)) (k39 : Int32 → Option (Int32)) (x1 : Int32) (x2 : Int32) (waits : Rows) (n : Nat) : Int32 → Option (Int32) :=
  Nat.rec (motive := fun _ => Int32 → Option (Int32)) (fun _ => none) (fun _ rec => K_X3_rowOfWait_2 N rec k47 k39 x1 x2 waits) n
noncomputable def F_X3_rowOfWait (N : Nat)  (waits : Rows) (x1 : Int32) (x2 : Int32) : Option (Int32) :=
  L_X3_rowOfWait_2 N (fun _ => some ((-1))) (fun x3 => some (x3)) x1 x2 waits N 0
noncomputable def F_X3_waitFor (N : Nat)  (vals : Nat → Int32) (now : Int32) (book : Rows) (told : Rows) (sums : Nat → Int32) (line : Rows) (waits : Rows) (x1 : Int32) (x2 : Int32) : Option (Rows × Rows × (Nat → Int32) × Rows × Rows) :=
  bd (F_X3_rowOf line x2) (fun o_1 =>
  if (o_1 = ((-1)) : Prop) then
  lt (tpush 256 2 waits x2 x1 0) (fun o_9 =>
  bd (F_X3_lineUp N vals now book told sums line x2) (fun o_12 =>
  some (o_12.1, o_12.2.1, o_12.2.2.1, o_12.2.2.2, o_9.2)))
  else
  bd (F_X3_rowOfWait N waits x1 x2) (fun o_2 =>
  if (o_2 = ((-1)) : Prop) then
  lt (tpush 256 2 waits x2 x1 0) (fun o_3 =>
  bd (F_X2_note N now book sums 2 x2) (fun o_6 =>
  some (o_6.1, told, o_6.2, line, o_3.2)))
  else
  some (book, told, sums, line, waits)))
noncomputable def K_X0_halveCounts_2 (N : Nat) (dm : Nat) (rec : Int32 → Rows → Option (Rows)) (k39 : Rows → Option (Rows))   (x1 : Int32) (rows : Rows) : Option (Rows) :=
  lt (tsize rows) (fun o_1 =>
  if (o_1 ≤ x1 : Prop) then
  k39 rows
  else
  lt (tget rows x1 3) (fun o_2 =>
  lt (tset rows x1 3 (o_2 / 2)) (fun o_3 =>
  lt (x1 + 1) (fun x1_6 =>
  rec x1_6 o_3))))
noncomputable def L_X0_halveCounts_2 (N : Nat) (dm : Nat) (k39 : Rows → Option (Rows))   (n : Nat) : Int32 → Rows → Option (Rows) :=
  Nat.rec (motive := fun _ => Int32 → Rows → Option (Rows)) (fun _ _ => none) (fun _ rec => K_X0_halveCounts_2 N dm rec k39) n
noncomputable def F_X0_halveCounts (N : Nat) (dm : Nat) (rows : Rows)  : Option (Rows) :=
  L_X0_halveCounts_2 N dm (fun rows => some (rows)) N 0 rows
noncomputable def K_X7_halve_2 (N : Nat)  (rec : Int32 → (Nat → Int32) → (Option ((Nat → Int32)))) (k27 : (Nat → Int32) → (Option ((Nat → Int32))))   (x1 : Int32) (cnt : Nat → Int32) : Option ((Nat → Int32)) :=
  if ((nI 64) ≤ x1 : Prop) then
  k27 cnt
  else
  ld cnt 64 x1 (fun v_1 =>
  sto cnt 64 x1 (v_1 / 2) (fun cnt_2 =>
  lt (x1 + 1) (fun x1_3 =>
  rec x1_3 cnt_2)))
noncomputable def L_X7_halve_2 (N : Nat)  (k27 : (Nat → Int32) → (Option ((Nat → Int32))))   (n : Nat) : Int32 → (Nat → Int32) → (Option ((Nat → Int32))) :=
  Nat.rec (motive := fun _ => Int32 → (Nat → Int32) → (Option ((Nat → Int32)))) (fun _ _ => none) (fun _ rec => K_X7_halve_2 N rec k27) n
noncomputable def F_X7_halve (N : Nat)  (cnt : Nat → Int32)  : Option ((Nat → Int32)) :=
  L_X7_halve_2 N (fun cnt => some (cnt)) N 0 cnt
noncomputable def F_X6_endUse (N : Nat)  (vals : Nat → Int32) (now : Int32) (book : Rows) (sums : Nat → Int32) (ents : Rows) (cnt : Nat → Int32) (usesInWindow : Int32)  : Option (Rows × (Nat → Int32) × Rows × (Nat → Int32) × Int32) :=
  bd (F_X5_value vals 1) (fun o_1 =>
  if (o_1 ≤ usesInWindow : Prop) then
  lt (0) (fun usesInWindow_2 =>
  bd (F_X0_halveCounts N 200 ents) (fun o_3 =>
  bd (F_X7_halve N cnt) (fun o_6 =>
  bd (F_X2_note N now book sums 10 0) (fun o_7 =>
  some (o_7.1, o_7.2, o_3, o_6, usesInWindow_2)))))
  else
  some (book, sums, ents, cnt, usesInWindow))
noncomputable def J_X11_ask_107 (N : Nat)   (x3 : Int32) (tby : Nat → Int32) (tsz : Int32) (vals : Nat → Int32) (now : Int32) (book : Rows) (told : Rows) (written : Rows) (late : Rows) (sums : Nat → Int32) (asum : Nat → Int32) (ents : Rows) (colds : Rows) (cnt : Nat → Int32) (uses : Int32) (usesInWindow : Int32) (entriesSoFar : Int32) (line : Rows) (waits : Rows) : Option (Int32 × Int32 × Rows × Rows × Rows × Rows × (Nat → Int32) × (Nat → Int32) × Rows × Rows × (Nat → Int32) × Int32 × Int32 × Int32 × Rows × Rows) :=
  bd (F_X6_endUse N vals now book sums ents cnt usesInWindow) (fun o_26 =>
  some (x3, tsz, o_26.1, told, written, late, o_26.2.1, asum, o_26.2.2.1, colds, o_26.2.2.2.1, uses, o_26.2.2.2.2, entriesSoFar, line, waits))
noncomputable def F_X11_ask (N : Nat)  (tby : Nat → Int32) (tsz : Int32) (vals : Nat → Int32) (now : Int32) (book : Rows) (told : Rows) (written : Rows) (late : Rows) (sums : Nat → Int32) (asum : Nat → Int32) (ents : Rows) (colds : Rows) (cnt : Nat → Int32) (uses : Int32) (usesInWindow : Int32) (entriesSoFar : Int32) (line : Rows) (waits : Rows) (x1 : Int32) : Option (Int32 × Int32 × Rows × Rows × Rows × Rows × (Nat → Int32) × (Nat → Int32) × Rows × Rows × (Nat → Int32) × Int32 × Int32 × Int32 × Rows × Rows) :=
  bd (F_X11_isAsker x1) (fun o_1 =>
  if (o_1 = 0 : Prop) then
  some ((-1001), tsz, book, told, written, late, sums, asum, ents, colds, cnt, uses, usesInWindow, entriesSoFar, line, waits)
  else
  bd (F_X10_takeKey N tby tsz) (fun o_2 =>
  if (o_2.1 = 0 : Prop) then
  some ((-1002), o_2.2, book, told, written, late, sums, asum, ents, colds, cnt, uses, usesInWindow, entriesSoFar, line, waits)
  else
  bd (F_X2_noteUse late sums asum x1 o_2.1) (fun o_3 =>
  bd (F_X6_beginUse N vals now book written o_3.2.1 ents colds cnt uses usesInWindow o_2.1) (fun o_6 =>
  bd (F_X0_has 200 o_6.2.2.2.1 o_2.1) (fun o_15 =>
  if (o_15 = 0 : Prop) then
  bd (F_X0_has 20 o_6.2.2.2.2.1 o_2.1) (fun o_16 =>
  if (o_16 = 0 : Prop) then
  bd (F_X3_waitFor N vals now o_6.1 told o_6.2.2.1 line waits x1 o_2.1) (fun o_17 =>
  J_X11_ask_107 N ((-1006)) tby o_2.2 vals now o_17.1 o_17.2.1 o_6.2.1 o_3.1 o_17.2.2.1 o_3.2.2 o_6.2.2.2.1 o_6.2.2.2.2.1 o_6.2.2.2.2.2.1 o_6.2.2.2.2.2.2.1 o_6.2.2.2.2.2.2.2 entriesSoFar o_17.2.2.2.1 o_17.2.2.2.2)
  else
  bd (F_X6_warm N vals now o_6.1 o_6.2.1 o_6.2.2.1 o_6.2.2.2.1 o_6.2.2.2.2.1 o_6.2.2.2.2.2.1 o_6.2.2.2.2.2.2.1 entriesSoFar o_2.1) (fun o_31 =>
  J_X11_ask_107 N o_31.1 tby o_2.2 vals now o_31.2.1 told o_31.2.2.1 o_3.1 o_31.2.2.2.1 o_3.2.2 o_31.2.2.2.2.1 o_31.2.2.2.2.2.1 o_6.2.2.2.2.2.1 o_6.2.2.2.2.2.2.1 o_6.2.2.2.2.2.2.2 o_31.2.2.2.2.2.2 line waits))
  else
  bd (F_X11_hit N vals now o_6.1 told o_6.2.2.1 o_3.2.2 o_6.2.2.2.1 o_6.2.2.2.2.2.2.1 line x1 o_2.1) (fun o_40 =>
  J_X11_ask_107 N o_40.1 tby o_2.2 vals now o_40.2.1 o_40.2.2.1 o_6.2.1 o_3.1 o_40.2.2.2.1 o_40.2.2.2.2.1 o_40.2.2.2.2.2.1 o_6.2.2.2.2.1 o_6.2.2.2.2.2.1 o_6.2.2.2.2.2.2.1 o_6.2.2.2.2.2.2.2 entriesSoFar o_40.2.2.2.2.2.2 waits))))))
noncomputable def F_X3_runs  (line : Rows) (x1 : Int32) : Option (Int32) :=
  bd (F_X3_rowOf line x1) (fun o_1 =>
  lt (tget line o_1 1) (fun o_2 =>
  if (o_2 = 1 : Prop) then
  some (1)
  else
  some (0)))
noncomputable def F_X3_waitNoMore (N : Nat)  (line : Rows) (waits : Rows) (x1 : Int32) (x2 : Int32) : Option (Int32 × Rows × Rows) :=
  bd (F_X3_rowOfWait N waits x1 x2) (fun o_1 =>
  if (o_1 = ((-1)) : Prop) then
  some (0, line, waits)
  else
  lt (tremove waits o_1) (fun o_2 =>
  bd (F_X3_runs line x2) (fun o_5 =>
  if (o_5 = 0 : Prop) then
  lt (thowMany o_2 0 x2) (fun o_6 =>
  if (o_6 = 0 : Prop) then
  bd (F_X3_rowOf line x2) (fun o_7 =>
  lt (tremove line o_7) (fun o_8 =>
  some (1, o_8, o_2)))
  else
  some (1, line, o_2))
  else
  some (1, line, o_2))))
noncomputable def F_X11_giveUp (N : Nat)  (tby : Nat → Int32) (tsz : Int32) (line : Rows) (waits : Rows) (x1 : Int32) : Option (Int32 × Int32 × Rows × Rows) :=
  bd (F_X11_isAsker x1) (fun o_1 =>
  if (o_1 = 0 : Prop) then
  some ((-1001), tsz, line, waits)
  else
  bd (F_X10_takeKey N tby tsz) (fun o_2 =>
  if (o_2.1 = 0 : Prop) then
  some ((-1002), o_2.2, line, waits)
  else
  bd (F_X3_waitNoMore N line waits x1 o_2.1) (fun o_3 =>
  if (o_3.1 = 0 : Prop) then
  some (0, o_2.2, o_3.2.1, o_3.2.2)
  else
  some (1, o_2.2, o_3.2.1, o_3.2.2))))
noncomputable def F_X11_take  (asum : Nat → Int32) (boxes : Rows) (x1 : Int32) : Option (Int32 × (Nat → Int32) × Rows) :=
  bd (F_X11_isAsker x1) (fun o_1 =>
  if (o_1 = 0 : Prop) then
  some ((-1001), asum, boxes)
  else
  bd (F_X3_firstDelivery boxes x1) (fun o_2 =>
  if (o_2 = ((-1)) : Prop) then
  some ((-1003), asum, boxes)
  else
  lt (tget boxes o_2 2) (fun o_3 =>
  lt (tremove boxes o_2) (fun o_4 =>
  bd (F_X2_tallyOf asum x1 3) (fun o_7 =>
  some (o_3, o_7, o_4))))))
noncomputable def K_X1_length_4 (N : Nat)  (rec : Int32 → Int32 → Option (Int32)) (k24 : Int32 → Option (Int32))   (x1 : Int32) (x2 : Int32)  : Option (Int32) :=
  if (x2 ≤ 0 : Prop) then
  k24 x1
  else
  if (6 ≤ x1 : Prop) then
  k24 x1
  else
  lt (x1 + 1) (fun x1_1 =>
  lt (x2 >>> (5 &&& 31)) (fun x2_2 =>
  rec x1_1 x2_2))
noncomputable def L_X1_length_4 (N : Nat)  (k24 : Int32 → Option (Int32))   (n : Nat) : Int32 → Int32 → Option (Int32) :=
  Nat.rec (motive := fun _ => Int32 → Int32 → Option (Int32)) (fun _ _ => none) (fun _ rec => K_X1_length_4 N rec k24) n
noncomputable def F_X1_length (N : Nat)   (x0 : Int32) : Option (Int32) :=
  L_X1_length_4 N (fun x1 => some (x1)) N 0 x0
noncomputable def F_X1_byteAt (N : Nat)   (x0 : Int32) (x1 : Int32) : Option (Int32) :=
  bd (F_X1_length N x0) (fun o_1 =>
  if (x1 < 0 : Prop) then
  some ((-1003))
  else
  if (x1 < o_1 : Prop) then
  some (((x0 >>> ((5 * ((o_1 - 1) - x1)) &&& 31)) &&& 31) + 96)
  else
  some ((-1003)))
noncomputable def F_X11_lengthOrByte (N : Nat)   (x0 : Int32) (x1 : Int32) : Option (Int32) :=
  if (x1 = ((-1)) : Prop) then
  bd (F_X1_length N x0) (fun o_2 =>
  some (o_2))
  else
  bd (F_X1_byteAt N x0 x1) (fun o_1 =>
  some (o_1))
noncomputable def F_X11_first (N : Nat)  (boxes : Rows) (x1 : Int32) (x2 : Int32) : Option (Int32) :=
  bd (F_X11_isAsker x1) (fun o_1 =>
  if (o_1 = 0 : Prop) then
  some ((-1001))
  else
  if (((-1)) ≤ x2 : Prop) then
  bd (F_X3_firstDelivery boxes x1) (fun o_2 =>
  if (o_2 = ((-1)) : Prop) then
  some ((-1005))
  else
  lt (tget boxes o_2 1) (fun o_3 =>
  bd (F_X11_lengthOrByte N o_3 x2) (fun o_4 =>
  some (o_4))))
  else
  some ((-1001)))
noncomputable def F_X11_box  (waits : Rows) (boxes : Rows) (x1 : Int32) (x2 : Int32) : Option (Int32) :=
  bd (F_X11_isAsker x1) (fun o_1 =>
  if (o_1 = 0 : Prop) then
  some ((-1001))
  else
  if (x2 < 0 : Prop) then
  some ((-1001))
  else
  if (x2 ≤ 1 : Prop) then
  if (x2 = 0 : Prop) then
  lt (thowMany boxes 0 x1) (fun o_3 =>
  some (o_3))
  else
  lt (thowMany waits 1 x1) (fun o_2 =>
  some (o_2))
  else
  some ((-1001)))
noncomputable def F_X11_isValue   (x0 : Int32) : Option (Int32) :=
  if (x0 < 0 : Prop) then
  some (0)
  else
  if (99999 < x0 : Prop) then
  some (0)
  else
  some (1)
noncomputable def J_X6_overwrite_25 (N : Nat)   (x1 : Int32) (x2 : Int32) (vals : Nat → Int32) (now : Int32) (book : Rows) (written : Rows) (sums : Nat → Int32) (ents : Rows) (dirtySoFar : Int32) : Option (Int32 × Rows × Rows × (Nat → Int32) × Rows × Int32) :=
  bd (F_X2_noteWritten N now book written sums x1 x2) (fun o_2 =>
  some (0, o_2.1, o_2.2.1, o_2.2.2, ents, dirtySoFar))
noncomputable def F_X6_overwrite (N : Nat)  (vals : Nat → Int32) (now : Int32) (book : Rows) (written : Rows) (sums : Nat → Int32) (ents : Rows) (dirtySoFar : Int32) (x1 : Int32) (x2 : Int32) : Option (Int32 × Rows × Rows × (Nat → Int32) × Rows × Int32) :=
  bd (F_X0_rowOf 200 ents x1) (fun o_1 =>
  if (o_1 = ((-1)) : Prop) then
  J_X6_overwrite_25 N x1 x2 vals now book written sums ents dirtySoFar
  else
  bd (F_X0_isStale 200 vals now ents o_1) (fun o_7 =>
  if (o_7 = 0 : Prop) then
  lt ((dirtySoFar + 1)) (fun dirtySoFar_8 =>
  bd (F_X0_set 200 ents o_1 0 x2) (fun o_9 =>
  bd (F_X5_now now) (fun o_12 =>
  bd (F_X0_set 200 o_9 o_1 6 o_12) (fun o_13 =>
  bd (F_X0_set 200 o_13 o_1 8 dirtySoFar_8) (fun o_16 =>
  some (1, book, written, sums, o_16, dirtySoFar_8))))))
  else
  J_X6_overwrite_25 N x1 x2 vals now book written sums ents dirtySoFar))
noncomputable def F_X11_write (N : Nat)  (tby : Nat → Int32) (tsz : Int32) (vals : Nat → Int32) (now : Int32) (book : Rows) (written : Rows) (sums : Nat → Int32) (ents : Rows) (dirtySoFar : Int32) (x1 : Int32) : Option (Int32 × Int32 × Rows × Rows × (Nat → Int32) × Rows × Int32) :=
  bd (F_X11_isValue x1) (fun o_1 =>
  if (o_1 = 0 : Prop) then
  some ((-1001), tsz, book, written, sums, ents, dirtySoFar)
  else
  bd (F_X10_takeKey N tby tsz) (fun o_2 =>
  if (o_2.1 = 0 : Prop) then
  some ((-1002), o_2.2, book, written, sums, ents, dirtySoFar)
  else
  bd (F_X6_overwrite N vals now book written sums ents dirtySoFar o_2.1 x1) (fun o_3 =>
  if (o_3.1 = 0 : Prop) then
  some (0, o_2.2, o_3.2.1, o_3.2.2.1, o_3.2.2.2.1, o_3.2.2.2.2.1, o_3.2.2.2.2.2)
  else
  some (1, o_2.2, o_3.2.1, o_3.2.2.1, o_3.2.2.2.1, o_3.2.2.2.2.1, o_3.2.2.2.2.2))))
noncomputable def F_X1_beginsWith (N : Nat)   (x0 : Int32) (x1 : Int32) : Option (Int32) :=
  bd (F_X1_length N x0) (fun o_1 =>
  bd (F_X1_length N x1) (fun o_2 =>
  lt (o_1 - o_2) (fun x2_3 =>
  if (x2_3 < 0 : Prop) then
  some (0)
  else
  if ((x0 >>> ((5 * x2_3) &&& 31)) = x1 : Prop) then
  some (1)
  else
  some (0))))
noncomputable def F_X0_isPicked (N : Nat) (dm : Nat) (vals : Nat → Int32) (now : Int32) (rows : Rows) (x1 : Int32) (x2 : Int32) (x3 : Int32) : Option (Int32) :=
  if (x2 = 0 : Prop) then
  lt (tget rows x1 7) (fun o_1 =>
  if (o_1 = x3 : Prop) then
  some (1)
  else
  some (0))
  else
  if (x2 = 1 : Prop) then
  lt (tget rows x1 2) (fun o_2 =>
  if (((o_2 >>> (x3 &&& 31)) &&& 1) = 0 : Prop) then
  some (0)
  else
  some (1))
  else
  if (x2 = 2 : Prop) then
  lt (tget rows x1 7) (fun o_3 =>
  bd (F_X1_beginsWith N o_3 x3) (fun o_4 =>
  ck (o_4 = 0 ∨ o_4 = 1) (some (o_4))))
  else
  if (x2 = 3 : Prop) then
  bd (F_X0_isStale dm vals now rows x1) (fun o_5 =>
  ck (o_5 = 0 ∨ o_5 = 1) (some (o_5)))
  else
  bd (F_X0_isDirty dm rows x1) (fun o_6 =>
  ck (o_6 = 0 ∨ o_6 = 1) (some (o_6)))
noncomputable def J_X0_howMany_31 (N : Nat) (dm : Nat) (rec : Int32 → Int32 → Option (Int32)) (k37 : Int32 → Option (Int32)) (x1 : Int32) (x2 : Int32) (x3 : Int32) (x4 : Int32) (vals : Nat → Int32) (now : Int32) (rows : Rows) : Option (Int32) :=
  lt (x4 + 1) (fun x4_3 =>
  rec x3 x4_3)
noncomputable def K_X0_howMany_5 (N : Nat) (dm : Nat) (rec : Int32 → Int32 → Option (Int32)) (k37 : Int32 → Option (Int32)) (x1 : Int32) (x2 : Int32) (vals : Nat → Int32) (now : Int32) (rows : Rows) (x3 : Int32) (x4 : Int32)  : Option (Int32) :=
  lt (tsize rows) (fun o_1 =>
  if (o_1 ≤ x4 : Prop) then
  k37 x3
  else
  bd (F_X0_isPicked N dm vals now rows x4 x1 x2) (fun o_2 =>
  if (o_2 = 0 : Prop) then
  J_X0_howMany_31 N dm rec k37 x1 x2 x3 x4 vals now rows
  else
  lt (x3 + 1) (fun x3_4 =>
  J_X0_howMany_31 N dm rec k37 x1 x2 x3_4 x4 vals now rows)))
noncomputable def L_X0_howMany_5 (N : Nat) (dm : Nat) (k37 : Int32 → Option (Int32)) (x1 : Int32) (x2 : Int32) (vals : Nat → Int32) (now : Int32) (rows : Rows) (n : Nat) : Int32 → Int32 → Option (Int32) :=
  Nat.rec (motive := fun _ => Int32 → Int32 → Option (Int32)) (fun _ _ => none) (fun _ rec => K_X0_howMany_5 N dm rec k37 x1 x2 vals now rows) n
noncomputable def F_X0_howMany (N : Nat) (dm : Nat) (vals : Nat → Int32) (now : Int32) (rows : Rows) (x1 : Int32) (x2 : Int32) : Option (Int32) :=
  L_X0_howMany_5 N dm (fun x3 => some (x3)) x1 x2 vals now rows N 0 0
noncomputable def J_X0_firstDirty_53 (N : Nat) (dm : Nat) (rec : Int32 → Int32 → Option (Int32)) (k59 : Int32 → Option (Int32)) (x1 : Int32) (x2 : Int32) (rows : Rows) : Option (Int32) :=
  lt (x2 + 1) (fun x2_3 =>
  rec x1 x2_3)
noncomputable def J_X0_firstDirty_51 (N : Nat) (dm : Nat) (rec : Int32 → Int32 → Option (Int32)) (k59 : Int32 → Option (Int32)) (x2 : Int32) (rows : Rows) : Option (Int32) :=
  J_X0_firstDirty_53 N dm rec k59 x2 x2 rows
noncomputable def K_X0_firstDirty_4 (N : Nat) (dm : Nat) (rec : Int32 → Int32 → Option (Int32)) (k59 : Int32 → Option (Int32))  (rows : Rows) (x1 : Int32) (x2 : Int32)  : Option (Int32) :=
  lt (tsize rows) (fun o_1 =>
  if (o_1 ≤ x2 : Prop) then
  k59 x1
  else
  bd (F_X0_isDirty dm rows x2) (fun o_2 =>
  if (o_2 = 0 : Prop) then
  J_X0_firstDirty_53 N dm rec k59 x1 x2 rows
  else
  if (x1 = ((-1)) : Prop) then
  J_X0_firstDirty_51 N dm rec k59 x2 rows
  else
  lt (tget rows x2 8) (fun o_4 =>
  lt (tget rows x1 8) (fun o_5 =>
  if (o_5 ≤ o_4 : Prop) then
  J_X0_firstDirty_53 N dm rec k59 x1 x2 rows
  else
  J_X0_firstDirty_51 N dm rec k59 x2 rows))))
noncomputable def L_X0_firstDirty_4 (N : Nat) (dm : Nat) (k59 : Int32 → Option (Int32))  (rows : Rows) (n : Nat) : Int32 → Int32 → Option (Int32) :=
  Nat.rec (motive := fun _ => Int32 → Int32 → Option (Int32)) (fun _ _ => none) (fun _ rec => K_X0_firstDirty_4 N dm rec k59 rows) n
noncomputable def F_X0_firstDirty (N : Nat) (dm : Nat) (rows : Rows)  : Option (Int32) :=
  L_X0_firstDirty_4 N dm (fun x1 => some (x1)) rows N ((-1)) 0
noncomputable def K_X6_writeOutDirty_12 (N : Nat)  (rec : Int32 → Rows → Rows → (Nat → Int32) → Rows → (Option (Int32 × Rows × Rows × (Nat → Int32) × Rows))) (k67 : Rows → Rows → (Nat → Int32) → Rows → (Option (Int32 × Rows × Rows × (Nat → Int32) × Rows))) (x1 : Int32) (vals : Nat → Int32) (now : Int32) (x2 : Int32) (book : Rows) (written : Rows) (sums : Nat → Int32) (ents : Rows) : Option (Int32 × Rows × Rows × (Nat → Int32) × Rows) :=
  if (x2 ≤ 0 : Prop) then
  k67 book written sums ents
  else
  bd (F_X0_firstDirty N 200 ents) (fun o_2 =>
  bd (F_X0_get 200 ents o_2 7) (fun o_3 =>
  bd (F_X0_get 200 ents o_2 0) (fun o_4 =>
  bd (F_X2_noteWritten N now book written sums o_3 o_4) (fun o_5 =>
  bd (F_X0_set 200 ents o_2 8 0) (fun o_10 =>
  lt (x2 + (-1)) (fun x2_13 =>
  rec x2_13 o_5.1 o_5.2.1 o_5.2.2 o_10))))))
noncomputable def L_X6_writeOutDirty_12 (N : Nat)  (k67 : Rows → Rows → (Nat → Int32) → Rows → (Option (Int32 × Rows × Rows × (Nat → Int32) × Rows))) (x1 : Int32) (vals : Nat → Int32) (now : Int32) (n : Nat) : Int32 → Rows → Rows → (Nat → Int32) → Rows → (Option (Int32 × Rows × Rows × (Nat → Int32) × Rows)) :=
  Nat.rec (motive := fun _ => Int32 → Rows → Rows → (Nat → Int32) → Rows → (Option (Int32 × Rows × Rows × (Nat → Int32) × Rows))) (fun _ _ _ _ _ => none) (fun _ rec => K_X6_writeOutDirty_12 N rec k67 x1 vals now) n
noncomputable def F_X6_writeOutDirty (N : Nat)  (vals : Nat → Int32) (now : Int32) (book : Rows) (written : Rows) (sums : Nat → Int32) (ents : Rows)  : Option (Int32 × Rows × Rows × (Nat → Int32) × Rows) :=
  bd (F_X0_howMany N 200 vals now ents 4 0) (fun o_1 =>
  L_X6_writeOutDirty_12 N (fun book written sums ents => some (o_1, book, written, sums, ents)) o_1 vals now N o_1 book written sums ents)
noncomputable def F_X11_flush (N : Nat)  (vals : Nat → Int32) (now : Int32) (book : Rows) (written : Rows) (sums : Nat → Int32) (ents : Rows)  : Option (Int32 × Rows × Rows × (Nat → Int32) × Rows) :=
  bd (F_X6_writeOutDirty N vals now book written sums ents) (fun o_1 =>
  some (o_1.1, o_1.2.1, o_1.2.2.1, o_1.2.2.2.1, o_1.2.2.2.2))
noncomputable def F_X11_writtenOf (N : Nat)  (written : Rows) (x1 : Int32) (x2 : Int32) : Option (Int32) :=
  if (x1 < 0 : Prop) then
  some ((-1001))
  else
  if (((-2)) ≤ x2 : Prop) then
  lt (tsize written) (fun o_1 =>
  if (x1 < o_1 : Prop) then
  if (x2 = ((-1)) : Prop) then
  lt (tget written x1 1) (fun o_5 =>
  some (o_5))
  else
  lt (tget written x1 0) (fun o_2 =>
  if (x2 = ((-2)) : Prop) then
  bd (F_X1_length N o_2) (fun o_4 =>
  some (o_4))
  else
  bd (F_X1_byteAt N o_2 x2) (fun o_3 =>
  some (o_3)))
  else
  some ((-1003)))
  else
  some ((-1001))
noncomputable def F_X2_sumOf  (asum : Nat → Int32) (x1 : Int32) (x2 : Int32) : Option (Int32) :=
  lt ((x1 * 4) + x2) (fun x3_1 =>
  if (x3_1 < 0 : Prop) then
  some (0)
  else
  if ((nI 64) ≤ x3_1 : Prop) then
  some (0)
  else
  ld asum 64 x3_1 (fun v_2 =>
  some (v_2)))
noncomputable def F_X11_of  (asum : Nat → Int32) (x1 : Int32) (x2 : Int32) : Option (Int32) :=
  bd (F_X11_isAsker x1) (fun o_1 =>
  if (o_1 = 0 : Prop) then
  some ((-1001))
  else
  if (x2 < 0 : Prop) then
  some ((-1001))
  else
  if (x2 < 4 : Prop) then
  bd (F_X2_sumOf asum x1 x2) (fun o_2 =>
  some (o_2))
  else
  some ((-1001)))
noncomputable def F_X11_isWeight   (x0 : Int32) : Option (Int32) :=
  if (x0 < 1 : Prop) then
  some (0)
  else
  if (20 < x0 : Prop) then
  some (0)
  else
  some (1)
noncomputable def J_X6_renew_55 (N : Nat)   (x1 : Int32) (x3 : Int32) (x4 : Int32) (x5 : Int32) (vals : Nat → Int32) (now : Int32) (book : Rows) (written : Rows) (sums : Nat → Int32) (ents : Rows) (colds : Rows) : Option (Int32 × Rows × Rows × (Nat → Int32) × Rows × Rows) :=
  bd (F_X0_set 200 ents x5 1 x3) (fun o_4 =>
  bd (F_X0_set 200 o_4 x5 2 x4) (fun o_7 =>
  bd (F_X5_now now) (fun o_10 =>
  bd (F_X0_set 200 o_7 x5 6 o_10) (fun o_11 =>
  bd (F_X5_value vals 0) (fun o_14 =>
  bd (F_X6_makePlace N vals now book written sums o_11 colds o_14 x1) (fun o_15 =>
  some (1, o_15.1, o_15.2.1, o_15.2.2.1, o_15.2.2.2.1, o_15.2.2.2.2)))))))
noncomputable def F_X6_renew (N : Nat)  (vals : Nat → Int32) (now : Int32) (book : Rows) (written : Rows) (sums : Nat → Int32) (ents : Rows) (colds : Rows) (x1 : Int32) (x2 : Int32) (x3 : Int32) (x4 : Int32) : Option (Int32 × Rows × Rows × (Nat → Int32) × Rows × Rows) :=
  bd (F_X0_rowOf 200 ents x1) (fun o_1 =>
  bd (F_X5_value vals 0) (fun o_2 =>
  if (x3 ≤ o_2 : Prop) then
  bd (F_X0_isDirty 200 ents o_1) (fun o_3 =>
  if (o_3 = 0 : Prop) then
  bd (F_X0_set 200 ents o_1 0 x2) (fun o_24 =>
  J_X6_renew_55 N x1 x3 x4 o_1 vals now book written sums o_24 colds)
  else
  J_X6_renew_55 N x1 x3 x4 o_1 vals now book written sums ents colds)
  else
  bd (F_X6_letGo N now book written sums ents o_1 7) (fun o_27 =>
  some (0, o_27.1, o_27.2.1, o_27.2.2.1, o_27.2.2.2, colds))))
noncomputable def J_X6_settle_92 (N : Nat)   (t1 : Int32) (x1 : Int32) (vals : Nat → Int32) (now : Int32) (book : Rows) (written : Rows) (sums : Nat → Int32) (ents : Rows) (colds : Rows) (cnt : Nat → Int32) (uses : Int32) (entriesSoFar : Int32) : Option (Rows × Rows × (Nat → Int32) × Rows × Rows × Int32) :=
  bd (F_X2_note N now book sums t1 x1) (fun o_17 =>
  some (o_17.1, written, o_17.2, ents, colds, entriesSoFar))
noncomputable def J_X6_settle_78 (N : Nat)   (x1 : Int32) (x5 : Int32) (vals : Nat → Int32) (now : Int32) (book : Rows) (written : Rows) (sums : Nat → Int32) (ents : Rows) (colds : Rows) (cnt : Nat → Int32) (uses : Int32) (entriesSoFar : Int32) : Option (Rows × Rows × (Nat → Int32) × Rows × Rows × Int32) :=
  if (x5 = 0 : Prop) then
  J_X6_settle_92 N 5 x1 vals now book written sums ents colds cnt uses entriesSoFar
  else
  J_X6_settle_92 N 4 x1 vals now book written sums ents colds cnt uses entriesSoFar
noncomputable def J_X6_settle_54 (N : Nat)   (t0 : Int32) (x1 : Int32) (vals : Nat → Int32) (now : Int32) (book : Rows) (written : Rows) (sums : Nat → Int32) (ents : Rows) (colds : Rows) (cnt : Nat → Int32) (uses : Int32) (entriesSoFar : Int32) : Option (Rows × Rows × (Nat → Int32) × Rows × Rows × Int32) :=
  bd (F_X2_tally sums 4) (fun o_16 =>
  if (t0 = 0 : Prop) then
  bd (F_X2_tally o_16 6) (fun o_20 =>
  J_X6_settle_78 N x1 t0 vals now book written o_20 ents colds cnt uses entriesSoFar)
  else
  J_X6_settle_78 N x1 t0 vals now book written o_16 ents colds cnt uses entriesSoFar)
noncomputable def F_X6_settle (N : Nat)  (vals : Nat → Int32) (now : Int32) (book : Rows) (written : Rows) (sums : Nat → Int32) (ents : Rows) (colds : Rows) (cnt : Nat → Int32) (uses : Int32) (entriesSoFar : Int32) (x1 : Int32) (x2 : Int32) (x3 : Int32) (x4 : Int32) : Option (Rows × Rows × (Nat → Int32) × Rows × Rows × Int32) :=
  bd (F_X0_rowOf 20 colds x1) (fun o_1 =>
  bd (F_X0_remove 20 colds o_1) (fun o_2 =>
  bd (F_X0_has 200 ents x1) (fun o_5 =>
  if (o_5 = 0 : Prop) then
  bd (F_X5_now now) (fun o_6 =>
  bd (F_X6_letIn N vals now book written sums ents o_2 cnt uses entriesSoFar x1 x2 x3 x4 o_6) (fun o_7 =>
  J_X6_settle_54 N o_7.1 x1 vals now o_7.2.1 o_7.2.2.1 o_7.2.2.2.1 o_7.2.2.2.2.1 o_7.2.2.2.2.2.1 cnt uses o_7.2.2.2.2.2.2))
  else
  bd (F_X6_renew N vals now book written sums ents o_2 x1 x2 x3 x4) (fun o_21 =>
  J_X6_settle_54 N o_21.1 x1 vals now o_21.2.1 o_21.2.2.1 o_21.2.2.2.1 o_21.2.2.2.2.1 o_21.2.2.2.2.2 cnt uses entriesSoFar))))
noncomputable def F_X11_came (N : Nat)  (tby : Nat → Int32) (tsz : Int32) (vals : Nat → Int32) (now : Int32) (book : Rows) (told : Rows) (written : Rows) (sums : Nat → Int32) (asum : Nat → Int32) (ents : Rows) (colds : Rows) (cnt : Nat → Int32) (uses : Int32) (entriesSoFar : Int32) (line : Rows) (waits : Rows) (boxes : Rows) (x1 : Int32) (x2 : Int32) (x3 : Int32) : Option (Int32 × Int32 × Rows × Rows × Rows × (Nat → Int32) × (Nat → Int32) × Rows × Rows × Int32 × Rows × Rows × Rows) :=
  bd (F_X11_isValue x1) (fun o_1 =>
  if (o_1 = 0 : Prop) then
  some ((-1001), tsz, book, told, written, sums, asum, ents, colds, entriesSoFar, line, waits, boxes)
  else
  bd (F_X11_isWeight x2) (fun o_2 =>
  if (o_2 = 0 : Prop) then
  some ((-1001), tsz, book, told, written, sums, asum, ents, colds, entriesSoFar, line, waits, boxes)
  else
  if (x3 < 0 : Prop) then
  some ((-1001), tsz, book, told, written, sums, asum, ents, colds, entriesSoFar, line, waits, boxes)
  else
  if (x3 ≤ 255 : Prop) then
  bd (F_X10_takeKey N tby tsz) (fun o_3 =>
  if (o_3.1 = 0 : Prop) then
  some ((-1002), o_3.2, book, told, written, sums, asum, ents, colds, entriesSoFar, line, waits, boxes)
  else
  bd (F_X3_runs line o_3.1) (fun o_4 =>
  if (o_4 = 0 : Prop) then
  some ((-1005), o_3.2, book, told, written, sums, asum, ents, colds, entriesSoFar, line, waits, boxes)
  else
  bd (F_X3_end N sums asum line waits boxes o_3.1 x1) (fun o_5 =>
  bd (F_X6_settle N vals now book written o_5.2.1 ents colds cnt uses entriesSoFar o_3.1 x1 x2 x3) (fun o_12 =>
  bd (F_X3_runWhatMay N vals now o_12.1 told o_12.2.2.1 o_5.2.2.2.1) (fun o_21 =>
  some (o_5.1, o_3.2, o_21.1, o_21.2.1, o_12.2.1, o_21.2.2.1, o_5.2.2.1, o_12.2.2.2.1, o_12.2.2.2.2.1, o_12.2.2.2.2.2, o_21.2.2.2, o_5.2.2.2.2.1, o_5.2.2.2.2.2))))))
  else
  some ((-1001), tsz, book, told, written, sums, asum, ents, colds, entriesSoFar, line, waits, boxes)))
noncomputable def F_X11_failed (N : Nat)  (tby : Nat → Int32) (tsz : Int32) (vals : Nat → Int32) (now : Int32) (book : Rows) (told : Rows) (sums : Nat → Int32) (asum : Nat → Int32) (line : Rows) (waits : Rows) (boxes : Rows) (x1 : Int32) : Option (Int32 × Int32 × Rows × Rows × (Nat → Int32) × (Nat → Int32) × Rows × Rows × Rows) :=
  if (x1 < 1 : Prop) then
  some ((-1001), tsz, book, told, sums, asum, line, waits, boxes)
  else
  if (x1 ≤ 99 : Prop) then
  bd (F_X10_takeKey N tby tsz) (fun o_1 =>
  if (o_1.1 = 0 : Prop) then
  some ((-1002), o_1.2, book, told, sums, asum, line, waits, boxes)
  else
  bd (F_X3_runs line o_1.1) (fun o_2 =>
  if (o_2 = 0 : Prop) then
  some ((-1005), o_1.2, book, told, sums, asum, line, waits, boxes)
  else
  bd (F_X3_fail N vals now book told sums asum line waits boxes o_1.1 x1) (fun o_3 =>
  some (o_3.1, o_1.2, o_3.2.1, o_3.2.2.1, o_3.2.2.2.1, o_3.2.2.2.2.1, o_3.2.2.2.2.2.1, o_3.2.2.2.2.2.2.1, o_3.2.2.2.2.2.2.2))))
  else
  some ((-1001), tsz, book, told, sums, asum, line, waits, boxes)
noncomputable def F_X11_told (N : Nat)  (told : Rows) (x1 : Int32) (x2 : Int32) : Option (Int32) :=
  if (x1 < ((-1)) : Prop) then
  some ((-1001))
  else
  if (((-1)) ≤ x2 : Prop) then
  if (x1 = ((-1)) : Prop) then
  lt (tsize told) (fun o_4 =>
  some (o_4))
  else
  lt (tsize told) (fun o_1 =>
  if (o_1 ≤ x1 : Prop) then
  some ((-1003))
  else
  lt (tget told x1 0) (fun o_2 =>
  bd (F_X11_lengthOrByte N o_2 x2) (fun o_3 =>
  some (o_3))))
  else
  some ((-1001))
noncomputable def F_X11_load (N : Nat)  (tby : Nat → Int32) (tsz : Int32) (line : Rows) (waits : Rows) (x1 : Int32) : Option (Int32 × Int32) :=
  if (0 ≤ x1 : Prop) then
  bd (F_X10_takeKey N tby tsz) (fun o_1 =>
  if (o_1.1 = 0 : Prop) then
  some ((-1002), o_1.2)
  else
  if (x1 = 0 : Prop) then
  bd (F_X3_rowOf line o_1.1) (fun o_5 =>
  if (o_5 = ((-1)) : Prop) then
  some (0, o_1.2)
  else
  bd (F_X3_runs line o_1.1) (fun o_6 =>
  if (o_6 = 0 : Prop) then
  some (1, o_1.2)
  else
  some (2, o_1.2)))
  else
  if (x1 = 1 : Prop) then
  lt (thowMany waits 0 o_1.1) (fun o_4 =>
  some (o_4, o_1.2))
  else
  lt (tfind waits 0 o_1.1 (x1 - 2)) (fun o_2 =>
  if (o_2 = ((-1)) : Prop) then
  some ((-1003), o_1.2)
  else
  lt (tget waits o_2 1) (fun o_3 =>
  some (o_3, o_1.2))))
  else
  some ((-1001), tsz)
noncomputable def F_X11_oneIf   (x0 : Int32) : Option (Int32) :=
  if (x0 = 0 : Prop) then
  some (0)
  else
  some (1)
noncomputable def F_X11_entry (N : Nat)  (tby : Nat → Int32) (tsz : Int32) (vals : Nat → Int32) (now : Int32) (ents : Rows) (x1 : Int32) : Option (Int32 × Int32) :=
  if (x1 < 0 : Prop) then
  some ((-1001), tsz)
  else
  if (x1 ≤ 9 : Prop) then
  bd (F_X10_takeKey N tby tsz) (fun o_1 =>
  if (o_1.1 = 0 : Prop) then
  some ((-1002), o_1.2)
  else
  bd (F_X0_rowOf 200 ents o_1.1) (fun o_2 =>
  if (o_2 = ((-1)) : Prop) then
  some ((-1003), o_1.2)
  else
  if (x1 = 7 : Prop) then
  bd (F_X0_isStale 200 vals now ents o_2) (fun o_3 =>
  bd (F_X11_oneIf o_3) (fun o_4 =>
  some (o_4, o_1.2)))
  else
  if (x1 = 8 : Prop) then
  bd (F_X0_isDue 200 vals now ents o_2) (fun o_5 =>
  bd (F_X11_oneIf o_5) (fun o_6 =>
  some (o_6, o_1.2)))
  else
  if (x1 = 9 : Prop) then
  bd (F_X0_isDirty 200 ents o_2) (fun o_7 =>
  bd (F_X11_oneIf o_7) (fun o_8 =>
  some (o_8, o_1.2)))
  else
  bd (F_X0_get 200 ents o_2 x1) (fun o_9 =>
  some (o_9, o_1.2))))
  else
  some ((-1001), tsz)
noncomputable def F_X11_seen (N : Nat)  (tby : Nat → Int32) (tsz : Int32) (cnt : Nat → Int32)  : Option (Int32 × Int32) :=
  bd (F_X10_takeKey N tby tsz) (fun o_1 =>
  if (o_1.1 = 0 : Prop) then
  some ((-1002), o_1.2)
  else
  bd (F_X7_least N cnt o_1.1) (fun o_2 =>
  some (o_2, o_1.2)))
noncomputable def F_X7_get  (cnt : Nat → Int32) (x1 : Int32) (x2 : Int32) : Option (Int32) :=
  lt ((x1 * 16) + x2) (fun x3_1 =>
  if (x3_1 < 0 : Prop) then
  some (0)
  else
  if ((nI 64) ≤ x3_1 : Prop) then
  some (0)
  else
  ld cnt 64 x3_1 (fun v_2 =>
  some (v_2)))
noncomputable def F_X11_sketch  (cnt : Nat → Int32) (x1 : Int32) (x2 : Int32) : Option (Int32) :=
  if (x1 < 0 : Prop) then
  some ((-1001))
  else
  if (4 ≤ x1 : Prop) then
  some ((-1001))
  else
  if (x2 < 0 : Prop) then
  some ((-1001))
  else
  if (x2 < 16 : Prop) then
  bd (F_X7_get cnt x1 x2) (fun o_1 =>
  some (o_1))
  else
  some ((-1001))
noncomputable def J_X6_letAllGo_60 (N : Nat)  (rec : Int32 → Int32 → Int32 → Rows → Rows → (Nat → Int32) → Rows → (Option (Int32 × Rows × Rows × (Nat → Int32) × Rows × Rows))) (k66 : Int32 → Rows → Rows → (Nat → Int32) → Rows → (Option (Int32 × Rows × Rows × (Nat → Int32) × Rows × Rows))) (x1 : Int32) (x2 : Int32) (x3 : Int32) (x4 : Int32) (x5 : Int32) (vals : Nat → Int32) (now : Int32) (book : Rows) (written : Rows) (sums : Nat → Int32) (ents : Rows) (colds : Rows) : Option (Int32 × Rows × Rows × (Nat → Int32) × Rows × Rows) :=
  lt (x5 + (-1)) (fun x5_4 =>
  rec x3 x4 x5_4 book written sums ents)
noncomputable def J_X6_letAllGo_48 (N : Nat)  (rec : Int32 → Int32 → Int32 → Rows → Rows → (Nat → Int32) → Rows → (Option (Int32 × Rows × Rows × (Nat → Int32) × Rows × Rows))) (k66 : Int32 → Rows → Rows → (Nat → Int32) → Rows → (Option (Int32 × Rows × Rows × (Nat → Int32) × Rows × Rows))) (t1 : Int32) (t2 : Int32) (x1 : Int32) (x2 : Int32) (x3 : Int32) (x4 : Int32) (x5 : Int32) (vals : Nat → Int32) (now : Int32) (book : Rows) (written : Rows) (sums : Nat → Int32) (ents : Rows) (colds : Rows) : Option (Int32 × Rows × Rows × (Nat → Int32) × Rows × Rows) :=
  bd (F_X6_letGo N now book written sums ents t1 t2) (fun o_5 =>
  lt (x3 + 1) (fun x3_12 =>
  J_X6_letAllGo_60 N rec k66 x1 x2 x3_12 x4 x5 vals now o_5.1 o_5.2.1 o_5.2.2.1 o_5.2.2.2 colds))
noncomputable def K_X6_letAllGo_14 (N : Nat)  (rec : Int32 → Int32 → Int32 → Rows → Rows → (Nat → Int32) → Rows → (Option (Int32 × Rows × Rows × (Nat → Int32) × Rows × Rows))) (k66 : Int32 → Rows → Rows → (Nat → Int32) → Rows → (Option (Int32 × Rows × Rows × (Nat → Int32) × Rows × Rows))) (x1 : Int32) (x2 : Int32) (vals : Nat → Int32) (now : Int32) (colds : Rows) (x3 : Int32) (x4 : Int32) (x5 : Int32) (book : Rows) (written : Rows) (sums : Nat → Int32) (ents : Rows) : Option (Int32 × Rows × Rows × (Nat → Int32) × Rows × Rows) :=
  if (x5 ≤ 0 : Prop) then
  k66 x3 book written sums ents
  else
  bd (F_X0_isPicked N 200 vals now ents x4 x1 x2) (fun o_2 =>
  if (o_2 = 0 : Prop) then
  lt (x4 + 1) (fun x4_3 =>
  J_X6_letAllGo_60 N rec k66 x1 x2 x3 x4_3 x5 vals now book written sums ents colds)
  else
  if (x1 = 3 : Prop) then
  J_X6_letAllGo_48 N rec k66 x4 8 x1 x2 x3 x4 x5 vals now book written sums ents colds
  else
  J_X6_letAllGo_48 N rec k66 x4 9 x1 x2 x3 x4 x5 vals now book written sums ents colds)
noncomputable def L_X6_letAllGo_14 (N : Nat)  (k66 : Int32 → Rows → Rows → (Nat → Int32) → Rows → (Option (Int32 × Rows × Rows × (Nat → Int32) × Rows × Rows))) (x1 : Int32) (x2 : Int32) (vals : Nat → Int32) (now : Int32) (colds : Rows) (n : Nat) : Int32 → Int32 → Int32 → Rows → Rows → (Nat → Int32) → Rows → (Option (Int32 × Rows × Rows × (Nat → Int32) × Rows × Rows)) :=
  Nat.rec (motive := fun _ => Int32 → Int32 → Int32 → Rows → Rows → (Nat → Int32) → Rows → (Option (Int32 × Rows × Rows × (Nat → Int32) × Rows × Rows))) (fun _ _ _ _ _ _ _ => none) (fun _ rec => K_X6_letAllGo_14 N rec k66 x1 x2 vals now colds) n
noncomputable def J_X6_letAllGo_108 (N : Nat)  (rec : Int32 → Int32 → Rows → (Option (Int32 × Rows × Rows × (Nat → Int32) × Rows × Rows))) (k114 : Int32 → Rows → (Option (Int32 × Rows × Rows × (Nat → Int32) × Rows × Rows))) (x1 : Int32) (x2 : Int32) (x3 : Int32) (x5 : Int32) (vals : Nat → Int32) (now : Int32) (book : Rows) (written : Rows) (sums : Nat → Int32) (ents : Rows) (colds : Rows) : Option (Int32 × Rows × Rows × (Nat → Int32) × Rows × Rows) :=
  lt (x5 + (-1)) (fun x5_16 =>
  rec x3 x5_16 colds)
noncomputable def K_X6_letAllGo_77 (N : Nat)  (rec : Int32 → Int32 → Rows → (Option (Int32 × Rows × Rows × (Nat → Int32) × Rows × Rows))) (k114 : Int32 → Rows → (Option (Int32 × Rows × Rows × (Nat → Int32) × Rows × Rows))) (x1 : Int32) (x2 : Int32) (vals : Nat → Int32) (now : Int32) (book : Rows) (written : Rows) (sums : Nat → Int32) (ents : Rows) (x3 : Int32) (x5 : Int32) (colds : Rows) : Option (Int32 × Rows × Rows × (Nat → Int32) × Rows × Rows) :=
  if (x5 < 0 : Prop) then
  k114 x3 colds
  else
  bd (F_X0_isPicked N 20 vals now colds x5 x1 x2) (fun o_15 =>
  if (o_15 = 0 : Prop) then
  J_X6_letAllGo_108 N rec k114 x1 x2 x3 x5 vals now book written sums ents colds
  else
  bd (F_X0_remove 20 colds x5) (fun o_17 =>
  lt (x3 + 1) (fun x3_20 =>
  J_X6_letAllGo_108 N rec k114 x1 x2 x3_20 x5 vals now book written sums ents o_17)))
noncomputable def L_X6_letAllGo_77 (N : Nat)  (k114 : Int32 → Rows → (Option (Int32 × Rows × Rows × (Nat → Int32) × Rows × Rows))) (x1 : Int32) (x2 : Int32) (vals : Nat → Int32) (now : Int32) (book : Rows) (written : Rows) (sums : Nat → Int32) (ents : Rows) (n : Nat) : Int32 → Int32 → Rows → (Option (Int32 × Rows × Rows × (Nat → Int32) × Rows × Rows)) :=
  Nat.rec (motive := fun _ => Int32 → Int32 → Rows → (Option (Int32 × Rows × Rows × (Nat → Int32) × Rows × Rows))) (fun _ _ _ => none) (fun _ rec => K_X6_letAllGo_77 N rec k114 x1 x2 vals now book written sums ents) n
noncomputable def F_X6_letAllGo (N : Nat)  (vals : Nat → Int32) (now : Int32) (book : Rows) (written : Rows) (sums : Nat → Int32) (ents : Rows) (colds : Rows) (x1 : Int32) (x2 : Int32) : Option (Int32 × Rows × Rows × (Nat → Int32) × Rows × Rows) :=
  bd (F_X0_size 200 ents) (fun o_1 =>
  L_X6_letAllGo_14 N (fun x3 book written sums ents => bd (F_X0_size 20 colds) (fun o_13 =>
  lt (o_13 - 1) (fun x5_14 =>
  L_X6_letAllGo_77 N (fun x3 colds => some (x3, book, written, sums, ents, colds)) x1 x2 vals now book written sums ents N x3 x5_14 colds))) x1 x2 vals now colds N 0 0 o_1 book written sums ents)
noncomputable def F_X11_drop (N : Nat)  (tby : Nat → Int32) (tsz : Int32) (vals : Nat → Int32) (now : Int32) (book : Rows) (written : Rows) (sums : Nat → Int32) (ents : Rows) (colds : Rows)  : Option (Int32 × Int32 × Rows × Rows × (Nat → Int32) × Rows × Rows) :=
  bd (F_X10_takeKey N tby tsz) (fun o_1 =>
  if (o_1.1 = 0 : Prop) then
  some ((-1002), o_1.2, book, written, sums, ents, colds)
  else
  bd (F_X6_letAllGo N vals now book written sums ents colds 0 o_1.1) (fun o_2 =>
  some (o_2.1, o_1.2, o_2.2.1, o_2.2.2.1, o_2.2.2.2.1, o_2.2.2.2.2.1, o_2.2.2.2.2.2)))
noncomputable def F_X11_isTag   (x0 : Int32) : Option (Int32) :=
  if (x0 < 0 : Prop) then
  some (0)
  else
  if (8 ≤ x0 : Prop) then
  some (0)
  else
  some (1)
noncomputable def F_X11_dropTag (N : Nat)  (vals : Nat → Int32) (now : Int32) (book : Rows) (written : Rows) (sums : Nat → Int32) (ents : Rows) (colds : Rows) (x1 : Int32) : Option (Int32 × Rows × Rows × (Nat → Int32) × Rows × Rows) :=
  bd (F_X11_isTag x1) (fun o_1 =>
  if (o_1 = 0 : Prop) then
  some ((-1001), book, written, sums, ents, colds)
  else
  bd (F_X6_letAllGo N vals now book written sums ents colds 1 x1) (fun o_2 =>
  some (o_2.1, o_2.2.1, o_2.2.2.1, o_2.2.2.2.1, o_2.2.2.2.2.1, o_2.2.2.2.2.2)))
noncomputable def F_X11_dropAll (N : Nat)  (tby : Nat → Int32) (tsz : Int32) (vals : Nat → Int32) (now : Int32) (book : Rows) (written : Rows) (sums : Nat → Int32) (ents : Rows) (colds : Rows)  : Option (Int32 × Int32 × Rows × Rows × (Nat → Int32) × Rows × Rows) :=
  bd (F_X10_takeKey N tby tsz) (fun o_1 =>
  if (o_1.1 = 0 : Prop) then
  some ((-1002), o_1.2, book, written, sums, ents, colds)
  else
  bd (F_X6_letAllGo N vals now book written sums ents colds 2 o_1.1) (fun o_2 =>
  some (o_2.1, o_1.2, o_2.2.1, o_2.2.2.1, o_2.2.2.2.1, o_2.2.2.2.2.1, o_2.2.2.2.2.2)))
noncomputable def J_X0_sum_44 (N : Nat) (dm : Nat) (rec : Int32 → Int32 → Option (Int32)) (k50 : Int32 → Option (Int32)) (x1 : Int32) (x2 : Int32) (x3 : Int32) (x4 : Int32) (x5 : Int32) (vals : Nat → Int32) (now : Int32) (rows : Rows) : Option (Int32) :=
  lt (x5 + 1) (fun x5_3 =>
  rec x4 x5_3)
noncomputable def K_X0_sum_6 (N : Nat) (dm : Nat) (rec : Int32 → Int32 → Option (Int32)) (k50 : Int32 → Option (Int32)) (x1 : Int32) (x2 : Int32) (x3 : Int32) (vals : Nat → Int32) (now : Int32) (rows : Rows) (x4 : Int32) (x5 : Int32)  : Option (Int32) :=
  lt (tsize rows) (fun o_1 =>
  if (o_1 ≤ x5 : Prop) then
  k50 x4
  else
  bd (F_X0_isPicked N dm vals now rows x5 x2 x3) (fun o_2 =>
  if (o_2 = 0 : Prop) then
  J_X0_sum_44 N dm rec k50 x1 x2 x3 x4 x5 vals now rows
  else
  lt (tget rows x5 x1) (fun o_4 =>
  lt (x4 + o_4) (fun x4_5 =>
  J_X0_sum_44 N dm rec k50 x1 x2 x3 x4_5 x5 vals now rows))))
noncomputable def L_X0_sum_6 (N : Nat) (dm : Nat) (k50 : Int32 → Option (Int32)) (x1 : Int32) (x2 : Int32) (x3 : Int32) (vals : Nat → Int32) (now : Int32) (rows : Rows) (n : Nat) : Int32 → Int32 → Option (Int32) :=
  Nat.rec (motive := fun _ => Int32 → Int32 → Option (Int32)) (fun _ _ => none) (fun _ rec => K_X0_sum_6 N dm rec k50 x1 x2 x3 vals now rows) n
noncomputable def F_X0_sum (N : Nat) (dm : Nat) (vals : Nat → Int32) (now : Int32) (rows : Rows) (x1 : Int32) (x2 : Int32) (x3 : Int32) : Option (Int32) :=
  L_X0_sum_6 N dm (fun x4 => some (x4)) x1 x2 x3 vals now rows N 0 0
noncomputable def J_X11_tagged_54 (N : Nat)   (t1 : Int32) (x1 : Int32) (vals : Nat → Int32) (now : Int32) (ents : Rows) : Option (Int32) :=
  bd (F_X0_sum N 200 vals now ents t1 1 x1) (fun o_2 =>
  some (o_2))
noncomputable def F_X11_tagged (N : Nat)  (vals : Nat → Int32) (now : Int32) (ents : Rows) (x1 : Int32) (x2 : Int32) : Option (Int32) :=
  bd (F_X11_isTag x1) (fun o_1 =>
  if (o_1 = 0 : Prop) then
  some ((-1001))
  else
  if (x2 < 0 : Prop) then
  some ((-1001))
  else
  if (x2 ≤ 2 : Prop) then
  if (x2 = 0 : Prop) then
  bd (F_X0_howMany N 200 vals now ents 1 x1) (fun o_3 =>
  some (o_3))
  else
  if (x2 = 1 : Prop) then
  J_X11_tagged_54 N 1 x1 vals now ents
  else
  J_X11_tagged_54 N 3 x1 vals now ents
  else
  some ((-1001)))
noncomputable def F_X11_sweep (N : Nat)  (vals : Nat → Int32) (now : Int32) (book : Rows) (written : Rows) (sums : Nat → Int32) (ents : Rows) (colds : Rows)  : Option (Int32 × Rows × Rows × (Nat → Int32) × Rows × Rows) :=
  bd (F_X6_letAllGo N vals now book written sums ents colds 3 0) (fun o_1 =>
  some (o_1.1, o_1.2.1, o_1.2.2.1, o_1.2.2.2.1, o_1.2.2.2.2.1, o_1.2.2.2.2.2))
noncomputable def K_X0_nthToGo_26 (N : Nat) (dm : Nat) (rec : Int32 → Int32 → Option (Int32)) (k44 : Int32 → Option (Int32)) (x1 : Int32) (vals : Nat → Int32) (now : Int32) (rows : Rows) (x2 : Int32) (x3 : Int32)  : Option (Int32) :=
  if (x1 ≤ x3 : Prop) then
  k44 x2
  else
  bd (F_X0_nextToGo N dm vals now rows x2 0) (fun o_3 =>
  lt (x3 + 1) (fun x3_4 =>
  rec o_3 x3_4))
noncomputable def L_X0_nthToGo_26 (N : Nat) (dm : Nat) (k44 : Int32 → Option (Int32)) (x1 : Int32) (vals : Nat → Int32) (now : Int32) (rows : Rows) (n : Nat) : Int32 → Int32 → Option (Int32) :=
  Nat.rec (motive := fun _ => Int32 → Int32 → Option (Int32)) (fun _ _ => none) (fun _ rec => K_X0_nthToGo_26 N dm rec k44 x1 vals now rows) n
noncomputable def F_X0_nthToGo (N : Nat) (dm : Nat) (vals : Nat → Int32) (now : Int32) (rows : Rows) (x1 : Int32) : Option (Int32) :=
  if (x1 < 0 : Prop) then
  some ((-1))
  else
  lt (tsize rows) (fun o_1 =>
  if (x1 < o_1 : Prop) then
  bd (F_X0_nextToGo N dm vals now rows ((-1)) 0) (fun o_2 =>
  L_X0_nthToGo_26 N dm (fun x2 => some (x2)) x1 vals now rows N o_2 0)
  else
  some ((-1)))
noncomputable def F_X11_toGo (N : Nat)  (vals : Nat → Int32) (now : Int32) (ents : Rows) (x1 : Int32) (x2 : Int32) : Option (Int32) :=
  if (x1 < 0 : Prop) then
  some ((-1001))
  else
  if (((-2)) ≤ x2 : Prop) then
  bd (F_X0_nthToGo N 200 vals now ents x1) (fun o_1 =>
  if (o_1 = ((-1)) : Prop) then
  some ((-1003))
  else
  if (x2 = ((-2)) : Prop) then
  bd (F_X0_get 200 ents o_1 3) (fun o_4 =>
  some (o_4))
  else
  bd (F_X0_get 200 ents o_1 7) (fun o_2 =>
  bd (F_X11_lengthOrByte N o_2 x2) (fun o_3 =>
  some (o_3))))
  else
  some ((-1001))
noncomputable def K_X6_wouldGoFor_82 (N : Nat)  (rec : Int32 → Int32 → Int32 → Int32 → Option (Int32)) (k128 : Int32 → Option (Int32)) (x1 : Int32) (vals : Nat → Int32) (now : Int32) (ents : Rows) (cnt : Nat → Int32) (x5 : Int32) (x6 : Int32) (x7 : Int32) (x8 : Int32)  : Option (Int32) :=
  if (x8 ≤ 0 : Prop) then
  k128 x6
  else
  if (x5 ≤ 0 : Prop) then
  k128 x6
  else
  bd (F_X0_nextToGo N 200 vals now ents x7 x1) (fun o_7 =>
  bd (F_X0_get 200 ents o_7 1) (fun o_8 =>
  lt (x5 - o_8) (fun x5_9 =>
  lt (x6 + 1) (fun x6_10 =>
  lt (x8 + (-1)) (fun x8_11 =>
  rec x5_9 x6_10 o_7 x8_11)))))
noncomputable def L_X6_wouldGoFor_82 (N : Nat)  (k128 : Int32 → Option (Int32)) (x1 : Int32) (vals : Nat → Int32) (now : Int32) (ents : Rows) (cnt : Nat → Int32) (n : Nat) : Int32 → Int32 → Int32 → Int32 → Option (Int32) :=
  Nat.rec (motive := fun _ => Int32 → Int32 → Int32 → Int32 → Option (Int32)) (fun _ _ _ _ => none) (fun _ rec => K_X6_wouldGoFor_82 N rec k128 x1 vals now ents cnt) n
noncomputable def J_X6_wouldGoFor_43 (N : Nat)   (x1 : Int32) (x2 : Int32) (x3 : Int32) (x4 : Int32) (vals : Nat → Int32) (now : Int32) (ents : Rows) (cnt : Nat → Int32) : Option (Int32) :=
  bd (F_X0_weight N 200 ents) (fun o_3 =>
  bd (F_X0_get 200 ents x3 1) (fun o_4 =>
  lt (((o_3 - o_4) + x2) - x4) (fun x5_5 =>
  bd (F_X0_size 200 ents) (fun o_6 =>
  L_X6_wouldGoFor_82 N (fun x6 => some (x6)) x1 vals now ents cnt N x5_5 0 ((-1)) o_6))))
noncomputable def F_X6_wouldGoFor (N : Nat)  (vals : Nat → Int32) (now : Int32) (ents : Rows) (cnt : Nat → Int32) (x1 : Int32) (x2 : Int32) : Option (Int32) :=
  bd (F_X0_rowOf 200 ents x1) (fun o_1 =>
  bd (F_X5_value vals 0) (fun o_2 =>
  if (o_2 < x2 : Prop) then
  some ((-1003))
  else
  if (o_1 = ((-1)) : Prop) then
  bd (F_X6_mayComeIn N vals now ents cnt x1 x2) (fun o_12 =>
  if (o_12 = 0 : Prop) then
  some ((-1003))
  else
  J_X6_wouldGoFor_43 N x1 x2 o_1 o_2 vals now ents cnt)
  else
  J_X6_wouldGoFor_43 N x1 x2 o_1 o_2 vals now ents cnt))
noncomputable def F_X11_would (N : Nat)  (tby : Nat → Int32) (tsz : Int32) (vals : Nat → Int32) (now : Int32) (ents : Rows) (cnt : Nat → Int32) (x1 : Int32) : Option (Int32 × Int32) :=
  bd (F_X11_isWeight x1) (fun o_1 =>
  if (o_1 = 0 : Prop) then
  some ((-1001), tsz)
  else
  bd (F_X10_takeKey N tby tsz) (fun o_2 =>
  if (o_2.1 = 0 : Prop) then
  some ((-1002), o_2.2)
  else
  bd (F_X6_wouldGoFor N vals now ents cnt o_2.1 x1) (fun o_3 =>
  some (o_3, o_2.2))))
noncomputable def F_X11_cold (N : Nat)  (colds : Rows) (x1 : Int32) (x2 : Int32) : Option (Int32) :=
  if (x1 < 0 : Prop) then
  some ((-1001))
  else
  if (((-3)) ≤ x2 : Prop) then
  bd (F_X0_size 20 colds) (fun o_1 =>
  if (x1 < o_1 : Prop) then
  if (x2 = ((-2)) : Prop) then
  bd (F_X0_get 20 colds x1 0) (fun o_5 =>
  some (o_5))
  else
  if (x2 = ((-3)) : Prop) then
  bd (F_X0_get 20 colds x1 6) (fun o_4 =>
  some (o_4))
  else
  bd (F_X0_get 20 colds x1 7) (fun o_2 =>
  bd (F_X11_lengthOrByte N o_2 x2) (fun o_3 =>
  some (o_3)))
  else
  some ((-1003)))
  else
  some ((-1001))
noncomputable def J_X2_timesBehind_50 (N : Nat)  (rec : Int32 → Int32 → Option (Int32)) (k56 : Int32 → Option (Int32)) (x1 : Int32) (x2 : Int32) (x3 : Int32) (x4 : Int32) (late : Rows) : Option (Int32) :=
  lt (x4 + 1) (fun x4_3 =>
  rec x3 x4_3)
noncomputable def K_X2_timesBehind_5 (N : Nat)  (rec : Int32 → Int32 → Option (Int32)) (k56 : Int32 → Option (Int32)) (x1 : Int32) (x2 : Int32) (late : Rows) (x3 : Int32) (x4 : Int32)  : Option (Int32) :=
  lt (tsize late) (fun o_1 =>
  if (o_1 ≤ x4 : Prop) then
  k56 x3
  else
  lt (tget late (x4 - 1) 0) (fun o_2 =>
  if (o_2 = x1 : Prop) then
  lt (tget late x4 0) (fun o_4 =>
  if (o_4 = x2 : Prop) then
  lt (x3 + 1) (fun x3_5 =>
  J_X2_timesBehind_50 N rec k56 x1 x2 x3_5 x4 late)
  else
  J_X2_timesBehind_50 N rec k56 x1 x2 x3 x4 late)
  else
  J_X2_timesBehind_50 N rec k56 x1 x2 x3 x4 late))
noncomputable def L_X2_timesBehind_5 (N : Nat)  (k56 : Int32 → Option (Int32)) (x1 : Int32) (x2 : Int32) (late : Rows) (n : Nat) : Int32 → Int32 → Option (Int32) :=
  Nat.rec (motive := fun _ => Int32 → Int32 → Option (Int32)) (fun _ _ => none) (fun _ rec => K_X2_timesBehind_5 N rec k56 x1 x2 late) n
noncomputable def F_X2_timesBehind (N : Nat)  (late : Rows) (x1 : Int32) (x2 : Int32) : Option (Int32) :=
  L_X2_timesBehind_5 N (fun x3 => some (x3)) x1 x2 late N 0 1
noncomputable def J_X2_followerOf_75 (N : Nat)  (rec : Int32 → Int32 → Int32 → Option (Int32)) (k81 : Int32 → Option (Int32)) (x1 : Int32) (x2 : Int32) (x3 : Int32) (x4 : Int32) (late : Rows) : Option (Int32) :=
  lt (x4 + 1) (fun x4_5 =>
  rec x2 x3 x4_5)
noncomputable def K_X2_followerOf_7 (N : Nat)  (rec : Int32 → Int32 → Int32 → Option (Int32)) (k81 : Int32 → Option (Int32)) (x1 : Int32) (late : Rows) (x2 : Int32) (x3 : Int32) (x4 : Int32)  : Option (Int32) :=
  lt (tsize late) (fun o_1 =>
  if (o_1 ≤ x4 : Prop) then
  k81 x2
  else
  lt (tget late (x4 - 1) 0) (fun o_2 =>
  if (o_2 = x1 : Prop) then
  lt (tget late x4 0) (fun o_3 =>
  bd (F_X2_timesBehind N late x1 o_3) (fun o_4 =>
  if (o_4 ≤ x3 : Prop) then
  J_X2_followerOf_75 N rec k81 x1 x2 x3 x4 late
  else
  lt (tget late x4 0) (fun o_6 =>
  J_X2_followerOf_75 N rec k81 x1 o_6 o_4 x4 late)))
  else
  J_X2_followerOf_75 N rec k81 x1 x2 x3 x4 late))
noncomputable def L_X2_followerOf_7 (N : Nat)  (k81 : Int32 → Option (Int32)) (x1 : Int32) (late : Rows) (n : Nat) : Int32 → Int32 → Int32 → Option (Int32) :=
  Nat.rec (motive := fun _ => Int32 → Int32 → Int32 → Option (Int32)) (fun _ _ _ => none) (fun _ rec => K_X2_followerOf_7 N rec k81 x1 late) n
noncomputable def F_X2_followerOf (N : Nat)  (late : Rows) (x1 : Int32) : Option (Int32) :=
  L_X2_followerOf_7 N (fun x2 => some (x2)) x1 late N 0 0 1
noncomputable def F_X11_follows (N : Nat)  (tby : Nat → Int32) (tsz : Int32) (late : Rows) (x1 : Int32) : Option (Int32 × Int32) :=
  if (((-2)) ≤ x1 : Prop) then
  bd (F_X10_takeKey N tby tsz) (fun o_1 =>
  if (o_1.1 = 0 : Prop) then
  some ((-1002), o_1.2)
  else
  bd (F_X2_followerOf N late o_1.1) (fun o_2 =>
  if (x1 = ((-1)) : Prop) then
  if (o_2 = 0 : Prop) then
  some (0, o_1.2)
  else
  bd (F_X2_timesBehind N late o_1.1 o_2) (fun o_5 =>
  some (o_5, o_1.2))
  else
  if (o_2 = 0 : Prop) then
  some ((-1003), o_1.2)
  else
  if (x1 = ((-2)) : Prop) then
  bd (F_X1_length N o_2) (fun o_4 =>
  some (o_4, o_1.2))
  else
  bd (F_X1_byteAt N o_2 x1) (fun o_3 =>
  some (o_3, o_1.2))))
  else
  some ((-1001), tsz)
noncomputable def F_X11_isReplay   (x0 : Int32) (x1 : Int32) : Option (Int32) :=
  if (x0 < 0 : Prop) then
  some (0)
  else
  if (3 < x0 : Prop) then
  some (0)
  else
  if (x1 < 1 : Prop) then
  some (0)
  else
  if (12 < x1 : Prop) then
  some (0)
  else
  some (1)
noncomputable def J_X10_takeKeys_89 (N : Nat) (dm : Nat) (dw : Nat) (rec : Int32 → Int32 → Rows → Option (Int32 × Int32 × Rows)) (k95 : Int32 → Rows → Option (Int32 × Int32 × Rows)) (k56 : Rows → Option (Int32 × Int32 × Rows)) (k77 : Rows → Option (Int32 × Int32 × Rows)) (x2 : Int32) (x3 : Int32) (x4 : Int32) (tby : Nat → Int32) (tsz : Int32) (keys : Rows) : Option (Int32 × Int32 × Rows) :=
  lt (x4 + 1) (fun x4_9 =>
  rec x3 x4_9 keys)
noncomputable def K_X10_takeKeys_19 (N : Nat) (dm : Nat) (dw : Nat) (rec : Int32 → Int32 → Rows → Option (Int32 × Int32 × Rows)) (k95 : Int32 → Rows → Option (Int32 × Int32 × Rows)) (k56 : Rows → Option (Int32 × Int32 × Rows)) (k77 : Rows → Option (Int32 × Int32 × Rows)) (x2 : Int32) (tby : Nat → Int32) (tsz : Int32) (x3 : Int32) (x4 : Int32) (keys : Rows) : Option (Int32 × Int32 × Rows) :=
  if (x2 ≤ x4 : Prop) then
  k95 x3 keys
  else
  if ((nI 60) ≤ x4 : Prop) then
  k95 x3 keys
  else
  ld tby 60 x4 (fun v_5 =>
  if (v_5 = 32 : Prop) then
  if (x3 = 0 : Prop) then
  k77 keys
  else
  lt (tpush dm dw keys x3 0 0) (fun o_6 =>
  J_X10_takeKeys_89 N dm dw rec k95 k56 k77 x2 0 x4 tby tsz o_6.2)
  else
  bd (F_X1_length N x3) (fun o_10 =>
  if (o_10 < 6 : Prop) then
  ld tby 60 x4 (fun v_11 =>
  bd (F_X1_with x3 v_11) (fun o_12 =>
  J_X10_takeKeys_89 N dm dw rec k95 k56 k77 x2 o_12 x4 tby tsz keys))
  else
  k56 keys))
noncomputable def L_X10_takeKeys_19 (N : Nat) (dm : Nat) (dw : Nat) (k95 : Int32 → Rows → Option (Int32 × Int32 × Rows)) (k56 : Rows → Option (Int32 × Int32 × Rows)) (k77 : Rows → Option (Int32 × Int32 × Rows)) (x2 : Int32) (tby : Nat → Int32) (tsz : Int32) (n : Nat) : Int32 → Int32 → Rows → Option (Int32 × Int32 × Rows) :=
  Nat.rec (motive := fun _ => Int32 → Int32 → Rows → Option (Int32 × Int32 × Rows)) (fun _ _ _ => none) (fun _ rec => K_X10_takeKeys_19 N dm dw rec k95 k56 k77 x2 tby tsz) n
noncomputable def J_X10_takeKeys_95 (N : Nat) (dm : Nat) (dw : Nat)  (x3 : Int32) (tby : Nat → Int32) (tsz : Int32) (keys : Rows) : Option (Int32 × Int32 × Rows) :=
  lt (tpush dm dw keys x3 0 0) (fun o_13 =>
  if (x3 = 0 : Prop) then
  some (0, tsz, o_13.2)
  else
  some (1, tsz, o_13.2))
noncomputable def F_X10_takeKeys (N : Nat) (dm : Nat) (dw : Nat) (tby : Nat → Int32) (tsz : Int32) (keys : Rows)  : Option (Int32 × Int32 × Rows) :=
  lt (0) (fun tsz_1 =>
  lt (tclear keys) (fun o_2 =>
  L_X10_takeKeys_19 N dm dw (fun x3 keys => J_X10_takeKeys_95 N dm dw x3 tby tsz_1 keys) (fun keys => some (0, tsz_1, keys)) (fun keys => some (0, tsz_1, keys)) tsz tby tsz_1 N 0 0 o_2))
noncomputable def J_X4_firstToGo_89 (N : Nat)  (rec : Int32 → Int32 → Option (Int32)) (k95 : Int32 → Option (Int32)) (x1 : Int32) (x2 : Int32) (x3 : Int32) (places : Rows) : Option (Int32) :=
  lt (x3 + 1) (fun x3_4 =>
  rec x2 x3_4)
noncomputable def J_X4_firstToGo_62 (N : Nat)  (rec : Int32 → Int32 → Option (Int32)) (k95 : Int32 → Option (Int32)) (t0 : Int32) (x1 : Int32) (x2 : Int32) (x3 : Int32) (places : Rows) : Option (Int32) :=
  lt (tget places x3 t0) (fun o_2 =>
  lt (tget places x2 t0) (fun o_3 =>
  if (o_3 ≤ o_2 : Prop) then
  J_X4_firstToGo_89 N rec k95 x1 x2 x3 places
  else
  J_X4_firstToGo_89 N rec k95 x1 x3 x3 places))
noncomputable def J_X4_firstToGo_50 (N : Nat)  (rec : Int32 → Int32 → Option (Int32)) (k95 : Int32 → Option (Int32)) (t0 : Int32) (x1 : Int32) (x2 : Int32) (x3 : Int32) (places : Rows) : Option (Int32) :=
  if (t0 = 0 : Prop) then
  J_X4_firstToGo_62 N rec k95 2 x1 x2 x3 places
  else
  J_X4_firstToGo_62 N rec k95 1 x1 x2 x3 places
noncomputable def J_X4_firstToGo_49 (N : Nat)  (rec : Int32 → Int32 → Option (Int32)) (k95 : Int32 → Option (Int32)) (x1 : Int32) (x2 : Int32) (x3 : Int32) (places : Rows) : Option (Int32) :=
  J_X4_firstToGo_50 N rec k95 0 x1 x2 x3 places
noncomputable def K_X4_firstToGo_4 (N : Nat)  (rec : Int32 → Int32 → Option (Int32)) (k95 : Int32 → Option (Int32)) (x1 : Int32) (places : Rows) (x2 : Int32) (x3 : Int32)  : Option (Int32) :=
  lt (tsize places) (fun o_1 =>
  if (o_1 ≤ x3 : Prop) then
  k95 x2
  else
  if (x1 = 2 : Prop) then
  k95 x2
  else
  if (x1 = 0 : Prop) then
  J_X4_firstToGo_49 N rec k95 x1 x2 x3 places
  else
  lt (tget places x3 1) (fun o_5 =>
  lt (tget places x2 1) (fun o_6 =>
  if (o_5 = o_6 : Prop) then
  J_X4_firstToGo_49 N rec k95 x1 x2 x3 places
  else
  J_X4_firstToGo_50 N rec k95 1 x1 x2 x3 places)))
noncomputable def L_X4_firstToGo_4 (N : Nat)  (k95 : Int32 → Option (Int32)) (x1 : Int32) (places : Rows) (n : Nat) : Int32 → Int32 → Option (Int32) :=
  Nat.rec (motive := fun _ => Int32 → Int32 → Option (Int32)) (fun _ _ => none) (fun _ rec => K_X4_firstToGo_4 N rec k95 x1 places) n
noncomputable def F_X4_firstToGo (N : Nat)  (places : Rows) (x1 : Int32) : Option (Int32) :=
  L_X4_firstToGo_4 N (fun x2 => some (x2)) x1 places N 0 1
noncomputable def K_X4_halveCounts_2 (N : Nat)  (rec : Int32 → Rows → Option (Rows)) (k39 : Rows → Option (Rows))   (x1 : Int32) (places : Rows) : Option (Rows) :=
  lt (tsize places) (fun o_1 =>
  if (o_1 ≤ x1 : Prop) then
  k39 places
  else
  lt (tget places x1 1) (fun o_2 =>
  lt (tset places x1 1 (o_2 / 2)) (fun o_3 =>
  lt (x1 + 1) (fun x1_6 =>
  rec x1_6 o_3))))
noncomputable def L_X4_halveCounts_2 (N : Nat)  (k39 : Rows → Option (Rows))   (n : Nat) : Int32 → Rows → Option (Rows) :=
  Nat.rec (motive := fun _ => Int32 → Rows → Option (Rows)) (fun _ _ => none) (fun _ rec => K_X4_halveCounts_2 N rec k39) n
noncomputable def F_X4_halveCounts (N : Nat)  (places : Rows)  : Option (Rows) :=
  L_X4_halveCounts_2 N (fun places => some (places)) N 0 places
noncomputable def J_X4_hits_151 (N : Nat) (dm : Nat) (dw : Nat) (rec : Int32 → Int32 → Int32 → Rows → Option (Int32 × Rows)) (k157 : Int32 → Rows → Option (Int32 × Rows)) (x2 : Int32) (x3 : Int32) (x4 : Int32) (x5 : Int32) (x6 : Int32) (x7 : Int32) (places : Rows) (keys : Rows) : Option (Int32 × Rows) :=
  lt (x7 + 1) (fun x7_12 =>
  rec x5 x6 x7_12 places)
noncomputable def J_X4_hits_129 (N : Nat) (dm : Nat) (dw : Nat) (rec : Int32 → Int32 → Int32 → Rows → Option (Int32 × Rows)) (k157 : Int32 → Rows → Option (Int32 × Rows)) (x2 : Int32) (x3 : Int32) (x4 : Int32) (x5 : Int32) (x6 : Int32) (x7 : Int32) (places : Rows) (keys : Rows) : Option (Int32 × Rows) :=
  lt (x6 + 1) (fun x6_11 =>
  if (x2 = 3 : Prop) then
  if (x6_11 < x4 : Prop) then
  J_X4_hits_151 N dm dw rec k157 x2 x3 x4 x5 x6_11 x7 places keys
  else
  bd (F_X4_halveCounts N places) (fun o_13 =>
  J_X4_hits_151 N dm dw rec k157 x2 x3 x4 x5 0 x7 o_13 keys)
  else
  J_X4_hits_151 N dm dw rec k157 x2 x3 x4 x5 x6_11 x7 places keys)
noncomputable def J_X4_hits_116 (N : Nat) (dm : Nat) (dw : Nat) (rec : Int32 → Int32 → Int32 → Rows → Option (Int32 × Rows)) (k157 : Int32 → Rows → Option (Int32 × Rows)) (x2 : Int32) (x3 : Int32) (x4 : Int32) (x5 : Int32) (x6 : Int32) (x7 : Int32) (x8 : Int32) (places : Rows) (keys : Rows) : Option (Int32 × Rows) :=
  lt (tpush 12 3 places x8 1 x7) (fun o_8 =>
  J_X4_hits_129 N dm dw rec k157 x2 x3 x4 x5 x6 x7 o_8.2 keys)
noncomputable def K_X4_hits_16 (N : Nat) (dm : Nat) (dw : Nat) (rec : Int32 → Int32 → Int32 → Rows → Option (Int32 × Rows)) (k157 : Int32 → Rows → Option (Int32 × Rows)) (x2 : Int32) (x3 : Int32) (x4 : Int32) (keys : Rows) (x5 : Int32) (x6 : Int32) (x7 : Int32) (places : Rows) : Option (Int32 × Rows) :=
  lt (tsize keys) (fun o_4 =>
  if (o_4 ≤ x7 : Prop) then
  k157 x5 places
  else
  lt (tget keys x7 0) (fun o_5 =>
  lt (tfind places 0 o_5 0) (fun o_6 =>
  if (o_6 = ((-1)) : Prop) then
  lt (tsize places) (fun o_7 =>
  if (o_7 < x3 : Prop) then
  J_X4_hits_116 N dm dw rec k157 x2 x3 x4 x5 x6 x7 o_5 places keys
  else
  bd (F_X4_firstToGo N places x2) (fun o_16 =>
  lt (tremove places o_16) (fun o_17 =>
  J_X4_hits_116 N dm dw rec k157 x2 x3 x4 x5 x6 x7 o_5 o_17 keys)))
  else
  lt (x5 + 1) (fun x5_20 =>
  lt (tget places o_6 1) (fun o_21 =>
  lt (tset places o_6 1 (o_21 + 1)) (fun o_22 =>
  lt (tset o_22 o_6 2 x7) (fun o_25 =>
  J_X4_hits_129 N dm dw rec k157 x2 x3 x4 x5_20 x6 x7 o_25 keys)))))))
noncomputable def L_X4_hits_16 (N : Nat) (dm : Nat) (dw : Nat) (k157 : Int32 → Rows → Option (Int32 × Rows)) (x2 : Int32) (x3 : Int32) (x4 : Int32) (keys : Rows) (n : Nat) : Int32 → Int32 → Int32 → Rows → Option (Int32 × Rows) :=
  Nat.rec (motive := fun _ => Int32 → Int32 → Int32 → Rows → Option (Int32 × Rows)) (fun _ _ _ _ => none) (fun _ rec => K_X4_hits_16 N dm dw rec k157 x2 x3 x4 keys) n
noncomputable def F_X4_hits (N : Nat) (dm : Nat) (dw : Nat) (places : Rows) (keys : Rows) (x2 : Int32) (x3 : Int32) (x4 : Int32) : Option (Int32 × Rows) :=
  lt (tclear places) (fun o_1 =>
  L_X4_hits_16 N dm dw (fun x5 places => some (x5, places)) x2 x3 x4 keys N 0 0 0 o_1)
noncomputable def F_X11_replay (N : Nat)  (tby : Nat → Int32) (tsz : Int32) (rowOfKeys : Rows) (places : Rows) (vals : Nat → Int32) (x1 : Int32) (x2 : Int32) : Option (Int32 × Int32 × Rows × Rows) :=
  bd (F_X11_isReplay x1 x2) (fun o_1 =>
  if (o_1 = 0 : Prop) then
  some ((-1001), tsz, rowOfKeys, places)
  else
  bd (F_X10_takeKeys N 30 1 tby tsz rowOfKeys) (fun o_2 =>
  if (o_2.1 = 0 : Prop) then
  some ((-1002), o_2.2.1, o_2.2.2, places)
  else
  bd (F_X5_value vals 1) (fun o_5 =>
  bd (F_X4_hits N 30 1 places o_2.2.2 x1 x2 o_5) (fun o_6 =>
  some (o_6.1, o_2.2.1, o_2.2.2, o_6.2)))))
noncomputable def F_X11_replayed (N : Nat)  (places : Rows) (vals : Nat → Int32) (late : Rows) (x1 : Int32) (x2 : Int32) : Option (Int32 × Rows) :=
  bd (F_X11_isReplay x1 x2) (fun o_1 =>
  if (o_1 = 0 : Prop) then
  some ((-1001), places)
  else
  bd (F_X5_value vals 1) (fun o_2 =>
  bd (F_X4_hits N 60 1 places late x1 x2 o_2) (fun o_3 =>
  some (o_3.1, o_3.2))))
noncomputable def F_X11_book  (book : Rows) (x1 : Int32) (x2 : Int32) : Option (Int64) :=
  if (x1 < 0 : Prop) then
  some ((-1001))
  else
  if (x2 < 0 : Prop) then
  some ((-1001))
  else
  if (x2 < 3 : Prop) then
  lt (tsize book) (fun o_1 =>
  if (o_1 ≤ x1 : Prop) then
  some ((-1003))
  else
  lt (tget book x1 x2) (fun o_2 =>
  some (o_2.toInt64)))
  else
  some ((-1001))
noncomputable def F_X2_sum  (sums : Nat → Int32) (x1 : Int32) : Option (Int32) :=
  if (x1 < 0 : Prop) then
  some (0)
  else
  if ((nI 14) ≤ x1 : Prop) then
  some (0)
  else
  ld sums 14 x1 (fun v_1 =>
  some (v_1))
noncomputable def F_X11_led  (sums : Nat → Int32) (x1 : Int32) : Option (Int64) :=
  if (x1 < 0 : Prop) then
  some ((-1001))
  else
  if (x1 < 14 : Prop) then
  bd (F_X2_sum sums x1) (fun o_1 =>
  some (o_1.toInt64))
  else
  some ((-1001))
noncomputable def F_X3_inLine  (line : Rows)  : Option (Int32) :=
  lt (thowMany line 1 0) (fun o_1 =>
  some (o_1))
noncomputable def J_X3_waitingAskers_25 (N : Nat)  (rec : Int32 → Int32 → Option (Int32)) (k31 : Int32 → Option (Int32)) (x1 : Int32) (x2 : Int32) (waits : Rows) : Option (Int32) :=
  lt (x2 + 1) (fun x2_2 =>
  rec x1 x2_2)
noncomputable def K_X3_waitingAskers_4 (N : Nat)  (rec : Int32 → Int32 → Option (Int32)) (k31 : Int32 → Option (Int32))  (waits : Rows) (x1 : Int32) (x2 : Int32)  : Option (Int32) :=
  if (16 ≤ x2 : Prop) then
  k31 x1
  else
  lt (thowMany waits 1 x2) (fun o_1 =>
  if (o_1 ≤ 0 : Prop) then
  J_X3_waitingAskers_25 N rec k31 x1 x2 waits
  else
  lt (x1 + 1) (fun x1_3 =>
  J_X3_waitingAskers_25 N rec k31 x1_3 x2 waits))
noncomputable def L_X3_waitingAskers_4 (N : Nat)  (k31 : Int32 → Option (Int32))  (waits : Rows) (n : Nat) : Int32 → Int32 → Option (Int32) :=
  Nat.rec (motive := fun _ => Int32 → Int32 → Option (Int32)) (fun _ _ => none) (fun _ rec => K_X3_waitingAskers_4 N rec k31 waits) n
noncomputable def F_X3_waitingAskers (N : Nat)  (waits : Rows)  : Option (Int32) :=
  L_X3_waitingAskers_4 N (fun x1 => some (x1)) waits N 0 0
noncomputable def F_X11_count (N : Nat)  (tsz : Int32) (vals : Nat → Int32) (now : Int32) (ents : Rows) (colds : Rows) (line : Rows) (waits : Rows) (x1 : Int32) : Option (Int32) :=
  if (x1 = 0 : Prop) then
  bd (F_X0_size 200 ents) (fun o_1 =>
  some (o_1))
  else
  if (x1 = 1 : Prop) then
  bd (F_X0_weight N 200 ents) (fun o_2 =>
  some (o_2))
  else
  if (x1 = 2 : Prop) then
  bd (F_X3_running line) (fun o_3 =>
  some (o_3))
  else
  if (x1 = 3 : Prop) then
  bd (F_X3_inLine line) (fun o_4 =>
  some (o_4))
  else
  if (x1 = 4 : Prop) then
  bd (F_X10_size tsz) (fun o_5 =>
  some (o_5))
  else
  if (x1 = 5 : Prop) then
  bd (F_X5_now now) (fun o_6 =>
  some (o_6))
  else
  if (x1 = 6 : Prop) then
  bd (F_X0_howMany N 200 vals now ents 3 0) (fun o_7 =>
  some (o_7))
  else
  if (x1 = 7 : Prop) then
  bd (F_X3_waitingAskers N waits) (fun o_8 =>
  some (o_8))
  else
  if (x1 = 8 : Prop) then
  bd (F_X0_howMany N 200 vals now ents 4 0) (fun o_9 =>
  some (o_9))
  else
  if (x1 = 9 : Prop) then
  bd (F_X0_size 20 colds) (fun o_10 =>
  some (o_10))
  else
  some ((-1001))
