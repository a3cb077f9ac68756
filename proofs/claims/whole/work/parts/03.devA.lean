noncomputable def F_X12_in   (x0 : Int32) (x1 : Int32) (x2 : Int32) : Option (Int32) :=
  if (x0 < x1 : Prop) then
  some (0)
  else
  if (x2 < x0 : Prop) then
  some (0)
  else
  some (1)
noncomputable def F_X12_isRule   (x0 : Int32) (x1 : Int32) : Option (Int32) :=
  if (x0 = 0 : Prop) then
  bd (F_X12_in x1 1 200) (fun o_1 =>
  ck (o_1 = 0 ∨ o_1 = 1) (some (o_1)))
  else
  if (x0 = 1 : Prop) then
  bd (F_X12_in x1 1 500) (fun o_2 =>
  ck (o_2 = 0 ∨ o_2 = 1) (some (o_2)))
  else
  if (x0 = 2 : Prop) then
  bd (F_X12_in x1 0 999) (fun o_3 =>
  ck (o_3 = 0 ∨ o_3 = 1) (some (o_3)))
  else
  if (x0 = 3 : Prop) then
  bd (F_X12_in x1 0 999) (fun o_4 =>
  ck (o_4 = 0 ∨ o_4 = 1) (some (o_4)))
  else
  if (x0 = 4 : Prop) then
  bd (F_X12_in x1 1 8) (fun o_5 =>
  ck (o_5 = 0 ∨ o_5 = 1) (some (o_5)))
  else
  if (x0 = 5 : Prop) then
  bd (F_X12_in x1 0 1) (fun o_6 =>
  ck (o_6 = 0 ∨ o_6 = 1) (some (o_6)))
  else
  if (x0 = 6 : Prop) then
  if (x0 = 6 : Prop) then
  bd (F_X12_in x1 0 20) (fun o_7 =>
  if (o_7 = 0 : Prop) then
  some (0)
  else
  some (1))
  else
  some (0)
  else
  if (x0 = 7 : Prop) then
  bd (F_X12_in x1 0 999) (fun o_8 =>
  ck (o_8 = 0 ∨ o_8 = 1) (some (o_8)))
  else
  if (x0 = 6 : Prop) then
  bd (F_X12_in x1 0 20) (fun o_9 =>
  if (o_9 = 0 : Prop) then
  some (0)
  else
  some (1))
  else
  some (0)
noncomputable def F_X12_at  (g : Nat → Int32) (x1 : Int32) (x2 : Int32) : Option (Int32) :=
  ld g 8787 ((98 + (x1 * 9)) + x2) (fun v_1 =>
  some (v_1))
noncomputable def K_X12_weight_4 (N : Nat)  (rec : Int32 → Int32 → Option (Int32)) (k30 : Int32 → Option (Int32))  (g : Nat → Int32) (x1 : Int32) (x2 : Int32)  : Option (Int32) :=
  ld g 8787 13 (fun v_1 =>
  if (v_1 ≤ x2 : Prop) then
  k30 x1
  else
  bd (F_X12_at g x2 2) (fun o_2 =>
  lt (x1 + o_2) (fun x1_3 =>
  lt (x2 + 1) (fun x2_4 =>
  rec x1_3 x2_4))))
noncomputable def L_X12_weight_4 (N : Nat)  (k30 : Int32 → Option (Int32))  (g : Nat → Int32) (n : Nat) : Int32 → Int32 → Option (Int32) :=
  Nat.rec (motive := fun _ => Int32 → Int32 → Option (Int32)) (fun _ _ => none) (fun _ rec => K_X12_weight_4 N rec k30 g) n
noncomputable def F_X12_weight (N : Nat)  (g : Nat → Int32)  : Option (Int32) :=
  L_X12_weight_4 N (fun x1 => some (x1)) g N 0 0
noncomputable def F_X12_isOver  (g : Nat → Int32) (x1 : Int32) : Option (Int32) :=
  ld g 8787 2 (fun v_1 =>
  if (v_1 = 0 : Prop) then
  some (0)
  else
  ld g 8787 8 (fun v_2 =>
  ld g 8787 2 (fun v_3 =>
  if (v_2 < (x1 + v_3) : Prop) then
  some (0)
  else
  some (1))))
noncomputable def F_X12_isStale  (g : Nat → Int32) (x1 : Int32) : Option (Int32) :=
  bd (F_X12_at g x1 4) (fun o_1 =>
  bd (F_X12_isOver g o_1) (fun o_2 =>
  ck (o_2 = 0 ∨ o_2 = 1) (some (o_2))))
noncomputable def F_X12_isSooner  (g : Nat → Int32) (x1 : Int32) (x2 : Int32) : Option (Int32) :=
  bd (F_X12_isStale g x1) (fun o_1 =>
  bd (F_X12_isStale g x2) (fun o_2 =>
  if (o_1 = o_2 : Prop) then
  bd (F_X12_at g x1 5) (fun o_3 =>
  bd (F_X12_at g x2 5) (fun o_4 =>
  if (o_3 = o_4 : Prop) then
  bd (F_X12_at g x1 6) (fun o_5 =>
  bd (F_X12_at g x2 6) (fun o_6 =>
  if (o_5 = o_6 : Prop) then
  bd (F_X12_at g x1 7) (fun o_7 =>
  bd (F_X12_at g x2 7) (fun o_8 =>
  if (o_8 ≤ o_7 : Prop) then
  some (0)
  else
  some (1)))
  else
  bd (F_X12_at g x1 6) (fun o_9 =>
  bd (F_X12_at g x2 6) (fun o_10 =>
  if (o_10 ≤ o_9 : Prop) then
  some (0)
  else
  some (1)))))
  else
  bd (F_X12_at g x1 5) (fun o_11 =>
  bd (F_X12_at g x2 5) (fun o_12 =>
  if (o_12 ≤ o_11 : Prop) then
  some (0)
  else
  some (1)))))
  else
  bd (F_X12_isStale g x1) (fun o_13 =>
  ck (o_13 = 0 ∨ o_13 = 1) (some (o_13)))))
noncomputable def J_X12_firstToGo_40 (N : Nat)  (rec : Int32 → Int32 → Option (Int32)) (k46 : Int32 → Option (Int32)) (x1 : Int32) (x2 : Int32) (x3 : Int32) (g : Nat → Int32) : Option (Int32) :=
  lt (x3 + 1) (fun x3_3 =>
  rec x2 x3_3)
noncomputable def J_X12_firstToGo_38 (N : Nat)  (rec : Int32 → Int32 → Option (Int32)) (k46 : Int32 → Option (Int32)) (x1 : Int32) (x3 : Int32) (g : Nat → Int32) : Option (Int32) :=
  J_X12_firstToGo_40 N rec k46 x1 x3 x3 g
noncomputable def K_X12_firstToGo_4 (N : Nat)  (rec : Int32 → Int32 → Option (Int32)) (k46 : Int32 → Option (Int32)) (x1 : Int32) (g : Nat → Int32) (x2 : Int32) (x3 : Int32)  : Option (Int32) :=
  ld g 8787 13 (fun v_1 =>
  if (v_1 ≤ x3 : Prop) then
  k46 x2
  else
  bd (F_X12_at g x3 0) (fun o_2 =>
  if (o_2 = x1 : Prop) then
  J_X12_firstToGo_40 N rec k46 x1 x2 x3 g
  else
  if (x2 < 0 : Prop) then
  J_X12_firstToGo_38 N rec k46 x1 x3 g
  else
  bd (F_X12_isSooner g x3 x2) (fun o_4 =>
  if (o_4 = 0 : Prop) then
  J_X12_firstToGo_40 N rec k46 x1 x2 x3 g
  else
  J_X12_firstToGo_38 N rec k46 x1 x3 g)))
noncomputable def L_X12_firstToGo_4 (N : Nat)  (k46 : Int32 → Option (Int32)) (x1 : Int32) (g : Nat → Int32) (n : Nat) : Int32 → Int32 → Option (Int32) :=
  Nat.rec (motive := fun _ => Int32 → Int32 → Option (Int32)) (fun _ _ => none) (fun _ rec => K_X12_firstToGo_4 N rec k46 x1 g) n
noncomputable def F_X12_firstToGo (N : Nat)  (g : Nat → Int32) (x1 : Int32) : Option (Int32) :=
  L_X12_firstToGo_4 N (fun x2 => some (x2)) x1 g N ((-1)) 0
noncomputable def K_X12_takesOut_6 (N : Nat)  (rec : Int32 → (Nat → Int32) → (Option ((Nat → Int32)))) (k47 : (Nat → Int32) → (Option ((Nat → Int32)))) (x1 : Int32) (x2 : Int32) (x3 : Int32)  (x5 : Int32) (g : Nat → Int32) : Option ((Nat → Int32)) :=
  ld g 8787 x1 (fun v_2 =>
  if (((v_2 - 1) * x3) ≤ x5 : Prop) then
  k47 g
  else
  ld g 8787 ((x2 + x5) + x3) (fun v_3 =>
  sto g 8787 (x2 + x5) v_3 (fun g_4 =>
  lt (x5 + 1) (fun x5_5 =>
  rec x5_5 g_4))))
noncomputable def L_X12_takesOut_6 (N : Nat)  (k47 : (Nat → Int32) → (Option ((Nat → Int32)))) (x1 : Int32) (x2 : Int32) (x3 : Int32)  (n : Nat) : Int32 → (Nat → Int32) → (Option ((Nat → Int32))) :=
  Nat.rec (motive := fun _ => Int32 → (Nat → Int32) → (Option ((Nat → Int32)))) (fun _ _ => none) (fun _ rec => K_X12_takesOut_6 N rec k47 x1 x2 x3) n
noncomputable def F_X12_takesOut (N : Nat)  (g : Nat → Int32) (x1 : Int32) (x2 : Int32) (x3 : Int32) (x4 : Int32) : Option ((Nat → Int32)) :=
  lt (x4 * x3) (fun x5_1 =>
  L_X12_takesOut_6 N (fun g => ld g 8787 x1 (fun v_6 =>
  sto g 8787 x1 (v_6 - 1) (fun g_7 =>
  some (g_7)))) x1 x2 x3 N x5_1 g)
noncomputable def K_X12_coldRoom_0 (N : Nat)  (rec : (Nat → Int32) → (Option ((Nat → Int32)))) (k31 : (Nat → Int32) → (Option ((Nat → Int32))))    (g : Nat → Int32) : Option ((Nat → Int32)) :=
  ld g 8787 14 (fun v_4 =>
  ld g 8787 6 (fun v_5 =>
  if (v_4 ≤ v_5 : Prop) then
  k31 g
  else
  bd (F_X12_takesOut N g 14 1898 5 0) (fun o_6 =>
  rec o_6)))
noncomputable def L_X12_coldRoom_0 (N : Nat)  (k31 : (Nat → Int32) → (Option ((Nat → Int32))))   (n : Nat) : (Nat → Int32) → (Option ((Nat → Int32))) :=
  Nat.rec (motive := fun _ => (Nat → Int32) → (Option ((Nat → Int32)))) (fun _ => none) (fun _ rec => K_X12_coldRoom_0 N rec k31) n
noncomputable def F_X12_coldRoom (N : Nat)  (g : Nat → Int32)  : Option ((Nat → Int32)) :=
  ld g 8787 14 (fun v_1 =>
  ld g 8787 6 (fun v_2 =>
  if (v_1 ≤ v_2 : Prop) then
  some (g)
  else
  bd (F_X12_takesOut N g 14 1898 5 0) (fun o_3 =>
  L_X12_coldRoom_0 N (fun g => some (g)) N o_3)))
noncomputable def F_X12_cools (N : Nat)  (g : Nat → Int32) (x1 : Int32) (x2 : Int32) (x3 : Int32) (x4 : Int32) (x5 : Int32) : Option ((Nat → Int32)) :=
  ld g 8787 14 (fun v_1 =>
  lt (1898 + (v_1 * 5)) (fun x6_2 =>
  sto g 8787 (x6_2 + 0) x1 (fun g_3 =>
  sto g_3 8787 (x6_2 + 1) x2 (fun g_4 =>
  sto g_4 8787 (x6_2 + 2) x3 (fun g_5 =>
  sto g_5 8787 (x6_2 + 3) x4 (fun g_6 =>
  sto g_6 8787 (x6_2 + 4) x5 (fun g_7 =>
  ld g_7 8787 14 (fun v_8 =>
  sto g_7 8787 14 (v_8 + 1) (fun g_9 =>
  bd (F_X12_coldRoom N g_9) (fun o_10 =>
  some (o_10)))))))))))
noncomputable def J_X12_slot_61 (N : Nat)   (x1 : Int32) (x2 : Int32) (x3 : Int32) (g : Nat → Int32) : Option (Int32 × (Nat → Int32)) :=
  ld g 8787 x1 (fun v_2 =>
  sto g 8787 x1 (v_2 + 1) (fun g_3 =>
  ld g_3 8787 x1 (fun v_4 =>
  some (x2 + ((v_4 - 1) * x3), g_3))))
noncomputable def K_X12_slot_14 (N : Nat)  (rec : Int32 → (Nat → Int32) → (Option (Int32 × (Nat → Int32)))) (k51 : (Nat → Int32) → (Option (Int32 × (Nat → Int32)))) (x1 : Int32) (x2 : Int32) (x3 : Int32) (x4 : Int32)  (x5 : Int32) (g : Nat → Int32) : Option (Int32 × (Nat → Int32)) :=
  if (((x4 - 1) * x3) ≤ x5 : Prop) then
  k51 g
  else
  ld g 8787 ((x2 + x5) + x3) (fun v_5 =>
  sto g 8787 (x2 + x5) v_5 (fun g_6 =>
  lt (x5 + 1) (fun x5_7 =>
  rec x5_7 g_6)))
noncomputable def L_X12_slot_14 (N : Nat)  (k51 : (Nat → Int32) → (Option (Int32 × (Nat → Int32)))) (x1 : Int32) (x2 : Int32) (x3 : Int32) (x4 : Int32)  (n : Nat) : Int32 → (Nat → Int32) → (Option (Int32 × (Nat → Int32))) :=
  Nat.rec (motive := fun _ => Int32 → (Nat → Int32) → (Option (Int32 × (Nat → Int32)))) (fun _ _ => none) (fun _ rec => K_X12_slot_14 N rec k51 x1 x2 x3 x4) n
noncomputable def F_X12_slot (N : Nat)  (g : Nat → Int32) (x1 : Int32) (x2 : Int32) (x3 : Int32) (x4 : Int32) : Option (Int32 × (Nat → Int32)) :=
  ld g 8787 x1 (fun v_1 =>
  if (v_1 = x4 : Prop) then
  L_X12_slot_14 N (fun g => ld g 8787 x1 (fun v_8 =>
  sto g 8787 x1 (v_8 - 1) (fun g_9 =>
  J_X12_slot_61 N x1 x2 x3 g_9))) x1 x2 x3 x4 N 0 g
  else
  J_X12_slot_61 N x1 x2 x3 g)
noncomputable def K_X12_sizeOf_4 (N : Nat)  (rec : Int32 → Int32 → Option (Int32)) (k19 : Int32 → Option (Int32))   (x1 : Int32) (x2 : Int32)  : Option (Int32) :=
  if (x2 ≤ 0 : Prop) then
  k19 x1
  else
  lt (x1 + 1) (fun x1_1 =>
  lt (x2 / 27) (fun x2_2 =>
  rec x1_1 x2_2))
noncomputable def L_X12_sizeOf_4 (N : Nat)  (k19 : Int32 → Option (Int32))   (n : Nat) : Int32 → Int32 → Option (Int32) :=
  Nat.rec (motive := fun _ => Int32 → Int32 → Option (Int32)) (fun _ _ => none) (fun _ rec => K_X12_sizeOf_4 N rec k19) n
noncomputable def F_X12_sizeOf (N : Nat)   (x0 : Int32) : Option (Int32) :=
  L_X12_sizeOf_4 N (fun x1 => some (x1)) N 0 x0
noncomputable def K_X12_byteOf_9 (N : Nat)  (rec : Int32 → Int32 → Option (Int32)) (k25 : Int32 → Option (Int32)) (x1 : Int32)  (x2 : Int32) (x3 : Int32)  : Option (Int32) :=
  if (x3 ≤ x1 : Prop) then
  k25 x2
  else
  lt (x2 / 27) (fun x2_3 =>
  lt (x3 + (-1)) (fun x3_4 =>
  rec x2_3 x3_4))
noncomputable def L_X12_byteOf_9 (N : Nat)  (k25 : Int32 → Option (Int32)) (x1 : Int32)  (n : Nat) : Int32 → Int32 → Option (Int32) :=
  Nat.rec (motive := fun _ => Int32 → Int32 → Option (Int32)) (fun _ _ => none) (fun _ rec => K_X12_byteOf_9 N rec k25 x1) n
noncomputable def F_X12_byteOf (N : Nat)   (x0 : Int32) (x1 : Int32) : Option (Int32) :=
  bd (F_X12_sizeOf N x0) (fun o_1 =>
  lt (o_1 - 1) (fun x3_2 =>
  L_X12_byteOf_9 N (fun x2 => some (96 + (irm x2 27))) x1 N x0 x3_2))
noncomputable def K_X12_hashOf_10 (N : Nat)  (rec : Int32 → Int32 → Option (Int32)) (k32 : Int32 → Option (Int32)) (x0 : Int32) (x2 : Int32)  (x1 : Int32) (x3 : Int32)  : Option (Int32) :=
  if (x2 ≤ x3 : Prop) then
  k32 x1
  else
  bd (F_X12_byteOf N x0 x3) (fun o_2 =>
  lt ((x1 * 31) + o_2) (fun x1_3 =>
  lt (x3 + 1) (fun x3_4 =>
  rec x1_3 x3_4)))
noncomputable def L_X12_hashOf_10 (N : Nat)  (k32 : Int32 → Option (Int32)) (x0 : Int32) (x2 : Int32)  (n : Nat) : Int32 → Int32 → Option (Int32) :=
  Nat.rec (motive := fun _ => Int32 → Int32 → Option (Int32)) (fun _ _ => none) (fun _ rec => K_X12_hashOf_10 N rec k32 x0 x2) n
noncomputable def F_X12_hashOf (N : Nat)   (x0 : Int32) : Option (Int32) :=
  bd (F_X12_sizeOf N x0) (fun o_1 =>
  L_X12_hashOf_10 N (fun x1 => some (x1)) x0 o_1 N 7 0)
noncomputable def J_X12_happens_54 (N : Nat)   (t1 : Int32) (t2 : Int32) (g : Nat → Int32) : Option ((Nat → Int32)) :=
  sto g 8787 t1 t2 (fun g_6 =>
  some (g_6))
noncomputable def F_X12_happens (N : Nat)  (g : Nat → Int32) (x1 : Int32) (x2 : Int32) : Option ((Nat → Int32)) :=
  bd (F_X12_slot N g 19 8667 3 40) (fun o_1 =>
  sto o_1.2 8787 o_1.1 x1 (fun g_2 =>
  ld g_2 8787 8 (fun v_3 =>
  sto g_2 8787 (o_1.1 + 1) v_3 (fun g_4 =>
  if (x2 = 0 : Prop) then
  J_X12_happens_54 N (o_1.1 + 2) 0 g_4
  else
  bd (F_X12_hashOf N x2) (fun o_5 =>
  J_X12_happens_54 N (o_1.1 + 2) o_5 g_4)))))
noncomputable def F_X12_writes (N : Nat)  (g : Nat → Int32) (x1 : Int32) (x2 : Int32) : Option ((Nat → Int32)) :=
  bd (F_X12_slot N g 17 8527 2 40) (fun o_1 =>
  sto o_1.2 8787 o_1.1 x1 (fun g_2 =>
  sto g_2 8787 (o_1.1 + 1) x2 (fun g_3 =>
  ld g_3 8787 31 (fun v_4 =>
  sto g_3 8787 31 (v_4 + 1) (fun g_5 =>
  bd (F_X12_happens N g_5 11 x1) (fun o_6 =>
  some (o_6)))))))
noncomputable def J_X12_leaves_26 (N : Nat)   (x1 : Int32) (x2 : Int32) (g : Nat → Int32) : Option ((Nat → Int32)) :=
  bd (F_X12_at g x1 0) (fun o_2 =>
  bd (F_X12_happens N g x2 o_2) (fun o_3 =>
  bd (F_X12_takesOut N o_3 13 98 9 x1) (fun o_4 =>
  some (o_4))))
noncomputable def F_X12_leaves (N : Nat)  (g : Nat → Int32) (x1 : Int32) (x2 : Int32) : Option ((Nat → Int32)) :=
  bd (F_X12_at g x1 8) (fun o_1 =>
  if (o_1 = 0 : Prop) then
  J_X12_leaves_26 N x1 x2 g
  else
  bd (F_X12_at g x1 0) (fun o_5 =>
  bd (F_X12_at g x1 1) (fun o_6 =>
  bd (F_X12_writes N g o_5 o_6) (fun o_7 =>
  J_X12_leaves_26 N x1 x2 o_7))))
noncomputable def J_X12_yields_81 (N : Nat)   (x1 : Int32) (g : Nat → Int32) : Option ((Nat → Int32)) :=
  bd (F_X12_leaves N g x1 7) (fun o_5 =>
  some (o_5))
noncomputable def J_X12_yields_13 (N : Nat)   (t0 : Int32) (x1 : Int32) (g : Nat → Int32) : Option ((Nat → Int32)) :=
  lt (98 + (x1 * 9)) (fun x3_2 =>
  ld g 8787 27 (fun v_3 =>
  sto g 8787 27 (v_3 + 1) (fun g_4 =>
  if (t0 = 0 : Prop) then
  J_X12_yields_81 N x1 g_4
  else
  ld g_4 8787 (x3_2 + 0) (fun v_6 =>
  ld g_4 8787 (x3_2 + 1) (fun v_7 =>
  ld g_4 8787 (x3_2 + 2) (fun v_8 =>
  ld g_4 8787 (x3_2 + 3) (fun v_9 =>
  ld g_4 8787 (x3_2 + 4) (fun v_10 =>
  bd (F_X12_cools N g_4 v_6 v_7 v_8 v_9 v_10) (fun o_11 =>
  J_X12_yields_81 N x1 o_11)))))))))
noncomputable def F_X12_yields (N : Nat)  (g : Nat → Int32) (x1 : Int32) : Option ((Nat → Int32)) :=
  bd (F_X12_isStale g x1) (fun o_1 =>
  if (o_1 = 0 : Prop) then
  J_X12_yields_13 N 1 x1 g
  else
  J_X12_yields_13 N 0 x1 g)
noncomputable def K_X12_makesRoom_0 (N : Nat)  (rec : (Nat → Int32) → (Option ((Nat → Int32)))) (k27 : (Nat → Int32) → (Option ((Nat → Int32)))) (x1 : Int32) (x2 : Int32)   (g : Nat → Int32) : Option ((Nat → Int32)) :=
  bd (F_X12_weight N g) (fun o_5 =>
  ld g 8787 0 (fun v_6 =>
  if ((o_5 + x1) ≤ v_6 : Prop) then
  k27 g
  else
  bd (F_X12_firstToGo N g x2) (fun o_7 =>
  bd (F_X12_yields N g o_7) (fun o_8 =>
  rec o_8))))
noncomputable def L_X12_makesRoom_0 (N : Nat)  (k27 : (Nat → Int32) → (Option ((Nat → Int32)))) (x1 : Int32) (x2 : Int32)  (n : Nat) : (Nat → Int32) → (Option ((Nat → Int32))) :=
  Nat.rec (motive := fun _ => (Nat → Int32) → (Option ((Nat → Int32)))) (fun _ => none) (fun _ rec => K_X12_makesRoom_0 N rec k27 x1 x2) n
noncomputable def F_X12_makesRoom (N : Nat)  (g : Nat → Int32) (x1 : Int32) (x2 : Int32) : Option ((Nat → Int32)) :=
  bd (F_X12_weight N g) (fun o_1 =>
  ld g 8787 0 (fun v_2 =>
  if ((o_1 + x1) ≤ v_2 : Prop) then
  some (g)
  else
  bd (F_X12_firstToGo N g x2) (fun o_3 =>
  bd (F_X12_yields N g o_3) (fun o_4 =>
  L_X12_makesRoom_0 N (fun g => some (g)) x1 x2 N o_4))))
noncomputable def F_X12_loadAt  (g : Nat → Int32) (x1 : Int32) (x2 : Int32) : Option (Int32) :=
  ld g 8787 ((2003 + (x1 * 20)) + x2) (fun v_1 =>
  some (v_1))
noncomputable def J_X12_loads_31 (N : Nat)  (rec : Int32 → Int32 → Option (Int32)) (k39 : Int32 → Option (Int32)) (t0 : Int32) (t1 : Int32) (x1 : Int32) (x3 : Int32) (g : Nat → Int32) : Option (Int32) :=
  lt (t0 + t1) (fun x2_3 =>
  lt (x3 + 1) (fun x3_4 =>
  rec x2_3 x3_4))
noncomputable def K_X12_loads_4 (N : Nat)  (rec : Int32 → Int32 → Option (Int32)) (k39 : Int32 → Option (Int32)) (x1 : Int32) (g : Nat → Int32) (x2 : Int32) (x3 : Int32)  : Option (Int32) :=
  ld g 8787 15 (fun v_1 =>
  if (v_1 ≤ x3 : Prop) then
  k39 x2
  else
  bd (F_X12_loadAt g x3 1) (fun o_2 =>
  if (o_2 = x1 : Prop) then
  J_X12_loads_31 N rec k39 x2 1 x1 x3 g
  else
  J_X12_loads_31 N rec k39 x2 0 x1 x3 g))
noncomputable def L_X12_loads_4 (N : Nat)  (k39 : Int32 → Option (Int32)) (x1 : Int32) (g : Nat → Int32) (n : Nat) : Int32 → Int32 → Option (Int32) :=
  Nat.rec (motive := fun _ => Int32 → Int32 → Option (Int32)) (fun _ _ => none) (fun _ rec => K_X12_loads_4 N rec k39 x1 g) n
noncomputable def F_X12_loads (N : Nat)  (g : Nat → Int32) (x1 : Int32) : Option (Int32) :=
  L_X12_loads_4 N (fun x2 => some (x2)) x1 g N 0 0
noncomputable def J_X12_runs_126 (N : Nat)  (rec : Int32 → Int32 → (Nat → Int32) → (Option ((Nat → Int32)))) (k132 : (Nat → Int32) → (Option ((Nat → Int32)))) (x1 : Int32) (x2 : Int32) (g : Nat → Int32) : Option ((Nat → Int32)) :=
  lt (x2 + 1) (fun x2_6 =>
  rec x1 x2_6 g)
noncomputable def K_X12_runs_15 (N : Nat)  (rec : Int32 → Int32 → (Nat → Int32) → (Option ((Nat → Int32)))) (k132 : (Nat → Int32) → (Option ((Nat → Int32))))   (x1 : Int32) (x2 : Int32) (g : Nat → Int32) : Option ((Nat → Int32)) :=
  ld g 8787 15 (fun v_4 =>
  if (v_4 ≤ x2 : Prop) then
  k132 g
  else
  if (x1 ≤ 0 : Prop) then
  k132 g
  else
  bd (F_X12_loadAt g x2 1) (fun o_5 =>
  if (o_5 = 1 : Prop) then
  sto g 8787 ((2003 + (x2 * 20)) + 1) 2 (fun g_7 =>
  ld g_7 8787 8 (fun v_8 =>
  sto g_7 8787 ((2003 + (x2 * 20)) + 2) v_8 (fun g_9 =>
  bd (F_X12_slot N g_9 16 8467 1 60) (fun o_10 =>
  bd (F_X12_loadAt o_10.2 x2 0) (fun o_11 =>
  sto o_10.2 8787 o_10.1 o_11 (fun g_12 =>
  ld g_12 8787 22 (fun v_13 =>
  sto g_12 8787 22 (v_13 + 1) (fun g_14 =>
  bd (F_X12_loadAt g_14 x2 0) (fun o_15 =>
  bd (F_X12_happens N g_14 3 o_15) (fun o_16 =>
  lt (x1 + (-1)) (fun x1_17 =>
  J_X12_runs_126 N rec k132 x1_17 x2 o_16)))))))))))
  else
  J_X12_runs_126 N rec k132 x1 x2 g))
noncomputable def L_X12_runs_15 (N : Nat)  (k132 : (Nat → Int32) → (Option ((Nat → Int32))))   (n : Nat) : Int32 → Int32 → (Nat → Int32) → (Option ((Nat → Int32))) :=
  Nat.rec (motive := fun _ => Int32 → Int32 → (Nat → Int32) → (Option ((Nat → Int32)))) (fun _ _ _ => none) (fun _ rec => K_X12_runs_15 N rec k132) n
noncomputable def F_X12_runs (N : Nat)  (g : Nat → Int32)  : Option ((Nat → Int32)) :=
  ld g 8787 4 (fun v_1 =>
  bd (F_X12_loads N g 2) (fun o_2 =>
  lt (v_1 - o_2) (fun x1_3 =>
  L_X12_runs_15 N (fun g => some (g)) N x1_3 0 g)))
noncomputable def F_X12_rule (N : Nat)  (g : Nat → Int32) (x1 : Int32) (x2 : Int32) : Option (Int32 × (Nat → Int32)) :=
  bd (F_X12_isRule x1 x2) (fun o_1 =>
  if (o_1 = 0 : Prop) then
  some ((-1001), g)
  else
  ld g 8787 x1 (fun v_2 =>
  sto g 8787 x1 x2 (fun g_3 =>
  if (x1 = 0 : Prop) then
  bd (F_X12_makesRoom N g_3 0 0) (fun o_7 =>
  some (v_2, o_7))
  else
  if (x1 = 1 : Prop) then
  sto g_3 8787 11 0 (fun g_6 =>
  some (v_2, g_6))
  else
  if (x1 = 4 : Prop) then
  bd (F_X12_runs N g_3) (fun o_5 =>
  some (v_2, o_5))
  else
  if (x1 = 6 : Prop) then
  bd (F_X12_coldRoom N g_3) (fun o_4 =>
  some (v_2, o_4))
  else
  some (v_2, g_3))))
noncomputable def J_X12_delivers_56 (N : Nat)  (rec : Int32 → (Nat → Int32) → (Option (Int32 × (Nat → Int32)))) (k141 : (Nat → Int32) → (Option (Int32 × (Nat → Int32)))) (t1 : Int32) (t2 : Int32) (t3 : Int32) (x1 : Int32) (x2 : Int32) (x3 : Int32) (x4 : Int32) (x5 : Int32) (g : Nat → Int32) : Option (Int32 × (Nat → Int32)) :=
  sto g 8787 t1 (t2 + t3) (fun g_5 =>
  bd (F_X12_slot N g_5 (8003 + x5) (8019 + (24 * x5)) 2 12) (fun o_6 =>
  bd (F_X12_loadAt o_6.2 x1 0) (fun o_7 =>
  sto o_6.2 8787 o_6.1 o_7 (fun g_8 =>
  sto g_8 8787 (o_6.1 + 1) x2 (fun g_9 =>
  ld g_9 8787 28 (fun v_10 =>
  sto g_9 8787 28 (v_10 + 1) (fun g_11 =>
  ld g_11 8787 ((8403 + (4 * x5)) + 2) (fun v_12 =>
  sto g_11 8787 ((8403 + (4 * x5)) + 2) (v_12 + 1) (fun g_13 =>
  lt (x4 + 1) (fun x4_14 =>
  rec x4_14 g_13))))))))))
noncomputable def K_X12_delivers_10 (N : Nat)  (rec : Int32 → (Nat → Int32) → (Option (Int32 × (Nat → Int32)))) (k141 : (Nat → Int32) → (Option (Int32 × (Nat → Int32)))) (x1 : Int32) (x2 : Int32) (x3 : Int32)  (x4 : Int32) (g : Nat → Int32) : Option (Int32 × (Nat → Int32)) :=
  if (x3 ≤ x4 : Prop) then
  k141 g
  else
  bd (F_X12_loadAt g x1 (4 + x4)) (fun o_2 =>
  ld g 8787 29 (fun v_3 =>
  ld g 8787 (8003 + o_2) (fun v_4 =>
  if (v_4 = 12 : Prop) then
  J_X12_delivers_56 N rec k141 29 v_3 1 x1 x2 x3 x4 o_2 g
  else
  J_X12_delivers_56 N rec k141 29 v_3 0 x1 x2 x3 x4 o_2 g)))
noncomputable def L_X12_delivers_10 (N : Nat)  (k141 : (Nat → Int32) → (Option (Int32 × (Nat → Int32)))) (x1 : Int32) (x2 : Int32) (x3 : Int32)  (n : Nat) : Int32 → (Nat → Int32) → (Option (Int32 × (Nat → Int32))) :=
  Nat.rec (motive := fun _ => Int32 → (Nat → Int32) → (Option (Int32 × (Nat → Int32)))) (fun _ _ => none) (fun _ rec => K_X12_delivers_10 N rec k141 x1 x2 x3) n
noncomputable def F_X12_delivers (N : Nat)  (g : Nat → Int32) (x1 : Int32) (x2 : Int32) : Option (Int32 × (Nat → Int32)) :=
  bd (F_X12_loadAt g x1 3) (fun o_1 =>
  L_X12_delivers_10 N (fun g => bd (F_X12_takesOut N g 15 2003 20 x1) (fun o_15 =>
  some (o_1, o_15))) x1 x2 o_1 N 0 g)
noncomputable def F_X12_fails (N : Nat)  (g : Nat → Int32) (x1 : Int32) (x2 : Int32) : Option (Int32 × (Nat → Int32)) :=
  bd (F_X12_loadAt g x1 0) (fun o_1 =>
  bd (F_X12_delivers N g x1 (-x2)) (fun o_2 =>
  ld o_2.2 8787 25 (fun v_3 =>
  sto o_2.2 8787 25 (v_3 + 1) (fun g_4 =>
  bd (F_X12_happens N g_4 6 o_1) (fun o_5 =>
  bd (F_X12_runs N o_5) (fun o_6 =>
  some (o_2.1, o_6)))))))
noncomputable def J_X12_step_137 (N : Nat)  (rec : Int32 → (Nat → Int32) → (Option (Int32 × (Nat → Int32)))) (k143 : (Nat → Int32) → (Option (Int32 × (Nat → Int32)))) (x2 : Int32) (g : Nat → Int32) : Option (Int32 × (Nat → Int32)) :=
  lt (x2 + 1) (fun x2_8 =>
  rec x2_8 g)
noncomputable def K_X12_step_46 (N : Nat)  (rec : Int32 → (Nat → Int32) → (Option (Int32 × (Nat → Int32)))) (k143 : (Nat → Int32) → (Option (Int32 × (Nat → Int32))))   (x2 : Int32) (g : Nat → Int32) : Option (Int32 × (Nat → Int32)) :=
  ld g 8787 7 (fun v_5 =>
  if (v_5 ≤ 0 : Prop) then
  k143 g
  else
  ld g 8787 15 (fun v_6 =>
  if (v_6 ≤ x2 : Prop) then
  k143 g
  else
  bd (F_X12_loadAt g x2 1) (fun o_7 =>
  if (o_7 = 2 : Prop) then
  ld g 8787 8 (fun v_9 =>
  bd (F_X12_loadAt g x2 2) (fun o_10 =>
  ld g 8787 7 (fun v_11 =>
  if (v_9 < (o_10 + v_11) : Prop) then
  J_X12_step_137 N rec k143 x2 g
  else
  bd (F_X12_loadAt g x2 0) (fun o_12 =>
  bd (F_X12_happens N g 13 o_12) (fun o_13 =>
  ld o_13 8787 33 (fun v_14 =>
  sto o_13 8787 33 (v_14 + 1) (fun g_15 =>
  bd (F_X12_fails N g_15 x2 99) (fun o_16 =>
  rec x2 o_16.2))))))))
  else
  J_X12_step_137 N rec k143 x2 g)))
noncomputable def L_X12_step_46 (N : Nat)  (k143 : (Nat → Int32) → (Option (Int32 × (Nat → Int32))))   (n : Nat) : Int32 → (Nat → Int32) → (Option (Int32 × (Nat → Int32))) :=
  Nat.rec (motive := fun _ => Int32 → (Nat → Int32) → (Option (Int32 × (Nat → Int32)))) (fun _ _ => none) (fun _ rec => K_X12_step_46 N rec k143) n
noncomputable def F_X12_step (N : Nat)  (g : Nat → Int32) (x1 : Int32) : Option (Int32 × (Nat → Int32)) :=
  bd (F_X12_in x1 1 1000) (fun o_1 =>
  if (o_1 = 0 : Prop) then
  some ((-1001), g)
  else
  ld g 8787 8 (fun v_2 =>
  if ((v_2 + x1) ≤ 99999 : Prop) then
  ld g 8787 8 (fun v_3 =>
  sto g 8787 8 (v_3 + x1) (fun g_4 =>
  L_X12_step_46 N (fun g => ld g 8787 8 (fun v_17 =>
  some (v_17, g))) N 0 g_4))
  else
  some ((-1004), g)))
noncomputable def J_X12_feed_21   (x1 : Int32) (tape : Nat → Int32) (taped : Int32) : Option (Int32 × (Nat → Int32) × Int32) :=
  if (taped = 60 : Prop) then
  some ((-1004), tape, taped)
  else
  sto tape 60 taped (vp_nar .byte x1.toInt8.toInt32) (fun tape_2 =>
  lt ((taped + 1)) (fun taped_3 =>
  some (taped_3, tape_2, taped_3)))
noncomputable def F_X12_feed  (tape : Nat → Int32) (taped : Int32) (x1 : Int32) : Option (Int32 × (Nat → Int32) × Int32) :=
  bd (F_X12_in x1 97 122) (fun o_1 =>
  if (o_1 = 0 : Prop) then
  if (x1 = 32 : Prop) then
  J_X12_feed_21 x1 tape taped
  else
  some ((-1001), tape, taped)
  else
  J_X12_feed_21 x1 tape taped)
noncomputable def F_X12_isAsker   (x0 : Int32) : Option (Int32) :=
  bd (F_X12_in x0 0 15) (fun o_1 =>
  ck (o_1 = 0 ∨ o_1 = 1) (some (o_1)))
noncomputable def K_X12_keyAt_7 (N : Nat)  (rec : Int32 → Int32 → Option (Int32 × Int32)) (k81 : Int32 → Int32 → Option (Int32 × Int32)) (x1 : Int32) (tape : Nat → Int32) (taped : Int32) (x2 : Int32) (spot : Int32) : Option (Int32 × Int32) :=
  if (taped ≤ spot : Prop) then
  k81 x2 spot
  else
  ld tape 60 spot (fun v_2 =>
  bd (F_X12_in v_2 97 122) (fun o_3 =>
  if (o_3 = 0 : Prop) then
  k81 x2 spot
  else
  if (6 ≤ (spot - x1) : Prop) then
  k81 x2 spot
  else
  ld tape 60 spot (fun v_4 =>
  lt ((((x2 * 27) + v_4) - 97) + 1) (fun x2_5 =>
  lt ((spot + 1)) (fun spot_6 =>
  rec x2_5 spot_6)))))
noncomputable def L_X12_keyAt_7 (N : Nat)  (k81 : Int32 → Int32 → Option (Int32 × Int32)) (x1 : Int32) (tape : Nat → Int32) (taped : Int32) (n : Nat) : Int32 → Int32 → Option (Int32 × Int32) :=
  Nat.rec (motive := fun _ => Int32 → Int32 → Option (Int32 × Int32)) (fun _ _ => none) (fun _ rec => K_X12_keyAt_7 N rec k81 x1 tape taped) n
noncomputable def F_X12_keyAt (N : Nat)  (tape : Nat → Int32) (taped : Int32) (spot : Int32) (x1 : Int32) : Option (Int32 × Int32) :=
  lt (x1) (fun spot_1 =>
  L_X12_keyAt_7 N (fun x2 spot => some (x2, spot)) x1 tape taped N 0 spot_1)
noncomputable def J_X12_takesKey_22 (N : Nat)   (t0 : Int32) (x1 : Int32) (tape : Nat → Int32) (taped : Int32) (spot : Int32) : Option (Int32 × Int32 × Int32) :=
  lt (0) (fun taped_2 =>
  if (t0 = 0 : Prop) then
  some (0, taped_2, spot)
  else
  some (x1, taped_2, spot))
noncomputable def F_X12_takesKey (N : Nat)  (tape : Nat → Int32) (taped : Int32) (spot : Int32)  : Option (Int32 × Int32 × Int32) :=
  bd (F_X12_keyAt N tape taped spot 0) (fun o_1 =>
  if (o_1.2 = taped : Prop) then
  J_X12_takesKey_22 N 1 o_1.1 tape taped o_1.2
  else
  J_X12_takesKey_22 N 0 o_1.1 tape taped o_1.2)
noncomputable def F_X12_placeOf (N : Nat)   (x0 : Int32) (x1 : Int32) : Option (Int32) :=
  bd (F_X12_hashOf N x0) (fun o_1 =>
  some (irm (ush (o_1 * ((2 * x1) + 1)) (3 + (5 * x1))) 16))
noncomputable def K_X12_uses_58 (N : Nat)  (rec : Int32 → (Nat → Int32) → (Option ((Nat → Int32)))) (k105 : (Nat → Int32) → (Option ((Nat → Int32)))) (x1 : Int32)  (x3 : Int32) (g : Nat → Int32) : Option ((Nat → Int32)) :=
  if (4 ≤ x3 : Prop) then
  k105 g
  else
  bd (F_X12_placeOf N x1 x3) (fun o_9 =>
  lt ((34 + (16 * x3)) + o_9) (fun x4_10 =>
  ld g 8787 x4_10 (fun v_11 =>
  sto g 8787 x4_10 (imn 15 (v_11 + 1)) (fun g_12 =>
  lt (x3 + 1) (fun x3_13 =>
  rec x3_13 g_12)))))
noncomputable def L_X12_uses_58 (N : Nat)  (k105 : (Nat → Int32) → (Option ((Nat → Int32)))) (x1 : Int32)  (n : Nat) : Int32 → (Nat → Int32) → (Option ((Nat → Int32))) :=
  Nat.rec (motive := fun _ => Int32 → (Nat → Int32) → (Option ((Nat → Int32)))) (fun _ _ => none) (fun _ rec => K_X12_uses_58 N rec k105 x1) n
noncomputable def F_X12_uses (N : Nat)  (g : Nat → Int32) (x1 : Int32) (x2 : Int32) : Option ((Nat → Int32)) :=
  ld g 8787 9 (fun v_1 =>
  sto g 8787 9 (v_1 + 1) (fun g_2 =>
  ld g_2 8787 20 (fun v_3 =>
  sto g_2 8787 20 (v_3 + 1) (fun g_4 =>
  ld g_4 8787 (8403 + (4 * x2)) (fun v_5 =>
  sto g_4 8787 (8403 + (4 * x2)) (v_5 + 1) (fun g_6 =>
  bd (F_X12_slot N g_6 18 8607 1 60) (fun o_7 =>
  sto o_7.2 8787 o_7.1 x1 (fun g_8 =>
  L_X12_uses_58 N (fun g => some (g)) x1 N 0 g_8))))))))
noncomputable def K_X12_entryOf_2 (N : Nat)  (rec : Int32 → Option (Int32)) (k31 : Unit → Option (Int32)) (k23 : Int32 → Option (Int32)) (x1 : Int32) (g : Nat → Int32) (x2 : Int32)  : Option (Int32) :=
  ld g 8787 13 (fun v_1 =>
  if (v_1 ≤ x2 : Prop) then
  k31 ()
  else
  bd (F_X12_at g x2 0) (fun o_2 =>
  if (o_2 = x1 : Prop) then
  k23 x2
  else
  lt (x2 + 1) (fun x2_3 =>
  rec x2_3)))
noncomputable def L_X12_entryOf_2 (N : Nat)  (k31 : Unit → Option (Int32)) (k23 : Int32 → Option (Int32)) (x1 : Int32) (g : Nat → Int32) (n : Nat) : Int32 → Option (Int32) :=
  Nat.rec (motive := fun _ => Int32 → Option (Int32)) (fun _ => none) (fun _ rec => K_X12_entryOf_2 N rec k31 k23 x1 g) n
noncomputable def F_X12_entryOf (N : Nat)  (g : Nat → Int32) (x1 : Int32) : Option (Int32) :=
  L_X12_entryOf_2 N (fun _ => some ((-1))) (fun x2 => some (x2)) x1 g N 0
noncomputable def F_X12_sets  (g : Nat → Int32) (x1 : Int32) (x2 : Int32) (x3 : Int32) : Option ((Nat → Int32)) :=
  sto g 8787 ((98 + (x1 * 9)) + x2) x3 (fun g_1 =>
  some (g_1))
noncomputable def F_X12_isDue  (g : Nat → Int32) (x1 : Int32) : Option (Int32) :=
  bd (F_X12_isStale g x1) (fun o_1 =>
  if (o_1 = 0 : Prop) then
  ld g 8787 3 (fun v_2 =>
  if (v_2 = 0 : Prop) then
  some (0)
  else
  ld g 8787 8 (fun v_3 =>
  bd (F_X12_at g x1 4) (fun o_4 =>
  ld g 8787 3 (fun v_5 =>
  if (v_3 < (o_4 + v_5) : Prop) then
  some (0)
  else
  some (1)))))
  else
  some (0))
noncomputable def K_X12_loadOf_2 (N : Nat)  (rec : Int32 → Option (Int32)) (k31 : Unit → Option (Int32)) (k23 : Int32 → Option (Int32)) (x1 : Int32) (g : Nat → Int32) (x2 : Int32)  : Option (Int32) :=
  ld g 8787 15 (fun v_1 =>
  if (v_1 ≤ x2 : Prop) then
  k31 ()
  else
  bd (F_X12_loadAt g x2 0) (fun o_2 =>
  if (o_2 = x1 : Prop) then
  k23 x2
  else
  lt (x2 + 1) (fun x2_3 =>
  rec x2_3)))
noncomputable def L_X12_loadOf_2 (N : Nat)  (k31 : Unit → Option (Int32)) (k23 : Int32 → Option (Int32)) (x1 : Int32) (g : Nat → Int32) (n : Nat) : Int32 → Option (Int32) :=
  Nat.rec (motive := fun _ => Int32 → Option (Int32)) (fun _ => none) (fun _ rec => K_X12_loadOf_2 N rec k31 k23 x1 g) n
noncomputable def F_X12_loadOf (N : Nat)  (g : Nat → Int32) (x1 : Int32) : Option (Int32) :=
  L_X12_loadOf_2 N (fun _ => some ((-1))) (fun x2 => some (x2)) x1 g N 0
noncomputable def J_X12_lines_60 (N : Nat)   (t1 : Int32) (t2 : Int32) (x1 : Int32) (x2 : Int32) (x3 : Int32) (g : Nat → Int32) : Option ((Nat → Int32)) :=
  sto g 8787 t1 t2 (fun g_7 =>
  sto g_7 8787 (x3 + 4) x2 (fun g_8 =>
  bd (F_X12_happens N g_8 1 x1) (fun o_9 =>
  bd (F_X12_runs N o_9) (fun o_10 =>
  some (o_10)))))
noncomputable def F_X12_lines (N : Nat)  (g : Nat → Int32) (x1 : Int32) (x2 : Int32) : Option ((Nat → Int32)) :=
  ld g 8787 15 (fun v_1 =>
  lt (2003 + (v_1 * 20)) (fun x3_2 =>
  ld g 8787 15 (fun v_3 =>
  sto g 8787 15 (v_3 + 1) (fun g_4 =>
  sto g_4 8787 (x3_2 + 0) x1 (fun g_5 =>
  sto g_5 8787 (x3_2 + 1) 1 (fun g_6 =>
  if (0 ≤ x2 : Prop) then
  J_X12_lines_60 N (x3_2 + 3) 1 x1 x2 x3_2 g_6
  else
  J_X12_lines_60 N (x3_2 + 3) 0 x1 x2 x3_2 g_6))))))
noncomputable def J_X12_hits_98 (N : Nat)   (x1 : Int32) (g : Nat → Int32) : Option (Int32 × (Nat → Int32)) :=
  bd (F_X12_at g x1 1) (fun o_12 =>
  some (o_12, g))
noncomputable def F_X12_hits (N : Nat)  (g : Nat → Int32) (x1 : Int32) (x2 : Int32) : Option (Int32 × (Nat → Int32)) :=
  bd (F_X12_at g x1 5) (fun o_1 =>
  bd (F_X12_sets g x1 5 (imn 999 (o_1 + 1))) (fun o_2 =>
  ld o_2 8787 9 (fun v_3 =>
  bd (F_X12_sets o_2 x1 6 v_3) (fun o_4 =>
  ld o_4 8787 21 (fun v_5 =>
  sto o_4 8787 21 (v_5 + 1) (fun g_6 =>
  ld g_6 8787 ((8403 + (4 * x2)) + 1) (fun v_7 =>
  sto g_6 8787 ((8403 + (4 * x2)) + 1) (v_7 + 1) (fun g_8 =>
  bd (F_X12_at g_8 x1 0) (fun o_9 =>
  bd (F_X12_happens N g_8 0 o_9) (fun o_10 =>
  bd (F_X12_isDue o_10 x1) (fun o_11 =>
  if (o_11 = 0 : Prop) then
  J_X12_hits_98 N x1 o_10
  else
  bd (F_X12_loadOf N o_10 o_9) (fun o_13 =>
  if (0 ≤ o_13 : Prop) then
  J_X12_hits_98 N x1 o_10
  else
  bd (F_X12_lines N o_10 o_9 ((-1))) (fun o_14 =>
  J_X12_hits_98 N x1 o_14)))))))))))))
noncomputable def F_X12_coldAt  (g : Nat → Int32) (x1 : Int32) (x2 : Int32) : Option (Int32) :=
  ld g 8787 ((1898 + (x1 * 5)) + x2) (fun v_1 =>
  some (v_1))
noncomputable def K_X12_coldOf_2 (N : Nat)  (rec : Int32 → Option (Int32)) (k31 : Unit → Option (Int32)) (k23 : Int32 → Option (Int32)) (x1 : Int32) (g : Nat → Int32) (x2 : Int32)  : Option (Int32) :=
  ld g 8787 14 (fun v_1 =>
  if (v_1 ≤ x2 : Prop) then
  k31 ()
  else
  bd (F_X12_coldAt g x2 0) (fun o_2 =>
  if (o_2 = x1 : Prop) then
  k23 x2
  else
  lt (x2 + 1) (fun x2_3 =>
  rec x2_3)))
noncomputable def L_X12_coldOf_2 (N : Nat)  (k31 : Unit → Option (Int32)) (k23 : Int32 → Option (Int32)) (x1 : Int32) (g : Nat → Int32) (n : Nat) : Int32 → Option (Int32) :=
  Nat.rec (motive := fun _ => Int32 → Option (Int32)) (fun _ => none) (fun _ rec => K_X12_coldOf_2 N rec k31 k23 x1 g) n
noncomputable def F_X12_coldOf (N : Nat)  (g : Nat → Int32) (x1 : Int32) : Option (Int32) :=
  L_X12_coldOf_2 N (fun _ => some ((-1))) (fun x2 => some (x2)) x1 g N 0
noncomputable def K_X12_seenOf_5 (N : Nat)  (rec : Int32 → Int32 → Option (Int32)) (k39 : Int32 → Option (Int32)) (x1 : Int32) (g : Nat → Int32) (x2 : Int32) (x3 : Int32)  : Option (Int32) :=
  if (4 ≤ x3 : Prop) then
  k39 x2
  else
  bd (F_X12_placeOf N x1 x3) (fun o_1 =>
  ld g 8787 ((34 + (16 * x3)) + o_1) (fun v_2 =>
  lt (imn x2 v_2) (fun x2_3 =>
  lt (x3 + 1) (fun x3_4 =>
  rec x2_3 x3_4))))
noncomputable def L_X12_seenOf_5 (N : Nat)  (k39 : Int32 → Option (Int32)) (x1 : Int32) (g : Nat → Int32) (n : Nat) : Int32 → Int32 → Option (Int32) :=
  Nat.rec (motive := fun _ => Int32 → Int32 → Option (Int32)) (fun _ _ => none) (fun _ rec => K_X12_seenOf_5 N rec k39 x1 g) n
noncomputable def F_X12_seenOf (N : Nat)  (g : Nat → Int32) (x1 : Int32) : Option (Int32) :=
  L_X12_seenOf_5 N (fun x2 => some (x2)) x1 g N 15 0
noncomputable def F_X12_mayCome (N : Nat)  (g : Nat → Int32) (x1 : Int32) (x2 : Int32) : Option (Int32) :=
  ld g 8787 0 (fun v_1 =>
  if (x2 ≤ v_1 : Prop) then
  ld g 8787 5 (fun v_2 =>
  if (v_2 = 0 : Prop) then
  some (1)
  else
  bd (F_X12_weight N g) (fun o_3 =>
  ld g 8787 0 (fun v_4 =>
  if (v_4 < (o_3 + x2) : Prop) then
  bd (F_X12_firstToGo N g 0) (fun o_5 =>
  bd (F_X12_isStale g o_5) (fun o_6 =>
  if (o_6 = 0 : Prop) then
  bd (F_X12_at g o_5 5) (fun o_7 =>
  bd (F_X12_seenOf N g x1) (fun o_8 =>
  if (o_8 ≤ o_7 : Prop) then
  some (0)
  else
  some (1)))
  else
  some (1)))
  else
  some (1))))
  else
  some (0))
noncomputable def F_X12_letsIn (N : Nat)  (g : Nat → Int32) (x1 : Int32) (x2 : Int32) (x3 : Int32) (x4 : Int32) (x5 : Int32) : Option (Int32 × (Nat → Int32)) :=
  bd (F_X12_mayCome N g x1 x3) (fun o_1 =>
  if (o_1 = 0 : Prop) then
  bd (F_X12_happens N g 5 x1) (fun o_21 =>
  some (0, o_21))
  else
  bd (F_X12_makesRoom N g x3 0) (fun o_2 =>
  ld o_2 8787 13 (fun v_3 =>
  ld o_2 8787 13 (fun v_4 =>
  sto o_2 8787 13 (v_4 + 1) (fun g_5 =>
  ld g_5 8787 10 (fun v_6 =>
  sto g_5 8787 10 (v_6 + 1) (fun g_7 =>
  bd (F_X12_sets g_7 v_3 0 x1) (fun o_8 =>
  bd (F_X12_sets o_8 v_3 1 x2) (fun o_9 =>
  bd (F_X12_sets o_9 v_3 2 x3) (fun o_10 =>
  bd (F_X12_sets o_10 v_3 3 x4) (fun o_11 =>
  bd (F_X12_sets o_11 v_3 4 x5) (fun o_12 =>
  bd (F_X12_seenOf N o_12 x1) (fun o_13 =>
  bd (F_X12_sets o_12 v_3 5 o_13) (fun o_14 =>
  ld o_14 8787 9 (fun v_15 =>
  bd (F_X12_sets o_14 v_3 6 v_15) (fun o_16 =>
  ld o_16 8787 10 (fun v_17 =>
  bd (F_X12_sets o_16 v_3 7 v_17) (fun o_18 =>
  bd (F_X12_sets o_18 v_3 8 0) (fun o_19 =>
  bd (F_X12_happens N o_19 4 x1) (fun o_20 =>
  some (1, o_20)))))))))))))))))))))
noncomputable def F_X12_warms (N : Nat)  (g : Nat → Int32) (x1 : Int32) : Option (Int32 × (Nat → Int32)) :=
  bd (F_X12_coldAt g x1 0) (fun o_1 =>
  bd (F_X12_coldAt g x1 1) (fun o_2 =>
  bd (F_X12_coldAt g x1 2) (fun o_3 =>
  bd (F_X12_coldAt g x1 3) (fun o_4 =>
  bd (F_X12_coldAt g x1 4) (fun o_5 =>
  bd (F_X12_takesOut N g 14 1898 5 x1) (fun o_6 =>
  ld o_6 8787 32 (fun v_7 =>
  sto o_6 8787 32 (v_7 + 1) (fun g_8 =>
  bd (F_X12_happens N g_8 12 o_1) (fun o_9 =>
  bd (F_X12_letsIn N o_9 o_1 o_2 o_3 o_4 o_5) (fun o_10 =>
  if (o_10.1 = 0 : Prop) then
  bd (F_X12_cools N o_10.2 o_1 o_2 o_3 o_4 o_5) (fun o_11 =>
  some (o_2, o_11))
  else
  some (o_2, o_10.2)))))))))))
noncomputable def K_X12_waiterOf_2 (N : Nat)  (rec : Int32 → Option (Int32)) (k32 : Unit → Option (Int32)) (k24 : Int32 → Option (Int32)) (x1 : Int32) (x2 : Int32) (g : Nat → Int32) (x3 : Int32)  : Option (Int32) :=
  bd (F_X12_loadAt g x1 3) (fun o_1 =>
  if (o_1 ≤ x3 : Prop) then
  k32 ()
  else
  bd (F_X12_loadAt g x1 (4 + x3)) (fun o_2 =>
  if (o_2 = x2 : Prop) then
  k24 x3
  else
  lt (x3 + 1) (fun x3_3 =>
  rec x3_3)))
noncomputable def L_X12_waiterOf_2 (N : Nat)  (k32 : Unit → Option (Int32)) (k24 : Int32 → Option (Int32)) (x1 : Int32) (x2 : Int32) (g : Nat → Int32) (n : Nat) : Int32 → Option (Int32) :=
  Nat.rec (motive := fun _ => Int32 → Option (Int32)) (fun _ => none) (fun _ rec => K_X12_waiterOf_2 N rec k32 k24 x1 x2 g) n
noncomputable def F_X12_waiterOf (N : Nat)  (g : Nat → Int32) (x1 : Int32) (x2 : Int32) : Option (Int32) :=
  L_X12_waiterOf_2 N (fun _ => some ((-1))) (fun x3 => some (x3)) x1 x2 g N 0
noncomputable def F_X12_joins (N : Nat)  (g : Nat → Int32) (x1 : Int32) (x2 : Int32) : Option ((Nat → Int32)) :=
  bd (F_X12_waiterOf N g x1 x2) (fun o_1 =>
  if (0 ≤ o_1 : Prop) then
  some (g)
  else
  lt (2003 + (x1 * 20)) (fun x3_2 =>
  ld g 8787 (x3_2 + 3) (fun v_3 =>
  sto g 8787 ((x3_2 + 4) + v_3) x2 (fun g_4 =>
  ld g_4 8787 (x3_2 + 3) (fun v_5 =>
  sto g_4 8787 (x3_2 + 3) (v_5 + 1) (fun g_6 =>
  ld g_6 8787 23 (fun v_7 =>
  sto g_6 8787 23 (v_7 + 1) (fun g_8 =>
  ld g_8 8787 (x3_2 + 0) (fun v_9 =>
  bd (F_X12_happens N g_8 2 v_9) (fun o_10 =>
  some (o_10)))))))))))
noncomputable def J_X12_asks_86 (N : Nat)   (x1 : Int32) (x2 : Int32) (g : Nat → Int32) : Option (Int32 × (Nat → Int32)) :=
  bd (F_X12_loadOf N g x1) (fun o_3 =>
  if (o_3 < 0 : Prop) then
  bd (F_X12_lines N g x1 x2) (fun o_4 =>
  some ((-1006), o_4))
  else
  bd (F_X12_joins N g o_3 x2) (fun o_5 =>
  some ((-1006), o_5)))
noncomputable def J_X12_asks_69 (N : Nat)   (x1 : Int32) (x2 : Int32) (x4 : Int32) (g : Nat → Int32) : Option (Int32 × (Nat → Int32)) :=
  if (x4 < 0 : Prop) then
  J_X12_asks_86 N x1 x2 g
  else
  bd (F_X12_takesOut N g 14 1898 5 x4) (fun o_6 =>
  J_X12_asks_86 N x1 x2 o_6)
noncomputable def J_X12_asks_36 (N : Nat)   (x1 : Int32) (x2 : Int32) (g : Nat → Int32) : Option (Int32 × (Nat → Int32)) :=
  bd (F_X12_coldOf N g x1) (fun o_2 =>
  if (o_2 < 0 : Prop) then
  J_X12_asks_69 N x1 x2 o_2 g
  else
  bd (F_X12_coldAt g o_2 4) (fun o_7 =>
  bd (F_X12_isOver g o_7) (fun o_8 =>
  if (o_8 = 0 : Prop) then
  bd (F_X12_warms N g o_2) (fun o_9 =>
  some (o_9.1, o_9.2))
  else
  J_X12_asks_69 N x1 x2 o_2 g)))
noncomputable def J_X12_asks_25 (N : Nat)   (x1 : Int32) (x2 : Int32) (x3 : Int32) (g : Nat → Int32) : Option (Int32 × (Nat → Int32)) :=
  if (x3 < 0 : Prop) then
  J_X12_asks_36 N x1 x2 g
  else
  bd (F_X12_leaves N g x3 8) (fun o_10 =>
  J_X12_asks_36 N x1 x2 o_10)
noncomputable def F_X12_asks (N : Nat)  (g : Nat → Int32) (x1 : Int32) (x2 : Int32) : Option (Int32 × (Nat → Int32)) :=
  bd (F_X12_entryOf N g x1) (fun o_1 =>
  if (o_1 < 0 : Prop) then
  J_X12_asks_25 N x1 x2 o_1 g
  else
  bd (F_X12_isStale g o_1) (fun o_11 =>
  if (o_11 = 0 : Prop) then
  bd (F_X12_hits N g o_1 x2) (fun o_12 =>
  some (o_12.1, o_12.2))
  else
  J_X12_asks_25 N x1 x2 o_1 g))
noncomputable def K_X12_halves_31 (N : Nat)  (rec : Int32 → (Nat → Int32) → (Option ((Nat → Int32)))) (k62 : (Nat → Int32) → (Option ((Nat → Int32))))   (x1 : Int32) (g : Nat → Int32) : Option ((Nat → Int32)) :=
  ld g 8787 13 (fun v_5 =>
  if (v_5 ≤ x1 : Prop) then
  k62 g
  else
  bd (F_X12_at g x1 5) (fun o_6 =>
  bd (F_X12_sets g x1 5 (o_6 / 2)) (fun o_7 =>
  lt (x1 + 1) (fun x1_8 =>
  rec x1_8 o_7))))
noncomputable def L_X12_halves_31 (N : Nat)  (k62 : (Nat → Int32) → (Option ((Nat → Int32))))   (n : Nat) : Int32 → (Nat → Int32) → (Option ((Nat → Int32))) :=
  Nat.rec (motive := fun _ => Int32 → (Nat → Int32) → (Option ((Nat → Int32)))) (fun _ _ => none) (fun _ rec => K_X12_halves_31 N rec k62) n
noncomputable def K_X12_halves_64 (N : Nat)  (rec : Int32 → (Nat → Int32) → (Option ((Nat → Int32)))) (k89 : (Nat → Int32) → (Option ((Nat → Int32))))   (x1 : Int32) (g : Nat → Int32) : Option ((Nat → Int32)) :=
  if (64 ≤ x1 : Prop) then
  k89 g
  else
  ld g 8787 (34 + x1) (fun v_9 =>
  sto g 8787 (34 + x1) (v_9 / 2) (fun g_10 =>
  lt (x1 + 1) (fun x1_11 =>
  rec x1_11 g_10)))
noncomputable def L_X12_halves_64 (N : Nat)  (k89 : (Nat → Int32) → (Option ((Nat → Int32))))   (n : Nat) : Int32 → (Nat → Int32) → (Option ((Nat → Int32))) :=
  Nat.rec (motive := fun _ => Int32 → (Nat → Int32) → (Option ((Nat → Int32)))) (fun _ _ => none) (fun _ rec => K_X12_halves_64 N rec k89) n
noncomputable def F_X12_halves (N : Nat)  (g : Nat → Int32)  : Option ((Nat → Int32)) :=
  ld g 8787 11 (fun v_1 =>
  sto g 8787 11 (v_1 + 1) (fun g_2 =>
  ld g_2 8787 11 (fun v_3 =>
  ld g_2 8787 1 (fun v_4 =>
  ck (¬ v_4 = 0) (if ((irm v_3 v_4) = 0 : Prop) then
  L_X12_halves_31 N (fun g => L_X12_halves_64 N (fun g => ld g 8787 30 (fun v_12 =>
  sto g 8787 30 (v_12 + 1) (fun g_13 =>
  bd (F_X12_happens N g_13 10 0) (fun o_14 =>
  some (o_14))))) N 0 g) N 0 g_2
  else
  some (g_2))))))
noncomputable def F_X12_ask (N : Nat)  (g : Nat → Int32) (tape : Nat → Int32) (taped : Int32) (spot : Int32) (x1 : Int32) : Option (Int32 × (Nat → Int32) × Int32 × Int32) :=
  bd (F_X12_isAsker x1) (fun o_1 =>
  if (o_1 = 0 : Prop) then
  some ((-1001), g, taped, spot)
  else
  bd (F_X12_takesKey N tape taped spot) (fun o_2 =>
  if (o_2.1 = 0 : Prop) then
  some ((-1002), g, o_2.2.1, o_2.2.2)
  else
  bd (F_X12_uses N g o_2.1 x1) (fun o_3 =>
  bd (F_X12_asks N o_3 o_2.1 x1) (fun o_4 =>
  bd (F_X12_halves N o_4.2) (fun o_5 =>
  some (o_4.1, o_5, o_2.2.1, o_2.2.2))))))
noncomputable def K_X12_giveUp_76 (N : Nat)  (rec : Int32 → (Nat → Int32) → (Option (Int32 × (Nat → Int32) × Int32 × Int32))) (k122 : (Nat → Int32) → (Option (Int32 × (Nat → Int32) × Int32 × Int32))) (x3 : Int32) (x5 : Int32) (tape : Nat → Int32) (taped : Int32) (spot : Int32) (x4 : Int32) (g : Nat → Int32) : Option (Int32 × (Nat → Int32) × Int32 × Int32) :=
  ld g 8787 (x5 + 3) (fun v_8 =>
  if (v_8 ≤ x4 : Prop) then
  k122 g
  else
  ld g 8787 (((x5 + 4) + x4) + 1) (fun v_9 =>
  sto g 8787 ((x5 + 4) + x4) v_9 (fun g_10 =>
  lt (x4 + 1) (fun x4_11 =>
  rec x4_11 g_10))))
noncomputable def L_X12_giveUp_76 (N : Nat)  (k122 : (Nat → Int32) → (Option (Int32 × (Nat → Int32) × Int32 × Int32))) (x3 : Int32) (x5 : Int32) (tape : Nat → Int32) (taped : Int32) (spot : Int32) (n : Nat) : Int32 → (Nat → Int32) → (Option (Int32 × (Nat → Int32) × Int32 × Int32)) :=
  Nat.rec (motive := fun _ => Int32 → (Nat → Int32) → (Option (Int32 × (Nat → Int32) × Int32 × Int32))) (fun _ _ => none) (fun _ rec => K_X12_giveUp_76 N rec k122 x3 x5 tape taped spot) n
noncomputable def J_X12_giveUp_44 (N : Nat)   (t0 : Int32) (x3 : Int32) (g : Nat → Int32) (tape : Nat → Int32) (taped : Int32) (spot : Int32) : Option (Int32 × (Nat → Int32) × Int32 × Int32) :=
  if (0 ≤ t0 : Prop) then
  lt (2003 + (x3 * 20)) (fun x5_5 =>
  ld g 8787 (x5_5 + 3) (fun v_6 =>
  sto g 8787 (x5_5 + 3) (v_6 - 1) (fun g_7 =>
  L_X12_giveUp_76 N (fun g => ld g 8787 (x5_5 + 3) (fun v_12 =>
  if (v_12 = 0 : Prop) then
  ld g 8787 (x5_5 + 1) (fun v_13 =>
  if (v_13 = 1 : Prop) then
  bd (F_X12_takesOut N g 15 2003 20 x3) (fun o_14 =>
  some (1, o_14, taped, spot))
  else
  some (1, g, taped, spot))
  else
  some (1, g, taped, spot))) x3 x5_5 tape taped spot N t0 g_7)))
  else
  some (0, g, taped, spot)
noncomputable def F_X12_giveUp (N : Nat)  (g : Nat → Int32) (tape : Nat → Int32) (taped : Int32) (spot : Int32) (x1 : Int32) : Option (Int32 × (Nat → Int32) × Int32 × Int32) :=
  bd (F_X12_isAsker x1) (fun o_1 =>
  if (o_1 = 0 : Prop) then
  some ((-1001), g, taped, spot)
  else
  bd (F_X12_takesKey N tape taped spot) (fun o_2 =>
  if (o_2.1 = 0 : Prop) then
  some ((-1002), g, o_2.2.1, o_2.2.2)
  else
  bd (F_X12_loadOf N g o_2.1) (fun o_3 =>
  if (0 ≤ o_3 : Prop) then
  bd (F_X12_waiterOf N g o_3 x1) (fun o_4 =>
  J_X12_giveUp_44 N o_4 o_3 g tape o_2.2.1 o_2.2.2)
  else
  J_X12_giveUp_44 N ((-1)) o_3 g tape o_2.2.1 o_2.2.2)))
noncomputable def F_X12_take (N : Nat)  (g : Nat → Int32) (x1 : Int32) : Option (Int32 × (Nat → Int32)) :=
  bd (F_X12_isAsker x1) (fun o_1 =>
  if (o_1 = 0 : Prop) then
  some ((-1001), g)
  else
  ld g 8787 (8003 + x1) (fun v_2 =>
  if (v_2 = 0 : Prop) then
  some ((-1003), g)
  else
  ld g 8787 ((8019 + (24 * x1)) + 1) (fun v_3 =>
  bd (F_X12_takesOut N g (8003 + x1) (8019 + (24 * x1)) 2 0) (fun o_4 =>
  ld o_4 8787 ((8403 + (4 * x1)) + 3) (fun v_5 =>
  sto o_4 8787 ((8403 + (4 * x1)) + 3) (v_5 + 1) (fun g_6 =>
  some (v_3, g_6)))))))
noncomputable def F_X12_keyTells (N : Nat)   (x0 : Int32) (x1 : Int32) : Option (Int32) :=
  bd (F_X12_sizeOf N x0) (fun o_1 =>
  if (x1 = ((-1)) : Prop) then
  some (o_1)
  else
  if (o_1 ≤ x1 : Prop) then
  some ((-1003))
  else
  bd (F_X12_byteOf N x0 x1) (fun o_2 =>
  some (o_2)))
noncomputable def F_X12_first (N : Nat)  (g : Nat → Int32) (x1 : Int32) (x2 : Int32) : Option (Int32) :=
  bd (F_X12_isAsker x1) (fun o_1 =>
  if (o_1 = 0 : Prop) then
  some ((-1001))
  else
  if (((-1)) ≤ x2 : Prop) then
  ld g 8787 (8003 + x1) (fun v_2 =>
  if (v_2 = 0 : Prop) then
  some ((-1005))
  else
  ld g 8787 (8019 + (24 * x1)) (fun v_3 =>
  bd (F_X12_keyTells N v_3 x2) (fun o_4 =>
  some (o_4))))
  else
  some ((-1001)))
noncomputable def J_X12_box_68 (N : Nat)  (rec : Int32 → Int32 → Option (Int32)) (k76 : Int32 → Option (Int32)) (t0 : Int32) (t1 : Int32) (x1 : Int32) (x4 : Int32) (g : Nat → Int32) : Option (Int32) :=
  lt (t0 + t1) (fun x3_5 =>
  lt (x4 + 1) (fun x4_6 =>
  rec x3_5 x4_6))
noncomputable def K_X12_box_40 (N : Nat)  (rec : Int32 → Int32 → Option (Int32)) (k76 : Int32 → Option (Int32)) (x1 : Int32) (g : Nat → Int32) (x3 : Int32) (x4 : Int32)  : Option (Int32) :=
  ld g 8787 15 (fun v_3 =>
  if (v_3 ≤ x4 : Prop) then
  k76 x3
  else
  bd (F_X12_waiterOf N g x4 x1) (fun o_4 =>
  if (o_4 < 0 : Prop) then
  J_X12_box_68 N rec k76 x3 0 x1 x4 g
  else
  J_X12_box_68 N rec k76 x3 1 x1 x4 g))
noncomputable def L_X12_box_40 (N : Nat)  (k76 : Int32 → Option (Int32)) (x1 : Int32) (g : Nat → Int32) (n : Nat) : Int32 → Int32 → Option (Int32) :=
  Nat.rec (motive := fun _ => Int32 → Int32 → Option (Int32)) (fun _ _ => none) (fun _ rec => K_X12_box_40 N rec k76 x1 g) n
noncomputable def F_X12_box (N : Nat)  (g : Nat → Int32) (x1 : Int32) (x2 : Int32) : Option (Int32) :=
  bd (F_X12_isAsker x1) (fun o_1 =>
  if (o_1 = 0 : Prop) then
  some ((-1001))
  else
  bd (F_X12_in x2 0 1) (fun o_2 =>
  if (o_2 = 0 : Prop) then
  some ((-1001))
  else
  if (x2 = 0 : Prop) then
  ld g 8787 (8003 + x1) (fun v_7 =>
  some (v_7))
  else
  L_X12_box_40 N (fun x3 => some (x3)) x1 g N 0 0))
noncomputable def J_X12_write_45 (N : Nat)   (x1 : Int32) (x2 : Int32) (g : Nat → Int32) (tape : Nat → Int32) (taped : Int32) (spot : Int32) : Option (Int32 × (Nat → Int32) × Int32 × Int32) :=
  bd (F_X12_writes N g x2 x1) (fun o_4 =>
  some (0, o_4, taped, spot))
noncomputable def F_X12_write (N : Nat)  (g : Nat → Int32) (tape : Nat → Int32) (taped : Int32) (spot : Int32) (x1 : Int32) : Option (Int32 × (Nat → Int32) × Int32 × Int32) :=
  bd (F_X12_in x1 0 99999) (fun o_1 =>
  if (o_1 = 0 : Prop) then
  some ((-1001), g, taped, spot)
  else
  bd (F_X12_takesKey N tape taped spot) (fun o_2 =>
  if (o_2.1 = 0 : Prop) then
  some ((-1002), g, o_2.2.1, o_2.2.2)
  else
  bd (F_X12_entryOf N g o_2.1) (fun o_3 =>
  if (o_3 < 0 : Prop) then
  J_X12_write_45 N x1 o_2.1 g tape o_2.2.1 o_2.2.2
  else
  bd (F_X12_isStale g o_3) (fun o_5 =>
  if (o_5 = 0 : Prop) then
  ld g 8787 12 (fun v_6 =>
  sto g 8787 12 (v_6 + 1) (fun g_7 =>
  bd (F_X12_sets g_7 o_3 1 x1) (fun o_8 =>
  ld o_8 8787 8 (fun v_9 =>
  bd (F_X12_sets o_8 o_3 4 v_9) (fun o_10 =>
  ld o_10 8787 12 (fun v_11 =>
  bd (F_X12_sets o_10 o_3 8 v_11) (fun o_12 =>
  some (1, o_12, o_2.2.1, o_2.2.2))))))))
  else
  J_X12_write_45 N x1 o_2.1 g tape o_2.2.1 o_2.2.2))))
noncomputable def J_X12_firstDirty_48 (N : Nat)  (rec : Int32 → Int32 → Option (Int32)) (k54 : Int32 → Option (Int32)) (x1 : Int32) (x2 : Int32) (g : Nat → Int32) : Option (Int32) :=
  lt (x2 + 1) (fun x2_3 =>
  rec x1 x2_3)
noncomputable def J_X12_firstDirty_46 (N : Nat)  (rec : Int32 → Int32 → Option (Int32)) (k54 : Int32 → Option (Int32)) (x2 : Int32) (g : Nat → Int32) : Option (Int32) :=
  J_X12_firstDirty_48 N rec k54 x2 x2 g
noncomputable def K_X12_firstDirty_4 (N : Nat)  (rec : Int32 → Int32 → Option (Int32)) (k54 : Int32 → Option (Int32))  (g : Nat → Int32) (x1 : Int32) (x2 : Int32)  : Option (Int32) :=
  ld g 8787 13 (fun v_1 =>
  if (v_1 ≤ x2 : Prop) then
  k54 x1
  else
  bd (F_X12_at g x2 8) (fun o_2 =>
  if (o_2 = 0 : Prop) then
  J_X12_firstDirty_48 N rec k54 x1 x2 g
  else
  if (x1 < 0 : Prop) then
  J_X12_firstDirty_46 N rec k54 x2 g
  else
  bd (F_X12_at g x2 8) (fun o_4 =>
  bd (F_X12_at g x1 8) (fun o_5 =>
  if (o_5 ≤ o_4 : Prop) then
  J_X12_firstDirty_48 N rec k54 x1 x2 g
  else
  J_X12_firstDirty_46 N rec k54 x2 g))))
noncomputable def L_X12_firstDirty_4 (N : Nat)  (k54 : Int32 → Option (Int32))  (g : Nat → Int32) (n : Nat) : Int32 → Int32 → Option (Int32) :=
  Nat.rec (motive := fun _ => Int32 → Int32 → Option (Int32)) (fun _ _ => none) (fun _ rec => K_X12_firstDirty_4 N rec k54 g) n
noncomputable def F_X12_firstDirty (N : Nat)  (g : Nat → Int32)  : Option (Int32) :=
  L_X12_firstDirty_4 N (fun x1 => some (x1)) g N ((-1)) 0
noncomputable def K_X12_flush_7 (N : Nat)  (rec : Int32 → Int32 → (Nat → Int32) → (Option (Int32 × (Nat → Int32)))) (k46 : Int32 → (Nat → Int32) → (Option (Int32 × (Nat → Int32))))   (x1 : Int32) (x2 : Int32) (g : Nat → Int32) : Option (Int32 × (Nat → Int32)) :=
  if (x2 < 0 : Prop) then
  k46 x1 g
  else
  bd (F_X12_sets g x2 8 0) (fun o_2 =>
  bd (F_X12_at o_2 x2 0) (fun o_3 =>
  bd (F_X12_at o_2 x2 1) (fun o_4 =>
  bd (F_X12_writes N o_2 o_3 o_4) (fun o_5 =>
  lt (x1 + 1) (fun x1_6 =>
  bd (F_X12_firstDirty N o_5) (fun o_7 =>
  rec x1_6 o_7 o_5))))))
noncomputable def L_X12_flush_7 (N : Nat)  (k46 : Int32 → (Nat → Int32) → (Option (Int32 × (Nat → Int32))))   (n : Nat) : Int32 → Int32 → (Nat → Int32) → (Option (Int32 × (Nat → Int32))) :=
  Nat.rec (motive := fun _ => Int32 → Int32 → (Nat → Int32) → (Option (Int32 × (Nat → Int32)))) (fun _ _ _ => none) (fun _ rec => K_X12_flush_7 N rec k46) n
noncomputable def F_X12_flush (N : Nat)  (g : Nat → Int32)  : Option (Int32 × (Nat → Int32)) :=
  bd (F_X12_firstDirty N g) (fun o_1 =>
  L_X12_flush_7 N (fun x1 g => some (x1, g)) N 0 o_1 g)
noncomputable def J_X12_writtenOf_72 (N : Nat)   (t0 : Int32) (t1 : Int32) (g : Nat → Int32) : Option (Int32) :=
  bd (F_X12_keyTells N t0 t1) (fun o_3 =>
  some (o_3))
noncomputable def F_X12_writtenOf (N : Nat)  (g : Nat → Int32) (x1 : Int32) (x2 : Int32) : Option (Int32) :=
  if (x1 < 0 : Prop) then
  some ((-1001))
  else
  if (((-2)) ≤ x2 : Prop) then
  ld g 8787 17 (fun v_1 =>
  if (x1 < v_1 : Prop) then
  if (x2 = ((-1)) : Prop) then
  ld g 8787 ((8527 + (2 * x1)) + 1) (fun v_4 =>
  some (v_4))
  else
  ld g 8787 (8527 + (2 * x1)) (fun v_2 =>
  if (x2 = ((-2)) : Prop) then
  J_X12_writtenOf_72 N v_2 ((-1)) g
  else
  J_X12_writtenOf_72 N v_2 x2 g)
  else
  some ((-1003)))
  else
  some ((-1001))
noncomputable def F_X12_of  (g : Nat → Int32) (x1 : Int32) (x2 : Int32) : Option (Int32) :=
  bd (F_X12_isAsker x1) (fun o_1 =>
  if (o_1 = 0 : Prop) then
  some ((-1001))
  else
  bd (F_X12_in x2 0 3) (fun o_2 =>
  if (o_2 = 0 : Prop) then
  some ((-1001))
  else
  ld g 8787 ((8403 + (4 * x1)) + x2) (fun v_3 =>
  some (v_3))))
noncomputable def F_X12_running (N : Nat)  (g : Nat → Int32) (x1 : Int32) : Option (Int32) :=
  bd (F_X12_loadOf N g x1) (fun o_1 =>
  if (o_1 < 0 : Prop) then
  some ((-1))
  else
  bd (F_X12_loadAt g o_1 1) (fun o_2 =>
  if (o_2 = 2 : Prop) then
  some (o_1)
  else
  some ((-1))))
noncomputable def J_X12_renews_62 (N : Nat)   (x1 : Int32) (x3 : Int32) (x4 : Int32) (x5 : Int32) (g : Nat → Int32) : Option (Int32 × (Nat → Int32)) :=
  bd (F_X12_sets g x1 2 x3) (fun o_4 =>
  bd (F_X12_sets o_4 x1 3 x4) (fun o_5 =>
  ld o_5 8787 8 (fun v_6 =>
  bd (F_X12_sets o_5 x1 4 v_6) (fun o_7 =>
  bd (F_X12_makesRoom N o_7 0 x5) (fun o_8 =>
  bd (F_X12_happens N o_8 4 x5) (fun o_9 =>
  some (1, o_9)))))))
noncomputable def F_X12_renews (N : Nat)  (g : Nat → Int32) (x1 : Int32) (x2 : Int32) (x3 : Int32) (x4 : Int32) : Option (Int32 × (Nat → Int32)) :=
  bd (F_X12_at g x1 0) (fun o_1 =>
  ld g 8787 0 (fun v_2 =>
  if (x3 ≤ v_2 : Prop) then
  bd (F_X12_at g x1 8) (fun o_3 =>
  if (o_3 = 0 : Prop) then
  bd (F_X12_sets g x1 1 x2) (fun o_10 =>
  J_X12_renews_62 N x1 x3 x4 o_1 o_10)
  else
  J_X12_renews_62 N x1 x3 x4 o_1 g)
  else
  ld g 8787 27 (fun v_11 =>
  sto g 8787 27 (v_11 + 1) (fun g_12 =>
  bd (F_X12_leaves N g_12 x1 7) (fun o_13 =>
  bd (F_X12_happens N o_13 5 o_1) (fun o_14 =>
  some (0, o_14)))))))
noncomputable def J_X12_came_173 (N : Nat)   (t1 : Int32) (t2 : Int32) (t3 : Int32) (x6 : Int32) (g : Nat → Int32) (tape : Nat → Int32) (taped : Int32) (spot : Int32) : Option (Int32 × (Nat → Int32) × Int32 × Int32) :=
  sto g 8787 t1 (t2 + t3) (fun g_14 =>
  bd (F_X12_runs N g_14) (fun o_15 =>
  some (x6, o_15, taped, spot)))
noncomputable def J_X12_came_153 (N : Nat)   (t0 : Int32) (x6 : Int32) (g : Nat → Int32) (tape : Nat → Int32) (taped : Int32) (spot : Int32) : Option (Int32 × (Nat → Int32) × Int32 × Int32) :=
  ld g 8787 26 (fun v_13 =>
  if (t0 = 0 : Prop) then
  J_X12_came_173 N 26 v_13 1 x6 g tape taped spot
  else
  J_X12_came_173 N 26 v_13 0 x6 g tape taped spot)
noncomputable def J_X12_came_112 (N : Nat)   (x1 : Int32) (x2 : Int32) (x3 : Int32) (x4 : Int32) (x6 : Int32) (g : Nat → Int32) (tape : Nat → Int32) (taped : Int32) (spot : Int32) : Option (Int32 × (Nat → Int32) × Int32 × Int32) :=
  bd (F_X12_entryOf N g x4) (fun o_10 =>
  if (o_10 < 0 : Prop) then
  ld g 8787 8 (fun v_11 =>
  bd (F_X12_letsIn N g x4 x1 x2 x3 v_11) (fun o_12 =>
  J_X12_came_153 N o_12.1 x6 o_12.2 tape taped spot))
  else
  bd (F_X12_renews N g o_10 x1 x2 x3) (fun o_16 =>
  J_X12_came_153 N o_16.1 x6 o_16.2 tape taped spot))
noncomputable def F_X12_came (N : Nat)  (g : Nat → Int32) (tape : Nat → Int32) (taped : Int32) (spot : Int32) (x1 : Int32) (x2 : Int32) (x3 : Int32) : Option (Int32 × (Nat → Int32) × Int32 × Int32) :=
  bd (F_X12_in x1 0 99999) (fun o_1 =>
  if (o_1 = 0 : Prop) then
  some ((-1001), g, taped, spot)
  else
  bd (F_X12_in x2 1 20) (fun o_2 =>
  if (o_2 = 0 : Prop) then
  some ((-1001), g, taped, spot)
  else
  bd (F_X12_in x3 0 255) (fun o_3 =>
  if (o_3 = 0 : Prop) then
  some ((-1001), g, taped, spot)
  else
  bd (F_X12_takesKey N tape taped spot) (fun o_4 =>
  if (o_4.1 = 0 : Prop) then
  some ((-1002), g, o_4.2.1, o_4.2.2)
  else
  bd (F_X12_running N g o_4.1) (fun o_5 =>
  if (0 ≤ o_5 : Prop) then
  bd (F_X12_delivers N g o_5 x1) (fun o_6 =>
  ld o_6.2 8787 24 (fun v_7 =>
  sto o_6.2 8787 24 (v_7 + 1) (fun g_8 =>
  bd (F_X12_coldOf N g_8 o_4.1) (fun o_9 =>
  if (o_9 < 0 : Prop) then
  J_X12_came_112 N x1 x2 x3 o_4.1 o_6.1 g_8 tape o_4.2.1 o_4.2.2
  else
  bd (F_X12_takesOut N g_8 14 1898 5 o_9) (fun o_17 =>
  J_X12_came_112 N x1 x2 x3 o_4.1 o_6.1 o_17 tape o_4.2.1 o_4.2.2)))))
  else
  some ((-1005), g, o_4.2.1, o_4.2.2))))))
noncomputable def F_X12_failed (N : Nat)  (g : Nat → Int32) (tape : Nat → Int32) (taped : Int32) (spot : Int32) (x1 : Int32) : Option (Int32 × (Nat → Int32) × Int32 × Int32) :=
  bd (F_X12_in x1 1 99) (fun o_1 =>
  if (o_1 = 0 : Prop) then
  some ((-1001), g, taped, spot)
  else
  bd (F_X12_takesKey N tape taped spot) (fun o_2 =>
  if (o_2.1 = 0 : Prop) then
  some ((-1002), g, o_2.2.1, o_2.2.2)
  else
  bd (F_X12_running N g o_2.1) (fun o_3 =>
  if (0 ≤ o_3 : Prop) then
  bd (F_X12_fails N g o_3 x1) (fun o_4 =>
  some (o_4.1, o_4.2, o_2.2.1, o_2.2.2))
  else
  some ((-1005), g, o_2.2.1, o_2.2.2))))
noncomputable def F_X12_told (N : Nat)  (g : Nat → Int32) (x1 : Int32) (x2 : Int32) : Option (Int32) :=
  if (x1 < ((-1)) : Prop) then
  some ((-1001))
  else
  if (((-1)) ≤ x2 : Prop) then
  if (x1 = ((-1)) : Prop) then
  ld g 8787 16 (fun v_4 =>
  some (v_4))
  else
  ld g 8787 16 (fun v_1 =>
  if (v_1 ≤ x1 : Prop) then
  some ((-1003))
  else
  ld g 8787 (8467 + x1) (fun v_2 =>
  bd (F_X12_keyTells N v_2 x2) (fun o_3 =>
  some (o_3))))
  else
  some ((-1001))
noncomputable def J_X12_load_51 (N : Nat)   (t1 : Int32) (t2 : Int32) (g : Nat → Int32) (tape : Nat → Int32) (taped : Int32) (spot : Int32) : Option (Int32 × Int32 × Int32) :=
  bd (F_X12_loadAt g t1 t2) (fun o_5 =>
  some (o_5, taped, spot))
noncomputable def F_X12_load (N : Nat)  (g : Nat → Int32) (tape : Nat → Int32) (taped : Int32) (spot : Int32) (x1 : Int32) : Option (Int32 × Int32 × Int32) :=
  if (0 ≤ x1 : Prop) then
  bd (F_X12_takesKey N tape taped spot) (fun o_1 =>
  if (o_1.1 = 0 : Prop) then
  some ((-1002), o_1.2.1, o_1.2.2)
  else
  bd (F_X12_loadOf N g o_1.1) (fun o_2 =>
  if (2 ≤ x1 : Prop) then
  if (o_2 < 0 : Prop) then
  some ((-1003), o_1.2.1, o_1.2.2)
  else
  bd (F_X12_loadAt g o_2 3) (fun o_3 =>
  if (o_3 ≤ (x1 - 2) : Prop) then
  some ((-1003), o_1.2.1, o_1.2.2)
  else
  bd (F_X12_loadAt g o_2 ((4 + x1) - 2)) (fun o_4 =>
  some (o_4, o_1.2.1, o_1.2.2)))
  else
  if (0 ≤ o_2 : Prop) then
  if (x1 = 0 : Prop) then
  J_X12_load_51 N o_2 1 g tape o_1.2.1 o_1.2.2
  else
  J_X12_load_51 N o_2 3 g tape o_1.2.1 o_1.2.2
  else
  some (0, o_1.2.1, o_1.2.2)))
  else
  some ((-1001), taped, spot)
noncomputable def F_X12_entry (N : Nat)  (g : Nat → Int32) (tape : Nat → Int32) (taped : Int32) (spot : Int32) (x1 : Int32) : Option (Int32 × Int32 × Int32) :=
  bd (F_X12_in x1 0 9) (fun o_1 =>
  if (o_1 = 0 : Prop) then
  some ((-1001), taped, spot)
  else
  bd (F_X12_takesKey N tape taped spot) (fun o_2 =>
  if (o_2.1 = 0 : Prop) then
  some ((-1002), o_2.2.1, o_2.2.2)
  else
  bd (F_X12_entryOf N g o_2.1) (fun o_3 =>
  if (0 ≤ o_3 : Prop) then
  if (x1 = 0 : Prop) then
  bd (F_X12_at g o_3 1) (fun o_4 =>
  some (o_4, o_2.2.1, o_2.2.2))
  else
  if (x1 = 1 : Prop) then
  bd (F_X12_at g o_3 2) (fun o_5 =>
  some (o_5, o_2.2.1, o_2.2.2))
  else
  if (x1 = 2 : Prop) then
  bd (F_X12_at g o_3 3) (fun o_6 =>
  some (o_6, o_2.2.1, o_2.2.2))
  else
  if (x1 = 3 : Prop) then
  bd (F_X12_at g o_3 5) (fun o_7 =>
  some (o_7, o_2.2.1, o_2.2.2))
  else
  if (x1 = 4 : Prop) then
  bd (F_X12_at g o_3 6) (fun o_8 =>
  some (o_8, o_2.2.1, o_2.2.2))
  else
  if (x1 = 5 : Prop) then
  bd (F_X12_at g o_3 7) (fun o_9 =>
  some (o_9, o_2.2.1, o_2.2.2))
  else
  if (x1 = 6 : Prop) then
  bd (F_X12_at g o_3 4) (fun o_10 =>
  some (o_10, o_2.2.1, o_2.2.2))
  else
  if (x1 = 7 : Prop) then
  bd (F_X12_isStale g o_3) (fun o_11 =>
  if (o_11 = 0 : Prop) then
  some (0, o_2.2.1, o_2.2.2)
  else
  some (1, o_2.2.1, o_2.2.2))
  else
  if (x1 = 8 : Prop) then
  bd (F_X12_isDue g o_3) (fun o_12 =>
  if (o_12 = 0 : Prop) then
  some (0, o_2.2.1, o_2.2.2)
  else
  some (1, o_2.2.1, o_2.2.2))
  else
  bd (F_X12_at g o_3 8) (fun o_13 =>
  if (o_13 = 0 : Prop) then
  some (0, o_2.2.1, o_2.2.2)
  else
  some (1, o_2.2.1, o_2.2.2))
  else
  some ((-1003), o_2.2.1, o_2.2.2))))
noncomputable def F_X12_seen (N : Nat)  (g : Nat → Int32) (tape : Nat → Int32) (taped : Int32) (spot : Int32)  : Option (Int32 × Int32 × Int32) :=
  bd (F_X12_takesKey N tape taped spot) (fun o_1 =>
  if (o_1.1 = 0 : Prop) then
  some ((-1002), o_1.2.1, o_1.2.2)
  else
  bd (F_X12_seenOf N g o_1.1) (fun o_2 =>
  some (o_2, o_1.2.1, o_1.2.2)))
noncomputable def F_X12_sketch  (g : Nat → Int32) (x1 : Int32) (x2 : Int32) : Option (Int32) :=
  bd (F_X12_in x1 0 3) (fun o_1 =>
  if (o_1 = 0 : Prop) then
  some ((-1001))
  else
  bd (F_X12_in x2 0 15) (fun o_2 =>
  if (o_2 = 0 : Prop) then
  some ((-1001))
  else
  ld g 8787 ((34 + (16 * x1)) + x2) (fun v_3 =>
  some (v_3))))
noncomputable def K_X12_beginsWith_2 (N : Nat)  (rec : Int32 → Option (Int32)) (k15 : Int32 → Option (Int32)) (x1 : Int32)  (x2 : Int32)  : Option (Int32) :=
  if (x2 ≤ x1 : Prop) then
  k15 x2
  else
  lt (x2 / 27) (fun x2_1 =>
  rec x2_1)
noncomputable def L_X12_beginsWith_2 (N : Nat)  (k15 : Int32 → Option (Int32)) (x1 : Int32)  (n : Nat) : Int32 → Option (Int32) :=
  Nat.rec (motive := fun _ => Int32 → Option (Int32)) (fun _ => none) (fun _ rec => K_X12_beginsWith_2 N rec k15 x1) n
noncomputable def F_X12_beginsWith (N : Nat)   (x0 : Int32) (x1 : Int32) : Option (Int32) :=
  L_X12_beginsWith_2 N (fun x2 => if (x2 = x1 : Prop) then
  some (1)
  else
  some (0)) x1 N x0
noncomputable def F_X12_isMeant (N : Nat)  (g : Nat → Int32) (x1 : Int32) (x2 : Int32) (x3 : Int32) : Option (Int32) :=
  if (x1 = 0 : Prop) then
  ld g 8787 (x3 + 0) (fun v_1 =>
  if (v_1 = x2 : Prop) then
  some (1)
  else
  some (0))
  else
  if (x1 = 1 : Prop) then
  ld g 8787 (x3 + 3) (fun v_2 =>
  if (((v_2 >>> (x2 &&& 31)) &&& 1) = 1 : Prop) then
  some (1)
  else
  some (0))
  else
  if (x1 = 2 : Prop) then
  ld g 8787 (x3 + 0) (fun v_3 =>
  bd (F_X12_beginsWith N v_3 x2) (fun o_4 =>
  ck (o_4 = 0 ∨ o_4 = 1) (some (o_4))))
  else
  ld g 8787 (x3 + 4) (fun v_5 =>
  bd (F_X12_isOver g v_5) (fun o_6 =>
  ck (o_6 = 0 ∨ o_6 = 1) (some (o_6))))
noncomputable def K_X12_drops_6 (N : Nat)  (rec : Int32 → Int32 → (Nat → Int32) → (Option (Int32 × (Nat → Int32)))) (k54 : Int32 → (Nat → Int32) → (Option (Int32 × (Nat → Int32)))) (x1 : Int32) (x2 : Int32) (x3 : Int32)  (x4 : Int32) (x5 : Int32) (g : Nat → Int32) : Option (Int32 × (Nat → Int32)) :=
  ld g 8787 13 (fun v_1 =>
  if (v_1 ≤ x5 : Prop) then
  k54 x4 g
  else
  bd (F_X12_isMeant N g x1 x2 (98 + (x5 * 9))) (fun o_2 =>
  if (o_2 = 0 : Prop) then
  lt (x5 + 1) (fun x5_3 =>
  rec x4 x5_3 g)
  else
  bd (F_X12_leaves N g x5 x3) (fun o_4 =>
  lt (x4 + 1) (fun x4_5 =>
  rec x4_5 x5 o_4))))
noncomputable def L_X12_drops_6 (N : Nat)  (k54 : Int32 → (Nat → Int32) → (Option (Int32 × (Nat → Int32)))) (x1 : Int32) (x2 : Int32) (x3 : Int32)  (n : Nat) : Int32 → Int32 → (Nat → Int32) → (Option (Int32 × (Nat → Int32))) :=
  Nat.rec (motive := fun _ => Int32 → Int32 → (Nat → Int32) → (Option (Int32 × (Nat → Int32)))) (fun _ _ _ => none) (fun _ rec => K_X12_drops_6 N rec k54 x1 x2 x3) n
noncomputable def K_X12_drops_57 (N : Nat)  (rec : Int32 → Int32 → (Nat → Int32) → (Option (Int32 × (Nat → Int32)))) (k110 : Int32 → (Nat → Int32) → (Option (Int32 × (Nat → Int32)))) (x1 : Int32) (x2 : Int32)  (x4 : Int32) (x6 : Int32) (g : Nat → Int32) : Option (Int32 × (Nat → Int32)) :=
  ld g 8787 14 (fun v_6 =>
  if (v_6 ≤ x6 : Prop) then
  k110 x4 g
  else
  bd (F_X12_isMeant N g x1 x2 (1898 + (x6 * 5))) (fun o_7 =>
  if (o_7 = 0 : Prop) then
  lt (x6 + 1) (fun x6_8 =>
  rec x4 x6_8 g)
  else
  bd (F_X12_takesOut N g 14 1898 5 x6) (fun o_9 =>
  lt (x4 + 1) (fun x4_10 =>
  rec x4_10 x6 o_9))))
noncomputable def L_X12_drops_57 (N : Nat)  (k110 : Int32 → (Nat → Int32) → (Option (Int32 × (Nat → Int32)))) (x1 : Int32) (x2 : Int32)  (n : Nat) : Int32 → Int32 → (Nat → Int32) → (Option (Int32 × (Nat → Int32))) :=
  Nat.rec (motive := fun _ => Int32 → Int32 → (Nat → Int32) → (Option (Int32 × (Nat → Int32)))) (fun _ _ _ => none) (fun _ rec => K_X12_drops_57 N rec k110 x1 x2) n
noncomputable def F_X12_drops (N : Nat)  (g : Nat → Int32) (x1 : Int32) (x2 : Int32) (x3 : Int32) : Option (Int32 × (Nat → Int32)) :=
  L_X12_drops_6 N (fun x4 g => L_X12_drops_57 N (fun x4 g => some (x4, g)) x1 x2 N x4 0 g) x1 x2 x3 N 0 0 g
noncomputable def F_X12_drop (N : Nat)  (g : Nat → Int32) (tape : Nat → Int32) (taped : Int32) (spot : Int32)  : Option (Int32 × (Nat → Int32) × Int32 × Int32) :=
  bd (F_X12_takesKey N tape taped spot) (fun o_1 =>
  if (o_1.1 = 0 : Prop) then
  some ((-1002), g, o_1.2.1, o_1.2.2)
  else
  bd (F_X12_drops N g 0 o_1.1 9) (fun o_2 =>
  some (o_2.1, o_2.2, o_1.2.1, o_1.2.2)))
noncomputable def F_X12_dropTag (N : Nat)  (g : Nat → Int32) (x1 : Int32) : Option (Int32 × (Nat → Int32)) :=
  bd (F_X12_in x1 0 7) (fun o_1 =>
  if (o_1 = 0 : Prop) then
  some ((-1001), g)
  else
  bd (F_X12_drops N g 1 x1 9) (fun o_2 =>
  some (o_2.1, o_2.2)))
noncomputable def F_X12_dropAll (N : Nat)  (g : Nat → Int32) (tape : Nat → Int32) (taped : Int32) (spot : Int32)  : Option (Int32 × (Nat → Int32) × Int32 × Int32) :=
  bd (F_X12_takesKey N tape taped spot) (fun o_1 =>
  if (o_1.1 = 0 : Prop) then
  some ((-1002), g, o_1.2.1, o_1.2.2)
  else
  bd (F_X12_drops N g 2 o_1.1 9) (fun o_2 =>
  some (o_2.1, o_2.2, o_1.2.1, o_1.2.2)))
noncomputable def J_X12_tagged_82 (N : Nat)  (rec : Int32 → Int32 → Option (Int32)) (k88 : Int32 → Option (Int32)) (x1 : Int32) (x2 : Int32) (x3 : Int32) (x4 : Int32) (g : Nat → Int32) : Option (Int32) :=
  lt (x4 + 1) (fun x4_5 =>
  rec x3 x4_5)
noncomputable def J_X12_tagged_80 (N : Nat)  (rec : Int32 → Int32 → Option (Int32)) (k88 : Int32 → Option (Int32)) (t0 : Int32) (t1 : Int32) (x1 : Int32) (x2 : Int32) (x4 : Int32) (g : Nat → Int32) : Option (Int32) :=
  lt (t0 + t1) (fun x3_7 =>
  J_X12_tagged_82 N rec k88 x1 x2 x3_7 x4 g)
noncomputable def J_X12_tagged_77 (N : Nat)  (rec : Int32 → Int32 → Option (Int32)) (k88 : Int32 → Option (Int32)) (t0 : Int32) (t2 : Int32) (t3 : Int32) (x1 : Int32) (x2 : Int32) (x4 : Int32) (g : Nat → Int32) : Option (Int32) :=
  bd (F_X12_at g t2 t3) (fun o_6 =>
  J_X12_tagged_80 N rec k88 t0 o_6 x1 x2 x4 g)
noncomputable def K_X12_tagged_28 (N : Nat)  (rec : Int32 → Int32 → Option (Int32)) (k88 : Int32 → Option (Int32)) (x1 : Int32) (x2 : Int32) (g : Nat → Int32) (x3 : Int32) (x4 : Int32)  : Option (Int32) :=
  ld g 8787 13 (fun v_3 =>
  if (v_3 ≤ x4 : Prop) then
  k88 x3
  else
  bd (F_X12_at g x4 3) (fun o_4 =>
  if (((o_4 >>> (x1 &&& 31)) &&& 1) = 1 : Prop) then
  if (x2 = 0 : Prop) then
  J_X12_tagged_80 N rec k88 x3 1 x1 x2 x4 g
  else
  if (x2 = 1 : Prop) then
  J_X12_tagged_77 N rec k88 x3 x4 2 x1 x2 x4 g
  else
  J_X12_tagged_77 N rec k88 x3 x4 5 x1 x2 x4 g
  else
  J_X12_tagged_82 N rec k88 x1 x2 x3 x4 g))
noncomputable def L_X12_tagged_28 (N : Nat)  (k88 : Int32 → Option (Int32)) (x1 : Int32) (x2 : Int32) (g : Nat → Int32) (n : Nat) : Int32 → Int32 → Option (Int32) :=
  Nat.rec (motive := fun _ => Int32 → Int32 → Option (Int32)) (fun _ _ => none) (fun _ rec => K_X12_tagged_28 N rec k88 x1 x2 g) n
noncomputable def F_X12_tagged (N : Nat)  (g : Nat → Int32) (x1 : Int32) (x2 : Int32) : Option (Int32) :=
  bd (F_X12_in x1 0 7) (fun o_1 =>
  if (o_1 = 0 : Prop) then
  some ((-1001))
  else
  bd (F_X12_in x2 0 2) (fun o_2 =>
  if (o_2 = 0 : Prop) then
  some ((-1001))
  else
  L_X12_tagged_28 N (fun x3 => some (x3)) x1 x2 g N 0 0))
noncomputable def F_X12_sweep (N : Nat)  (g : Nat → Int32)  : Option (Int32 × (Nat → Int32)) :=
  bd (F_X12_drops N g 3 0 8) (fun o_1 =>
  some (o_1.1, o_1.2))
noncomputable def J_X12_goingAt_52 (N : Nat)  (rec : Int32 → Int32 → Option (Int32)) (k60 : Int32 → Option (Int32)) (t0 : Int32) (t1 : Int32) (x1 : Int32) (x2 : Int32) (x4 : Int32) (g : Nat → Int32) : Option (Int32) :=
  lt (t0 + t1) (fun x3_3 =>
  lt (x4 + 1) (fun x4_4 =>
  rec x3_3 x4_4))
noncomputable def J_X12_goingAt_51 (N : Nat)  (rec : Int32 → Int32 → Option (Int32)) (k60 : Int32 → Option (Int32)) (t0 : Int32) (x1 : Int32) (x2 : Int32) (x4 : Int32) (g : Nat → Int32) : Option (Int32) :=
  J_X12_goingAt_52 N rec k60 t0 0 x1 x2 x4 g
noncomputable def K_X12_goingAt_18 (N : Nat)  (rec : Int32 → Int32 → Option (Int32)) (k60 : Int32 → Option (Int32)) (x1 : Int32) (x2 : Int32) (g : Nat → Int32) (x3 : Int32) (x4 : Int32)  : Option (Int32) :=
  ld g 8787 13 (fun v_2 =>
  if (v_2 ≤ x4 : Prop) then
  k60 x3
  else
  if (x4 = x2 : Prop) then
  J_X12_goingAt_51 N rec k60 x3 x1 x2 x4 g
  else
  bd (F_X12_isSooner g x4 x2) (fun o_5 =>
  if (o_5 = 0 : Prop) then
  J_X12_goingAt_51 N rec k60 x3 x1 x2 x4 g
  else
  J_X12_goingAt_52 N rec k60 x3 1 x1 x2 x4 g))
noncomputable def L_X12_goingAt_18 (N : Nat)  (k60 : Int32 → Option (Int32)) (x1 : Int32) (x2 : Int32) (g : Nat → Int32) (n : Nat) : Int32 → Int32 → Option (Int32) :=
  Nat.rec (motive := fun _ => Int32 → Int32 → Option (Int32)) (fun _ _ => none) (fun _ rec => K_X12_goingAt_18 N rec k60 x1 x2 g) n
noncomputable def K_X12_goingAt_2 (N : Nat)  (rec : Int32 → Option (Int32)) (k73 : Unit → Option (Int32)) (k65 : Int32 → Option (Int32)) (x1 : Int32) (g : Nat → Int32) (x2 : Int32)  : Option (Int32) :=
  ld g 8787 13 (fun v_1 =>
  if (v_1 ≤ x2 : Prop) then
  k73 ()
  else
  L_X12_goingAt_18 N (fun x3 => if (x3 = x1 : Prop) then
  k65 x2
  else
  lt (x2 + 1) (fun x2_6 =>
  rec x2_6)) x1 x2 g N 0 0)
noncomputable def L_X12_goingAt_2 (N : Nat)  (k73 : Unit → Option (Int32)) (k65 : Int32 → Option (Int32)) (x1 : Int32) (g : Nat → Int32) (n : Nat) : Int32 → Option (Int32) :=
  Nat.rec (motive := fun _ => Int32 → Option (Int32)) (fun _ => none) (fun _ rec => K_X12_goingAt_2 N rec k73 k65 x1 g) n
noncomputable def F_X12_goingAt (N : Nat)  (g : Nat → Int32) (x1 : Int32) : Option (Int32) :=
  L_X12_goingAt_2 N (fun _ => some ((-1))) (fun x2 => some (x2)) x1 g N 0
noncomputable def F_X12_toGo (N : Nat)  (g : Nat → Int32) (x1 : Int32) (x2 : Int32) : Option (Int32) :=
  if (x1 < 0 : Prop) then
  some ((-1001))
  else
  if (((-2)) ≤ x2 : Prop) then
  bd (F_X12_goingAt N g x1) (fun o_1 =>
  if (0 ≤ o_1 : Prop) then
  if (x2 = ((-2)) : Prop) then
  bd (F_X12_at g o_1 5) (fun o_4 =>
  some (o_4))
  else
  bd (F_X12_at g o_1 0) (fun o_2 =>
  bd (F_X12_keyTells N o_2 x2) (fun o_3 =>
  some (o_3)))
  else
  some ((-1003)))
  else
  some ((-1001))
noncomputable def J_X12_would_132 (N : Nat)  (rec : Int32 → Int32 → Int32 → Option (Int32 × Int32 × Int32)) (k138 : Int32 → Option (Int32 × Int32 × Int32)) (x3 : Int32) (x4 : Int32) (x5 : Int32) (x6 : Int32) (g : Nat → Int32) (tape : Nat → Int32) (taped : Int32) (spot : Int32) : Option (Int32 × Int32 × Int32) :=
  lt (x6 + 1) (fun x6_10 =>
  rec x4 x5 x6_10)
noncomputable def K_X12_would_92 (N : Nat)  (rec : Int32 → Int32 → Int32 → Option (Int32 × Int32 × Int32)) (k138 : Int32 → Option (Int32 × Int32 × Int32)) (x3 : Int32) (g : Nat → Int32) (tape : Nat → Int32) (taped : Int32) (spot : Int32) (x4 : Int32) (x5 : Int32) (x6 : Int32)  : Option (Int32 × Int32 × Int32) :=
  ld g 8787 0 (fun v_8 =>
  if (x4 ≤ v_8 : Prop) then
  k138 x5
  else
  bd (F_X12_goingAt N g x6) (fun o_9 =>
  if (o_9 = x3 : Prop) then
  J_X12_would_132 N rec k138 x3 x4 x5 x6 g tape taped spot
  else
  bd (F_X12_at g o_9 2) (fun o_11 =>
  lt (x4 - o_11) (fun x4_12 =>
  lt (x5 + 1) (fun x5_13 =>
  J_X12_would_132 N rec k138 x3 x4_12 x5_13 x6 g tape taped spot)))))
noncomputable def L_X12_would_92 (N : Nat)  (k138 : Int32 → Option (Int32 × Int32 × Int32)) (x3 : Int32) (g : Nat → Int32) (tape : Nat → Int32) (taped : Int32) (spot : Int32) (n : Nat) : Int32 → Int32 → Int32 → Option (Int32 × Int32 × Int32) :=
  Nat.rec (motive := fun _ => Int32 → Int32 → Int32 → Option (Int32 × Int32 × Int32)) (fun _ _ _ => none) (fun _ rec => K_X12_would_92 N rec k138 x3 g tape taped spot) n
noncomputable def J_X12_would_83 (N : Nat)   (t0 : Int32) (t1 : Int32) (x3 : Int32) (g : Nat → Int32) (tape : Nat → Int32) (taped : Int32) (spot : Int32) : Option (Int32 × Int32 × Int32) :=
  lt (t0 - t1) (fun x4_7 =>
  L_X12_would_92 N (fun x5 => some (x5, taped, spot)) x3 g tape taped spot N x4_7 0 0)
noncomputable def J_X12_would_63 (N : Nat)   (x1 : Int32) (x3 : Int32) (g : Nat → Int32) (tape : Nat → Int32) (taped : Int32) (spot : Int32) : Option (Int32 × Int32 × Int32) :=
  bd (F_X12_weight N g) (fun o_5 =>
  if (0 ≤ x3 : Prop) then
  bd (F_X12_at g x3 2) (fun o_6 =>
  J_X12_would_83 N (o_5 + x1) o_6 x3 g tape taped spot)
  else
  J_X12_would_83 N (o_5 + x1) 0 x3 g tape taped spot)
noncomputable def F_X12_would (N : Nat)  (g : Nat → Int32) (tape : Nat → Int32) (taped : Int32) (spot : Int32) (x1 : Int32) : Option (Int32 × Int32 × Int32) :=
  bd (F_X12_in x1 1 20) (fun o_1 =>
  if (o_1 = 0 : Prop) then
  some ((-1001), taped, spot)
  else
  bd (F_X12_takesKey N tape taped spot) (fun o_2 =>
  if (o_2.1 = 0 : Prop) then
  some ((-1002), o_2.2.1, o_2.2.2)
  else
  bd (F_X12_entryOf N g o_2.1) (fun o_3 =>
  if (o_3 < 0 : Prop) then
  bd (F_X12_mayCome N g o_2.1 x1) (fun o_4 =>
  if (o_4 = 0 : Prop) then
  some ((-1003), o_2.2.1, o_2.2.2)
  else
  J_X12_would_63 N x1 o_3 g tape o_2.2.1 o_2.2.2)
  else
  ld g 8787 0 (fun v_14 =>
  if (x1 ≤ v_14 : Prop) then
  J_X12_would_63 N x1 o_3 g tape o_2.2.1 o_2.2.2
  else
  some ((-1003), o_2.2.1, o_2.2.2)))))
noncomputable def J_X12_cold_47 (N : Nat)   (t1 : Int32) (t2 : Int32) (g : Nat → Int32) : Option (Int32) :=
  bd (F_X12_coldAt g t1 t2) (fun o_4 =>
  some (o_4))
noncomputable def F_X12_cold (N : Nat)  (g : Nat → Int32) (x1 : Int32) (x2 : Int32) : Option (Int32) :=
  if (x1 < 0 : Prop) then
  some ((-1001))
  else
  if (((-3)) ≤ x2 : Prop) then
  ld g 8787 14 (fun v_1 =>
  if (x1 < v_1 : Prop) then
  if (((-1)) ≤ x2 : Prop) then
  bd (F_X12_coldAt g x1 0) (fun o_2 =>
  bd (F_X12_keyTells N o_2 x2) (fun o_3 =>
  some (o_3)))
  else
  if (x2 = ((-2)) : Prop) then
  J_X12_cold_47 N x1 1 g
  else
  J_X12_cold_47 N x1 4 g
  else
  some ((-1003)))
  else
  some ((-1001))
noncomputable def J_X12_follows_134 (N : Nat)  (rec : Int32 → Int32 → Option (Int32 × Int32 × Int32)) (k143 : Int32 → Option (Int32 × Int32 × Int32)) (t0 : Int32) (t1 : Int32) (x1 : Int32) (x2 : Int32) (x3 : Int32) (x4 : Int32) (x5 : Int32) (x7 : Int32) (g : Nat → Int32) (tape : Nat → Int32) (taped : Int32) (spot : Int32) : Option (Int32 × Int32 × Int32) :=
  lt (t0 + t1) (fun x6_6 =>
  lt (x7 + 1) (fun x7_7 =>
  rec x6_6 x7_7))
noncomputable def J_X12_follows_133 (N : Nat)  (rec : Int32 → Int32 → Option (Int32 × Int32 × Int32)) (k143 : Int32 → Option (Int32 × Int32 × Int32)) (t0 : Int32) (x1 : Int32) (x2 : Int32) (x3 : Int32) (x4 : Int32) (x5 : Int32) (x7 : Int32) (g : Nat → Int32) (tape : Nat → Int32) (taped : Int32) (spot : Int32) : Option (Int32 × Int32 × Int32) :=
  J_X12_follows_134 N rec k143 t0 0 x1 x2 x3 x4 x5 x7 g tape taped spot
noncomputable def K_X12_follows_69 (N : Nat)  (rec : Int32 → Int32 → Option (Int32 × Int32 × Int32)) (k143 : Int32 → Option (Int32 × Int32 × Int32)) (x1 : Int32) (x2 : Int32) (x3 : Int32) (x4 : Int32) (x5 : Int32) (g : Nat → Int32) (tape : Nat → Int32) (taped : Int32) (spot : Int32) (x6 : Int32) (x7 : Int32)  : Option (Int32 × Int32 × Int32) :=
  ld g 8787 18 (fun v_4 =>
  if (v_4 ≤ (x7 + 1) : Prop) then
  k143 x6
  else
  ld g 8787 (8607 + x7) (fun v_5 =>
  if (v_5 = x2 : Prop) then
  ld g 8787 ((8607 + x7) + 1) (fun v_8 =>
  ld g 8787 ((8607 + x5) + 1) (fun v_9 =>
  if (v_8 = v_9 : Prop) then
  J_X12_follows_134 N rec k143 x6 1 x1 x2 x3 x4 x5 x7 g tape taped spot
  else
  J_X12_follows_133 N rec k143 x6 x1 x2 x3 x4 x5 x7 g tape taped spot))
  else
  J_X12_follows_133 N rec k143 x6 x1 x2 x3 x4 x5 x7 g tape taped spot))
noncomputable def L_X12_follows_69 (N : Nat)  (k143 : Int32 → Option (Int32 × Int32 × Int32)) (x1 : Int32) (x2 : Int32) (x3 : Int32) (x4 : Int32) (x5 : Int32) (g : Nat → Int32) (tape : Nat → Int32) (taped : Int32) (spot : Int32) (n : Nat) : Int32 → Int32 → Option (Int32 × Int32 × Int32) :=
  Nat.rec (motive := fun _ => Int32 → Int32 → Option (Int32 × Int32 × Int32)) (fun _ _ => none) (fun _ rec => K_X12_follows_69 N rec k143 x1 x2 x3 x4 x5 g tape taped spot) n
noncomputable def J_X12_follows_168 (N : Nat)  (rec : Int32 → Int32 → Int32 → Option (Int32 × Int32 × Int32)) (k174 : Int32 → Int32 → Option (Int32 × Int32 × Int32)) (x1 : Int32) (x2 : Int32) (x3 : Int32) (x4 : Int32) (x5 : Int32) (g : Nat → Int32) (tape : Nat → Int32) (taped : Int32) (spot : Int32) : Option (Int32 × Int32 × Int32) :=
  lt (x5 + 1) (fun x5_10 =>
  rec x3 x4 x5_10)
noncomputable def K_X12_follows_31 (N : Nat)  (rec : Int32 → Int32 → Int32 → Option (Int32 × Int32 × Int32)) (k174 : Int32 → Int32 → Option (Int32 × Int32 × Int32)) (x1 : Int32) (x2 : Int32) (g : Nat → Int32) (tape : Nat → Int32) (taped : Int32) (spot : Int32) (x3 : Int32) (x4 : Int32) (x5 : Int32)  : Option (Int32 × Int32 × Int32) :=
  ld g 8787 18 (fun v_2 =>
  if (v_2 ≤ (x5 + 1) : Prop) then
  k174 x3 x4
  else
  ld g 8787 (8607 + x5) (fun v_3 =>
  if (v_3 = x2 : Prop) then
  L_X12_follows_69 N (fun x6 => if (x6 ≤ x4 : Prop) then
  J_X12_follows_168 N rec k174 x1 x2 x3 x4 x5 g tape taped spot
  else
  ld g 8787 ((8607 + x5) + 1) (fun v_11 =>
  J_X12_follows_168 N rec k174 x1 x2 v_11 x6 x5 g tape taped spot)) x1 x2 x3 x4 x5 g tape taped spot N 0 0
  else
  J_X12_follows_168 N rec k174 x1 x2 x3 x4 x5 g tape taped spot))
noncomputable def L_X12_follows_31 (N : Nat)  (k174 : Int32 → Int32 → Option (Int32 × Int32 × Int32)) (x1 : Int32) (x2 : Int32) (g : Nat → Int32) (tape : Nat → Int32) (taped : Int32) (spot : Int32) (n : Nat) : Int32 → Int32 → Int32 → Option (Int32 × Int32 × Int32) :=
  Nat.rec (motive := fun _ => Int32 → Int32 → Int32 → Option (Int32 × Int32 × Int32)) (fun _ _ _ => none) (fun _ rec => K_X12_follows_31 N rec k174 x1 x2 g tape taped spot) n
noncomputable def J_X12_follows_205 (N : Nat)   (t0 : Int32) (t1 : Int32) (g : Nat → Int32) (tape : Nat → Int32) (taped : Int32) (spot : Int32) : Option (Int32 × Int32 × Int32) :=
  bd (F_X12_keyTells N t0 t1) (fun o_12 =>
  some (o_12, taped, spot))
noncomputable def F_X12_follows (N : Nat)  (g : Nat → Int32) (tape : Nat → Int32) (taped : Int32) (spot : Int32) (x1 : Int32) : Option (Int32 × Int32 × Int32) :=
  if (((-2)) ≤ x1 : Prop) then
  bd (F_X12_takesKey N tape taped spot) (fun o_1 =>
  if (o_1.1 = 0 : Prop) then
  some ((-1002), o_1.2.1, o_1.2.2)
  else
  L_X12_follows_31 N (fun x3 x4 => if (x1 = ((-1)) : Prop) then
  some (x4, o_1.2.1, o_1.2.2)
  else
  if (x4 = 0 : Prop) then
  some ((-1003), o_1.2.1, o_1.2.2)
  else
  if (x1 = ((-2)) : Prop) then
  J_X12_follows_205 N x3 ((-1)) g tape o_1.2.1 o_1.2.2
  else
  J_X12_follows_205 N x3 x1 g tape o_1.2.1 o_1.2.2) x1 o_1.1 g tape o_1.2.1 o_1.2.2 N 0 0 0)
  else
  some ((-1001), taped, spot)
noncomputable def F_X12_isReplay   (x0 : Int32) (x1 : Int32) : Option (Int32) :=
  bd (F_X12_in x0 0 3) (fun o_1 =>
  if (o_1 = 0 : Prop) then
  some (0)
  else
  bd (F_X12_in x1 1 12) (fun o_2 =>
  if (o_2 = 0 : Prop) then
  some (0)
  else
  some (1)))
noncomputable def J_X12_against_38   (x2 : Int32) (x3 : Int32) (counts : Nat → Int32) (lasts : Nat → Int32) (cames : Nat → Int32) : Option (Int32) :=
  ld lasts 12 x2 (fun v_1 =>
  ld lasts 12 x3 (fun v_2 =>
  some (v_1 - v_2)))
noncomputable def F_X12_against  (counts : Nat → Int32) (lasts : Nat → Int32) (cames : Nat → Int32) (x1 : Int32) (x2 : Int32) (x3 : Int32) : Option (Int32) :=
  if (x1 = 2 : Prop) then
  ld cames 12 x2 (fun v_7 =>
  ld cames 12 x3 (fun v_8 =>
  some (v_7 - v_8)))
  else
  if (x1 = 0 : Prop) then
  J_X12_against_38 x2 x3 counts lasts cames
  else
  ld counts 12 x2 (fun v_3 =>
  ld counts 12 x3 (fun v_4 =>
  if (v_3 = v_4 : Prop) then
  J_X12_against_38 x2 x3 counts lasts cames
  else
  ld counts 12 x2 (fun v_5 =>
  ld counts 12 x3 (fun v_6 =>
  some (v_5 - v_6)))))
noncomputable def K_X12_goes_20 (N : Nat)  (rec : Int32 → (Option (Int32 × (Nat → Int32) × (Nat → Int32) × (Nat → Int32) × (Nat → Int32)))) (k49 : Int32 → (Option (Int32 × (Nat → Int32) × (Nat → Int32) × (Nat → Int32) × (Nat → Int32)))) (x1 : Int32) (x2 : Int32) (x3 : Int32) (x4 : Int32) (x5 : Int32) (g : Nat → Int32) (asked : Nat → Int32) (askedMany : Int32) (there : Nat → Int32) (counts : Nat → Int32) (lasts : Nat → Int32) (cames : Nat → Int32) (x6 : Int32)  : Option (Int32 × (Nat → Int32) × (Nat → Int32) × (Nat → Int32) × (Nat → Int32)) :=
  if (x3 ≤ x6 : Prop) then
  k49 x6
  else
  ld there 12 x6 (fun v_1 =>
  ld asked 60 x5 (fun v_2 =>
  if (v_1 = v_2 : Prop) then
  k49 x6
  else
  lt (x6 + 1) (fun x6_3 =>
  rec x6_3)))
noncomputable def L_X12_goes_20 (N : Nat)  (k49 : Int32 → (Option (Int32 × (Nat → Int32) × (Nat → Int32) × (Nat → Int32) × (Nat → Int32)))) (x1 : Int32) (x2 : Int32) (x3 : Int32) (x4 : Int32) (x5 : Int32) (g : Nat → Int32) (asked : Nat → Int32) (askedMany : Int32) (there : Nat → Int32) (counts : Nat → Int32) (lasts : Nat → Int32) (cames : Nat → Int32) (n : Nat) : Int32 → (Option (Int32 × (Nat → Int32) × (Nat → Int32) × (Nat → Int32) × (Nat → Int32))) :=
  Nat.rec (motive := fun _ => Int32 → (Option (Int32 × (Nat → Int32) × (Nat → Int32) × (Nat → Int32) × (Nat → Int32)))) (fun _ => none) (fun _ rec => K_X12_goes_20 N rec k49 x1 x2 x3 x4 x5 g asked askedMany there counts lasts cames) n
noncomputable def K_X12_goes_165 (N : Nat)  (rec : Int32 → (Nat → Int32) → (Option (Int32 × (Nat → Int32) × (Nat → Int32) × (Nat → Int32) × (Nat → Int32)))) (k207 : (Nat → Int32) → (Option (Int32 × (Nat → Int32) × (Nat → Int32) × (Nat → Int32) × (Nat → Int32)))) (x1 : Int32) (x2 : Int32) (x3 : Int32) (x4 : Int32) (x5 : Int32) (g : Nat → Int32) (asked : Nat → Int32) (askedMany : Int32) (there : Nat → Int32) (lasts : Nat → Int32) (cames : Nat → Int32) (x7 : Int32) (counts : Nat → Int32) : Option (Int32 × (Nat → Int32) × (Nat → Int32) × (Nat → Int32) × (Nat → Int32)) :=
  if (x3 ≤ x7 : Prop) then
  k207 counts
  else
  if (x1 = 3 : Prop) then
  ld g 8787 1 (fun v_10 =>
  ck (¬ v_10 = 0) (if ((irm (x5 + 1) v_10) = 0 : Prop) then
  ld counts 12 x7 (fun v_11 =>
  sto counts 12 x7 (v_11 / 2) (fun counts_12 =>
  lt (x7 + 1) (fun x7_13 =>
  rec x7_13 counts_12)))
  else
  k207 counts))
  else
  k207 counts
noncomputable def L_X12_goes_165 (N : Nat)  (k207 : (Nat → Int32) → (Option (Int32 × (Nat → Int32) × (Nat → Int32) × (Nat → Int32) × (Nat → Int32)))) (x1 : Int32) (x2 : Int32) (x3 : Int32) (x4 : Int32) (x5 : Int32) (g : Nat → Int32) (asked : Nat → Int32) (askedMany : Int32) (there : Nat → Int32) (lasts : Nat → Int32) (cames : Nat → Int32) (n : Nat) : Int32 → (Nat → Int32) → (Option (Int32 × (Nat → Int32) × (Nat → Int32) × (Nat → Int32) × (Nat → Int32))) :=
  Nat.rec (motive := fun _ => Int32 → (Nat → Int32) → (Option (Int32 × (Nat → Int32) × (Nat → Int32) × (Nat → Int32) × (Nat → Int32)))) (fun _ _ => none) (fun _ rec => K_X12_goes_165 N rec k207 x1 x2 x3 x4 x5 g asked askedMany there lasts cames) n
noncomputable def J_X12_goes_207 (N : Nat)  (rec : Int32 → Int32 → Int32 → (Nat → Int32) → (Nat → Int32) → (Nat → Int32) → (Nat → Int32) → (Option (Int32 × (Nat → Int32) × (Nat → Int32) × (Nat → Int32) × (Nat → Int32)))) (k213 : Int32 → (Nat → Int32) → (Nat → Int32) → (Nat → Int32) → (Nat → Int32) → (Option (Int32 × (Nat → Int32) × (Nat → Int32) × (Nat → Int32) × (Nat → Int32)))) (x1 : Int32) (x2 : Int32) (x3 : Int32) (x4 : Int32) (x5 : Int32) (g : Nat → Int32) (asked : Nat → Int32) (askedMany : Int32) (there : Nat → Int32) (counts : Nat → Int32) (lasts : Nat → Int32) (cames : Nat → Int32) : Option (Int32 × (Nat → Int32) × (Nat → Int32) × (Nat → Int32) × (Nat → Int32)) :=
  lt (x5 + 1) (fun x5_14 =>
  rec x3 x4 x5_14 there counts lasts cames)
noncomputable def J_X12_goes_153 (N : Nat)  (rec : Int32 → Int32 → Int32 → (Nat → Int32) → (Nat → Int32) → (Nat → Int32) → (Nat → Int32) → (Option (Int32 × (Nat → Int32) × (Nat → Int32) × (Nat → Int32) × (Nat → Int32)))) (k213 : Int32 → (Nat → Int32) → (Nat → Int32) → (Nat → Int32) → (Nat → Int32) → (Option (Int32 × (Nat → Int32) × (Nat → Int32) × (Nat → Int32) × (Nat → Int32)))) (x1 : Int32) (x2 : Int32) (x3 : Int32) (x4 : Int32) (x5 : Int32) (x6 : Int32) (g : Nat → Int32) (asked : Nat → Int32) (askedMany : Int32) (there : Nat → Int32) (counts : Nat → Int32) (lasts : Nat → Int32) (cames : Nat → Int32) : Option (Int32 × (Nat → Int32) × (Nat → Int32) × (Nat → Int32) × (Nat → Int32)) :=
  sto lasts 12 x6 x5 (fun lasts_9 =>
  L_X12_goes_165 N (fun counts => J_X12_goes_207 N rec k213 x1 x2 x3 x4 x5 g asked askedMany there counts lasts_9 cames) x1 x2 x3 x4 x5 g asked askedMany there lasts_9 cames N 0 counts)
noncomputable def J_X12_goes_122 (N : Nat)  (rec : Int32 → Int32 → Int32 → (Nat → Int32) → (Nat → Int32) → (Nat → Int32) → (Nat → Int32) → (Option (Int32 × (Nat → Int32) × (Nat → Int32) × (Nat → Int32) × (Nat → Int32)))) (k213 : Int32 → (Nat → Int32) → (Nat → Int32) → (Nat → Int32) → (Nat → Int32) → (Option (Int32 × (Nat → Int32) × (Nat → Int32) × (Nat → Int32) × (Nat → Int32)))) (x1 : Int32) (x2 : Int32) (x3 : Int32) (x4 : Int32) (x5 : Int32) (x6 : Int32) (g : Nat → Int32) (asked : Nat → Int32) (askedMany : Int32) (there : Nat → Int32) (counts : Nat → Int32) (lasts : Nat → Int32) (cames : Nat → Int32) : Option (Int32 × (Nat → Int32) × (Nat → Int32) × (Nat → Int32) × (Nat → Int32)) :=
  ld asked 60 x5 (fun v_5 =>
  sto there 12 x6 v_5 (fun there_6 =>
  sto counts 12 x6 1 (fun counts_7 =>
  sto cames 12 x6 x5 (fun cames_8 =>
  J_X12_goes_153 N rec k213 x1 x2 x3 x4 x5 x6 g asked askedMany there_6 counts_7 lasts cames_8))))
noncomputable def J_X12_goes_108 (N : Nat)  (rec : Int32 → Int32 → (Option (Int32 × (Nat → Int32) × (Nat → Int32) × (Nat → Int32) × (Nat → Int32)))) (k116 : Int32 → (Option (Int32 × (Nat → Int32) × (Nat → Int32) × (Nat → Int32) × (Nat → Int32)))) (t0 : Int32) (x1 : Int32) (x2 : Int32) (x3 : Int32) (x4 : Int32) (x5 : Int32) (x7 : Int32) (g : Nat → Int32) (asked : Nat → Int32) (askedMany : Int32) (there : Nat → Int32) (counts : Nat → Int32) (lasts : Nat → Int32) (cames : Nat → Int32) : Option (Int32 × (Nat → Int32) × (Nat → Int32) × (Nat → Int32) × (Nat → Int32)) :=
  lt (x7 + 1) (fun x7_16 =>
  rec t0 x7_16)
noncomputable def K_X12_goes_83 (N : Nat)  (rec : Int32 → Int32 → (Option (Int32 × (Nat → Int32) × (Nat → Int32) × (Nat → Int32) × (Nat → Int32)))) (k116 : Int32 → (Option (Int32 × (Nat → Int32) × (Nat → Int32) × (Nat → Int32) × (Nat → Int32)))) (x1 : Int32) (x2 : Int32) (x3 : Int32) (x4 : Int32) (x5 : Int32) (g : Nat → Int32) (asked : Nat → Int32) (askedMany : Int32) (there : Nat → Int32) (counts : Nat → Int32) (lasts : Nat → Int32) (cames : Nat → Int32) (x6 : Int32) (x7 : Int32)  : Option (Int32 × (Nat → Int32) × (Nat → Int32) × (Nat → Int32) × (Nat → Int32)) :=
  if (x3 ≤ x7 : Prop) then
  k116 x6
  else
  bd (F_X12_against counts lasts cames x1 x7 x6) (fun o_15 =>
  if (0 ≤ o_15 : Prop) then
  J_X12_goes_108 N rec k116 x6 x1 x2 x3 x4 x5 x7 g asked askedMany there counts lasts cames
  else
  J_X12_goes_108 N rec k116 x7 x1 x2 x3 x4 x5 x7 g asked askedMany there counts lasts cames)
noncomputable def L_X12_goes_83 (N : Nat)  (k116 : Int32 → (Option (Int32 × (Nat → Int32) × (Nat → Int32) × (Nat → Int32) × (Nat → Int32)))) (x1 : Int32) (x2 : Int32) (x3 : Int32) (x4 : Int32) (x5 : Int32) (g : Nat → Int32) (asked : Nat → Int32) (askedMany : Int32) (there : Nat → Int32) (counts : Nat → Int32) (lasts : Nat → Int32) (cames : Nat → Int32) (n : Nat) : Int32 → Int32 → (Option (Int32 × (Nat → Int32) × (Nat → Int32) × (Nat → Int32) × (Nat → Int32))) :=
  Nat.rec (motive := fun _ => Int32 → Int32 → (Option (Int32 × (Nat → Int32) × (Nat → Int32) × (Nat → Int32) × (Nat → Int32)))) (fun _ _ => none) (fun _ rec => K_X12_goes_83 N rec k116 x1 x2 x3 x4 x5 g asked askedMany there counts lasts cames) n
noncomputable def J_X12_goes_49 (N : Nat)  (rec : Int32 → Int32 → Int32 → (Nat → Int32) → (Nat → Int32) → (Nat → Int32) → (Nat → Int32) → (Option (Int32 × (Nat → Int32) × (Nat → Int32) × (Nat → Int32) × (Nat → Int32)))) (k213 : Int32 → (Nat → Int32) → (Nat → Int32) → (Nat → Int32) → (Nat → Int32) → (Option (Int32 × (Nat → Int32) × (Nat → Int32) × (Nat → Int32) × (Nat → Int32)))) (x1 : Int32) (x2 : Int32) (x3 : Int32) (x4 : Int32) (x5 : Int32) (x6 : Int32) (g : Nat → Int32) (asked : Nat → Int32) (askedMany : Int32) (there : Nat → Int32) (counts : Nat → Int32) (lasts : Nat → Int32) (cames : Nat → Int32) : Option (Int32 × (Nat → Int32) × (Nat → Int32) × (Nat → Int32) × (Nat → Int32)) :=
  if (x3 ≤ x6 : Prop) then
  if (x3 = x2 : Prop) then
  L_X12_goes_83 N (fun x6 => J_X12_goes_122 N rec k213 x1 x2 x3 x4 x5 x6 g asked askedMany there counts lasts cames) x1 x2 x3 x4 x5 g asked askedMany there counts lasts cames N 0 1
  else
  lt (x3 + 1) (fun x3_4 =>
  J_X12_goes_122 N rec k213 x1 x2 x3_4 x4 x5 x6 g asked askedMany there counts lasts cames)
  else
  lt (x4 + 1) (fun x4_17 =>
  ld counts 12 x6 (fun v_18 =>
  sto counts 12 x6 (v_18 + 1) (fun counts_19 =>
  J_X12_goes_153 N rec k213 x1 x2 x3 x4_17 x5 x6 g asked askedMany there counts_19 lasts cames)))
noncomputable def K_X12_goes_8 (N : Nat)  (rec : Int32 → Int32 → Int32 → (Nat → Int32) → (Nat → Int32) → (Nat → Int32) → (Nat → Int32) → (Option (Int32 × (Nat → Int32) × (Nat → Int32) × (Nat → Int32) × (Nat → Int32)))) (k213 : Int32 → (Nat → Int32) → (Nat → Int32) → (Nat → Int32) → (Nat → Int32) → (Option (Int32 × (Nat → Int32) × (Nat → Int32) × (Nat → Int32) × (Nat → Int32)))) (x1 : Int32) (x2 : Int32) (g : Nat → Int32) (asked : Nat → Int32) (askedMany : Int32) (x3 : Int32) (x4 : Int32) (x5 : Int32) (there : Nat → Int32) (counts : Nat → Int32) (lasts : Nat → Int32) (cames : Nat → Int32) : Option (Int32 × (Nat → Int32) × (Nat → Int32) × (Nat → Int32) × (Nat → Int32)) :=
  if (askedMany ≤ x5 : Prop) then
  k213 x4 there counts lasts cames
  else
  L_X12_goes_20 N (fun x6 => J_X12_goes_49 N rec k213 x1 x2 x3 x4 x5 x6 g asked askedMany there counts lasts cames) x1 x2 x3 x4 x5 g asked askedMany there counts lasts cames N 0
noncomputable def L_X12_goes_8 (N : Nat)  (k213 : Int32 → (Nat → Int32) → (Nat → Int32) → (Nat → Int32) → (Nat → Int32) → (Option (Int32 × (Nat → Int32) × (Nat → Int32) × (Nat → Int32) × (Nat → Int32)))) (x1 : Int32) (x2 : Int32) (g : Nat → Int32) (asked : Nat → Int32) (askedMany : Int32) (n : Nat) : Int32 → Int32 → Int32 → (Nat → Int32) → (Nat → Int32) → (Nat → Int32) → (Nat → Int32) → (Option (Int32 × (Nat → Int32) × (Nat → Int32) × (Nat → Int32) × (Nat → Int32))) :=
  Nat.rec (motive := fun _ => Int32 → Int32 → Int32 → (Nat → Int32) → (Nat → Int32) → (Nat → Int32) → (Nat → Int32) → (Option (Int32 × (Nat → Int32) × (Nat → Int32) × (Nat → Int32) × (Nat → Int32)))) (fun _ _ _ _ _ _ _ => none) (fun _ rec => K_X12_goes_8 N rec k213 x1 x2 g asked askedMany) n
noncomputable def F_X12_goes (N : Nat)  (g : Nat → Int32) (asked : Nat → Int32) (askedMany : Int32) (there : Nat → Int32) (counts : Nat → Int32) (lasts : Nat → Int32) (cames : Nat → Int32) (x1 : Int32) (x2 : Int32) : Option (Int32 × (Nat → Int32) × (Nat → Int32) × (Nat → Int32) × (Nat → Int32)) :=
  L_X12_goes_8 N (fun x4 there counts lasts cames => some (x4, there, counts, lasts, cames)) x1 x2 g asked askedMany N 0 0 0 there counts lasts cames
noncomputable def J_X12_replay_159 (N : Nat)  (rec : Int32 → Int32 → Int32 → Int32 → (Nat → Int32) → Int32 → (Option (Int32 × Int32 × Int32 × (Nat → Int32) × Int32 × (Nat → Int32) × (Nat → Int32) × (Nat → Int32) × (Nat → Int32)))) (k164 : Int32 → Int32 → (Nat → Int32) → Int32 → (Option (Int32 × Int32 × Int32 × (Nat → Int32) × Int32 × (Nat → Int32) × (Nat → Int32) × (Nat → Int32) × (Nat → Int32)))) (t0 : Int32) (x1 : Int32) (x2 : Int32) (x3 : Int32) (x5 : Int32) (g : Nat → Int32) (tape : Nat → Int32) (taped : Int32) (spot : Int32) (asked : Nat → Int32) (askedMany : Int32) (there : Nat → Int32) (counts : Nat → Int32) (lasts : Nat → Int32) (cames : Nat → Int32) : Option (Int32 × Int32 × Int32 × (Nat → Int32) × Int32 × (Nat → Int32) × (Nat → Int32) × (Nat → Int32) × (Nat → Int32)) :=
  rec x3 t0 x5 spot asked askedMany
noncomputable def J_X12_replay_158 (N : Nat)  (rec : Int32 → Int32 → Int32 → Int32 → (Nat → Int32) → Int32 → (Option (Int32 × Int32 × Int32 × (Nat → Int32) × Int32 × (Nat → Int32) × (Nat → Int32) × (Nat → Int32) × (Nat → Int32)))) (k164 : Int32 → Int32 → (Nat → Int32) → Int32 → (Option (Int32 × Int32 × Int32 × (Nat → Int32) × Int32 × (Nat → Int32) × (Nat → Int32) × (Nat → Int32) × (Nat → Int32)))) (x1 : Int32) (x2 : Int32) (x3 : Int32) (x5 : Int32) (g : Nat → Int32) (tape : Nat → Int32) (taped : Int32) (spot : Int32) (asked : Nat → Int32) (askedMany : Int32) (there : Nat → Int32) (counts : Nat → Int32) (lasts : Nat → Int32) (cames : Nat → Int32) : Option (Int32 × Int32 × Int32 × (Nat → Int32) × Int32 × (Nat → Int32) × (Nat → Int32) × (Nat → Int32) × (Nat → Int32)) :=
  J_X12_replay_159 N rec k164 0 x1 x2 x3 x5 g tape taped spot asked askedMany there counts lasts cames
noncomputable def J_X12_replay_154 (N : Nat)  (rec : Int32 → Int32 → Int32 → Int32 → (Nat → Int32) → Int32 → (Option (Int32 × Int32 × Int32 × (Nat → Int32) × Int32 × (Nat → Int32) × (Nat → Int32) × (Nat → Int32) × (Nat → Int32)))) (k164 : Int32 → Int32 → (Nat → Int32) → Int32 → (Option (Int32 × Int32 × Int32 × (Nat → Int32) × Int32 × (Nat → Int32) × (Nat → Int32) × (Nat → Int32) × (Nat → Int32)))) (x1 : Int32) (x2 : Int32) (x3 : Int32) (x5 : Int32) (g : Nat → Int32) (tape : Nat → Int32) (taped : Int32) (spot : Int32) (asked : Nat → Int32) (askedMany : Int32) (there : Nat → Int32) (counts : Nat → Int32) (lasts : Nat → Int32) (cames : Nat → Int32) : Option (Int32 × Int32 × Int32 × (Nat → Int32) × Int32 × (Nat → Int32) × (Nat → Int32) × (Nat → Int32) × (Nat → Int32)) :=
  J_X12_replay_159 N rec k164 1 x1 x2 x3 x5 g tape taped spot asked askedMany there counts lasts cames
noncomputable def J_X12_replay_127 (N : Nat)  (rec : Int32 → Int32 → Int32 → Int32 → (Nat → Int32) → Int32 → (Option (Int32 × Int32 × Int32 × (Nat → Int32) × Int32 × (Nat → Int32) × (Nat → Int32) × (Nat → Int32) × (Nat → Int32)))) (k164 : Int32 → Int32 → (Nat → Int32) → Int32 → (Option (Int32 × Int32 × Int32 × (Nat → Int32) × Int32 × (Nat → Int32) × (Nat → Int32) × (Nat → Int32) × (Nat → Int32)))) (t0 : Int32) (x1 : Int32) (x2 : Int32) (x5 : Int32) (g : Nat → Int32) (tape : Nat → Int32) (taped : Int32) (spot : Int32) (asked : Nat → Int32) (askedMany : Int32) (there : Nat → Int32) (counts : Nat → Int32) (lasts : Nat → Int32) (cames : Nat → Int32) : Option (Int32 × Int32 × Int32 × (Nat → Int32) × Int32 × (Nat → Int32) × (Nat → Int32) × (Nat → Int32) × (Nat → Int32)) :=
  lt (spot + 1) (fun x3_4 =>
  if (t0 = 0 : Prop) then
  J_X12_replay_158 N rec k164 x1 x2 x3_4 x5 g tape taped spot asked askedMany there counts lasts cames
  else
  if (x5 = 0 : Prop) then
  J_X12_replay_154 N rec k164 x1 x2 x3_4 x5 g tape taped spot asked askedMany there counts lasts cames
  else
  if (x3_4 = taped : Prop) then
  J_X12_replay_158 N rec k164 x1 x2 x3_4 x5 g tape taped spot asked askedMany there counts lasts cames
  else
  J_X12_replay_154 N rec k164 x1 x2 x3_4 x5 g tape taped spot asked askedMany there counts lasts cames)
noncomputable def J_X12_replay_126 (N : Nat)  (rec : Int32 → Int32 → Int32 → Int32 → (Nat → Int32) → Int32 → (Option (Int32 × Int32 × Int32 × (Nat → Int32) × Int32 × (Nat → Int32) × (Nat → Int32) × (Nat → Int32) × (Nat → Int32)))) (k164 : Int32 → Int32 → (Nat → Int32) → Int32 → (Option (Int32 × Int32 × Int32 × (Nat → Int32) × Int32 × (Nat → Int32) × (Nat → Int32) × (Nat → Int32) × (Nat → Int32)))) (x1 : Int32) (x2 : Int32) (x5 : Int32) (g : Nat → Int32) (tape : Nat → Int32) (taped : Int32) (spot : Int32) (asked : Nat → Int32) (askedMany : Int32) (there : Nat → Int32) (counts : Nat → Int32) (lasts : Nat → Int32) (cames : Nat → Int32) : Option (Int32 × Int32 × Int32 × (Nat → Int32) × Int32 × (Nat → Int32) × (Nat → Int32) × (Nat → Int32) × (Nat → Int32)) :=
  J_X12_replay_127 N rec k164 0 x1 x2 x5 g tape taped spot asked askedMany there counts lasts cames
noncomputable def J_X12_replay_122 (N : Nat)  (rec : Int32 → Int32 → Int32 → Int32 → (Nat → Int32) → Int32 → (Option (Int32 × Int32 × Int32 × (Nat → Int32) × Int32 × (Nat → Int32) × (Nat → Int32) × (Nat → Int32) × (Nat → Int32)))) (k164 : Int32 → Int32 → (Nat → Int32) → Int32 → (Option (Int32 × Int32 × Int32 × (Nat → Int32) × Int32 × (Nat → Int32) × (Nat → Int32) × (Nat → Int32) × (Nat → Int32)))) (x1 : Int32) (x2 : Int32) (x5 : Int32) (g : Nat → Int32) (tape : Nat → Int32) (taped : Int32) (spot : Int32) (asked : Nat → Int32) (askedMany : Int32) (there : Nat → Int32) (counts : Nat → Int32) (lasts : Nat → Int32) (cames : Nat → Int32) : Option (Int32 × Int32 × Int32 × (Nat → Int32) × Int32 × (Nat → Int32) × (Nat → Int32) × (Nat → Int32) × (Nat → Int32)) :=
  J_X12_replay_127 N rec k164 1 x1 x2 x5 g tape taped spot asked askedMany there counts lasts cames
noncomputable def J_X12_replay_96 (N : Nat)  (rec : Int32 → Int32 → Int32 → Int32 → (Nat → Int32) → Int32 → (Option (Int32 × Int32 × Int32 × (Nat → Int32) × Int32 × (Nat → Int32) × (Nat → Int32) × (Nat → Int32) × (Nat → Int32)))) (k164 : Int32 → Int32 → (Nat → Int32) → Int32 → (Option (Int32 × Int32 × Int32 × (Nat → Int32) × Int32 × (Nat → Int32) × (Nat → Int32) × (Nat → Int32) × (Nat → Int32)))) (t0 : Int32) (x1 : Int32) (x2 : Int32) (x4 : Int32) (g : Nat → Int32) (tape : Nat → Int32) (taped : Int32) (spot : Int32) (asked : Nat → Int32) (askedMany : Int32) (there : Nat → Int32) (counts : Nat → Int32) (lasts : Nat → Int32) (cames : Nat → Int32) : Option (Int32 × Int32 × Int32 × (Nat → Int32) × Int32 × (Nat → Int32) × (Nat → Int32) × (Nat → Int32) × (Nat → Int32)) :=
  if (x4 = 0 : Prop) then
  J_X12_replay_126 N rec k164 x1 x2 t0 g tape taped spot asked askedMany there counts lasts cames
  else
  if (t0 = 0 : Prop) then
  J_X12_replay_122 N rec k164 x1 x2 t0 g tape taped spot asked askedMany there counts lasts cames
  else
  ld tape 60 spot (fun v_5 =>
  if (v_5 = 32 : Prop) then
  J_X12_replay_122 N rec k164 x1 x2 t0 g tape taped spot asked askedMany there counts lasts cames
  else
  J_X12_replay_126 N rec k164 x1 x2 t0 g tape taped spot asked askedMany there counts lasts cames)
noncomputable def J_X12_replay_80 (N : Nat)  (rec : Int32 → Int32 → Int32 → Int32 → (Nat → Int32) → Int32 → (Option (Int32 × Int32 × Int32 × (Nat → Int32) × Int32 × (Nat → Int32) × (Nat → Int32) × (Nat → Int32) × (Nat → Int32)))) (k164 : Int32 → Int32 → (Nat → Int32) → Int32 → (Option (Int32 × Int32 × Int32 × (Nat → Int32) × Int32 × (Nat → Int32) × (Nat → Int32) × (Nat → Int32) × (Nat → Int32)))) (x1 : Int32) (x2 : Int32) (x4 : Int32) (g : Nat → Int32) (tape : Nat → Int32) (taped : Int32) (spot : Int32) (asked : Nat → Int32) (askedMany : Int32) (there : Nat → Int32) (counts : Nat → Int32) (lasts : Nat → Int32) (cames : Nat → Int32) : Option (Int32 × Int32 × Int32 × (Nat → Int32) × Int32 × (Nat → Int32) × (Nat → Int32) × (Nat → Int32) × (Nat → Int32)) :=
  if (taped ≤ spot : Prop) then
  J_X12_replay_96 N rec k164 0 x1 x2 x4 g tape taped spot asked askedMany there counts lasts cames
  else
  J_X12_replay_96 N rec k164 1 x1 x2 x4 g tape taped spot asked askedMany there counts lasts cames
noncomputable def J_X12_replay_52 (N : Nat)  (rec : Int32 → Int32 → Int32 → Int32 → (Nat → Int32) → Int32 → (Option (Int32 × Int32 × Int32 × (Nat → Int32) × Int32 × (Nat → Int32) × (Nat → Int32) × (Nat → Int32) × (Nat → Int32)))) (k164 : Int32 → Int32 → (Nat → Int32) → Int32 → (Option (Int32 × Int32 × Int32 × (Nat → Int32) × Int32 × (Nat → Int32) × (Nat → Int32) × (Nat → Int32) × (Nat → Int32)))) (t0 : Int32) (x1 : Int32) (x2 : Int32) (x6 : Int32) (g : Nat → Int32) (tape : Nat → Int32) (taped : Int32) (spot : Int32) (asked : Nat → Int32) (askedMany : Int32) (there : Nat → Int32) (counts : Nat → Int32) (lasts : Nat → Int32) (cames : Nat → Int32) : Option (Int32 × Int32 × Int32 × (Nat → Int32) × Int32 × (Nat → Int32) × (Nat → Int32) × (Nat → Int32) × (Nat → Int32)) :=
  if (t0 = 0 : Prop) then
  J_X12_replay_80 N rec k164 x1 x2 t0 g tape taped spot asked askedMany there counts lasts cames
  else
  sto asked 60 askedMany x6 (fun asked_6 =>
  lt ((askedMany + 1)) (fun askedMany_7 =>
  J_X12_replay_80 N rec k164 x1 x2 t0 g tape taped spot asked_6 askedMany_7 there counts lasts cames))
noncomputable def K_X12_replay_25 (N : Nat)  (rec : Int32 → Int32 → Int32 → Int32 → (Nat → Int32) → Int32 → (Option (Int32 × Int32 × Int32 × (Nat → Int32) × Int32 × (Nat → Int32) × (Nat → Int32) × (Nat → Int32) × (Nat → Int32)))) (k164 : Int32 → Int32 → (Nat → Int32) → Int32 → (Option (Int32 × Int32 × Int32 × (Nat → Int32) × Int32 × (Nat → Int32) × (Nat → Int32) × (Nat → Int32) × (Nat → Int32)))) (x1 : Int32) (x2 : Int32) (g : Nat → Int32) (tape : Nat → Int32) (taped : Int32) (there : Nat → Int32) (counts : Nat → Int32) (lasts : Nat → Int32) (cames : Nat → Int32) (x3 : Int32) (x4 : Int32) (x5 : Int32) (spot : Int32) (asked : Nat → Int32) (askedMany : Int32) : Option (Int32 × Int32 × Int32 × (Nat → Int32) × Int32 × (Nat → Int32) × (Nat → Int32) × (Nat → Int32) × (Nat → Int32)) :=
  if (x4 = 0 : Prop) then
  k164 x4 spot asked askedMany
  else
  if (x5 = 0 : Prop) then
  k164 x4 spot asked askedMany
  else
  bd (F_X12_keyAt N tape taped spot x3) (fun o_3 =>
  if (o_3.1 = 0 : Prop) then
  J_X12_replay_52 N rec k164 0 x1 x2 o_3.1 g tape taped o_3.2 asked askedMany there counts lasts cames
  else
  J_X12_replay_52 N rec k164 1 x1 x2 o_3.1 g tape taped o_3.2 asked askedMany there counts lasts cames)
noncomputable def L_X12_replay_25 (N : Nat)  (k164 : Int32 → Int32 → (Nat → Int32) → Int32 → (Option (Int32 × Int32 × Int32 × (Nat → Int32) × Int32 × (Nat → Int32) × (Nat → Int32) × (Nat → Int32) × (Nat → Int32)))) (x1 : Int32) (x2 : Int32) (g : Nat → Int32) (tape : Nat → Int32) (taped : Int32) (there : Nat → Int32) (counts : Nat → Int32) (lasts : Nat → Int32) (cames : Nat → Int32) (n : Nat) : Int32 → Int32 → Int32 → Int32 → (Nat → Int32) → Int32 → (Option (Int32 × Int32 × Int32 × (Nat → Int32) × Int32 × (Nat → Int32) × (Nat → Int32) × (Nat → Int32) × (Nat → Int32))) :=
  Nat.rec (motive := fun _ => Int32 → Int32 → Int32 → Int32 → (Nat → Int32) → Int32 → (Option (Int32 × Int32 × Int32 × (Nat → Int32) × Int32 × (Nat → Int32) × (Nat → Int32) × (Nat → Int32) × (Nat → Int32)))) (fun _ _ _ _ _ _ => none) (fun _ rec => K_X12_replay_25 N rec k164 x1 x2 g tape taped there counts lasts cames) n
noncomputable def J_X12_replay_164 (N : Nat)   (x1 : Int32) (x2 : Int32) (x4 : Int32) (g : Nat → Int32) (tape : Nat → Int32) (taped : Int32) (spot : Int32) (asked : Nat → Int32) (askedMany : Int32) (there : Nat → Int32) (counts : Nat → Int32) (lasts : Nat → Int32) (cames : Nat → Int32) : Option (Int32 × Int32 × Int32 × (Nat → Int32) × Int32 × (Nat → Int32) × (Nat → Int32) × (Nat → Int32) × (Nat → Int32)) :=
  lt (0) (fun taped_8 =>
  if (x4 = 0 : Prop) then
  some ((-1002), taped_8, spot, asked, askedMany, there, counts, lasts, cames)
  else
  bd (F_X12_goes N g asked askedMany there counts lasts cames x1 x2) (fun o_9 =>
  some (o_9.1, taped_8, spot, asked, askedMany, o_9.2.1, o_9.2.2.1, o_9.2.2.2.1, o_9.2.2.2.2)))
noncomputable def F_X12_replay (N : Nat)  (g : Nat → Int32) (tape : Nat → Int32) (taped : Int32) (spot : Int32) (asked : Nat → Int32) (askedMany : Int32) (there : Nat → Int32) (counts : Nat → Int32) (lasts : Nat → Int32) (cames : Nat → Int32) (x1 : Int32) (x2 : Int32) : Option (Int32 × Int32 × Int32 × (Nat → Int32) × Int32 × (Nat → Int32) × (Nat → Int32) × (Nat → Int32) × (Nat → Int32)) :=
  bd (F_X12_isReplay x1 x2) (fun o_1 =>
  if (o_1 = 0 : Prop) then
  some ((-1001), taped, spot, asked, askedMany, there, counts, lasts, cames)
  else
  lt (0) (fun askedMany_2 =>
  L_X12_replay_25 N (fun x4 spot asked askedMany => J_X12_replay_164 N x1 x2 x4 g tape taped spot asked askedMany there counts lasts cames) x1 x2 g tape taped there counts lasts cames N 0 1 1 spot asked askedMany_2))
noncomputable def K_X12_replayed_25 (N : Nat)  (rec : Int32 → (Nat → Int32) → (Option (Int32 × (Nat → Int32) × Int32 × (Nat → Int32) × (Nat → Int32) × (Nat → Int32) × (Nat → Int32)))) (k55 : (Nat → Int32) → (Option (Int32 × (Nat → Int32) × Int32 × (Nat → Int32) × (Nat → Int32) × (Nat → Int32) × (Nat → Int32)))) (x1 : Int32) (x2 : Int32) (g : Nat → Int32) (askedMany : Int32) (there : Nat → Int32) (counts : Nat → Int32) (lasts : Nat → Int32) (cames : Nat → Int32) (x3 : Int32) (asked : Nat → Int32) : Option (Int32 × (Nat → Int32) × Int32 × (Nat → Int32) × (Nat → Int32) × (Nat → Int32) × (Nat → Int32)) :=
  if (askedMany ≤ x3 : Prop) then
  k55 asked
  else
  ld g 8787 (8607 + x3) (fun v_4 =>
  sto asked 60 x3 v_4 (fun asked_5 =>
  lt (x3 + 1) (fun x3_6 =>
  rec x3_6 asked_5)))
noncomputable def L_X12_replayed_25 (N : Nat)  (k55 : (Nat → Int32) → (Option (Int32 × (Nat → Int32) × Int32 × (Nat → Int32) × (Nat → Int32) × (Nat → Int32) × (Nat → Int32)))) (x1 : Int32) (x2 : Int32) (g : Nat → Int32) (askedMany : Int32) (there : Nat → Int32) (counts : Nat → Int32) (lasts : Nat → Int32) (cames : Nat → Int32) (n : Nat) : Int32 → (Nat → Int32) → (Option (Int32 × (Nat → Int32) × Int32 × (Nat → Int32) × (Nat → Int32) × (Nat → Int32) × (Nat → Int32))) :=
  Nat.rec (motive := fun _ => Int32 → (Nat → Int32) → (Option (Int32 × (Nat → Int32) × Int32 × (Nat → Int32) × (Nat → Int32) × (Nat → Int32) × (Nat → Int32)))) (fun _ _ => none) (fun _ rec => K_X12_replayed_25 N rec k55 x1 x2 g askedMany there counts lasts cames) n
noncomputable def F_X12_replayed (N : Nat)  (g : Nat → Int32) (asked : Nat → Int32) (askedMany : Int32) (there : Nat → Int32) (counts : Nat → Int32) (lasts : Nat → Int32) (cames : Nat → Int32) (x1 : Int32) (x2 : Int32) : Option (Int32 × (Nat → Int32) × Int32 × (Nat → Int32) × (Nat → Int32) × (Nat → Int32) × (Nat → Int32)) :=
  bd (F_X12_isReplay x1 x2) (fun o_1 =>
  if (o_1 = 0 : Prop) then
  some ((-1001), asked, askedMany, there, counts, lasts, cames)
  else
  ld g 8787 18 (fun v_2 =>
  lt (v_2) (fun askedMany_3 =>
  L_X12_replayed_25 N (fun asked => bd (F_X12_goes N g asked askedMany_3 there counts lasts cames x1 x2) (fun o_7 =>
  some (o_7.1, asked, askedMany_3, o_7.2.1, o_7.2.2.1, o_7.2.2.2.1, o_7.2.2.2.2))) x1 x2 g askedMany_3 there counts lasts cames N 0 asked)))
noncomputable def F_X12_book  (g : Nat → Int32) (x1 : Int32) (x2 : Int32) : Option (Int64) :=
  if (x1 < 0 : Prop) then
  some ((-1001))
  else
  bd (F_X12_in x2 0 2) (fun o_1 =>
  if (o_1 = 0 : Prop) then
  some ((-1001))
  else
  ld g 8787 19 (fun v_2 =>
  if (v_2 ≤ x1 : Prop) then
  some ((-1003))
  else
  ld g 8787 ((8667 + (3 * x1)) + x2) (fun v_3 =>
  some (v_3.toInt64))))
noncomputable def F_X12_led  (g : Nat → Int32) (x1 : Int32) : Option (Int64) :=
  bd (F_X12_in x1 0 13) (fun o_1 =>
  if (o_1 = 0 : Prop) then
  some ((-1001))
  else
  ld g 8787 (20 + x1) (fun v_2 =>
  some (v_2.toInt64)))
noncomputable def K_X12_lays_2 (N : Nat)  (rec : Int32 → (Nat → Int32) → (Option ((Nat → Int32)))) (k21 : (Nat → Int32) → (Option ((Nat → Int32))))  (f0 : Nat → Int32) (x2 : Int32) (f1 : Nat → Int32) : Option ((Nat → Int32)) :=
  if (8787 ≤ x2 : Prop) then
  k21 f1
  else
  ld f0 8787 x2 (fun v_1 =>
  sto f1 8787 x2 v_1 (fun f1_2 =>
  lt (x2 + 1) (fun x2_3 =>
  rec x2_3 f1_2)))
noncomputable def L_X12_lays_2 (N : Nat)  (k21 : (Nat → Int32) → (Option ((Nat → Int32))))  (f0 : Nat → Int32) (n : Nat) : Int32 → (Nat → Int32) → (Option ((Nat → Int32))) :=
  Nat.rec (motive := fun _ => Int32 → (Nat → Int32) → (Option ((Nat → Int32)))) (fun _ _ => none) (fun _ rec => K_X12_lays_2 N rec k21 f0) n
noncomputable def F_X12_lays (N : Nat)  (f0 : Nat → Int32) (f1 : Nat → Int32)  : Option ((Nat → Int32)) :=
  L_X12_lays_2 N (fun f1 => some (f1)) f0 N 0 f1
noncomputable def F_X12_image (N : Nat)  (g : Nat → Int32) (kept : Nat → Int32) (isKept : Int32)  : Option (Int32 × (Nat → Int32) × Int32) :=
  bd (F_X12_lays N g kept) (fun o_1 =>
  lt (1) (fun isKept_2 =>
  ld g 8787 13 (fun v_3 =>
  some (v_3, o_1, isKept_2))))
noncomputable def F_X12_back (N : Nat)  (g : Nat → Int32) (kept : Nat → Int32) (isKept : Int32)  : Option (Int32 × (Nat → Int32)) :=
  if (isKept = 0 : Prop) then
  some ((-1005), g)
  else
  bd (F_X12_lays N kept g) (fun o_1 =>
  ld o_1 8787 13 (fun v_2 =>
  some (v_2, o_1)))
noncomputable def J_X12_count_121 (N : Nat)  (rec : Int32 → Int32 → Option (Int32)) (k129 : Int32 → Option (Int32)) (t0 : Int32) (t1 : Int32) (x3 : Int32) (g : Nat → Int32) (taped : Int32) : Option (Int32) :=
  lt (t0 + t1) (fun x2_8 =>
  lt (x3 + 1) (fun x3_9 =>
  rec x2_8 x3_9))
noncomputable def K_X12_count_96 (N : Nat)  (rec : Int32 → Int32 → Option (Int32)) (k129 : Int32 → Option (Int32))  (g : Nat → Int32) (taped : Int32) (x2 : Int32) (x3 : Int32)  : Option (Int32) :=
  ld g 8787 13 (fun v_6 =>
  if (v_6 ≤ x3 : Prop) then
  k129 x2
  else
  bd (F_X12_isStale g x3) (fun o_7 =>
  if (o_7 = 0 : Prop) then
  J_X12_count_121 N rec k129 x2 0 x3 g taped
  else
  J_X12_count_121 N rec k129 x2 1 x3 g taped))
noncomputable def L_X12_count_96 (N : Nat)  (k129 : Int32 → Option (Int32))  (g : Nat → Int32) (taped : Int32) (n : Nat) : Int32 → Int32 → Option (Int32) :=
  Nat.rec (motive := fun _ => Int32 → Int32 → Option (Int32)) (fun _ _ => none) (fun _ rec => K_X12_count_96 N rec k129 g taped) n
noncomputable def J_X12_count_154 (N : Nat)  (rec : Int32 → Int32 → Option (Int32)) (k162 : Int32 → Option (Int32)) (t0 : Int32) (t1 : Int32) (x3 : Int32) (g : Nat → Int32) (taped : Int32) : Option (Int32) :=
  lt (t0 + t1) (fun x2_11 =>
  lt (x3 + 1) (fun x3_12 =>
  rec x2_11 x3_12))
noncomputable def K_X12_count_133 (N : Nat)  (rec : Int32 → Int32 → Option (Int32)) (k162 : Int32 → Option (Int32))  (g : Nat → Int32) (taped : Int32) (x2 : Int32) (x3 : Int32)  : Option (Int32) :=
  if (16 ≤ x3 : Prop) then
  k162 x2
  else
  bd (F_X12_box N g x3 1) (fun o_10 =>
  if (o_10 ≤ 0 : Prop) then
  J_X12_count_154 N rec k162 x2 0 x3 g taped
  else
  J_X12_count_154 N rec k162 x2 1 x3 g taped)
noncomputable def L_X12_count_133 (N : Nat)  (k162 : Int32 → Option (Int32))  (g : Nat → Int32) (taped : Int32) (n : Nat) : Int32 → Int32 → Option (Int32) :=
  Nat.rec (motive := fun _ => Int32 → Int32 → Option (Int32)) (fun _ _ => none) (fun _ rec => K_X12_count_133 N rec k162 g taped) n
noncomputable def J_X12_count_193 (N : Nat)  (rec : Int32 → Int32 → Option (Int32)) (k201 : Int32 → Option (Int32)) (t0 : Int32) (t1 : Int32) (x3 : Int32) (g : Nat → Int32) (taped : Int32) : Option (Int32) :=
  lt (t0 + t1) (fun x2_15 =>
  lt (x3 + 1) (fun x3_16 =>
  rec x2_15 x3_16))
noncomputable def K_X12_count_166 (N : Nat)  (rec : Int32 → Int32 → Option (Int32)) (k201 : Int32 → Option (Int32))  (g : Nat → Int32) (taped : Int32) (x2 : Int32) (x3 : Int32)  : Option (Int32) :=
  ld g 8787 13 (fun v_13 =>
  if (v_13 ≤ x3 : Prop) then
  k201 x2
  else
  bd (F_X12_at g x3 8) (fun o_14 =>
  if (o_14 = 0 : Prop) then
  J_X12_count_193 N rec k201 x2 0 x3 g taped
  else
  J_X12_count_193 N rec k201 x2 1 x3 g taped))
noncomputable def L_X12_count_166 (N : Nat)  (k201 : Int32 → Option (Int32))  (g : Nat → Int32) (taped : Int32) (n : Nat) : Int32 → Int32 → Option (Int32) :=
  Nat.rec (motive := fun _ => Int32 → Int32 → Option (Int32)) (fun _ _ => none) (fun _ rec => K_X12_count_166 N rec k201 g taped) n
noncomputable def F_X12_count (N : Nat)  (g : Nat → Int32) (taped : Int32) (x1 : Int32) : Option (Int32) :=
  if (x1 = 0 : Prop) then
  ld g 8787 13 (fun v_1 =>
  some (v_1))
  else
  if (x1 = 1 : Prop) then
  bd (F_X12_weight N g) (fun o_2 =>
  some (o_2))
  else
  if (x1 = 2 : Prop) then
  bd (F_X12_loads N g 2) (fun o_3 =>
  some (o_3))
  else
  if (x1 = 3 : Prop) then
  bd (F_X12_loads N g 1) (fun o_4 =>
  some (o_4))
  else
  if (x1 = 4 : Prop) then
  some (taped)
  else
  if (x1 = 5 : Prop) then
  ld g 8787 8 (fun v_5 =>
  some (v_5))
  else
  if (x1 = 6 : Prop) then
  L_X12_count_96 N (fun x2 => some (x2)) g taped N 0 0
  else
  if (x1 = 7 : Prop) then
  L_X12_count_133 N (fun x2 => some (x2)) g taped N 0 0
  else
  if (x1 = 8 : Prop) then
  L_X12_count_166 N (fun x2 => some (x2)) g taped N 0 0
  else
  if (x1 = 9 : Prop) then
  ld g 8787 14 (fun v_17 =>
  some (v_17))
  else
  some ((-1001))
noncomputable def F_X9_size (L : Nat) (sz : Int32)  : Option (Int32) :=
  some (sz)
noncomputable def F_X9_clear (L : Nat) (sz : Int32)  : Option (Int32) :=
  lt (0) (fun sz_1 =>
  some (sz_1))
noncomputable def J_X9_get_38 (L : Nat)  (t0 : Int32) (x3 : Int32) (wi : Int32) (sz : Int32) (f : Nat → Int32) : Option (Int32) :=
  if (t0 = 0 : Prop) then
  some (0)
  else
  if (x3 < 0 : Prop) then
  some (0)
  else
  if ((nI L) ≤ x3 : Prop) then
  some (0)
  else
  ld f L x3 (fun v_2 =>
  some (v_2))
noncomputable def J_X9_get_37 (L : Nat)  (x3 : Int32) (wi : Int32) (sz : Int32) (f : Nat → Int32) : Option (Int32) :=
  J_X9_get_38 L 0 x3 wi sz f
noncomputable def F_X9_get (L : Nat) (wi : Int32) (sz : Int32) (f : Nat → Int32) (x1 : Int32) (x2 : Int32) : Option (Int32) :=
  lt ((x1 * wi) + x2) (fun x3_1 =>
  if (x1 < 0 : Prop) then
  J_X9_get_37 L x3_1 wi sz f
  else
  if (sz ≤ x1 : Prop) then
  J_X9_get_37 L x3_1 wi sz f
  else
  if (x2 < 0 : Prop) then
  J_X9_get_37 L x3_1 wi sz f
  else
  if (wi ≤ x2 : Prop) then
  J_X9_get_37 L x3_1 wi sz f
  else
  J_X9_get_38 L 1 x3_1 wi sz f)
noncomputable def J_X9_set_39 (L : Nat)  (t0 : Int32) (x3 : Int32) (x4 : Int32) (wi : Int32) (sz : Int32) (f : Nat → Int32) : Option ((Nat → Int32)) :=
  if (t0 = 0 : Prop) then
  some (f)
  else
  if (x4 < 0 : Prop) then
  some (f)
  else
  if ((nI L) ≤ x4 : Prop) then
  some (f)
  else
  sto f L x4 x3 (fun f_2 =>
  some (f_2))
noncomputable def J_X9_set_38 (L : Nat)  (x3 : Int32) (x4 : Int32) (wi : Int32) (sz : Int32) (f : Nat → Int32) : Option ((Nat → Int32)) :=
  J_X9_set_39 L 0 x3 x4 wi sz f
noncomputable def F_X9_set (L : Nat) (wi : Int32) (sz : Int32) (f : Nat → Int32) (x1 : Int32) (x2 : Int32) (x3 : Int32) : Option ((Nat → Int32)) :=
  lt ((x1 * wi) + x2) (fun x4_1 =>
  if (x1 < 0 : Prop) then
  J_X9_set_38 L x3 x4_1 wi sz f
  else
  if (sz ≤ x1 : Prop) then
  J_X9_set_38 L x3 x4_1 wi sz f
  else
  if (x2 < 0 : Prop) then
  J_X9_set_38 L x3 x4_1 wi sz f
  else
  if (wi ≤ x2 : Prop) then
  J_X9_set_38 L x3 x4_1 wi sz f
  else
  J_X9_set_39 L 1 x3 x4_1 wi sz f)
noncomputable def J_X9_find_41 (N : Nat) (L : Nat) (rec : Int32 → Int32 → Option (Int32)) (k47 : Unit → Option (Int32)) (k35 : Int32 → Option (Int32)) (x1 : Int32) (x2 : Int32) (x3 : Int32) (x4 : Int32) (x5 : Int32) (wi : Int32) (sz : Int32) (f : Nat → Int32) : Option (Int32) :=
  lt (x5 + 1) (fun x5_3 =>
  rec x4 x5_3)
noncomputable def K_X9_find_6 (N : Nat) (L : Nat) (rec : Int32 → Int32 → Option (Int32)) (k47 : Unit → Option (Int32)) (k35 : Int32 → Option (Int32)) (x1 : Int32) (x2 : Int32) (x3 : Int32) (wi : Int32) (sz : Int32) (f : Nat → Int32) (x4 : Int32) (x5 : Int32)  : Option (Int32) :=
  if (sz ≤ x5 : Prop) then
  k47 ()
  else
  bd (F_X9_get L wi sz f x5 x1) (fun o_1 =>
  if (o_1 = x2 : Prop) then
  if (x4 = x3 : Prop) then
  k35 x5
  else
  lt (x4 + 1) (fun x4_2 =>
  J_X9_find_41 N L rec k47 k35 x1 x2 x3 x4_2 x5 wi sz f)
  else
  J_X9_find_41 N L rec k47 k35 x1 x2 x3 x4 x5 wi sz f)
noncomputable def L_X9_find_6 (N : Nat) (L : Nat) (k47 : Unit → Option (Int32)) (k35 : Int32 → Option (Int32)) (x1 : Int32) (x2 : Int32) (x3 : Int32) (wi : Int32) (sz : Int32) (f : Nat → Int32) (n : Nat) : Int32 → Int32 → Option (Int32) :=
  Nat.rec (motive := fun _ => Int32 → Int32 → Option (Int32)) (fun _ _ => none) (fun _ rec => K_X9_find_6 N L rec k47 k35 x1 x2 x3 wi sz f) n
noncomputable def F_X9_find (N : Nat) (L : Nat) (wi : Int32) (sz : Int32) (f : Nat → Int32) (x1 : Int32) (x2 : Int32) (x3 : Int32) : Option (Int32) :=
  L_X9_find_6 N L (fun _ => some ((-1))) (fun x5 => some (x5)) x1 x2 x3 wi sz f N 0 0
noncomputable def J_X9_howMany_28 (N : Nat) (L : Nat) (rec : Int32 → Int32 → Option (Int32)) (k34 : Int32 → Option (Int32)) (x1 : Int32) (x2 : Int32) (x3 : Int32) (x4 : Int32) (wi : Int32) (sz : Int32) (f : Nat → Int32) : Option (Int32) :=
  lt (x4 + 1) (fun x4_2 =>
  rec x3 x4_2)
noncomputable def K_X9_howMany_5 (N : Nat) (L : Nat) (rec : Int32 → Int32 → Option (Int32)) (k34 : Int32 → Option (Int32)) (x1 : Int32) (x2 : Int32) (wi : Int32) (sz : Int32) (f : Nat → Int32) (x3 : Int32) (x4 : Int32)  : Option (Int32) :=
  if (sz ≤ x4 : Prop) then
  k34 x3
  else
  bd (F_X9_get L wi sz f x4 x1) (fun o_1 =>
  if (o_1 = x2 : Prop) then
  lt (x3 + 1) (fun x3_3 =>
  J_X9_howMany_28 N L rec k34 x1 x2 x3_3 x4 wi sz f)
  else
  J_X9_howMany_28 N L rec k34 x1 x2 x3 x4 wi sz f)
noncomputable def L_X9_howMany_5 (N : Nat) (L : Nat) (k34 : Int32 → Option (Int32)) (x1 : Int32) (x2 : Int32) (wi : Int32) (sz : Int32) (f : Nat → Int32) (n : Nat) : Int32 → Int32 → Option (Int32) :=
  Nat.rec (motive := fun _ => Int32 → Int32 → Option (Int32)) (fun _ _ => none) (fun _ rec => K_X9_howMany_5 N L rec k34 x1 x2 wi sz f) n
noncomputable def F_X9_howMany (N : Nat) (L : Nat) (wi : Int32) (sz : Int32) (f : Nat → Int32) (x1 : Int32) (x2 : Int32) : Option (Int32) :=
  L_X9_howMany_5 N L (fun x3 => some (x3)) x1 x2 wi sz f N 0 0
noncomputable def K_X9_remove_20 (N : Nat) (L : Nat) (rec : Int32 → (Nat → Int32) → (Option (Int32 × (Nat → Int32)))) (k75 : (Nat → Int32) → (Option (Int32 × (Nat → Int32))))  (wi : Int32) (sz : Int32) (x2 : Int32) (f : Nat → Int32) : Option (Int32 × (Nat → Int32)) :=
  if ((sz * wi) ≤ (x2 + wi) : Prop) then
  k75 f
  else
  if ((nI L) ≤ (x2 + wi) : Prop) then
  k75 f
  else
  ld f L (x2 + wi) (fun v_2 =>
  sto f L x2 v_2 (fun f_3 =>
  lt (x2 + 1) (fun x2_4 =>
  rec x2_4 f_3)))
noncomputable def L_X9_remove_20 (N : Nat) (L : Nat) (k75 : (Nat → Int32) → (Option (Int32 × (Nat → Int32))))  (wi : Int32) (sz : Int32) (n : Nat) : Int32 → (Nat → Int32) → (Option (Int32 × (Nat → Int32))) :=
  Nat.rec (motive := fun _ => Int32 → (Nat → Int32) → (Option (Int32 × (Nat → Int32)))) (fun _ _ => none) (fun _ rec => K_X9_remove_20 N L rec k75 wi sz) n
noncomputable def J_X9_remove_75 (N : Nat) (L : Nat)   (wi : Int32) (sz : Int32) (f : Nat → Int32) : Option (Int32 × (Nat → Int32)) :=
  lt ((sz - 1)) (fun sz_5 =>
  some (sz_5, f))
noncomputable def F_X9_remove (N : Nat) (L : Nat) (wi : Int32) (sz : Int32) (f : Nat → Int32) (x1 : Int32) : Option (Int32 × (Nat → Int32)) :=
  if (x1 < 0 : Prop) then
  some (sz, f)
  else
  if (x1 < sz : Prop) then
  lt (x1 * wi) (fun x2_1 =>
  L_X9_remove_20 N L (fun f => J_X9_remove_75 N L wi sz f) wi sz N x2_1 f)
  else
  some (sz, f)
noncomputable def J_X9_removeAll_26 (N : Nat) (L : Nat) (rec : Int32 → Int32 → (Nat → Int32) → (Option (Int32 × (Nat → Int32)))) (k32 : Int32 → (Nat → Int32) → (Option (Int32 × (Nat → Int32)))) (x1 : Int32) (x2 : Int32) (x3 : Int32) (wi : Int32) (sz : Int32) (f : Nat → Int32) : Option (Int32 × (Nat → Int32)) :=
  lt (x3 + (-1)) (fun x3_3 =>
  rec x3_3 sz f)
noncomputable def K_X9_removeAll_7 (N : Nat) (L : Nat) (rec : Int32 → Int32 → (Nat → Int32) → (Option (Int32 × (Nat → Int32)))) (k32 : Int32 → (Nat → Int32) → (Option (Int32 × (Nat → Int32)))) (x1 : Int32) (x2 : Int32) (wi : Int32) (x3 : Int32) (sz : Int32) (f : Nat → Int32) : Option (Int32 × (Nat → Int32)) :=
  if (x3 < 0 : Prop) then
  k32 sz f
  else
  bd (F_X9_get L wi sz f x3 x1) (fun o_2 =>
  if (o_2 = x2 : Prop) then
  bd (F_X9_remove N L wi sz f x3) (fun o_4 =>
  J_X9_removeAll_26 N L rec k32 x1 x2 x3 wi o_4.1 o_4.2)
  else
  J_X9_removeAll_26 N L rec k32 x1 x2 x3 wi sz f)
noncomputable def L_X9_removeAll_7 (N : Nat) (L : Nat) (k32 : Int32 → (Nat → Int32) → (Option (Int32 × (Nat → Int32)))) (x1 : Int32) (x2 : Int32) (wi : Int32) (n : Nat) : Int32 → Int32 → (Nat → Int32) → (Option (Int32 × (Nat → Int32))) :=
  Nat.rec (motive := fun _ => Int32 → Int32 → (Nat → Int32) → (Option (Int32 × (Nat → Int32)))) (fun _ _ _ => none) (fun _ rec => K_X9_removeAll_7 N L rec k32 x1 x2 wi) n
noncomputable def F_X9_removeAll (N : Nat) (L : Nat) (wi : Int32) (sz : Int32) (f : Nat → Int32) (x1 : Int32) (x2 : Int32) : Option (Int32 × (Nat → Int32)) :=
  lt (sz - 1) (fun x3_1 =>
  L_X9_removeAll_7 N L (fun sz f => some (sz, f)) x1 x2 wi N x3_1 sz f)
noncomputable def J_X9_push_139 (N : Nat) (L : Nat) (rec : Int32 → (Nat → Int32) → (Option (Int32 × Int32 × (Nat → Int32)))) (k146 : (Nat → Int32) → (Option (Int32 × Int32 × (Nat → Int32)))) (t1 : Int32) (t2 : Int32) (x1 : Int32) (x2 : Int32) (x3 : Int32) (x4 : Int32) (x5 : Int32) (mo : Int32) (wi : Int32) (sz : Int32) (f : Nat → Int32) : Option (Int32 × Int32 × (Nat → Int32)) :=
  sto f L t1 t2 (fun f_2 =>
  lt (x5 + 1) (fun x5_3 =>
  rec x5_3 f_2))
noncomputable def K_X9_push_78 (N : Nat) (L : Nat) (rec : Int32 → (Nat → Int32) → (Option (Int32 × Int32 × (Nat → Int32)))) (k146 : (Nat → Int32) → (Option (Int32 × Int32 × (Nat → Int32)))) (x1 : Int32) (x2 : Int32) (x3 : Int32) (x4 : Int32) (mo : Int32) (wi : Int32) (sz : Int32) (x5 : Int32) (f : Nat → Int32) : Option (Int32 × Int32 × (Nat → Int32)) :=
  if (wi ≤ x5 : Prop) then
  k146 f
  else
  if ((nI L) ≤ (x4 + x5) : Prop) then
  k146 f
  else
  if (x5 = 0 : Prop) then
  J_X9_push_139 N L rec k146 (x4 + x5) x1 x1 x2 x3 x4 x5 mo wi sz f
  else
  if (x5 = 1 : Prop) then
  J_X9_push_139 N L rec k146 (x4 + x5) x2 x1 x2 x3 x4 x5 mo wi sz f
  else
  if (x5 = 2 : Prop) then
  J_X9_push_139 N L rec k146 (x4 + x5) x3 x1 x2 x3 x4 x5 mo wi sz f
  else
  J_X9_push_139 N L rec k146 (x4 + x5) 0 x1 x2 x3 x4 x5 mo wi sz f
noncomputable def L_X9_push_78 (N : Nat) (L : Nat) (k146 : (Nat → Int32) → (Option (Int32 × Int32 × (Nat → Int32)))) (x1 : Int32) (x2 : Int32) (x3 : Int32) (x4 : Int32) (mo : Int32) (wi : Int32) (sz : Int32) (n : Nat) : Int32 → (Nat → Int32) → (Option (Int32 × Int32 × (Nat → Int32))) :=
  Nat.rec (motive := fun _ => Int32 → (Nat → Int32) → (Option (Int32 × Int32 × (Nat → Int32)))) (fun _ _ => none) (fun _ rec => K_X9_push_78 N L rec k146 x1 x2 x3 x4 mo wi sz) n
noncomputable def J_X9_push_146 (N : Nat) (L : Nat)   (mo : Int32) (wi : Int32) (sz : Int32) (f : Nat → Int32) : Option (Int32 × Int32 × (Nat → Int32)) :=
  lt ((sz + 1)) (fun sz_4 =>
  some (sz_4 - 1, sz_4, f))
noncomputable def J_X9_push_64 (N : Nat) (L : Nat)  (x1 : Int32) (x2 : Int32) (x3 : Int32) (mo : Int32) (wi : Int32) (sz : Int32) (f : Nat → Int32) : Option (Int32 × Int32 × (Nat → Int32)) :=
  lt (sz * wi) (fun x4_1 =>
  L_X9_push_78 N L (fun f => J_X9_push_146 N L mo wi sz f) x1 x2 x3 x4_1 mo wi sz N 0 f)
noncomputable def K_X9_push_14 (N : Nat) (L : Nat) (rec : Int32 → (Nat → Int32) → (Option (Int32 × Int32 × (Nat → Int32)))) (k54 : (Nat → Int32) → (Option (Int32 × Int32 × (Nat → Int32)))) (x1 : Int32) (x2 : Int32) (x3 : Int32) (mo : Int32) (wi : Int32) (sz : Int32) (x4 : Int32) (f : Nat → Int32) : Option (Int32 × Int32 × (Nat → Int32)) :=
  if ((nI L) ≤ (x4 + wi) : Prop) then
  k54 f
  else
  ld f L (x4 + wi) (fun v_5 =>
  sto f L x4 v_5 (fun f_6 =>
  lt (x4 + 1) (fun x4_7 =>
  rec x4_7 f_6)))
noncomputable def L_X9_push_14 (N : Nat) (L : Nat) (k54 : (Nat → Int32) → (Option (Int32 × Int32 × (Nat → Int32)))) (x1 : Int32) (x2 : Int32) (x3 : Int32) (mo : Int32) (wi : Int32) (sz : Int32) (n : Nat) : Int32 → (Nat → Int32) → (Option (Int32 × Int32 × (Nat → Int32))) :=
  Nat.rec (motive := fun _ => Int32 → (Nat → Int32) → (Option (Int32 × Int32 × (Nat → Int32)))) (fun _ _ => none) (fun _ rec => K_X9_push_14 N L rec k54 x1 x2 x3 mo wi sz) n
noncomputable def F_X9_push (N : Nat) (L : Nat) (mo : Int32) (wi : Int32) (sz : Int32) (f : Nat → Int32) (x1 : Int32) (x2 : Int32) (x3 : Int32) : Option (Int32 × Int32 × (Nat → Int32)) :=
  if (sz < mo : Prop) then
  J_X9_push_64 N L x1 x2 x3 mo wi sz f
  else
  L_X9_push_14 N L (fun f => lt ((mo - 1)) (fun sz_8 =>
  J_X9_push_64 N L x1 x2 x3 mo wi sz_8 f)) x1 x2 x3 mo wi sz N 0 f
