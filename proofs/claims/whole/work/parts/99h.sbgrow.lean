abbrev cJ7_copyOf_9075b : ByteArray := prog_24_method_121_code
def yJ7_copyOf_9075b : MethodName := ⟨RJ7, "copyOf", "([BI)[B"⟩
theorem dJ7_copyOf_9075b_0 : decode cJ7_copyOf_9075b 0 = .ok (.iload_n 1, 1) := by decide +kernel
theorem dJ7_copyOf_9075b_1 : decode cJ7_copyOf_9075b 1 = .ok (.aload_n 0, 1) := by decide +kernel
theorem dJ7_copyOf_9075b_2 : decode cJ7_copyOf_9075b 2 = .ok (.arraylength, 1) := by decide +kernel
theorem dJ7_copyOf_9075b_3 : decode cJ7_copyOf_9075b 3 = .ok (.if_icmp .ne 11, 3) := by decide +kernel
theorem dJ7_copyOf_9075b_6 : decode cJ7_copyOf_9075b 6 = .ok (.aload_n 0, 1) := by decide +kernel
theorem dJ7_copyOf_9075b_7 : decode cJ7_copyOf_9075b 7 = .ok (.invokevirtual 310, 3) := by decide +kernel
theorem dJ7_copyOf_9075b_10 : decode cJ7_copyOf_9075b 10 = .ok (.checkcast 311, 3) := by decide +kernel
theorem dJ7_copyOf_9075b_13 : decode cJ7_copyOf_9075b 13 = .ok (.areturn, 1) := by decide +kernel
theorem dJ7_copyOf_9075b_14 : decode cJ7_copyOf_9075b 14 = .ok (.iload_n 1, 1) := by decide +kernel
theorem dJ7_copyOf_9075b_15 : decode cJ7_copyOf_9075b 15 = .ok (.newarray .byte, 2) := by decide +kernel
theorem dJ7_copyOf_9075b_17 : decode cJ7_copyOf_9075b 17 = .ok (.astore_n 2, 1) := by decide +kernel
theorem dJ7_copyOf_9075b_18 : decode cJ7_copyOf_9075b 18 = .ok (.aload_n 0, 1) := by decide +kernel
theorem dJ7_copyOf_9075b_19 : decode cJ7_copyOf_9075b 19 = .ok (.iconst 0, 1) := by decide +kernel
theorem dJ7_copyOf_9075b_20 : decode cJ7_copyOf_9075b 20 = .ok (.aload_n 2, 1) := by decide +kernel
theorem dJ7_copyOf_9075b_21 : decode cJ7_copyOf_9075b 21 = .ok (.iconst 0, 1) := by decide +kernel
theorem dJ7_copyOf_9075b_22 : decode cJ7_copyOf_9075b 22 = .ok (.aload_n 0, 1) := by decide +kernel
theorem dJ7_copyOf_9075b_23 : decode cJ7_copyOf_9075b 23 = .ok (.arraylength, 1) := by decide +kernel
theorem dJ7_copyOf_9075b_24 : decode cJ7_copyOf_9075b 24 = .ok (.iload_n 1, 1) := by decide +kernel
theorem dJ7_copyOf_9075b_25 : decode cJ7_copyOf_9075b 25 = .ok (.invokestatic 304, 3) := by decide +kernel
theorem dJ7_copyOf_9075b_28 : decode cJ7_copyOf_9075b 28 = .ok (.invokestatic 150, 3) := by decide +kernel
theorem dJ7_copyOf_9075b_31 : decode cJ7_copyOf_9075b 31 = .ok (.aload_n 2, 1) := by decide +kernel
theorem dJ7_copyOf_9075b_32 : decode cJ7_copyOf_9075b 32 = .ok (.areturn, 1) := by decide +kernel
theorem kl_min_J7 : Cond.methodLink RJ7 304 Lib.Math.min.name ∈ TB := tb_at 991 (by decide +kernel) (by decide +kernel)
theorem kac_l7 : Cond.methodLink RJ7 150 arraycopyName ∈ TB := tb_at 992 (by decide +kernel) (by decide +kernel)
set_option maxHeartbeats 4000000 in
theorem t_copyOf (E : mE) (l : Launch) (a0 L M : Nat) (f : Nat → Int32) (h1 : L < M) (h2 : M ≤ 100) (hfit : ∀ i, i < L → fits .byte (.int (f i)) = true) : MX E l yJ7_copyOf_9075b cJ7_copyOf_9075b 3 (some (.array .byte)) ({ frames := 1, cells := 1, slots := M, locals := 60 } : Room) [.ref a0, .int (nI M)] [(a0, .inl (E.2.2.1, L, .inl f))] (fun v w' => ∃ q, v = some (.ref q) ∧ w' = [(a0, .inl (E.2.2.1, L, .inl f)), (q, .inl (E.2.2.1, M, .inl (va_cpy f (fun _ => 0) 0 0 L)))]) := by
  refine mx_intro (by decide +kernel) (Nat.le_of_ble_eq_true rfl) ?_
  intro p e s m args below meth c A Q ls B w hl
  obtain ⟨hx, hb, hml, hown, hts⟩ := id B.1
  have hl : lv_has ls 3 [(0, .ref a0), (1, .int (nI M))] := hl
  refine lv_iload_n hx hb dJ7_copyOf_9075b_0 rfl (lv_at hl 1 rfl) ?_
  refine lv_aload_n hx hb dJ7_copyOf_9075b_1 rfl (lv_at hl 0 rfl) ?_
  refine mx_alenb B w 0 rfl dJ7_copyOf_9075b_2 ?_
  refine lv_icmp_ne (tgt := 14) hx hb dJ7_copyOf_9075b_3 (by decide) (fun _ => ?_) (fun hc => absurd ((nI_eq (by omega) (by omega)).mp hc) (by omega))
  refine lv_iload_n hx hb dJ7_copyOf_9075b_14 rfl (lv_at hl 1 rfl) ?_
  refine mx_newb B w (N' := M) ka_byte (nI_pos (by omega)) (nI_clamp (by omega)) (by omega) (Nat.le_refl 1) (by show 0 + M ≤ M; omega) dJ7_copyOf_9075b_15 (fun q H w => ?_)
  have w : mW E A s [(a0, .inl (E.2.2.1, L, .inl f)), (q, .inl (E.2.2.1, M, .inl (fun _ => 0)))] _ _ := w
  refine W.widen (k := 1) (n := M) (by omega) (by omega) ?_
  refine lv_astore_n (lv' := [(2, .ref q), (0, .ref a0), (1, .int (nI M))]) hx hb dJ7_copyOf_9075b_17 rfl hl (by decide) rfl (fun ls hl => ?_)
  refine lv_aload_n hx hb dJ7_copyOf_9075b_18 rfl (lv_at hl 1 rfl) ?_
  refine lv_iconst (v := 0) hx hb dJ7_copyOf_9075b_19 (by decide) ?_
  refine lv_aload_n hx hb dJ7_copyOf_9075b_20 rfl (lv_at hl 0 rfl) ?_
  refine lv_iconst (v := 0) hx hb dJ7_copyOf_9075b_21 (by decide) ?_
  refine lv_aload_n hx hb dJ7_copyOf_9075b_22 rfl (lv_at hl 1 rfl) ?_
  refine mx_alenb B w 0 rfl dJ7_copyOf_9075b_23 ?_
  refine lv_iload_n hx hb dJ7_copyOf_9075b_24 rfl (lv_at hl 2 rfl) ?_
  refine va_mmin hx hb (by rw [hml]; exact hl.1.symm) hown (hts _ kl_min_J7) (hts _ kw_static_min) (hts _ kw_init_math) (hts _ kw_code_min) (Nat.le_of_ble_eq_true rfl) (Nat.le_of_ble_eq_true rfl) (Nat.le_refl _) (Nat.le_refl _) dJ7_copyOf_9075b_25 ?_
  have emin : (if nI M < nI L then nI M else nI L) = nI L := if_neg (fun z => by have := (nI_ltI (by omega) (by omega)).mp z; omega)
  refine W.eq (g2 := F0 m 28 ls [.int (nI L), .int 0, .ref q, .int 0, .ref a0]) (congrArg (fun z => F0 m 28 ls [.int z, .int 0, .ref q, .int 0, .ref a0]) emin) ?_
  refine va_copyi (D := (mD E).1) (cl := (mD E).2.1) (tys := (mD E).2.2) hx hb (by rw [hml]; exact hl.1.symm) hown (hts _ kac_l7) (hts _ kac_nat) (hts _ kac_stat) (hts _ kac_ini) B.2.2.2.2.1 w.1 w.2.1 w.2.2 0 1 1 1 (ty := .byte) rfl rfl rfl rfl rfl (by decide) (by decide) (nI_pos (by omega)) (by rw [cl0, Nat.zero_add, nI_clamp (by omega)]; exact Nat.le_refl _) (by rw [cl0, Nat.zero_add, nI_clamp (by omega)]; omega) (fun i hi => by rw [cl0, Nat.zero_add]; rw [nI_clamp (by omega)] at hi; exact hfit i hi) (Nat.le_of_ble_eq_true rfl) (Nat.le_of_ble_eq_true rfl) dJ7_copyOf_9075b_28 (fun H1 locs1 g1 g2 g3 => ?_)
  have w2 : mW E A s [(a0, .inl (E.2.2.1, L, .inl f)), (q, .inl (E.2.2.1, M, .inl (va_cpy f (fun _ => 0) 0 0 L)))] H1 locs1 := by
    have e1 : (nI L).toNatClampNeg = L := nI_clamp (by omega)
    rw [cl0, e1] at g1 g2
    exact ⟨g1, g2, g3⟩
  refine lv_aload_n hx hb dJ7_copyOf_9075b_31 rfl (lv_at hl 0 rfl) ?_
  exact mx_aret B (Or.inr ⟨_, rfl⟩) w2 ⟨q, rfl, rfl⟩ dJ7_copyOf_9075b_32
