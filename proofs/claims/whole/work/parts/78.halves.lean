/-! ===== a use ends: both sides ===== -/
theorem RR.k {T : Nat → Rows} {V : Nat → Nat → Int32} {g : Nat → Int32} (h : RR T V g) : RK g (T 0) := h.1
theorem RR.t {T : Nat → Rows} {V : Nat → Nat → Int32} {g : Nat → Int32} (h : RR T V g) : RT g (T 1) := h.2.1
theorem RR.w {T : Nat → Rows} {V : Nat → Nat → Int32} {g : Nat → Int32} (h : RR T V g) : RW g (T 2) := h.2.2.1
theorem RR.a {T : Nat → Rows} {V : Nat → Nat → Int32} {g : Nat → Int32} (h : RR T V g) : RA g (T 3) := h.2.2.2.1
theorem RR.e {T : Nat → Rows} {V : Nat → Nat → Int32} {g : Nat → Int32} (h : RR T V g) : RE g (T 4) := h.2.2.2.2.1
theorem RR.c {T : Nat → Rows} {V : Nat → Nat → Int32} {g : Nat → Int32} (h : RR T V g) : RC g (T 5) := h.2.2.2.2.2.1
theorem RR.l {T : Nat → Rows} {V : Nat → Nat → Int32} {g : Nat → Int32} (h : RR T V g) : RL g (T 6) (T 7) := h.2.2.2.2.2.2.1
theorem RR.b {T : Nat → Rows} {V : Nat → Nat → Int32} {g : Nat → Int32} (h : RR T V g) : RB g (T 8) := h.2.2.2.2.2.2.2.1
theorem RR.z {T : Nat → Rows} {V : Nat → Nat → Int32} {g : Nat → Int32} (h : RR T V g) : R0 g (V 0) (V 4) := h.2.2.2.2.2.2.2.2.1
theorem RR.d {T : Nat → Rows} {V : Nat → Nat → Int32} {g : Nat → Int32} (h : RR T V g) : RD g (V 1) := h.2.2.2.2.2.2.2.2.2.1
theorem RR.o {T : Nat → Rows} {V : Nat → Nat → Int32} {g : Nat → Int32} (h : RR T V g) : RO g (V 2) := h.2.2.2.2.2.2.2.2.2.2.1
theorem RR.s {T : Nat → Rows} {V : Nat → Nat → Int32} {g : Nat → Int32} (h : RR T V g) : RS g (V 3) := h.2.2.2.2.2.2.2.2.2.2.2
theorem s_hlvE {N : Nat} {V : Nat → Nat → Int32} (kc' : Rows → Option Rows) (kr : (Nat → Int32) → Option (Nat → Int32)) : ∀ (d i : Nat) (T : Nat → Rows) (g : Nat → Int32), RR T V g → Inv0 T V → iX (T 4) (T 5) → i + d = (T 4).length →
    ∃ (T' : Nat → Rows) (g' : Nat → Int32), (∀ n, d < n → L_X0_halveCounts_2 N 200 kc' n (nI i) (T 4) = kc' (T' 4)) ∧ (∀ n, d < n → L_X12_halves_31 N kr n (nI i) g = kr g') ∧ RR T' V g' ∧ Inv0 T' V ∧ iX (T' 4) (T' 5) ∧ wSN (T' 4) = wSN (T 4) ∧ ∀ j, j ≠ 4 → T' j = T j := by
  intro d
  induction d with
  | zero =>
    intro i T g h hI hX hi
    have h200 := h.e.2
    refine ⟨T, g, fun n hn => ?_, fun n hn => ?_, h, hI, hX, rfl, fun _ _ => rfl⟩
    · obtain ⟨m, rfl⟩ : ∃ m, n = m + 1 := ⟨n - 1, by omega⟩
      rw [e_X0_halveCounts_2]
      unfold K_X0_halveCounts_2
      rw [lt_b, if_pos (show tsize (T 4) ≤ nI i from nI_le (by omega) (by omega))]
    · obtain ⟨m, rfl⟩ : ∃ m, n = m + 1 := ⟨n - 1, by omega⟩
      rw [e_X12_halves_31]
      unfold K_X12_halves_31
      rw [gl 13 13 rfl (by decide), s_many h.e, if_pos (nI_le (by omega) (by omega))]
  | succ d ih =>
    intro i T g h hI hX hi
    have h200 := h.e.2
    have hil : i < (T 4).length := by omega
    obtain ⟨c0, hc0, ec0⟩ := (hI.1.at hil).2.2
    have e2 : cl (rw' (T 4) i) 3 / 2 = nI (c0 / 2) := by rw [ec0]; exact pk_div (a := c0) (d := 2) (by omega) (by omega) (by omega)
    obtain ⟨g1, q1, r1⟩ := s_setE h hI.1.iE hil (c := 3) (by decide) (by decide) 5 rfl (nI (c0 / 2))
    have I1 : Inv0 (stE T i 3 (nI (c0 / 2))) V := stE_inv hI (Or.inr (Or.inr (Or.inr (Or.inl ⟨rfl, c0 / 2, by omega, rfl⟩))))
    have X1 : iX (stE T i 3 (nI (c0 / 2)) 4) (stE T i 3 (nI (c0 / 2)) 5) := by
      rw [stE_ne (j := 5) (by decide)]
      exact hX.sub (stE_keys hI (by decide)) (List.Sublist.refl _)
    obtain ⟨T', g', c1, c2, c3, c4, c5, c6, c7⟩ := ih (i + 1) (stE T i 3 (nI (c0 / 2))) g1 r1 I1 X1 (by rw [stE_len]; omega)
    refine ⟨T', g', fun n hn => ?_, fun n hn => ?_, c3, c4, c5, by rw [c6, wSN_set hI (by decide)], fun j hj => by rw [c7 j hj, stE_ne hj]⟩
    · obtain ⟨m, rfl⟩ : ∃ m, n = m + 1 := ⟨n - 1, by omega⟩
      rw [e_X0_halveCounts_2]
      unfold K_X0_halveCounts_2
      rw [lt_b, if_neg (show ¬ tsize (T 4) ≤ nI i from nI_ge hil (by omega)), lt_b, tg i 3 3 rfl (by omega) (by decide), lt_b, tset_nI (by omega) 3 3 rfl (by decide), lt_b, nI_1, e2]
      exact c1 m (by omega)
    · obtain ⟨m, rfl⟩ : ∃ m, n = m + 1 := ⟨n - 1, by omega⟩
      have e3 : cl (mEn (rw' (T 4) i)) 5 = cl (rw' (T 4) i) 3 := rfl
      rw [e_X12_halves_31]
      unfold K_X12_halves_31
      rw [gl 13 13 rfl (by decide), s_many h.e, if_neg (nI_ge hil (by omega)), s_at h.e hil 5 5 rfl (by decide), bd_some, e3, e2, q1, bd_some, lt_b, nI_1]
      exact c2 m (by omega)
theorem s_hlvS {N : Nat} {T : Nat → Rows} (kc' kr : (Nat → Int32) → Option (Nat → Int32)) : ∀ (d i : Nat) (V : Nat → Nat → Int32) (g : Nat → Int32), RR T V g → c15 (V 3) → i + d = 64 →
    ∃ (c' g' : Nat → Int32), (∀ n, d < n → L_X7_halve_2 N kc' n (nI i) (V 3) = kc' c') ∧ (∀ n, d < n → L_X12_halves_64 N kr n (nI i) g = kr g') ∧ RR T (va_up V 3 c') g' ∧ c15 c' := by
  intro d
  induction d with
  | zero =>
    intro i V g h h15 hi
    have ei : i = 64 := by omega
    subst ei
    refine ⟨V 3, g, fun n hn => ?_, fun n hn => ?_, by rw [va_same]; exact h, h15⟩
    · obtain ⟨m, rfl⟩ : ∃ m, n = m + 1 := ⟨n - 1, by omega⟩
      rw [e_X7_halve_2]
      unfold K_X7_halve_2
      rw [if_pos (nI_le (Nat.le_refl _) (by decide))]
    · obtain ⟨m, rfl⟩ : ∃ m, n = m + 1 := ⟨n - 1, by omega⟩
      rw [e_X12_halves_64]
      unfold K_X12_halves_64
      rw [if_pos (show (64 : Int32) ≤ nI 64 by decide)]
  | succ d ih =>
    intro i V g h h15 hi
    have hil : i < 64 := by omega
    obtain ⟨a, ha, ea⟩ := h15 i hil
    have e2 : V 3 i / 2 = nI (a / 2) := by rw [ea]; exact pk_div (a := a) (d := 2) (by omega) (by omega) (by omega)
    have hs : RS g (V 3) := h.s
    have r1 := h.uRS (v := upd (V 3) i (nI (a / 2))) (g' := upd g (34 + i) (nI (a / 2))) (fun j hj => by
      by_cases q : j = i
      · rw [q, upd_at, upd_at]
      · rw [upd_ne q, upd_ne (by omega)]; exact hs j hj) (fun p hp hq => upd_ne (by omega))
    have h15' : c15 (va_up V 3 (upd (V 3) i (nI (a / 2))) 3) := by
      intro j hj
      rw [vu_at]
      by_cases q : j = i
      · rw [q, upd_at]; exact ⟨a / 2, by omega, rfl⟩
      · rw [upd_ne q]; exact h15 j hj
    obtain ⟨c', g', c1, c2, c3, c4⟩ := ih (i + 1) _ _ r1 h15' (by omega)
    rw [vu_at] at c1
    rw [vu_idem] at c3
    have e3 : (34 : Int32) + nI i = nI (34 + i) := nI_add 34 i
    refine ⟨c', g', fun n hn => ?_, fun n hn => ?_, c3, c4⟩
    · obtain ⟨m, rfl⟩ : ∃ m, n = m + 1 := ⟨n - 1, by omega⟩
      rw [e_X7_halve_2]
      unfold K_X7_halve_2
      rw [if_neg (nI_ge hil (by decide)), ldn (k := i) rfl hil, ston (k := i) rfl hil, lt_b, nI_1, e2]
      exact c1 m (by omega)
    · obtain ⟨m, rfl⟩ : ∃ m, n = m + 1 := ⟨n - 1, by omega⟩
      rw [e_X12_halves_64]
      unfold K_X12_halves_64
      rw [if_neg (show ¬ (64 : Int32) ≤ nI i from nI_ge (b := 64) hil (by decide)), e3, gl _ (34 + i) rfl (by omega), gs _ (34 + i) rfl (by omega), lt_b, nI_1, hs i hil, e2]
      exact c2 m (by omega)
def P.wu (p : P) (u : Nat) : P := P.mk p.room p.c p.lo p.le p.t u p.a
theorem mod_step {n w : Nat} (hw : 0 < w) : (w ≤ n % w + 1 ∧ (n + 1) % w = 0) ∨ (n % w + 1 < w ∧ (n + 1) % w = n % w + 1 ∧ (n + 1) % w ≠ 0) := by
  have h1 := Nat.mod_lt n hw
  by_cases q : n % w + 1 < w
  · right
    have : (n + 1) % w = n % w + 1 := by rw [Nat.add_mod, Nat.mod_eq_of_lt (a := 1) (by omega), Nat.mod_eq_of_lt q]
    omega
  · left
    refine ⟨by omega, ?_⟩
    have e : n % w + 1 = w := by omega
    have := Nat.div_add_mod n w
    have e2 : n + 1 = w * (n / w) + w := by omega
    rw [e2, ← Nat.mul_succ]
    exact Nat.mul_mod_right _ _
theorem s_halves {N : Nat} (hN : 65536 ≤ N) {p : P} {T : Nat → Rows} {V : Nat → Nat → Int32} {g : Nat → Int32} (h : RR T V g) (hI : Iv p T V) (hu : p.u < 100000) :
    ∃ (T' : Nat → Rows) (V' : Nat → Nat → Int32) (g' : Nat → Int32), F_X6_endUse N (V 0) (V 4 0) (T 0) (V 1) (T 4) (V 3) (V 4 2 + 1) = some (T' 0, V' 1, T' 4, V' 3, V' 4 2) ∧ F_X12_halves N g = some g' ∧ RR T' V' g' ∧ Iv (p.wu (p.u + 1)) T' V' ∧ (∀ j, j ≠ 0 → j ≠ 4 → T' j = T j) ∧ (∀ j, j ≠ 1 → j ≠ 3 → j ≠ 4 → V' j = V j) ∧ ∀ j, j ≠ 2 → j ≠ 5 → V' 4 j = V 4 j := by
  obtain ⟨q1, q2, q3, q4, q5, n, w, hn, hw, hw5, q9, q10, q11, q12⟩ := h.z
  have hnu : n = p.u := (nI_eq (by omega) (by omega)).mp (q12.symm.trans hI.n.2.2.1)
  have g1 : g 1 = nI w := by rw [q1 1 (by decide)]; exact q10
  have hnw := Nat.mod_lt n hw
  -- one more since the window was told
  generalize hV1 : va_up V 4 (upd (upd (V 4) 2 (nI ((n + 1) % w))) 5 (nI (n + 1))) = V1
  have v14 : V1 4 = upd (upd (V 4) 2 (nI ((n + 1) % w))) 5 (nI (n + 1)) := by rw [← hV1]; rfl
  have v1j : ∀ j, j ≠ 4 → V1 j = V j := fun j hj => by rw [← hV1, vu_ne hj]
  have v4j : ∀ j, j ≠ 2 → j ≠ 5 → V1 4 j = V 4 j := fun j h2 h5 => by rw [v14, upd_ne h5, upd_ne h2]
  have v42 : V1 4 2 = nI ((n + 1) % w) := by rw [v14, upd_ne (by decide), upd_at]
  have v45 : V1 4 5 = nI (n + 1) := by rw [v14, upd_at]
  have r1 : RR T V1 (upd g 11 (nI (n + 1))) := by
    have := h.uR0 (v := V 0) (sc := upd (upd (V 4) 2 (nI ((n + 1) % w))) 5 (nI (n + 1))) (g' := upd g 11 (nI (n + 1))) (by
      refine ⟨fun i hi => by rw [upd_ne (by omega)]; exact q1 i hi, ?_, ?_, ?_, ?_, n + 1, w, by omega, hw, hw5, ?_, q10, ?_, ?_⟩
      · rw [upd_ne (by decide), upd_ne (by decide), upd_ne (by decide)]; exact q2
      · rw [upd_ne (by decide), upd_ne (by decide), upd_ne (by decide)]; exact q3
      · rw [upd_ne (by decide), upd_ne (by decide), upd_ne (by decide)]; exact q4
      · rw [upd_ne (by decide), upd_ne (by decide), upd_ne (by decide)]; exact q5
      · rw [upd_at]
      · rw [upd_ne (by decide), upd_at]
      · rw [upd_at]) (fun p hp hq => upd_ne (by omega))
    rw [va_same] at this
    rw [← hV1]
    exact this
  have i1 : Iv (p.wu (p.u + 1)) T V1 := by
    refine ⟨by rw [v1j 0 (by decide)]; exact hI.r, ⟨by rw [v4j 3 (by decide) (by decide)]; exact hI.i0.1, hI.i0.2⟩, hI.x, hI.sum, hI.cold, ⟨by rw [v4j 0 (by decide) (by decide)]; exact hI.n.1, hI.n.2.1, by rw [v45, hnu]; rfl, by rw [v4j 3 (by decide) (by decide)]; exact hI.n.2.2.2⟩, by rw [v1j 3 (by decide)]; exact hI.sk, hI.ld⟩
  have e11 : nI n + 1 = nI (n + 1) := nI_1 n
  have e2 : V 4 2 + 1 = nI (n % w + 1) := by rw [q11, nI_1]
  have hrem : irm (nI (n + 1)) (nI w) = nI ((n + 1) % w) := pk_rem (by omega) hw (by omega)
  have hwne : ¬ nI w = 0 := fun z => by have := (nI_eq (a := w) (b := 0) (by omega) (by omega)).mp z; omega
  have hv1 : F_X5_value (V 0) 1 = some (nI w) := by rw [n_value 1 1 rfl (by decide), q10]
  rcases mod_step (n := n) hw with ⟨m1, m2⟩ | ⟨m1, m2, m3⟩
  · obtain ⟨T2, g2, c1, c2, c3, c4, c5, c6, c7⟩ := s_hlvE (N := N) (fun rows => some rows) (fun g => L_X12_halves_64 N (fun g => ld g 8787 30 (fun v_12 =>
      sto g 8787 30 (v_12 + 1) (fun g_13 =>
      bd (F_X12_happens N g_13 10 0) (fun o_14 =>
      some (o_14))))) N 0 g) (T 4).length 0 T _ r1 i1.i0 i1.x (by omega)
    obtain ⟨c', g3, d1, d2, d3, d4⟩ := s_hlvS (N := N) (fun cnt => some cnt) (fun g => ld g 8787 30 (fun v_12 =>
      sto g 8787 30 (v_12 + 1) (fun g_13 =>
      bd (F_X12_happens N g_13 10 0) (fun o_14 =>
      some (o_14))))) 64 0 V1 g2 c3 i1.sk (by omega)
    have r4 := s_led d3 (j := 10) (by decide)
    obtain ⟨g5, q5', r5⟩ := s_happens hN r4 (k := 0) (Or.inl rfl) 10
    have h200 := h.e.2
    refine ⟨_, _, g5, ?_, ?_, r5, ?_, fun j h0 h4 => ?_, fun j h1 h3 h4 => ?_, fun j h2 h5 => ?_⟩
    · unfold F_X6_endUse
      have c1' := c1 N (by omega)
      have d1' := d1 N (by omega)
      rw [nI_0] at c1' d1'
      rw [v1j 3 (by decide)] at d1'
      have cc : F_X0_halveCounts N 200 (T 4) = some (T2 4) := c1'
      have dd : F_X7_halve N (V 3) = some c' := d1'
      rw [hv1, bd_some, e2, if_pos (nI_le m1 (by omega)), lt_b, cc, bd_some, dd, bd_some, n_noteI hN (Or.inl rfl) (V 4 0) (T 0) (V 1) 10 10 rfl (by decide), bd_some]
      have z1 : T2 0 = T 0 := c7 0 (by decide)
      have z2 : V1 1 = V 1 := v1j 1 (by decide)
      have z3 : V1 4 0 = V 4 0 := v4j 0 (by decide) (by decide)
      have z4 : V1 4 2 = 0 := by rw [v42, m2]; rfl
      show some (pushK (T 0) 10 (V 4 0) 0, tallyN (V 1) 10, T2 4, c', 0) = some (pushK (T2 0) 10 (V1 4 0) 0, tallyN (V1 1) 10, T2 4, c', V1 4 2)
      rw [z1, z2, z3, z4]
    · unfold F_X12_halves
      have c2' := c2 N (by omega)
      have d2' := d2 N (by omega)
      rw [nI_0] at c2' d2'
      rw [d2'] at c2'
      rw [gl 11 11 rfl (by decide), q9, e11, gs 11 11 rfl (by decide), gl 11 11 rfl (by decide), upd_at, gl 1 1 rfl (by decide), upd_ne (by decide), g1, ck_t hwne, hrem, m2, if_pos nI_0, c2']
      have q5'' : F_X12_happens N (upd g3 30 (g3 30 + 1)) 10 0 = some g5 := by
        have z := q5'
        rw [kc_0] at z
        exact z
      rw [gl 30 30 rfl (by decide), gs 30 30 rfl (by decide), q5'', bd_some]
    · have t8 : ∀ j, j ≠ 0 → va_up T2 0 (pushK (T2 0) 10 (va_up (va_up V1 3 c') 1 (tallyN (va_up V1 3 c' 1) 10) 4 0) 0) j = T2 j := fun j hj => vu_ne hj
      refine ⟨i1.r, ⟨c4.1, c4.2⟩, c5, by show wSN (T2 4) ≤ _; rw [c6]; exact i1.sum, ?_, i1.n, d4, ?_⟩
      · show (T2 5).length ≤ _
        rw [c7 5 (by decide)]; exact i1.cold
      · have z := i1.ld
        unfold iLd at z ⊢
        rw [t8 6 (by decide), t8 7 (by decide), t8 8 (by decide), t8 1 (by decide), c7 6 (by decide), c7 7 (by decide), c7 8 (by decide), c7 1 (by decide)]
        exact z
    · rw [vu_ne h0, c7 j h4]
    · rw [vu_ne h1, vu_ne h3, v1j j h4]
    · show V1 4 j = _
      exact v4j j h2 h5
  · refine ⟨T, V1, _, ?_, ?_, r1, i1, fun _ _ _ => rfl, fun j h1 h3 h4 => v1j j h4, v4j⟩
    · unfold F_X6_endUse
      rw [hv1, bd_some, e2, if_neg (nI_ge m1 (by omega)), v1j 1 (by decide), v1j 3 (by decide), v42, m2]
    · unfold F_X12_halves
      rw [gl 11 11 rfl (by decide), q9, e11, gs 11 11 rfl (by decide), gl 11 11 rfl (by decide), upd_at, gl 1 1 rfl (by decide), upd_ne (by decide), g1, ck_t hwne, hrem, if_neg (show ¬ nI ((n + 1) % w) = 0 from fun z => m3 ((nI_eq (a := (n + 1) % w) (b := 0) (by have := Nat.mod_lt (n + 1) hw; omega) (by omega)).mp z))]
