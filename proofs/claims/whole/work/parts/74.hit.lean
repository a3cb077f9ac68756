/-! ===== an asked entry is there: both sides ===== -/
theorem iG_ext {line line' : Rows} {t : Nat} {now : Int32} (hG : iG line t) (hn : now = nI t) (r7 : rnN line ≤ rnN line') (r8 : ∀ i, i < rnN line → rw' line' i = rw' line i) (r9 : ∀ i, rnN line ≤ i → i < rnN line' → cl (rw' line' i) 2 = now) : iG line' t := by
  obtain ⟨f, h1, h2⟩ := hG
  refine ⟨fun i => if i < rnN line then f i else t, fun i hi => ?_, fun i j hij hj => ?_⟩
  · dsimp only
    by_cases q : i < rnN line
    · rw [if_pos q, r8 i q]; exact h1 i q
    · rw [if_neg q, r9 i (by omega) hi]; exact ⟨Nat.le_refl _, hn⟩
  · dsimp only
    by_cases q : j < rnN line
    · rw [if_pos q, if_pos (by omega)]; exact h2 i j hij q
    · rw [if_neg q]
      by_cases q2 : i < rnN line
      · rw [if_pos q2]; exact (h1 i q2).1
      · rw [if_neg q2]; exact Nat.le_refl _
/-- due: 1, 0 -/
def duI (vals : Nat → Int32) (now since : Int32) : Int32 := if stI vals now since = 0 then (if vals 3 = 0 then 0 else if now < since + vals 3 then 0 else 1) else 0
theorem n_due {dm : Nat} {vals : Nat → Int32} {now : Int32} {rows : Rows} {i : Nat} (hi : i < 65536) : F_X0_isDue dm vals now rows (nI i) = some (duI vals now (cl (rw' rows i) 6)) := by
  unfold F_X0_isDue duI
  rw [n_stale (by omega), bd_some]
  by_cases q : stI vals now (cl (rw' rows i) 6) = 0
  · rw [if_pos q, if_pos q, lt_b, tg i 6 6 rfl (by omega) (by decide), n_passed 3 3 rfl (by decide), bd_some]
    by_cases q2 : vals 3 = 0
    · rw [if_pos q2, if_pos rfl]
    · rw [if_neg q2]
      by_cases q3 : now < cl (rw' rows i) 6 + vals 3
      · rw [if_pos q3, if_pos rfl]
      · rw [if_neg q3, if_neg (by decide)]
  · rw [if_neg q, if_neg q]
theorem s_due {g vals sc : Nat → Int32} (h0 : R0 g vals sc) {ents : Rows} (h : RE g ents) {i : Nat} (hi : i < ents.length) : F_X12_isDue g (nI i) = some (duI vals (sc 0) (cl (rw' ents i) 6)) := by
  unfold F_X12_isDue duI
  have g3 : g 3 = vals 3 := h0.1 3 (by decide)
  have g8 : g 8 = sc 0 := h0.2.1
  rw [s_stale h0 h hi, bd_some]
  by_cases q : stI vals (sc 0) (cl (rw' ents i) 6) = 0
  · rw [if_pos q, if_pos q, gl 3 3 rfl (by decide), g3]
    by_cases q2 : vals 3 = 0
    · rw [if_pos q2, if_pos q2]
    · rw [if_neg q2, if_neg q2, gl 8 8 rfl (by decide), g8, s_at h hi 4 4 rfl (by decide), bd_some, gl 3 3 rfl (by decide), g3]
      have e : cl (mEn (rw' ents i)) 4 = cl (rw' ents i) 6 := rfl
      rw [e]
      split <;> rfl
  · rw [if_neg q, if_neg q]
theorem imn999 {c : Nat} (h : c ≤ 999) : ∃ d, d ≤ 999 ∧ imn 999 (nI c + 1) = nI d := by
  rw [nI_1]
  show ∃ d, d ≤ 999 ∧ (if nI (c + 1) < 999 then nI (c + 1) else 999) = nI d
  split
  · rename_i q
    have := (nI_lt_iff (a := c + 1) (b := 999) (by omega) (by omega)).mp q
    exact ⟨c + 1, by omega, rfl⟩
  · exact ⟨999, by omega, rfl⟩
theorem wSN_set {T : Nat → Rows} {V : Nat → Nat → Int32} (h : Inv0 T V) {e c : Nat} {x : Int32} (hc : c ≠ 1) : wSN (stE T e c x 4) = wSN (T 4) := by
  show (((T 4).modify e (fun r => r.set c x)).map wN).sum = _
  have : ((T 4).modify e (fun r => r.set c x)).map wN = (T 4).map wN := by
    refine List.ext_getElem (by rw [List.length_map, List.length_map, List.length_modify]) (fun i h1 h2 => ?_)
    rw [List.getElem_map, List.getElem_map, List.getElem_modify]
    rw [List.length_map] at h2
    have hl := (h.1.1 _ (List.getElem_mem h2)).1.1
    split
    · unfold wN
      rw [set_cl hl (by decide), if_neg (Ne.symm hc)]
    · rfl
  rw [this]
  rfl
/-- what a call may leave as it was: rules, sketch, numbers; the late ones, the cold shelf, boxes -/
theorem s_hit {N : Nat} (hN : 65536 ≤ N) {p : P} {T : Nat → Rows} {V : Nat → Nat → Int32} {g : Nat → Int32} (h : RR T V g) (hI : Iv p T V) (hl : (T 6).length < 256) {k : Int32} {e : Nat} (he : fk 7 (T 4) k = some e) {a : Nat} (ha : a < 16) :
    ∃ (r : Int32) (T' : Nat → Rows) (V' : Nat → Nat → Int32) (g' : Nat → Int32), F_X11_hit N (V 0) (V 4 0) (T 0) (T 1) (V 1) (V 2) (T 4) (V 4 1) (T 6) (nI a) k = some (r, T' 0, T' 1, V' 1, V' 2, T' 4, T' 6) ∧ F_X12_hits N g (nI e) (nI a) = some (r, g') ∧ RR T' V' g' ∧ Iv p T' V' ∧ (T' 6).length ≤ (T 6).length + 1 ∧ (∀ j, j ≠ 0 → j ≠ 1 → j ≠ 4 → j ≠ 6 → T' j = T j) ∧ ∀ j, j ≠ 1 → j ≠ 2 → V' j = V j := by
  obtain ⟨hel, hek⟩ := fk_lt he
  have h200 : (T 4).length ≤ 200 := h.2.2.2.2.1.2
  have hkV : Vk k := by rw [← hek]; exact (hI.i0.1.iE.at hel).2
  obtain ⟨c0, hc0, ec0⟩ := (hI.i0.1.at hel).2.2
  obtain ⟨d, hd, ed⟩ := imn999 hc0
  obtain ⟨g1, q1, r1⟩ := s_setE h hI.i0.1.iE hel (c := 3) (by decide) (by decide) 5 rfl (nI d)
  have I1 : Inv0 (stE T e 3 (nI d)) V := stE_inv hI.i0 (Or.inr (Or.inr (Or.inr (Or.inl ⟨rfl, d, hd, rfl⟩))))
  have r1' : RR (stE T e 3 (nI d)) V g1 := r1
  have hel1 : e < (stE T e 3 (nI d) 4).length := by rw [stE_len]; exact hel
  obtain ⟨g2, q2, r2⟩ := s_setE r1' I1.1.iE hel1 (c := 4) (by decide) (by decide) 6 rfl (V 4 1)
  have I2 : Inv0 (stE (stE T e 3 (nI d)) e 4 (V 4 1)) V := stE_inv I1 (Or.inr (Or.inr (Or.inr (Or.inr (Or.inl rfl)))))
  have r2' : RR (stE (stE T e 3 (nI d)) e 4 (V 4 1)) V g2 := r2
  have hel2 : e < (stE (stE T e 3 (nI d)) e 4 (V 4 1) 4).length := by rw [stE_len]; exact hel1
  have k2 : cl (rw' (stE (stE T e 3 (nI d)) e 4 (V 4 1) 4) e) 7 = k := by
    rw [stE_at I1 hel1 (by decide), if_neg (by decide), stE_at hI.i0 hel (by decide), if_neg (by decide)]
    exact hek
  have v2 : cl (rw' (stE (stE T e 3 (nI d)) e 4 (V 4 1) 4) e) 0 = cl (rw' (T 4) e) 0 := by
    rw [stE_at I1 hel1 (by decide), if_neg (by decide), stE_at hI.i0 hel (by decide), if_neg (by decide)]
  have w2 : wSN (stE (stE T e 3 (nI d)) e 4 (V 4 1) 4) = wSN (T 4) := by
    rw [wSN_set I1 (by decide), wSN_set hI.i0 (by decide)]
  have x2 : iX (stE (stE T e 3 (nI d)) e 4 (V 4 1) 4) (T 5) := hI.x.sub (fun r hr => by
    obtain ⟨r3, h3, k3⟩ := stE_keys I1 (by decide) r hr
    obtain ⟨r4, h4, k4⟩ := stE_keys hI.i0 (by decide) r3 h3
    exact ⟨r4, h4, k4.trans k3⟩) (List.Sublist.refl _)
  have e4 : stE (stE T e 3 (nI d)) e 4 (V 4 1) 4 = ((T 4).modify e (fun r => r.set 3 (nI d))).modify e (fun r => r.set 4 (V 4 1)) := rfl
  have ej : ∀ j, j ≠ 4 → stE (stE T e 3 (nI d)) e 4 (V 4 1) j = T j := fun j hj => by rw [stE_ne hj, stE_ne hj]
  generalize hT2 : stE (stE T e 3 (nI d)) e 4 (V 4 1) = T2 at r2' I2 hel2 k2 v2 w2 x2 e4 ej
  have r3 := s_led r2' (j := 1) (by decide)
  have r4 := s_of r3 (j := a * 4 + 1) (by omega)
  obtain ⟨g5, q5, r5⟩ := s_happens hN r4 (k := k) (Or.inr hkV) 0
  have hre4 := r4.2.2.2.2.1
  have hre5 := r5.2.2.2.2.1
  have hr05 := r5.2.2.2.2.2.2.2.2.1
  -- the class up to the question whether it is due
  have nh : F_X6_hit (T 4) (V 4 1) k = some (nI e, T2 4) := by
    unfold F_X6_hit F_X0_countUse
    rw [n_rowOf, bd_some, he]
    have hoe : oI (some e) = nI e := rfl
    rw [hoe, lt_b, tg e 3 3 rfl (by omega) (by decide), lt_b, lt_b, ec0, ed, tset_nI (by omega) 3 3 rfl (by decide), tset_nI (by omega) 4 4 rfl (by decide), bd_some, e4]
  have nn : F_X2_noteHit N (V 4 0) (T 0) (V 1) (V 2) (nI a) k = some (pushK (T 0) 0 (V 4 0) k, tallyN (V 1) 1, tallyN (V 2) (a * 4 + 1)) := by
    unfold F_X2_noteHit
    rw [n_noteI hN (Or.inr hkV) (V 4 0) (T 0) (V 1) 0 0 rfl (by decide), bd_some, n_tallyOf (V 2) ha 1 rfl (by decide), bd_some]
    rfl
  generalize hT5 : va_up T2 0 (pushK (T2 0) 0 (va_up (va_up V 1 (tallyN (V 1) 1)) 2 (tallyN (va_up V 1 (tallyN (V 1) 1) 2) (a * 4 + 1)) 4 0) k) = T5 at r5 hre5
  generalize hV5 : va_up (va_up V 1 (tallyN (V 1) 1)) 2 (tallyN (va_up V 1 (tallyN (V 1) 1) 2) (a * 4 + 1)) = V5 at r5 hr05
  have t50 : T5 0 = pushK (T 0) 0 (V 4 0) k := by rw [← hT5]; show pushK (T2 0) 0 (V 4 0) k = _; rw [ej 0 (by decide)]
  have t54 : T5 4 = T2 4 := by rw [← hT5]; rfl
  have t5j : ∀ j, j ≠ 0 → j ≠ 4 → T5 j = T j := fun j h0 h4 => by rw [← hT5, vu_ne h0]; exact ej j h4
  have v51 : V5 1 = tallyN (V 1) 1 := by rw [← hV5]; rfl
  have v52 : V5 2 = tallyN (V 2) (a * 4 + 1) := by rw [← hV5]; rfl
  have v5j : ∀ j, j ≠ 1 → j ≠ 2 → V5 j = V j := fun j h1 h2 => by rw [← hV5, vu_ne h2, vu_ne h1]
  have I5 : Iv p T5 V5 := by
    have v50 := v5j 0 (by decide) (by decide)
    have v53 := v5j 3 (by decide) (by decide)
    have v54 := v5j 4 (by decide) (by decide)
    refine ⟨by rw [v50]; exact hI.r, ⟨?_, ?_, ?_, ?_, ?_⟩, ?_, ?_, ?_, by rw [v54]; exact hI.n, by rw [v53]; exact hI.sk, ?_⟩
    · rw [t54, v54]; exact I2.1
    · rw [t5j 5 (by decide) (by decide)]; exact hI.i0.2.1
    · rw [t5j 1 (by decide) (by decide)]; exact hI.i0.2.2.1
    · rw [t5j 2 (by decide) (by decide)]; exact hI.i0.2.2.2.1
    · rw [t5j 3 (by decide) (by decide)]; exact hI.i0.2.2.2.2
    · rw [t54, t5j 5 (by decide) (by decide)]; exact x2
    · rw [t54, w2]; exact hI.sum
    · rw [t5j 5 (by decide) (by decide)]; exact hI.cold
    · unfold iLd
      rw [t5j 6 (by decide) (by decide), t5j 7 (by decide) (by decide), t5j 8 (by decide) (by decide), t5j 1 (by decide) (by decide)]
      exact hI.ld
  have hdue : F_X0_isDue 200 (V 0) (V 4 0) (T2 4) (nI e) = some (duI (V 0) (V 4 0) (cl (rw' (T2 4) e) 6)) := n_due (by omega)
  have hel5 : e < (T5 4).length := by rw [t54]; exact hel2
  have sdue : F_X12_isDue g5 (nI e) = some (duI (V 0) (V 4 0) (cl (rw' (T2 4) e) 6)) := by
    have := s_due hr05 hre5 hel5
    rw [t54, v5j 0 (by decide) (by decide), v5j 4 (by decide) (by decide)] at this
    exact this
  -- the value at the end
  have sv : ∀ {T' : Nat → Rows} {V' : Nat → Nat → Int32} {g' : Nat → Int32}, RR T' V' g' → T' 4 = T2 4 → F_X12_at g' (nI e) 1 = some (cl (rw' (T 4) e) 0) := by
    intro T' V' g' hr e4'
    rw [s_at hr.2.2.2.2.1 (by rw [e4']; exact hel2) 1 1 rfl (by decide), e4']
    exact congrArg some v2
  have nv : F_X0_get 200 (T2 4) (nI e) 0 = some (cl (rw' (T 4) e) 0) := by
    rw [n_get0 (by omega) 0 0 rfl (by decide), v2]
  have hc5 : F_X12_at g (nI e) 5 = some (nI c0) := by
    rw [s_at h.2.2.2.2.1 hel 5 5 rfl (by decide)]
    exact congrArg some ec0
  have hk4 : F_X12_at (upd (upd g2 (20 + 1) (g2 (20 + 1) + 1)) (8403 + (a * 4 + 1)) (upd g2 (20 + 1) (g2 (20 + 1) + 1) (8403 + (a * 4 + 1)) + 1)) (nI e) 0 = some (kc k) := by
    rw [s_at hre4 hel2 0 0 rfl (by decide)]
    have : cl (mEn (rw' (T2 4) e)) 0 = kc (cl (rw' (T2 4) e) 7) := rfl
    rw [this, k2]
  have g1_9 : g1 9 = V 4 1 := r1'.2.2.2.2.2.2.2.2.1.2.2.1
  have e1 : (8403 : Int32) + 4 * nI a + 1 = nI (8403 + (a * 4 + 1)) := by
    have : (4 : Int32) * nI a = nI (4 * a) := pk_mul 4 a
    rw [this]
    have e3 : (8403 : Int32) + nI (4 * a) = nI (8403 + 4 * a) := nI_add 8403 (4 * a)
    rw [e3, nI_1]
    congr 1
    omega
  have head : ∀ (X : (Nat → Int32) → Int32 → Option (Int32 × (Nat → Int32))), (bd (F_X12_at g (nI e) 5) (fun o_1 =>
      bd (F_X12_sets g (nI e) 5 (imn 999 (o_1 + 1))) (fun o_2 =>
      ld o_2 8787 9 (fun v_3 =>
      bd (F_X12_sets o_2 (nI e) 6 v_3) (fun o_4 =>
      ld o_4 8787 21 (fun v_5 =>
      sto o_4 8787 21 (v_5 + 1) (fun g_6 =>
      ld g_6 8787 ((8403 + (4 * nI a)) + 1) (fun v_7 =>
      sto g_6 8787 ((8403 + (4 * nI a)) + 1) (v_7 + 1) (fun g_8 =>
      bd (F_X12_at g_8 (nI e) 0) (fun o_9 =>
      bd (F_X12_happens N g_8 0 o_9) (fun o_10 => X o_10 o_9))))))))))) = X g5 (kc k) := by
    intro X
    rw [hc5, bd_some, ed, q1, bd_some, gl 9 9 rfl (by decide), g1_9, q2, bd_some, gl 21 21 rfl (by decide), gs 21 21 rfl (by decide), e1, gl _ (8403 + (a * 4 + 1)) rfl (by omega), gs _ (8403 + (a * 4 + 1)) rfl (by omega)]
    have hk4' : F_X12_at (upd (upd g2 21 (g2 21 + 1)) (8403 + (a * 4 + 1)) (upd g2 21 (g2 21 + 1) (8403 + (a * 4 + 1)) + 1)) (nI e) 0 = some (kc k) := hk4
    have q5' : F_X12_happens N (upd (upd g2 21 (g2 21 + 1)) (8403 + (a * 4 + 1)) (upd g2 21 (g2 21 + 1) (8403 + (a * 4 + 1)) + 1)) 0 (kc k) = some g5 := q5
    rw [hk4', bd_some, q5', bd_some]
  have hlo := s_loadOf hN r5.2.2.2.2.2.2.1 I5.ld.1 hkV
  have t56 := t5j 6 (by decide) (by decide)
  have t57 := t5j 7 (by decide) (by decide)
  rw [t56] at hlo
  have h31 : ∀ j, fk 0 (T 6) k = some j → j < 2 ^ 31 := fun j hj => by have := (fk_lt hj).1; omega
  have stay : (duI (V 0) (V 4 0) (cl (rw' (T2 4) e) 6) = 0 ∨ ∃ l, fk 0 (T 6) k = some l) → F_X11_hit N (V 0) (V 4 0) (T 0) (T 1) (V 1) (V 2) (T 4) (V 4 1) (T 6) (nI a) k = some (cl (rw' (T 4) e) 0, T5 0, T5 1, V5 1, V5 2, T5 4, T5 6) ∧ F_X12_hits N g (nI e) (nI a) = some (cl (rw' (T 4) e) 0, g5) := by
    intro hc
    constructor
    · unfold F_X11_hit J_X11_hit_52
      rw [nh, bd_some, nn, bd_some]
      dsimp only
      rw [hdue, bd_some, nv, bd_some, t50, t54, v51, v52, t5j 1 (by decide) (by decide), t56]
      rcases hc with q | ⟨l, q⟩
      · rw [if_pos q]
      · have hne : ¬ oI (fk 0 (T 6) k) = -1 := fun z => by
          have := (oI_m1 h31).mp z
          rw [q] at this
          cases this
        rw [n_loadRow, bd_some, if_neg hne]
        split <;> rfl
    · unfold F_X12_hits J_X12_hits_98
      refine (head (fun o_10 o_9 => bd (F_X12_isDue o_10 (nI e)) (fun o_11 =>
        if (o_11 = 0 : Prop) then bd (F_X12_at o_10 (nI e) 1) (fun o_12 => some (o_12, o_10))
        else bd (F_X12_loadOf N o_10 o_9) (fun o_13 =>
          if (0 ≤ o_13 : Prop) then bd (F_X12_at o_10 (nI e) 1) (fun o_12 => some (o_12, o_10))
          else bd (F_X12_lines N o_10 o_9 ((-1))) (fun o_14 => bd (F_X12_at o_14 (nI e) 1) (fun o_12 => some (o_12, o_14))))))).trans ?_
      rw [sdue, bd_some, sv r5 t54, bd_some, hlo, bd_some]
      rcases hc with q | ⟨l, q⟩
      · rw [if_pos q]
      · rw [q]
        have : (0 : Int32) ≤ oI (some l) := Int32.not_lt.mp (nI_pos (h31 l q))
        rw [if_pos this]
        split <;> rfl
  by_cases hd0 : duI (V 0) (V 4 0) (cl (rw' (T2 4) e) 6) = 0
  · obtain ⟨s1, s2⟩ := stay (Or.inl hd0)
    exact ⟨_, T5, V5, g5, s1, s2, r5, I5, by rw [t56]; omega, fun j a0 a1 a4 a6 => t5j j a0 a4, fun j a1 a2 => v5j j a1 a2⟩
  cases hf : fk 0 (T 6) k with
  | some l =>
    obtain ⟨s1, s2⟩ := stay (Or.inr ⟨l, hf⟩)
    exact ⟨_, T5, V5, g5, s1, s2, r5, I5, by rw [t56]; omega, fun j a0 a1 a4 a6 => t5j j a0 a4, fun j a1 a2 => v5j j a1 a2⟩
  | none =>
    have hnew : ∀ q ∈ T5 6, ¬ cl q 0 = k := by rw [t56]; exact fk_none hf
    obtain ⟨T', V', g', d1, d2, d3, d4, d5, d6, d7, d8, d9, d10, d11, d12, d13⟩ := s_lineUp hN r5 I5.ld.1 I5.ld.2.1 I5.ld.2.2.2.2.2 I5.r.2.2.2.2.1 I5.r.2.2.2.2.2.1 hkV hnew (by rw [t56]; exact hl) none (fun _ z => by cases z)
    have d4' : T' 7 = T5 7 := d4
    have hT4' : T' 4 = T2 4 := by rw [d9 4 (by decide) (by decide) (by decide) (by decide), t54]
    refine ⟨cl (rw' (T 4) e) 0, T', V', g', ?_, ?_, d3, ?_, by rw [d8, t56]; omega, fun j a0 a1 a4 a6 => ?_, fun j a1 a2 => by rw [d10 j a1, v5j j a1 a2]⟩
    · unfold F_X11_hit J_X11_hit_52
      rw [nh, bd_some, nn, bd_some]
      dsimp only
      rw [v5j 0 (by decide) (by decide), v5j 4 (by decide) (by decide), t50, t5j 1 (by decide) (by decide), v51, t56] at d1
      rw [hdue, bd_some, if_neg hd0, n_loadRow, bd_some, hf, if_pos (show oI none = -1 from rfl), d1, bd_some, nv, bd_some, hT4', d10 2 (by decide), v52]
    · unfold F_X12_hits J_X12_hits_98
      refine (head (fun o_10 o_9 => bd (F_X12_isDue o_10 (nI e)) (fun o_11 =>
        if (o_11 = 0 : Prop) then bd (F_X12_at o_10 (nI e) 1) (fun o_12 => some (o_12, o_10))
        else bd (F_X12_loadOf N o_10 o_9) (fun o_13 =>
          if (0 ≤ o_13 : Prop) then bd (F_X12_at o_10 (nI e) 1) (fun o_12 => some (o_12, o_10))
          else bd (F_X12_lines N o_10 o_9 ((-1))) (fun o_14 => bd (F_X12_at o_14 (nI e) 1) (fun o_12 => some (o_12, o_14))))))).trans ?_
      have d2' : F_X12_lines N g5 (kc k) (-1) = some g' := d2
      rw [sdue, bd_some, if_neg hd0, hlo, bd_some, hf, if_neg (show ¬ (0 : Int32) ≤ oI none by decide), d2', bd_some, sv d3 hT4', bd_some]
    · have v0 := (d10 0 (by decide)).trans (v5j 0 (by decide) (by decide))
      have v3 := (d10 3 (by decide)).trans (v5j 3 (by decide) (by decide))
      have v4 := (d10 4 (by decide)).trans (v5j 4 (by decide) (by decide))
      have dj := fun j h0 h1 h6 h7 => d9 j h0 h1 h6 h7
      refine ⟨by rw [v0]; exact hI.r, ⟨?_, ?_, d7, ?_, ?_⟩, ?_, ?_, ?_, by rw [v4]; exact hI.n, by rw [v3]; exact hI.sk, ⟨d5, d6, ?_, ?_, ?_, d7⟩⟩
      · rw [hT4', v4]; exact I2.1
      · rw [dj 5 (by decide) (by decide) (by decide) (by decide)]; exact I5.i0.2.1
      · rw [dj 2 (by decide) (by decide) (by decide) (by decide)]; exact I5.i0.2.2.2.1
      · rw [dj 3 (by decide) (by decide) (by decide) (by decide)]; exact I5.i0.2.2.2.2
      · rw [hT4', dj 5 (by decide) (by decide) (by decide) (by decide), t5j 5 (by decide) (by decide)]; exact x2
      · rw [hT4', w2]; exact hI.sum
      · rw [dj 5 (by decide) (by decide) (by decide) (by decide)]; exact I5.cold
      · rw [d4']; exact I5.ld.2.2.1
      · exact iG_ext I5.ld.2.2.2.1 I5.n.1 d11 d12 d13
      · rw [dj 8 (by decide) (by decide) (by decide) (by decide)]; exact I5.ld.2.2.2.2.1
    · by_cases q7 : j = 7
      · rw [q7, d4', t57]
      · rw [d9 j a0 a1 a6 q7, t5j j a0 a4]
