/-! ===== making room: both sides ===== -/
theorem tally_comm (s : Nat → Int32) (i j : Nat) : tallyN (tallyN s i) j = tallyN (tallyN s j) i := by
  funext q
  unfold tallyN
  by_cases h : i = j
  · subst h; rfl
  · by_cases h1 : q = i
    · subst h1
      rw [upd_ne h, upd_at, upd_at, upd_ne h]
    · by_cases h2 : q = j
      · subst h2
        rw [upd_at, upd_ne h1, upd_ne h1, upd_at]
      · rw [upd_ne h2, upd_ne h1, upd_ne h1, upd_ne h2]
theorem yV_1 {T : Nat → Rows} {V : Nat → Nat → Int32} {c e : Nat} : tallyN (lgV (ycT T V c e) V e 1) 7 = yV T V e 1 := by
  unfold yV lgV
  rw [ycT_ne (by decide)]
  split
  · rfl
  · exact tally_comm _ _ _
abbrev mkk : Rows → Rows → (Nat → Int32) → Rows → Rows → Option (Rows × Rows × (Nat → Int32) × Rows × Rows) := fun book written sums ents colds => some (book, written, sums, ents, colds)
theorem s_make {N : Nat} (hN : 65536 ≤ N) {c : Nat} (hc : c ≤ 20) {sp : Int32} (hs : Vk0 sp) {lim mo room : Nat} (hroom : room = lim + mo) (hr : room ≤ 200) : ∀ (m : Nat) (T : Nat → Rows) (V : Nat → Nat → Int32) (g : Nat → Int32), RR T V g → Inv0 T V → V 0 6 = nI c → V 0 0 = nI room → (T 5).length ≤ c → (∀ r ∈ T 4, cl r 7 = sp → wN r ≤ lim) → (T 4).length = m →
    ∃ (T' : Nat → Rows) (V' : Nat → Nat → Int32) (g' : Nat → Int32), (∀ n, m < n → L_X6_makePlace_8 N mkk mkk (nI lim) sp (V 0) (V 4 0) n (nI m) (T 0) (T 2) (V 1) (T 4) (T 5) = some (T' 0, T' 2, V' 1, T' 4, T' 5)) ∧ (∀ n, m < n → L_X12_makesRoom_0 N (fun g => some g) (nI mo) (kc sp) n g = some g') ∧ RR T' V' g' ∧ Inv0 T' V' ∧ (T' 5).length ≤ c ∧ wSN (T' 4) ≤ lim ∧ (T' 4).Sublist (T 4) ∧ (∀ r ∈ T 4, cl r 7 = sp → r ∈ T' 4) ∧ (∀ j, j ≠ 0 → j ≠ 2 → j ≠ 4 → j ≠ 5 → T' j = T j) ∧ (∀ j, j ≠ 1 → V' j = V j) ∧ (iX (T 4) (T 5) → iX (T' 4) (T' 5)) ∧ kF T T' := by
  intro m
  induction m with
  | zero =>
    intro T V g h hI h6 h0 h5 hsp hm
    have e4 : T 4 = [] := List.eq_nil_of_length_eq_zero hm
    have hw0 : wSN (T 4) = 0 := by rw [e4]; rfl
    refine ⟨T, V, g, fun n hn => ?_, fun n hn => ?_, h, hI, h5, by omega, List.Sublist.refl _, fun r hr _ => hr, fun _ _ _ _ _ => rfl, fun _ _ => rfl, id, kF.refl T⟩
    · obtain ⟨n, rfl⟩ : ∃ q, n = q + 1 := ⟨n - 1, by omega⟩
      rw [e_X6_makePlace_8]
      unfold K_X6_makePlace_8
      rw [if_pos (by decide)]
    · obtain ⟨n, rfl⟩ : ∃ q, n = q + 1 := ⟨n - 1, by omega⟩
      rw [e_X12_makesRoom_0]
      unfold K_X12_makesRoom_0
      have hg0 : g 0 = nI room := by rw [h.2.2.2.2.2.2.2.2.1.1 0 (by decide)]; exact h0
      rw [s_weight hN h.2.2.2.2.1, bd_t rfl, gl 0 0 rfl (by decide), hg0, wS_eq hI.1.cr, hw0, nI_add, if_pos (nI_le (by omega) (by omega))]
  | succ m ih =>
    intro T V g h hI h6 h0 h5 hsp hm
    have hre := h.2.2.2.2.1
    have hr0 := h.2.2.2.2.2.2.2.2.1
    have h200 := hre.2
    have hwl := wSN_le hI.1.cr
    have hg0 : g 0 = nI room := by rw [hr0.1 0 (by decide)]; exact h0
    have hsw := s_weight hN hre
    have hnw := n_weight hN (dm := 200) (rows := T 4) (by omega)
    rw [wS_eq hI.1.cr] at hsw hnw
    by_cases hw : wSN (T 4) ≤ lim
    · refine ⟨T, V, g, fun n hn => ?_, fun n hn => ?_, h, hI, h5, hw, List.Sublist.refl _, fun r hr _ => hr, fun _ _ _ _ _ => rfl, fun _ _ => rfl, id, kF.refl T⟩
      · obtain ⟨n, rfl⟩ : ∃ q, n = q + 1 := ⟨n - 1, by omega⟩
        rw [e_X6_makePlace_8]
        unfold K_X6_makePlace_8
        rw [if_neg (nI_nle (by omega) (by omega)), hnw, bd_t rfl, if_pos (nI_le hw (by omega))]
      · obtain ⟨n, rfl⟩ : ∃ q, n = q + 1 := ⟨n - 1, by omega⟩
        rw [e_X12_makesRoom_0]
        unfold K_X12_makesRoom_0
        rw [hsw, bd_t rfl, gl 0 0 rfl (by decide), hg0, nI_add, if_pos (nI_le (by omega) (by omega))]
    · obtain ⟨e, he⟩ := ftg_some (vals := V 0) (now := V 4 0) (rows := T 4) (sp := sp) (T 4).length (other hI.1 hsp (by omega))
      obtain ⟨hel, hek⟩ := ftg_lt he
      obtain ⟨g1, hy, r1⟩ := s_yields hN hc h hI.1.iE h6 (by omega) hel
      have I1 := y_inv (c := c) hI hel
      have e4 : yT T V c e 4 = (T 4).eraseIdx e := by
        show (ycT T V c e 4).eraseIdx e = _
        rw [ycT_ne (by decide)]
      have hl1 : (yT T V c e 4).length = m := by rw [e4, List.length_eraseIdx_of_lt hel]; omega
      have v0 : yV T V e 0 = V 0 := by unfold yV; rw [lgV_ne (by decide)]; rfl
      have v4 : yV T V e 4 = V 4 := by unfold yV; rw [lgV_ne (by decide)]; rfl
      have h51 : (yT T V c e 5).length ≤ c := by
        show (lgT (ycT T V c e) V e 7 5).length ≤ c
        rw [lgT_ne (by decide) (by decide) (by decide)]
        exact ycT_5 h5
      have hsub : (yT T V c e 4).Sublist (T 4) := by rw [e4]; exact List.eraseIdx_sublist _ _
      obtain ⟨T', V', g', c1, c2, c3, c4, c5, c6, c7, c8, c9, c10, c11, c12⟩ := ih (yT T V c e) (yV T V e) g1 r1 I1 (by rw [v0]; exact h6) (by rw [v0]; exact h0) h51 (fun r hr hk => hsp r (hsub.subset hr) hk) hl1
      refine ⟨T', V', g', fun n hn => ?_, fun n hn => ?_, c3, c4, c5, c6, c7.trans hsub, fun r hr hk => c8 r ?_ hk, fun j a0 a2 a4 a5 => ?_, fun j a1 => ?_, fun hx => c11 ((y_iX hI hel).1 hx), (y_iX hI hel).2.trans (fun r hr => hsub.subset hr) c12⟩
      · obtain ⟨n, rfl⟩ : ∃ q, n = q + 1 := ⟨n - 1, by omega⟩
        rw [e_X6_makePlace_8]
        unfold K_X6_makePlace_8
        have hne : ¬ oI (some e) = -1 := fun q => by
          have := (oI_m1 (o := some e) (fun j hj => by cases hj; omega)).mp q
          cases this
        have hoe : oI (some e) = nI e := rfl
        rw [if_neg (nI_nle (by omega) (by omega)), hnw, bd_t rfl, if_neg (nI_ge (by omega) (by omega)), n_next hN (by omega), bd_t rfl, he, if_neg hne, hoe, n_stale (by omega), bd_t rfl, n_putOnCold hN h6 hc (by omega) (by omega), bd_t rfl]
        have hlg := n_letGo hN (T := ycT T V c e) (V := V) (e := e) (by rw [ycT_ne (by decide)]; exact hI.1.iE) (by rw [ycT_ne (by decide)]; exact hel) (by omega) 7 (by decide)
        have tl7 : tlk (lgV (ycT T V c e) V e 1) 7 = yV T V e 1 := yV_1
        rw [tl7] at hlg
        have j59 : ∀ colds, colds = ycT T V c e 5 → J_X6_makePlace_59 N (L_X6_makePlace_8 N mkk mkk (nI lim) sp (V 0) (V 4 0) n) mkk mkk (nI lim) sp (nI (m + 1)) (nI e) (V 0) (V 4 0) (T 0) (T 2) (V 1) (T 4) colds = some (T' 0, T' 2, V' 1, T' 4, T' 5) := by
          intro colds hcol
          unfold J_X6_makePlace_59
          have hlg' : F_X6_letGo N (V 4 0) (T 0) (T 2) (V 1) (T 4) (nI e) 7 = some (yT T V c e 0, yT T V c e 2, yV T V e 1, yT T V c e 4) := by
            have q0 : ycT T V c e 0 = T 0 := ycT_ne (by decide)
            have q2 : ycT T V c e 2 = T 2 := ycT_ne (by decide)
            have q4 : ycT T V c e 4 = T 4 := ycT_ne (by decide)
            rw [q0, q2, q4] at hlg
            exact hlg
          rw [hlg', bd_t rfl, lt_b, pk_m1]
          have := c1 n (by omega)
          rw [v0, v4] at this
          have y5 : yT T V c e 5 = ycT T V c e 5 := lgT_ne (by decide) (by decide) (by decide)
          rw [y5, ← hcol] at this
          exact this
        by_cases hst : stI (V 0) (V 4 0) (cl (rw' (T 4) e) 6) = 0
        · rw [if_pos hst]
          exact j59 _ (by unfold ycT; rw [if_pos hst]; rfl)
        · rw [if_neg hst]
          exact j59 _ (by unfold ycT; rw [if_neg hst])
      · obtain ⟨n, rfl⟩ : ∃ q, n = q + 1 := ⟨n - 1, by omega⟩
        rw [e_X12_makesRoom_0]
        unfold K_X12_makesRoom_0
        have hoe : oI (some e) = nI e := rfl
        rw [hsw, bd_t rfl, gl 0 0 rfl (by decide), hg0, nI_add, if_neg (nI_ge (by omega) (by omega)), s_first hN hr0 hre hI.1.iE hs, bd_t rfl, he, hoe, hy, bd_t rfl]
        exact c2 n (by omega)
      · rw [e4]
        obtain ⟨i, hi, hir⟩ := List.getElem_of_mem hr
        have hne : i ≠ e := fun q => hek (by rw [← q, show rw' (T 4) i = (T 4)[i] from q_getD_lt hi, hir]; exact hk)
        rw [List.mem_eraseIdx_iff_getElem]
        exact ⟨i, hi, hne, hir⟩
      · rw [c9 j a0 a2 a4 a5]
        show lgT (ycT T V c e) V e 7 j = T j
        rw [lgT_ne a0 a2 a4, ycT_ne a5]
      · rw [c10 j a1]
        unfold yV
        rw [lgV_ne a1, va_up_ne _ _ a1]
