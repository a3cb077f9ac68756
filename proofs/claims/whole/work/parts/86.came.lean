/-! ===== came, step, feed: both sides ===== -/
theorem m_came {N : Nat} (hN : 65536 ≤ N) {c : Nat} (hc : c < 512) {tp : List Nat} {T : Nat → Rows} {V : Nat → Nat → Int32} {g : Nat → Int32} (hs : SQ c tp T V g) {tby : Nat → Int32} {tsz : Int32} {tape : Nat → Int32} {taped : Int32} (ht : TR tp tby tsz tape taped) (spot x y z : Int32) :
    ∃ (r : Int32) (T' : Nat → Rows) (V' : Nat → Nat → Int32) (g' : Nat → Int32) (tp' : List Nat) (tsz' taped' spot' : Int32), F_X11_came N tby tsz (V 0) (V 4 0) (T 0) (T 1) (T 2) (V 1) (V 2) (T 4) (T 5) (V 3) (V 4 1) (V 4 3) (T 6) (T 7) (T 8) x y z = some (r, tsz', T' 0, T' 1, T' 2, V' 1, V' 2, T' 4, T' 5, V' 4 3, T' 6, T' 7, T' 8) ∧ F_X12_came N g tape taped spot x y z = some (r, g', taped', spot') ∧ TR tp' tby tsz' tape taped' ∧ SQ (c + 1) tp' T' V' g' ∧ T' 3 = T 3 ∧ V' 0 = V 0 ∧ V' 3 = V 3 ∧ ∀ j, j ≠ 3 → V' 4 j = V 4 j := by
  unfold F_X11_came F_X12_came
  have e1 : F_X11_isValue x = F_X12_in x 0 99999 := rfl
  have e2 : F_X11_isWeight y = F_X12_in y 1 20 := rfl
  rw [e1, e2]
  rcases in01 x 0 99999 with ⟨b1, b2⟩ | ⟨b1, b2, b3⟩
  · exact ⟨-1001, T, V, g, tp, tsz, taped, spot, by rw [b1, bd_some, if_pos rfl], by rw [b1, bd_some, if_pos rfl], ht, hs.up, rfl, rfl, rfl, fun _ _ => rfl⟩
  rcases in01 y 1 20 with ⟨d1, d2⟩ | ⟨d1, d2, d3⟩
  · exact ⟨-1001, T, V, g, tp, tsz, taped, spot, by rw [b1, bd_some, if_neg one_ne, d1, bd_some, if_pos rfl], by rw [b1, bd_some, if_neg one_ne, d1, bd_some, if_pos rfl], ht, hs.up, rfl, rfl, rfl, fun _ _ => rfl⟩
  rw [b1, d1, bd_some, bd_some, if_neg one_ne, if_neg one_ne, bd_some, bd_some, if_neg one_ne, if_neg one_ne]
  rcases in01 z 0 255 with ⟨f1, f2⟩ | ⟨f1, f2, f3⟩
  · refine ⟨-1001, T, V, g, tp, tsz, taped, spot, ?_, by rw [f1, bd_some, if_pos rfl], ht, hs.up, rfl, rfl, rfl, fun _ _ => rfl⟩
    by_cases h1 : z < 0
    · rw [if_pos h1]
    · rw [if_neg h1, if_neg (fun w => f2 ⟨Int32.not_lt.mp h1, w⟩)]
  rw [f1, bd_some, if_neg one_ne, if_neg (Int32.not_lt.mpr f2), if_pos f3]
  obtain ⟨v, hv, ev⟩ := nI_ofx (n := 99999) rfl b2 b3
  obtain ⟨w, hw, ew⟩ := nI_ofx (M := 20) (n := 20) rfl (Int32.le_trans (by decide) d2) d3
  have hw1 : 1 ≤ w := by rw [ew] at d2; exact (nI_leI (a := 1) (by omega) (by omega)).mp d2
  obtain ⟨k, spot', k1, k2, k3⟩ := take_both hN ht spot
  rw [k1, k2, bd_some, bd_some]
  rcases k3 with rfl | ⟨hk, hne⟩
  · exact ⟨-1002, T, V, g, [], 0, 0, spot', by rw [if_pos rfl], by rw [if_pos kc_0], ht.nil, hs.nil, rfl, rfl, rfl, fun _ _ => rfl⟩
  have hs0 := hs
  obtain ⟨p, q, h, hI, hB, hq⟩ := hs
  rw [ne1_ne hne] at hq
  have b7 : (T 7).length < 65536 := by have := hB.2.2.2; omega
  have ba : p.a < 100000 := by have := hB.2.1; omega
  rw [if_neg (kc_ne0 hk).1, if_neg (kc_ne0 hk).2]
  rcases s_running hN h hI hk with ⟨r1, r2⟩ | ⟨l, hl, hlk, hf, r1, r2⟩
  · rw [r1, r2, bd_some, bd_some]
    exact ⟨-1005, T, V, g, [], 0, 0, spot', by rw [if_pos rfl], by rw [if_neg (by decide)], ht.nil, hs0.nil, rfl, rfl, rfl, fun _ _ => rfl⟩
  have h256 : (T 6).length ≤ 256 := by obtain ⟨lr, hG, hle, h6, -⟩ := h.l; exact h6
  have hb := b12_of h.b
  obtain ⟨g1, c1, c2⟩ := s_delivers hN h hI.ld.1 hI.ld.2.1 hl hlk x
  have inv1 := e_inv (V := V) hI.ld hl hlk x hb (V 1) (V 2)
  have nend := n_end hN hk x b7 (wl_as16 hI.ld.2.1 k) hI.ld.2.2.2.2.1 hb (V 1) (V 2) hf (by omega)
  generalize hst : dls k x (wl (T 7) k) (V 1, V 2, T 8) = st at c2 inv1 nend
  have r3 := s_led c2 (j := 4) (by decide)
  have I2 : Iv p (eT T st k l) (dV V st) := iv_ld hI inv1 rfl rfl rfl rfl rfl rfl rfl
  obtain ⟨T3, V3, g3, a', n1, n2, r4, I4, ha', t3, v3, v34⟩ := s_settle hN (s := st.1) r3 I2 rfl ba (k := k) (v := x) (t := z) (w := w) hk ⟨v, hv, ev⟩ hw1 hw (nI (wl (T 7) k).length) tape 0 spot'
  have x0 : V3 0 = V 0 := v3 0 (by decide) (by decide)
  have x4 : ∀ j, j ≠ 3 → V3 4 j = V 4 j := v34
  obtain ⟨T', V', g', m1, m2, m3, m4⟩ := s_runs hN r4 I4.ld.1 I4.ld.2.2.2.2.2 (lo := p.lo) (by rw [x0]; exact hI.r.2.2.2.2.1) hI.r.2.2.2.2.2.1
  have ld' := run_ld m4 I4.ld I4.n.1
  have tt := m4.2.2.2.2.1
  have vv := m4.2.2.2.2.2.1
  have I5 : Iv (p.wa a') T' V' := iv_ld I4 ld' (tt 2 (by decide) (by decide) (by decide)) (tt 3 (by decide) (by decide) (by decide)) (tt 4 (by decide) (by decide) (by decide)) (tt 5 (by decide) (by decide) (by decide)) (vv 0 (by decide)) (vv 3 (by decide)) (vv 4 (by decide))
  have o2 : T' 2 = T3 2 := tt 2 (by decide) (by decide) (by decide)
  have o3 : T' 3 = T 3 := by rw [tt 3 (by decide) (by decide) (by decide), t3 3 (by decide) (by decide) (by decide) (by decide)]; rfl
  have o4 : T' 4 = T3 4 := tt 4 (by decide) (by decide) (by decide)
  have o5 : T' 5 = T3 5 := tt 5 (by decide) (by decide) (by decide)
  have o7 : T' 7 = rmW (T 7) k := by rw [tt 7 (by decide) (by decide) (by decide), t3 7 (by decide) (by decide) (by decide) (by decide)]; rfl
  have o8 : T' 8 = st.2.2 := by rw [tt 8 (by decide) (by decide) (by decide), t3 8 (by decide) (by decide) (by decide) (by decide)]; rfl
  have u2 : V' 2 = st.2.1 := by rw [vv 2 (by decide), v3 2 (by decide) (by decide)]; rfl
  have u43 : V' 4 3 = V3 4 3 := by rw [vv 4 (by decide)]
  have p6 : T3 6 = (T 6).eraseIdx l := by rw [t3 6 (by decide) (by decide) (by decide) (by decide)]; rfl
  have p1 : T3 1 = T 1 := by rw [t3 1 (by decide) (by decide) (by decide) (by decide)]; rfl
  have l6 : (T' 6).length ≤ (T 6).length := by
    rw [m4.2.2.1, p6, List.length_eraseIdx_of_lt hl]; omega
  have l7 : (T' 7).length ≤ (T 7).length := by rw [o7]; exact List.length_filter_le _ _
  rw [x0, x4 0 (by decide), p1, p6] at m1
  have n1' : F_X6_settle N (V 0) (V 4 0) (T 0) (T 2) st.1 (T 4) (T 5) (V 3) (V 4 1) (V 4 3) k x y z = some (T3 0, T3 2, V3 1, T3 4, T3 5, V3 4 3) := by rw [ew]; exact n1
  refine ⟨nI (wl (T 7) k).length, T', V', g', [], 0, 0, spot', ?_, ?_, ht.nil, ⟨_, q + 2, m3, I5, ?_, by rw [ne1_nil]; omega⟩, o3, by rw [vv 0 (by decide), x0], by rw [vv 3 (by decide), v3 3 (by decide) (by decide)]; rfl, fun j hj => by rw [vv 4 (by decide), x4 j hj]⟩
  · rw [r1, bd_some, if_neg one_ne, nend, bd_some]
    dsimp only
    rw [n1', bd_some]
    dsimp only
    rw [m1, bd_some, o2, o4, o5, o7, o8, u2, u43]
  · rw [r2, bd_some, if_pos (nI_pos' (by omega)), c1, bd_some]
    dsimp only
    rw [gl 24 24 rfl (by decide), gs 24 24 rfl (by decide)]
    have n2' := n2
    rw [m2, bd_some] at n2'
    rw [ew]
    exact n2'
  · refine ⟨?_, ?_, ?_, ?_⟩
    · show 2 * p.u ≤ q + 2
      have := hB.1; omega
    · show 2 * a' ≤ q + 2
      have := hB.2.1; omega
    · have := hB.2.2.1; omega
    · have := hB.2.2.2; omega
def P.wt (p : P) (t : Nat) : P := P.mk p.room p.c p.lo p.le t p.u p.a
theorem iG_mono {line : Rows} {t t' : Nat} (h : iG line t) (ht : t ≤ t') : iG line t' := by
  obtain ⟨f, h1, h2⟩ := h
  exact ⟨f, fun i hi => ⟨Nat.le_trans (h1 i hi).1 ht, (h1 i hi).2⟩, h2⟩
theorem m_step {N : Nat} (hN : 65536 ≤ N) {c : Nat} (hc : c < 512) {tp : List Nat} {T : Nat → Rows} {V : Nat → Nat → Int32} {g : Nat → Int32} (hs : SQ c tp T V g) (x : Int32) :
    ∃ (r : Int32) (T' : Nat → Rows) (V' : Nat → Nat → Int32) (g' : Nat → Int32), F_X11_step N (V 0) (V 4 0) (T 0) (T 1) (V 1) (V 2) (T 6) (T 7) (T 8) x = some (r, V' 4 0, T' 0, T' 1, V' 1, V' 2, T' 6, T' 7, T' 8) ∧ F_X12_step N g x = some (r, g') ∧ SQ (c + 1) tp T' V' g' ∧ (∀ j, j ≠ 0 → j ≠ 1 → j ≠ 6 → j ≠ 7 → j ≠ 8 → T' j = T j) ∧ (∀ j, j ≠ 1 → j ≠ 2 → j ≠ 4 → V' j = V j) ∧ ∀ j, j ≠ 0 → V' 4 j = V 4 j := by
  unfold F_X11_step F_X12_step
  rcases in01 x 1 1000 with ⟨b1, b2⟩ | ⟨b1, b2, b3⟩
  · refine ⟨-1001, T, V, g, ?_, by rw [b1, bd_some, if_pos rfl], hs.up, fun _ _ _ _ _ _ => rfl, fun _ _ _ _ => rfl, fun _ _ => rfl⟩
    by_cases h1 : x < 1
    · rw [if_pos h1]
    · rw [if_neg h1, if_neg (fun z => b2 ⟨Int32.not_lt.mp h1, z⟩)]
  obtain ⟨d, hd, ed⟩ := nI_ofx (M := 1000) (n := 1000) rfl (Int32.le_trans (by decide) b2) b3
  have hs0 := hs
  obtain ⟨p, q, h, hI, hB, hq⟩ := hs
  have g8 : g 8 = V 4 0 := h.z.2.1
  have hn := hI.n.1
  have ht9 := hI.n.2.1
  have eadd : V 4 0 + x = nI (p.t + d) := by rw [hn, ed, nI_add]
  unfold F_X5_now F_X5_pass
  rw [if_neg (Int32.not_lt.mpr b2), if_pos b3, b1, bd_some, bd_some, if_neg one_ne, gl 8 8 rfl (by decide), g8, eadd]
  by_cases hle : p.t + d ≤ 99999
  · have hle' : nI (p.t + d) ≤ (99999 : Int32) := nI_le (b := 99999) hle (by decide)
    rw [if_pos hle', if_pos hle', lt_b, bd_some, gl 8 8 rfl (by decide), g8, eadd, gs 8 8 rfl (by decide)]
    generalize hV1 : va_up V 4 (upd (V 4) 0 (nI (p.t + d))) = V1
    have w4 : V1 4 = upd (V 4) 0 (nI (p.t + d)) := by rw [← hV1]; rfl
    have w40 : V1 4 0 = nI (p.t + d) := by rw [w4, upd_at]
    have w4j : ∀ j, j ≠ 0 → V1 4 j = V 4 j := fun j hj => by rw [w4, upd_ne hj]
    have wj : ∀ j, j ≠ 4 → V1 j = V j := fun j hj => by rw [← hV1, vu_ne hj]
    have r1 : RR T V1 (upd g 8 (nI (p.t + d))) := by
      have := h.uR0 (v := V 0) (sc := upd (V 4) 0 (nI (p.t + d))) (g' := upd g 8 (nI (p.t + d))) (by
        obtain ⟨q1, q2, q3, q4, q5, n1, w1, q6, q7, q8, q9, q10, q11, q12⟩ := h.z
        refine ⟨fun i hi => by rw [upd_ne (by omega)]; exact q1 i hi, ?_, ?_, ?_, ?_, n1, w1, q6, q7, q8, ?_, q10, ?_, ?_⟩
        · rw [upd_at, upd_at]
        · rw [upd_ne (by decide), upd_ne (by decide)]; exact q3
        · rw [upd_ne (by decide), upd_ne (by decide)]; exact q4
        · rw [upd_ne (by decide), upd_ne (by decide)]; exact q5
        · rw [upd_ne (by decide)]; exact q9
        · rw [upd_ne (by decide)]; exact q11
        · rw [upd_ne (by decide)]; exact q12) (fun p hp hq => upd_ne (by omega))
      rw [va_same] at this
      rw [← hV1]
      exact this
    have ld1 : iLd T (p.t + d) := ⟨hI.ld.1, hI.ld.2.1, hI.ld.2.2.1, iG_mono hI.ld.2.2.2.1 (by omega), hI.ld.2.2.2.2⟩
    have I1 : Iv (p.wt (p.t + d)) T V1 := ⟨by rw [wj 0 (by decide)]; exact hI.r, ⟨by rw [w4j 3 (by decide)]; exact hI.i0.1, hI.i0.2⟩, hI.x, hI.sum, hI.cold, ⟨w40, hle, by rw [w4j 5 (by decide)]; exact hI.n.2.2.1, by rw [w4j 3 (by decide)]; exact hI.n.2.2.2⟩, by rw [wj 3 (by decide)]; exact hI.sk, ld1⟩
    have h256 : (T 6).length ≤ 256 := by obtain ⟨lr, hG, hle, h6, -⟩ := h.l; exact h6
    have hrl := rnN_le (T 6)
    obtain ⟨T', V', g', c1, c2, c3, c4, c5⟩ := s_leasesL hN (le := p.le) (t := p.t + d) (lo := p.lo) hI.r.2.2.2.2.2.2.2 hle hI.r.2.2.2.2.2.1 (fun g => ld g 8787 8 (fun v_17 => some (v_17, g))) (rnN (T 6)) T V1 _ r1 ld1 w40 (by rw [wj 0 (by decide)]; exact hI.r.2.2.2.2.2.2.1) (by rw [wj 0 (by decide)]; exact hI.r.2.2.2.2.1) (by have := hB.2.2.2; omega) (Nat.le_refl _) (fun i h1 h2 => by omega)
    have x4 : V' 4 = V1 4 := c5.2.1 4 (by decide) (by decide)
    have I' : Iv (p.wt (p.t + d)) T' V' := iv_ld I1 c4 (c5.1 2 (by decide) (by decide) (by decide) (by decide) (by decide)) (c5.1 3 (by decide) (by decide) (by decide) (by decide) (by decide)) (c5.1 4 (by decide) (by decide) (by decide) (by decide) (by decide)) (c5.1 5 (by decide) (by decide) (by decide) (by decide) (by decide)) (c5.2.1 0 (by decide) (by decide)) (c5.2.1 3 (by decide) (by decide)) x4
    refine ⟨nI (p.t + d), T', V', g', ?_, ?_, ⟨_, q, c3, I', hB.le c5.2.2.1 c5.2.2.2, by omega⟩, c5.1, fun j h1 h2 h4 => by rw [c5.2.1 j h1 h2, wj j h4], fun j hj => by rw [x4, w4j j hj]⟩
    · unfold F_X3_endLeases
      have c1' := c1 N (by omega)
      rw [wj 0 (by decide), wj 1 (by decide), wj 2 (by decide), w40] at c1'
      rw [n_running, bd_some]
      have c1'' : L_X3_endLeases_5 N (fun book told sums asum line waits boxes => some (book, told, sums, asum, line, waits, boxes)) (V 0) (nI (p.t + d)) N (nI (rnN (T 6))) (T 0) (T 1) (V 1) (V 2) (T 6) (T 7) (T 8) = some (T' 0, T' 1, V' 1, V' 2, T' 6, T' 7, T' 8) := c1'
      rw [c1'', bd_some, bd_some, x4, w40]
    · have c2' := c2 N (by omega)
      rw [c2', gl 8 8 rfl (by decide), c3.z.2.1, x4, w40]
  · have hle' : ¬ nI (p.t + d) ≤ (99999 : Int32) := nI_ge (a := 99999) (b := p.t + d) (by omega) (by omega)
    exact ⟨-1004, T, V, g, by rw [if_neg hle'], by rw [if_neg hle'], hs0.up, fun _ _ _ _ _ _ => rfl, fun _ _ _ _ => rfl, fun _ _ => rfl⟩
