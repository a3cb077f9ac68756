/-! ===== giveUp, take: both sides ===== -/
theorem oI_ge {o : Option Nat} (h : ∀ j, o = some j → j < 2 ^ 31) : 0 ≤ oI o ↔ ¬ o = none := by
  rw [← oI_neg h]
  exact Int32.not_lt.symm
theorem s_giveUp {N : Nat} (hN : 65536 ≤ N) {p : P} {T : Nat → Rows} {V : Nat → Nat → Int32} {g : Nat → Int32} (h : RR T V g) (hI : Iv p T V) (hw : (T 7).length ≤ 256) {k : Int32} (hk : Vk k) {a : Nat} (ha : a < 16) (tape : Nat → Int32) (taped spot : Int32) :
    ∃ (r : Int32) (T' : Nat → Rows) (g' : Nat → Int32), F_X3_waitNoMore N (T 6) (T 7) (nI a) k = some (r, T' 6, T' 7) ∧ (r = 0 ∨ r = 1) ∧ bd (F_X12_loadOf N g (kc k)) (fun o_3 =>
      if (0 ≤ o_3 : Prop) then
      bd (F_X12_waiterOf N g o_3 (nI a)) (fun o_4 =>
      J_X12_giveUp_44 N o_4 o_3 g tape taped spot)
      else
      J_X12_giveUp_44 N ((-1)) o_3 g tape taped spot) = some (r, g', taped, spot) ∧ RR T' V g' ∧ Iv p T' V ∧ (T' 6).length ≤ (T 6).length ∧ (T' 7).length ≤ (T 7).length ∧ ∀ j, j ≠ 6 → j ≠ 7 → T' j = T j := by
  have h256 : (T 6).length ≤ 256 := by obtain ⟨lr, hG, hle, h6, -⟩ := h.l; exact h6
  rw [s_loadOf hN h.l hI.ld.1 hk, bd_some]
  unfold F_X3_waitNoMore
  rw [n_rowOfWait hN (by omega), bd_some]
  have none_case : ∀ x3, J_X12_giveUp_44 N (-1) x3 g tape taped spot = some (0, g, taped, spot) := fun x3 => by
    unfold J_X12_giveUp_44
    rw [if_neg (by decide)]
  cases hf : fk 0 (T 6) k with
  | none =>
    have hwl := wl_nil hI.ld.2.1 (k := k) (fk_none hf)
    have hfw : fw (T 7) k (nI a) = none := fw_none.mpr (by rw [hwl]; exact List.not_mem_nil)
    refine ⟨0, T, g, ?_, Or.inl rfl, ?_, h, hI, Nat.le_refl _, Nat.le_refl _, fun _ _ _ => rfl⟩
    · rw [hfw, if_pos (show oI none = -1 from rfl)]
    · rw [if_neg (show ¬ (0 : Int32) ≤ oI none by decide)]; exact none_case _
  | some l =>
    obtain ⟨hl, hlk⟩ := fk_lt hf
    have hoe : oI (some l) = nI l := rfl
    rw [if_pos (show (0 : Int32) ≤ oI (some l) from nI_pos' (by omega)), hoe, s_waiterOf hN h.l hl hlk (nI a), bd_some]
    cases hfw : fw (T 7) k (nI a) with
    | none =>
      have hfx : fx (wl (T 7) k) (nI a) = none := fx_none.mpr (fw_none.mp hfw)
      refine ⟨0, T, g, ?_, Or.inl rfl, ?_, h, hI, Nat.le_refl _, Nat.le_refl _, fun _ _ _ => rfl⟩
      · rw [if_pos (show oI none = -1 from rfl)]
      · rw [hfx]; exact none_case _
    | some i =>
      obtain ⟨j, w1, w2, w3, w4⟩ := wl_out hfw
      have hil : i < (T 7).length := by
        unfold fw at hfw
        rw [List.findIdx?_eq_some_iff_getElem] at hfw
        exact hfw.1
      have h16 := (LR16 h.l hl).1
      rw [hlk] at h16
      obtain ⟨m, hm⟩ : ∃ m, (wl (T 7) k).length = m + 1 := ⟨(wl (T 7) k).length - 1, by omega⟩
      have hm2 : (wl ((T 7).eraseIdx i) k).length = m := by rw [w3, List.length_eraseIdx_of_lt w2, hm]; rfl
      -- the reference's row
      obtain ⟨lr, hG, hlen, -, hLR⟩ := h.l
      have q := hLR l hl
      have hk' : (List.getD (T 6) l []).getD 0 0 = k := hlk
      unfold LR at q
      rw [hk', hm] at q
      have c3 : g (2003 + (l * 20 + 3)) = nI (m + 1) := by rw [← q.2.2.2.1]; exact hG.2 l 3 (by omega) (by decide)
      have cj : ∀ t, t < m + 1 → g (2003 + (l * 20 + (4 + t))) = (wl (T 7) k).getD t 0 := fun t ht => by rw [← q.2.2.2.2.2.1 t ht]; exact hG.2 l (4 + t) (by omega) (by omega)
      have c1 : g (2003 + (l * 20 + 1)) = if cl (rw' (T 6) l) 1 = 1 then 2 else 1 := by
        have := q.2.1
        rw [show cl (rw' (T 6) l) 1 = (List.getD (T 6) l []).getD 1 0 from rfl, ← this]
        exact hG.2 l 1 (by omega) (by decide)
      have up := s_upL (N := N) (l := l) (m1 := m) (by omega) (by omega) (β := Int32) (fun g => ld g 8787 (nI (2003 + l * 20) + 3) (fun v_12 =>
        if (v_12 = 0 : Prop) then
        ld g 8787 (nI (2003 + l * 20) + 1) (fun v_13 =>
        if (v_13 = 1 : Prop) then
        bd (F_X12_takesOut N g 15 2003 20 (nI l)) (fun o_14 =>
        some (1, o_14, taped, spot))
        else
        some (1, g, taped, spot))
        else
        some (1, g, taped, spot))) (nI l) tape taped spot (upd g (2003 + (l * 20 + 3)) (nI m)) (by rw [upd_at]) j N j (Nat.le_refl _) (by omega) (by omega)
      rw [shf_0] at up
      generalize hg2 : shf (upd g (2003 + (l * 20 + 3)) (nI m)) (2003 + l * 20 + 4 + j) 1 (2003 + l * 20 + 4 + m) = g2 at up
      have d3 : g2 (2003 + (l * 20 + 3)) = nI m := by
        rw [← hg2]; unfold shf; rw [if_neg (by omega), upd_at]
      have dlow : ∀ t, t < 3 → g2 (2003 + (l * 20 + t)) = g (2003 + (l * 20 + t)) := fun t ht => by
        rw [← hg2]; unfold shf; rw [if_neg (by omega), upd_ne (by omega)]
      have dout : ∀ p, (p < 2003 + l * 20 ∨ 2003 + l * 20 + 20 ≤ p) → g2 p = g p := fun p hp => by
        rw [← hg2]; unfold shf; rw [if_neg (by omega), upd_ne (by omega)]
      have dj : ∀ t, t < m → g2 (2003 + (l * 20 + (4 + t))) = (wl ((T 7).eraseIdx i) k).getD t 0 := fun t ht => by
        rw [w3, q_erD, ← hg2]
        unfold shf
        by_cases z : t < j
        · rw [if_neg (by omega), upd_ne (by omega), if_pos z]; exact cj t (by omega)
        · rw [if_pos (by omega), upd_ne (by omega), if_neg z, show 2003 + (l * 20 + (4 + t)) + 1 = 2003 + (l * 20 + (4 + (t + 1))) by omega]; exact cj (t + 1) (by omega)
      have RL2 : RL g2 (T 6) ((T 7).eraseIdx i) := RL_row h.l hI.ld.1 hl hlk dout dlow w4 (by rw [hm2]; exact d3) (by omega) (fun t ht => dj t (by omega))
      have e0 : (2003 : Int32) + nI l * 20 = nI (2003 + l * 20) := ix2 2003 l 20
      have e3 : nI (2003 + l * 20) + 3 = nI (2003 + (l * 20 + 3)) := by
        have : nI (2003 + l * 20) + 3 = nI (2003 + l * 20 + 3) := nI_add _ 3
        rw [this, Nat.add_assoc]
      have e1 : nI (2003 + l * 20) + 1 = nI (2003 + (l * 20 + 1)) := by
        have : nI (2003 + l * 20) + 1 = nI (2003 + l * 20 + 1) := nI_add _ 1
        rw [this, Nat.add_assoc]
      have em : nI (m + 1) - 1 = nI m := nI_pred m
      have hU2 : iU ((T 7).eraseIdx i) := hI.ld.2.2.1.sublist (List.eraseIdx_sublist _ _)
      have hel : ((T 7).eraseIdx i).length = (T 7).length - 1 := List.length_eraseIdx_of_lt hil
      have r2 := h.uRL (b := T 6) (c := (T 7).eraseIdx i) RL2 (fun p hp hq => dout p (by omega))
      rw [va_same T 6] at r2
      have I2 : Iv p (va_up T 7 ((T 7).eraseIdx i)) V := ⟨hI.r, hI.i0, hI.x, hI.sum, hI.cold, hI.n, hI.sk, ⟨hI.ld.1, fun r hr => hI.ld.2.1 r (List.mem_of_mem_eraseIdx hr), hU2, hI.ld.2.2.2⟩⟩
      have hrow : tremove (T 7) (oI (some i)) = (T 7).eraseIdx i := tremove_nI (by omega)
      have hcnt : thowMany ((T 7).eraseIdx i) 0 k = nI m := by rw [howMany_eq _ 0 0 rfl (by decide), wl_count, hm2]
      have hne : ¬ oI (some i) = -1 := fun z => by
        have := (oI_m1 (o := some i) (fun j hj => by cases hj; omega)).mp z
        cases this
      have ref : J_X12_giveUp_44 N (oI (fx (wl (T 7) k) (nI a))) (nI l) g tape taped spot = if (m = 0 ∧ ¬ cl (rw' (T 6) l) 1 = 1) then bd (F_X12_takesOut N g2 15 2003 20 (nI l)) (fun o_14 => some (1, o_14, taped, spot)) else some (1, g2, taped, spot) := by
        unfold J_X12_giveUp_44
        have hj0 : (0 : Int32) ≤ oI (some j) := nI_pos' (by omega)
        have hoj : oI (some j) = nI j := rfl
        rw [w1, if_pos hj0, lt_b, hoj, e0, e3, gl _ (2003 + (l * 20 + 3)) rfl (by omega), c3, em, gs _ (2003 + (l * 20 + 3)) rfl (by omega)]
        rw [e3] at up
        rw [up, gl _ (2003 + (l * 20 + 3)) rfl (by omega), d3]
        by_cases z : m = 0
        · rw [if_pos (show nI m = 0 by rw [z]; rfl), e1, gl _ (2003 + (l * 20 + 1)) rfl (by omega), dlow 1 (by decide), c1]
          by_cases z2 : cl (rw' (T 6) l) 1 = 1
          · rw [if_pos z2, if_neg (by decide), if_neg (fun y => y.2 z2)]
          · rw [if_neg z2, if_pos rfl, if_pos ⟨z, z2⟩]
        · rw [if_neg (show ¬ nI m = 0 from fun y => z ((nI_eq (a := m) (b := 0) (by omega) (by omega)).mp y)), if_neg (fun y => z y.1)]
      rw [ref]
      rw [if_neg hne, lt_b, hrow, n_runs h256 hf, bd_some]
      by_cases z2 : cl (rw' (T 6) l) 1 = 1
      · refine ⟨1, _, g2, ?_, Or.inr rfl, ?_, r2, I2, Nat.le_refl _, by show ((T 7).eraseIdx i).length ≤ _; omega, fun j _ h7 => vu_ne h7⟩
        · rw [if_pos z2, if_neg (by decide)]; rfl
        · rw [if_neg (fun y => y.2 z2)]
      · rw [if_neg z2, if_pos rfl, lt_b, hcnt]
        by_cases z : m = 0
        · obtain ⟨g3, t1, t2, t3⟩ := RL_erase hN (w2 := (T 7).eraseIdx i) RL2 hl (fun _ _ _ => rfl)
          have r3 := r2.uRL (b := (T 6).eraseIdx l) (c := (T 7).eraseIdx i) t2 (fun p hp hq => t3 p (by omega) (by omega))
          refine ⟨1, _, g3, ?_, Or.inr rfl, ?_, r3, ?_, ?_, by show ((T 7).eraseIdx i).length ≤ _; omega, fun j h6 h7 => by rw [vu_ne h7, vu_ne h6, vu_ne h7]⟩
          · rw [if_pos (show nI m = 0 by rw [z]; rfl), n_loadRow, bd_some, hf, lt_b]
            have : tremove (T 6) (oI (some l)) = (T 6).eraseIdx l := tremove_nI (by omega)
            rw [this]
            rfl
          · rw [if_pos ⟨z, z2⟩, t1, bd_some]
          · refine ⟨hI.r, hI.i0, hI.x, hI.sum, hI.cold, hI.n, hI.sk, ⟨(iL_erase hI.ld.1 hl).1, ?_, hU2, iG_erase hI.ld.1 hI.ld.2.2.2.1 hl, hI.ld.2.2.2.2⟩⟩
            intro r hr
            have hr' : r ∈ (T 7).eraseIdx i := hr
            have hno := not_in (waits := (T 7).eraseIdx i) (k := k) (by rw [hm2]; exact z) r hr'
            obtain ⟨⟨y, hy, ey⟩, h3⟩ := hI.ld.2.1 r (List.mem_of_mem_eraseIdx hr')
            refine ⟨⟨y, ?_, ey⟩, h3⟩
            show y ∈ (T 6).eraseIdx l
            obtain ⟨s, hs, rfl⟩ := List.getElem_of_mem hy
            have hsl : s ≠ l := by
              rintro rfl
              refine hno ?_
              rw [← ey, ← hlk, show rw' (T 6) s = (T 6)[s] from q_getD_lt hs]
            rw [List.mem_eraseIdx_iff_getElem?]
            exact ⟨s, hsl, List.getElem?_eq_getElem hs⟩
          · show ((T 6).eraseIdx l).length ≤ _
            rw [List.length_eraseIdx_of_lt hl]; omega
        · refine ⟨1, _, g2, ?_, Or.inr rfl, ?_, r2, I2, Nat.le_refl _, by show ((T 7).eraseIdx i).length ≤ _; omega, fun j _ h7 => vu_ne h7⟩
          · rw [if_neg (show ¬ nI m = 0 from fun y => z ((nI_eq (a := m) (b := 0) (by omega) (by omega)).mp y))]; rfl
          · rw [if_neg (fun y => z y.1)]
theorem Bd.le {p : P} {q : Nat} {T T' : Nat → Rows} (h : Bd p q T) (h6 : (T' 6).length ≤ (T 6).length) (h7 : (T' 7).length ≤ (T 7).length) : Bd p q T' := by
  obtain ⟨a, b, c, d⟩ := h
  exact ⟨a, b, by omega, by omega⟩
theorem m_giveUp {N : Nat} (hN : 65536 ≤ N) {c : Nat} (hc : c < 512) {tp : List Nat} {T : Nat → Rows} {V : Nat → Nat → Int32} {g : Nat → Int32} (hs : SQ c tp T V g) {tby : Nat → Int32} {tsz : Int32} {tape : Nat → Int32} {taped : Int32} (ht : TR tp tby tsz tape taped) (spot x : Int32) :
    ∃ (r : Int32) (T' : Nat → Rows) (g' : Nat → Int32) (tp' : List Nat) (tsz' taped' spot' : Int32), F_X11_giveUp N tby tsz (T 6) (T 7) x = some (r, tsz', T' 6, T' 7) ∧ F_X12_giveUp N g tape taped spot x = some (r, g', taped', spot') ∧ TR tp' tby tsz' tape taped' ∧ SQ (c + 1) tp' T' V g' ∧ ∀ j, j ≠ 6 → j ≠ 7 → T' j = T j := by
  unfold F_X11_giveUp F_X12_giveUp
  rcases n_asker x with ⟨a1, a2⟩ | ⟨a1, a2, a, ha, rfl⟩
  · rw [a1, a2, bd_some, bd_some]
    exact ⟨-1001, T, g, tp, tsz, taped, spot, by rw [if_pos rfl], by rw [if_pos rfl], ht, hs.up, fun _ _ _ => rfl⟩
  obtain ⟨k, spot', k1, k2, k3⟩ := take_both hN ht spot
  rw [a1, a2, bd_some, bd_some, if_neg (by decide), if_neg (by decide), k1, k2, bd_some, bd_some]
  rcases k3 with rfl | ⟨hk, hne⟩
  · exact ⟨-1002, T, g, [], 0, 0, spot', by rw [if_pos rfl], by rw [if_pos kc_0], ht.nil, hs.nil, fun _ _ _ => rfl⟩
  obtain ⟨p, q, h, hI, hB, hq⟩ := hs
  have hw : (T 7).length ≤ 256 := by have := hB.2.2.2; omega
  obtain ⟨r, T', g', c1, c2, c3, c4, c5, c6, c7, c8⟩ := s_giveUp hN h hI hw hk ha tape 0 spot'
  refine ⟨r, T', g', [], 0, 0, spot', ?_, ?_, ht.nil, ⟨p, q, c4, c5, hB.le c6 c7, by rw [ne1_nil]; omega⟩, c8⟩
  · rw [if_neg (kc_ne0 hk).1, c1, bd_some]
    rcases c2 with rfl | rfl
    · rw [if_pos rfl]
    · rw [if_neg (show ¬ (1 : Int32) = 0 by decide)]
  · rw [if_neg (kc_ne0 hk).2]; exact c3
