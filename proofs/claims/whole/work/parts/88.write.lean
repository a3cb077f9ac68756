/-! ===== write, flush: both sides ===== -/
theorem n_set0 {dm : Nat} {rows : Rows} {i : Nat} (h : i < 65536) (y : Int32) (c : Nat) (hy : y = nI c) (hc : c < 9) (x : Int32) : F_X0_set dm rows (nI i) y x = some (rows.modify i (fun r => r.set c x)) := by
  unfold F_X0_set
  rw [lt_b, tset_nI (by omega) y c hy (by omega)]
theorem st_iv {p : P} {T : Nat → Rows} {V : Nat → Nat → Int32} (h : Iv p T V) {e c : Nat} {x : Int32} (hx : colOK c x) (h1 : c ≠ 1) (h7 : c ≠ 7) : Iv p (stE T e c x) V := by
  refine ⟨h.r, stE_inv h.i0 hx, ?_, ?_, h.cold, h.n, h.sk, h.ld⟩
  · rw [stE_ne (j := 5) (by decide)]
    exact h.x.sub (stE_keys h.i0 h7) (List.Sublist.refl _)
  · rw [wSN_set h.i0 h1]; exact h.sum
theorem wr_iv {p : P} {T : Nat → Rows} {V : Nat → Nat → Int32} (h : Iv p T V) {k v : Int32} (hk : Vk k) (B : Rows) (S : Nat → Int32) : Iv p (va_up (va_up T 2 (pushW (T 2) k v)) 0 B) (va_up V 1 S) :=
  ⟨h.r, ⟨h.i0.1, h.i0.2.1, h.i0.2.2.1, h.i0.2.2.2.1.push hk, h.i0.2.2.2.2⟩, h.x, h.sum, h.cold, h.n, h.sk, h.ld⟩
theorem m_write {N : Nat} (hN : 65536 ≤ N) {c : Nat} {tp : List Nat} {T : Nat → Rows} {V : Nat → Nat → Int32} {g : Nat → Int32} (hs : SQ c tp T V g) {tby : Nat → Int32} {tsz : Int32} {tape : Nat → Int32} {taped : Int32} (ht : TR tp tby tsz tape taped) (spot x : Int32) :
    ∃ (r : Int32) (T' : Nat → Rows) (V' : Nat → Nat → Int32) (g' : Nat → Int32) (tp' : List Nat) (tsz' taped' spot' : Int32), F_X11_write N tby tsz (V 0) (V 4 0) (T 0) (T 2) (V 1) (T 4) (V 4 4) x = some (r, tsz', T' 0, T' 2, V' 1, T' 4, V' 4 4) ∧ F_X12_write N g tape taped spot x = some (r, g', taped', spot') ∧ TR tp' tby tsz' tape taped' ∧ SQ (c + 1) tp' T' V' g' ∧ (∀ j, j ≠ 0 → j ≠ 2 → j ≠ 4 → T' j = T j) ∧ (∀ j, j ≠ 1 → j ≠ 4 → V' j = V j) ∧ ∀ j, j ≠ 4 → V' 4 j = V 4 j := by
  unfold F_X11_write F_X12_write
  have e1 : F_X11_isValue x = F_X12_in x 0 99999 := rfl
  rw [e1]
  rcases in01 x 0 99999 with ⟨b1, b2⟩ | ⟨b1, b2, b3⟩
  · exact ⟨-1001, T, V, g, tp, tsz, taped, spot, by rw [b1, bd_some, if_pos rfl], by rw [b1, bd_some, if_pos rfl], ht, hs.up, fun _ _ _ _ => rfl, fun _ _ _ => rfl, fun _ _ => rfl⟩
  obtain ⟨v, hv, ev⟩ := nI_ofx (n := 99999) rfl b2 b3
  obtain ⟨k, spot', k1, k2, k3⟩ := take_both hN ht spot
  rw [b1, bd_some, bd_some, if_neg one_ne, if_neg one_ne, k1, k2, bd_some, bd_some]
  rcases k3 with rfl | ⟨hk, hne⟩
  · exact ⟨-1002, T, V, g, [], 0, 0, spot', by rw [if_pos rfl], by rw [if_pos kc_0], ht.nil, hs.nil, fun _ _ _ _ => rfl, fun _ _ _ => rfl, fun _ _ => rfl⟩
  obtain ⟨p, q, h, hI, hB, hq⟩ := hs
  have h200 := h.e.2
  have hq1 : q + ne1 [] ≤ c + 1 := by rw [ne1_nil]; omega
  -- the value is written at once
  have out : ∃ (r : Int32) (T' : Nat → Rows) (V' : Nat → Nat → Int32) (g' : Nat → Int32) (tp' : List Nat) (tsz' taped' spot'' : Int32), bd (J_X6_overwrite_25 N k x (V 0) (V 4 0) (T 0) (T 2) (V 1) (T 4) (V 4 4)) (fun o_3 =>
      if (o_3.1 = 0 : Prop) then
      some (0, (0 : Int32), o_3.2.1, o_3.2.2.1, o_3.2.2.2.1, o_3.2.2.2.2.1, o_3.2.2.2.2.2)
      else
      some (1, (0 : Int32), o_3.2.1, o_3.2.2.1, o_3.2.2.2.1, o_3.2.2.2.2.1, o_3.2.2.2.2.2)) = some (r, tsz', T' 0, T' 2, V' 1, T' 4, V' 4 4) ∧ J_X12_write_45 N x (kc k) g tape 0 spot' = some (r, g', taped', spot'') ∧ TR tp' tby tsz' tape taped' ∧ SQ (c + 1) tp' T' V' g' ∧ (∀ j, j ≠ 0 → j ≠ 2 → j ≠ 4 → T' j = T j) ∧ (∀ j, j ≠ 1 → j ≠ 4 → V' j = V j) ∧ ∀ j, j ≠ 4 → V' 4 j = V 4 j := by
    obtain ⟨g1, q1, r1⟩ := s_writes hN h hk x
    refine ⟨0, _, _, g1, [], 0, 0, spot', ?_, ?_, ht.nil, ⟨p, q, r1, wr_iv hI hk _ _, hB, hq1⟩, fun j h0 h2 _ => by rw [vu_ne h0, vu_ne h2], fun j h1 _ => vu_ne h1, fun _ _ => rfl⟩
    · unfold J_X6_overwrite_25
      rw [n_noteWritten hN (Or.inr hk), bd_some, bd_some, if_pos rfl]
      rfl
    · unfold J_X12_write_45
      rw [q1, bd_some]
  rw [if_neg (kc_ne0 hk).1, if_neg (kc_ne0 hk).2]
  unfold F_X6_overwrite
  rw [n_rowOf, bd_some, s_entry hN h.e hI.i0.1.iE hk, bd_some]
  cases hf : fk 7 (T 4) k with
  | none =>
    rw [if_pos (show oI none = -1 from rfl), if_pos (show oI none < 0 by decide)]
    exact out
  | some e =>
    obtain ⟨hel, hek⟩ := fk_lt hf
    have hne' : ¬ oI (some e) = -1 := fun z => by
      have := (oI_m1 (o := some e) (fun j hj => by cases hj; omega)).mp z
      cases this
    have hoe : oI (some e) = nI e := rfl
    rw [if_neg hne', if_neg (show ¬ oI (some e) < 0 from nI_pos (by omega)), hoe, n_stale (by omega), bd_some, s_stale h.z h.e hel, bd_some]
    by_cases z : stI (V 0) (V 4 0) (cl (rw' (T 4) e) 6) = 0
    · rw [if_pos z, if_pos z]
      generalize hV1 : va_up V 4 (upd (V 4) 4 (V 4 4 + 1)) = V1
      have w4 : V1 4 = upd (V 4) 4 (V 4 4 + 1) := by rw [← hV1]; rfl
      have w44 : V1 4 4 = V 4 4 + 1 := by rw [w4, upd_at]
      have w4j : ∀ j, j ≠ 4 → V1 4 j = V 4 j := fun j hj => by rw [w4, upd_ne hj]
      have wj : ∀ j, j ≠ 4 → V1 j = V j := fun j hj => by rw [← hV1, vu_ne hj]
      have g12 : g 12 = V 4 4 := h.z.2.2.2.2.1
      have r1 : RR T V1 (upd g 12 (V 4 4 + 1)) := by
        have := h.uR0 (v := V 0) (sc := upd (V 4) 4 (V 4 4 + 1)) (g' := upd g 12 (V 4 4 + 1)) (by
          obtain ⟨q1, q2, q3, q4, q5, n1, w1, q6, q7, q8, q9, q10, q11, q12⟩ := h.z
          refine ⟨fun i hi => by rw [upd_ne (by omega)]; exact q1 i hi, ?_, ?_, ?_, ?_, n1, w1, q6, q7, q8, ?_, q10, ?_, ?_⟩
          · rw [upd_ne (by decide), upd_ne (by decide)]; exact q2
          · rw [upd_ne (by decide), upd_ne (by decide)]; exact q3
          · rw [upd_ne (by decide), upd_ne (by decide)]; exact q4
          · rw [upd_at, upd_at]
          · rw [upd_ne (by decide)]; exact q9
          · rw [upd_ne (by decide)]; exact q11
          · rw [upd_ne (by decide)]; exact q12) (fun p hp hq => upd_ne (by omega))
        rw [va_same] at this
        rw [← hV1]
        exact this
      have I1 : Iv p T V1 := ⟨by rw [wj 0 (by decide)]; exact hI.r, ⟨by rw [w4j 3 (by decide)]; exact hI.i0.1, hI.i0.2⟩, hI.x, hI.sum, hI.cold, ⟨by rw [w4j 0 (by decide)]; exact hI.n.1, hI.n.2.1, by rw [w4j 5 (by decide)]; exact hI.n.2.2.1, by rw [w4j 3 (by decide)]; exact hI.n.2.2.2⟩, by rw [wj 3 (by decide)]; exact hI.sk, hI.ld⟩
      obtain ⟨g2, q2, r2⟩ := s_setE r1 I1.i0.1.iE hel (c := 0) (by decide) (by decide) 1 rfl x
      have I2 : Iv p (stE T e 0 x) V1 := st_iv I1 (Or.inl ⟨rfl, v, hv, ev⟩) (by decide) (by decide)
      have hel2 : e < (stE T e 0 x 4).length := by rw [stE_len]; exact hel
      obtain ⟨g3, q3, r3⟩ := s_setE (T := stE T e 0 x) r2 I2.i0.1.iE hel2 (c := 6) (by decide) (by decide) 4 rfl (V 4 0)
      have I3 : Iv p (stE (stE T e 0 x) e 6 (V 4 0)) V1 := st_iv I2 (Or.inr (Or.inr (Or.inr (Or.inr (Or.inr (Or.inl ⟨rfl, p.t, hI.n.2.1, hI.n.1⟩)))))) (by decide) (by decide)
      have hel3 : e < (stE (stE T e 0 x) e 6 (V 4 0) 4).length := by rw [stE_len]; exact hel2
      obtain ⟨g4, q4, r4⟩ := s_setE (T := stE (stE T e 0 x) e 6 (V 4 0)) r3 I3.i0.1.iE hel3 (c := 8) (by decide) (by decide) 8 rfl (V 4 4 + 1)
      have I4 : Iv p (stE (stE (stE T e 0 x) e 6 (V 4 0)) e 8 (V 4 4 + 1)) V1 := st_iv I3 (Or.inr (Or.inr (Or.inr (Or.inr (Or.inr (Or.inr rfl)))))) (by decide) (by decide)
      have e8 : g2 8 = V 4 0 := by rw [r2.z.2.1, w4j 0 (by decide)]
      have e12 : g3 12 = V 4 4 + 1 := by rw [r3.z.2.2.2.2.1, w44]
      refine ⟨1, _, V1, g4, [], 0, 0, spot', ?_, ?_, ht.nil, ⟨p, q, r4, I4, hB, hq1⟩, fun j _ _ h4 => by rw [vu_ne h4, stE_ne h4, stE_ne h4], fun j _ h4 => wj j h4, w4j⟩
      · unfold F_X5_now
        rw [lt_b, n_set0 (by omega) 0 0 rfl (by decide), bd_some, bd_some, n_set0 (by omega) 6 6 rfl (by decide), bd_some, n_set0 (by omega) 8 8 rfl (by decide), bd_some, bd_some, if_neg one_ne, wj 1 (by decide), w44]
        rfl
      · rw [gl 12 12 rfl (by decide), g12, gs 12 12 rfl (by decide), q2, bd_some, gl 8 8 rfl (by decide), e8, q3, bd_some, gl 12 12 rfl (by decide), e12, q4, bd_some]
    · rw [if_neg z, if_neg z]
      exact out
/-! the dirty ones -/
def fdS (rows : Rows) (b : Option Nat) (i : Nat) : Option Nat := if cl (rw' rows i) 8 = 0 then b else match b with
  | none => some i
  | some j => if cl (rw' rows j) 8 ≤ cl (rw' rows i) 8 then some j else some i
def fd (rows : Rows) : Nat → Option Nat
  | 0 => none
  | n + 1 => fdS rows (fd rows n) n
theorem fd_lt {rows : Rows} : ∀ {n j : Nat}, fd rows n = some j → j < n ∧ ¬ cl (rw' rows j) 8 = 0
  | 0, j, h => by cases h
  | n + 1, j, h => by
    unfold fd fdS at h
    by_cases q : cl (rw' rows n) 8 = 0
    · rw [if_pos q] at h
      have := fd_lt h
      exact ⟨by omega, this.2⟩
    · rw [if_neg q] at h
      cases hb : fd rows n with
      | none =>
        rw [hb] at h
        cases h
        exact ⟨by omega, q⟩
      | some b =>
        rw [hb] at h
        have hb2 := fd_lt hb
        dsimp only at h
        split at h
        · cases h; exact ⟨by omega, hb2.2⟩
        · cases h; exact ⟨by omega, q⟩
theorem fd_none {rows : Rows} : ∀ {n : Nat}, fd rows n = none → ∀ i, i < n → cl (rw' rows i) 8 = 0
  | 0, _, i, hi => by omega
  | n + 1, h, i, hi => by
    unfold fd fdS at h
    by_cases q : cl (rw' rows n) 8 = 0
    · rw [if_pos q] at h
      by_cases z : i = n
      · rw [z]; exact q
      · exact fd_none h i (by omega)
    · rw [if_neg q] at h
      cases hb : fd rows n with
      | none => rw [hb] at h; cases h
      | some b =>
        rw [hb] at h
        dsimp only at h
        split at h <;> cases h
theorem n_dirty {dm : Nat} {rows : Rows} {i : Nat} (h : i < 65536) : F_X0_isDirty dm rows (nI i) = some (if cl (rw' rows i) 8 = 0 then 0 else 1) := by
  unfold F_X0_isDirty
  rw [lt_b, tg i 8 8 rfl (by omega) (by decide)]
  split <;> rfl
theorem n_fdL {N dm : Nat} {rows : Rows} (hl : rows.length < 65536) : ∀ (n i : Nat), i ≤ rows.length → rows.length < n + i → L_X0_firstDirty_4 N dm (fun x1 => some x1) rows n (oI (fd rows i)) (nI i) = some (oI (fd rows rows.length)) := by
  intro n
  induction n with
  | zero => intro i h1 h2; omega
  | succ n ih =>
    intro i h1 h2
    rw [e_X0_firstDirty_4]
    unfold K_X0_firstDirty_4
    rw [lt_b]
    by_cases q : i = rows.length
    · rw [if_pos (show tsize rows ≤ nI i by rw [q]; exact nI_le (Nat.le_refl _) (by omega)), q]
    · have hi : i < rows.length := by omega
      rw [if_neg (show ¬ tsize rows ≤ nI i from nI_ge hi (by omega)), n_dirty (by omega), bd_some]
      have step := ih (i + 1) (by omega) (by omega)
      have h31 : ∀ j, fd rows i = some j → j < 2 ^ 31 := fun j hj => by have := (fd_lt hj).1; omega
      unfold J_X0_firstDirty_51 J_X0_firstDirty_53
      rw [lt_b, lt_b, nI_1]
      by_cases q2 : cl (rw' rows i) 8 = 0
      · rw [if_pos q2, if_pos rfl]
        have e : fd rows (i + 1) = fd rows i := by show fdS rows (fd rows i) i = _; unfold fdS; rw [if_pos q2]
        rw [e] at step
        exact step
      · rw [if_neg q2, if_neg one_ne]
        cases hb : fd rows i with
        | none =>
          have e : fd rows (i + 1) = some i := by show fdS rows (fd rows i) i = _; unfold fdS; rw [if_neg q2, hb]
          rw [e] at step
          rw [if_pos (show oI none = -1 from rfl)]
          exact step
        | some b =>
          have hbl := (fd_lt hb).1
          have hne : ¬ oI (some b) = -1 := fun z => by
            have := (oI_m1 (o := some b) (fun j hj => by cases hj; omega)).mp z
            cases this
          have hoe : oI (some b) = nI b := rfl
          rw [if_neg hne, lt_b, lt_b, tg i 8 8 rfl (by omega) (by decide), hoe, tg b 8 8 rfl (by omega) (by decide)]
          by_cases q3 : cl (rw' rows b) 8 ≤ cl (rw' rows i) 8
          · have e : fd rows (i + 1) = some b := by show fdS rows (fd rows i) i = _; unfold fdS; rw [if_neg q2, hb]; dsimp only; rw [if_pos q3]
            rw [e] at step
            rw [if_pos q3]
            exact step
          · have e : fd rows (i + 1) = some i := by show fdS rows (fd rows i) i = _; unfold fdS; rw [if_neg q2, hb]; dsimp only; rw [if_neg q3]
            rw [e] at step
            rw [if_neg q3]
            exact step
theorem n_fd {N dm : Nat} (hN : 65536 ≤ N) {rows : Rows} (hl : rows.length < 65536) : F_X0_firstDirty N dm rows = some (oI (fd rows rows.length)) := by
  unfold F_X0_firstDirty
  exact n_fdL hl N 0 (Nat.zero_le _) (by omega)
theorem s_fdL {N : Nat} {g : Nat → Int32} {rows : Rows} (h : RE g rows) : ∀ (n i : Nat), i ≤ rows.length → rows.length < n + i → L_X12_firstDirty_4 N (fun x1 => some x1) g n (oI (fd rows i)) (nI i) = some (oI (fd rows rows.length)) := by
  have hl : rows.length < 65536 := by have := h.2; omega
  intro n
  induction n with
  | zero => intro i h1 h2; omega
  | succ n ih =>
    intro i h1 h2
    rw [e_X12_firstDirty_4]
    unfold K_X12_firstDirty_4
    rw [gl 13 13 rfl (by decide), s_many h]
    by_cases q : i = rows.length
    · rw [if_pos (by rw [q]; exact nI_le (Nat.le_refl _) (by omega)), q]
    · have hi : i < rows.length := by omega
      have e8 : ∀ j, cl (mEn (rw' rows j)) 8 = cl (rw' rows j) 8 := fun _ => rfl
      rw [if_neg (nI_ge hi (by omega)), s_at h hi 8 8 rfl (by decide), bd_some, e8]
      have step := ih (i + 1) (by omega) (by omega)
      unfold J_X12_firstDirty_46 J_X12_firstDirty_48
      rw [lt_b, lt_b, nI_1]
      by_cases q2 : cl (rw' rows i) 8 = 0
      · rw [if_pos q2]
        have e : fd rows (i + 1) = fd rows i := by show fdS rows (fd rows i) i = _; unfold fdS; rw [if_pos q2]
        rw [e] at step
        exact step
      · rw [if_neg q2]
        cases hb : fd rows i with
        | none =>
          have e : fd rows (i + 1) = some i := by show fdS rows (fd rows i) i = _; unfold fdS; rw [if_neg q2, hb]
          rw [e] at step
          rw [if_pos (show oI none < 0 by decide)]
          exact step
        | some b =>
          have hbl := (fd_lt hb).1
          have hoe : oI (some b) = nI b := rfl
          rw [if_neg (show ¬ oI (some b) < 0 from nI_pos (by omega)), bd_some, hoe, s_at h (i := b) (by omega) 8 8 rfl (by decide), bd_some, e8]
          by_cases q3 : cl (rw' rows b) 8 ≤ cl (rw' rows i) 8
          · have e : fd rows (i + 1) = some b := by show fdS rows (fd rows i) i = _; unfold fdS; rw [if_neg q2, hb]; dsimp only; rw [if_pos q3]
            rw [e] at step
            rw [if_pos q3]
            exact step
          · have e : fd rows (i + 1) = some i := by show fdS rows (fd rows i) i = _; unfold fdS; rw [if_neg q2, hb]; dsimp only; rw [if_neg q3]
            rw [e] at step
            rw [if_neg q3]
            exact step
theorem s_fd {N : Nat} (hN : 65536 ≤ N) {g : Nat → Int32} {rows : Rows} (h : RE g rows) : F_X12_firstDirty N g = some (oI (fd rows rows.length)) := by
  unfold F_X12_firstDirty
  exact s_fdL h N 0 (Nat.zero_le _) (by have := h.2; omega)
def dn (rows : Rows) : Nat := rows.countP (fun r => decide (¬ cl r 8 = 0))
theorem dn_mod : ∀ {rows : Rows} {e : Nat}, (∀ r ∈ rows, r.length = 9) → e < rows.length → ¬ cl (rw' rows e) 8 = 0 → dn (rows.modify e (fun r => r.set 8 0)) + 1 = dn rows
  | [], e, _, h, _ => by cases h
  | r :: rs, 0, h9, _, hd => by
    have hd' : ¬ cl r 8 = 0 := hd
    have e0 : cl (r.set 8 0) 8 = 0 := by rw [set_cl (h9 r List.mem_cons_self) (by decide), if_pos rfl]
    show dn (r.set 8 0 :: rs) + 1 = dn (r :: rs)
    unfold dn
    rw [List.countP_cons, List.countP_cons, if_pos (decide_eq_true hd'), if_neg (by rw [decide_eq_true_eq]; exact fun z => z e0)]
  | r :: rs, e + 1, h9, hl, hd => by
    have ih := dn_mod (rows := rs) (e := e) (fun q hq => h9 q (List.mem_cons_of_mem _ hq)) (by simp at hl; omega) hd
    show dn (r :: rs.modify e (fun r => r.set 8 0)) + 1 = dn (r :: rs)
    unfold dn at ih ⊢
    rw [List.countP_cons, List.countP_cons]
    omega
theorem s_flushL {N : Nat} (hN : 65536 ≤ N) {p : P} (kc' : Rows → Rows → (Nat → Int32) → Rows → Option (Int32 × Rows × Rows × (Nat → Int32) × Rows)) (x1 : Int32) : ∀ (m : Nat) (T : Nat → Rows) (V : Nat → Nat → Int32) (g : Nat → Int32), RR T V g → Iv p T V → dn (T 4) = m →
    ∃ (T' : Nat → Rows) (V' : Nat → Nat → Int32) (g' : Nat → Int32), (∀ n, m < n → L_X6_writeOutDirty_12 N kc' x1 (V 0) (V 4 0) n (nI m) (T 0) (T 2) (V 1) (T 4) = kc' (T' 0) (T' 2) (V' 1) (T' 4)) ∧ (∀ n s, m < n → L_X12_flush_7 N (fun x1 g => some (x1, g)) n (nI s) (oI (fd (T 4) (T 4).length)) g = some (nI (s + m), g')) ∧ RR T' V' g' ∧ Iv p T' V' ∧ (∀ j, j ≠ 0 → j ≠ 2 → j ≠ 4 → T' j = T j) ∧ ∀ j, j ≠ 1 → V' j = V j := by
  intro m
  induction m with
  | zero =>
    intro T V g h hI hm
    have hfd : fd (T 4) (T 4).length = none := by
      cases hf : fd (T 4) (T 4).length with
      | none => rfl
      | some e =>
        have := fd_lt hf
        unfold dn at hm
        have z := List.countP_eq_zero.mp hm _ (mem_at this.1)
        rw [decide_eq_true this.2] at z
        exact absurd rfl z
    refine ⟨T, V, g, fun n hn => ?_, fun n s hn => ?_, h, hI, fun _ _ _ _ => rfl, fun _ _ => rfl⟩
    · obtain ⟨n, rfl⟩ : ∃ q, n = q + 1 := ⟨n - 1, by omega⟩
      rw [e_X6_writeOutDirty_12]
      unfold K_X6_writeOutDirty_12
      rw [if_pos (show nI 0 ≤ 0 by decide)]
    · obtain ⟨n, rfl⟩ : ∃ q, n = q + 1 := ⟨n - 1, by omega⟩
      rw [e_X12_flush_7]
      unfold K_X12_flush_7
      rw [hfd, if_pos (show oI none < 0 by decide)]
      rfl
  | succ m ih =>
    intro T V g h hI hm
    have h200 := h.e.2
    cases hf : fd (T 4) (T 4).length with
    | none =>
      have z := fd_none hf
      have : dn (T 4) = 0 := by
        unfold dn
        rw [List.countP_eq_zero]
        intro r hr
        obtain ⟨i, hi, rfl⟩ := List.getElem_of_mem hr
        have := z i hi
        rw [show rw' (T 4) i = (T 4)[i] from q_getD_lt hi] at this
        rw [decide_eq_true_eq]
        exact fun y => y this
      omega
    | some e =>
      obtain ⟨hel, hed⟩ := fd_lt hf
      have hrow := hI.i0.1.at hel
      have hkV : Vk (cl (rw' (T 4) e) 7) := hrow.2.1.1
      obtain ⟨g1, q1, r1⟩ := s_setE h hI.i0.1.iE hel (c := 8) (by decide) (by decide) 8 rfl 0
      have I1 : Iv p (stE T e 8 0) V := st_iv hI (Or.inr (Or.inr (Or.inr (Or.inr (Or.inr (Or.inr rfl)))))) (by decide) (by decide)
      have r1' : RR (stE T e 8 0) V g1 := r1
      have hel1 : e < (stE T e 8 0 4).length := by rw [stE_len]; exact hel
      have c7 : cl (rw' (stE T e 8 0 4) e) 7 = cl (rw' (T 4) e) 7 := by rw [stE_at hI.i0 hel (by decide), if_neg (by decide)]
      have c0 : cl (rw' (stE T e 8 0 4) e) 0 = cl (rw' (T 4) e) 0 := by rw [stE_at hI.i0 hel (by decide), if_neg (by decide)]
      have a0 : F_X12_at g1 (nI e) 0 = some (kc (cl (rw' (T 4) e) 7)) := by
        rw [s_at r1'.e hel1 0 0 rfl (by decide), ← c7]; rfl
      have a1 : F_X12_at g1 (nI e) 1 = some (cl (rw' (T 4) e) 0) := by
        rw [s_at r1'.e hel1 1 1 rfl (by decide), ← c0]; rfl
      obtain ⟨g2, q2, r2⟩ := s_writes hN r1' hkV (cl (rw' (T 4) e) 0)
      have I2 := wr_iv I1 (k := cl (rw' (T 4) e) 7) (v := cl (rw' (T 4) e) 0) hkV (pushK (stE T e 8 0 0) 11 (V 4 0) (cl (rw' (T 4) e) 7)) (tallyN (V 1) 11)
      have dnm : dn (stE T e 8 0 4) = m := by
        have := dn_mod (rows := T 4) (e := e) (fun r hr => (hI.i0.1.1 r hr).1.1) hel hed
        have this' : dn (stE T e 8 0 4) + 1 = dn (T 4) := this
        omega
      obtain ⟨T', V', g', d1, d2, d3, d4, d5, d6⟩ := ih _ _ g2 r2 I2 dnm
      refine ⟨T', V', g', fun n hn => ?_, fun n s hn => ?_, d3, d4, fun j h0 h2 h4 => by rw [d5 j h0 h2 h4, vu_ne h0, vu_ne h2, stE_ne h4], fun j h1 => by rw [d6 j h1, vu_ne h1]⟩
      · obtain ⟨n, rfl⟩ : ∃ q, n = q + 1 := ⟨n - 1, by omega⟩
        rw [e_X6_writeOutDirty_12]
        unfold K_X6_writeOutDirty_12
        have hoe : oI (some e) = nI e := rfl
        rw [if_neg (show ¬ nI (m + 1) ≤ 0 from nI_nle (by omega) (by have : dn (T 4) ≤ (T 4).length := List.countP_le_length; omega)), n_fd hN (by omega), bd_some, hf, hoe, n_get0 (by omega) 7 7 rfl (by decide), bd_some, n_get0 (by omega) 0 0 rfl (by decide), bd_some, n_noteWritten hN (Or.inr hkV), bd_some, n_set0 (by omega) 8 8 rfl (by decide), bd_some, lt_b, pk_m1]
        exact d1 n (by omega)
      · obtain ⟨n, rfl⟩ : ∃ q, n = q + 1 := ⟨n - 1, by omega⟩
        rw [e_X12_flush_7]
        unfold K_X12_flush_7
        have hoe : oI (some e) = nI e := rfl
        have hre2 := r2.e
        rw [if_neg (show ¬ oI (some e) < 0 from nI_pos (by omega)), hoe, q1, bd_some, a0, bd_some, a1, bd_some, q2, bd_some, lt_b, nI_1, s_fd hN hre2, bd_some]
        have := d2 n (s + 1) (by omega)
        rw [show s + 1 + m = s + (m + 1) by omega] at this
        exact this
/-! picking -/
noncomputable def pkR (N : Nat) (vals : Nat → Int32) (now by' what : Int32) (r : List Int32) : Int32 := (F_X0_isPicked N 1 vals now [r] 0 by' what).getD 0
theorem pick_row {N dm : Nat} {vals : Nat → Int32} {now : Int32} {rows : Rows} {i : Nat} (hi : i < 65536) (by' what : Int32) : F_X0_isPicked N dm vals now rows (nI i) by' what = F_X0_isPicked N 1 vals now [rw' rows i] 0 by' what := by
  have e : ∀ (x : Int32) (c : Nat), x = nI c → c < 9 → tget rows (nI i) x = tget [rw' rows i] 0 x := fun x c hx hc => by
    rw [tg i x c hx (by omega) (by omega)]
    have : tget [rw' rows i] 0 x = cl (rw' [rw' rows i] 0) c := tg (rows := [rw' rows i]) 0 x c hx (by decide) (by omega)
    rw [this]
    rfl
  unfold F_X0_isPicked F_X0_isStale F_X0_isDirty
  rw [e 7 7 rfl (by decide), e 2 2 rfl (by decide), e 6 6 rfl (by decide), e 8 8 rfl (by decide)]
theorem n_pick {N dm : Nat} {vals : Nat → Int32} {now : Int32} {rows : Rows} {i : Nat} (hi : i < 65536) {by' what : Int32} (hp : ∃ r, F_X0_isPicked N 1 vals now [rw' rows i] 0 by' what = some r) : F_X0_isPicked N dm vals now rows (nI i) by' what = some (pkR N vals now by' what (rw' rows i)) := by
  rw [pick_row hi]
  obtain ⟨r, hr⟩ := hp
  unfold pkR
  rw [hr]
  rfl
noncomputable def pn (N : Nat) (vals : Nat → Int32) (now by' what : Int32) (rows : Rows) : Nat := rows.countP (fun r => decide (¬ pkR N vals now by' what r = 0))
theorem n_hmL {N dm : Nat} {vals : Nat → Int32} {now : Int32} {rows : Rows} (hl : rows.length < 65536) {by' what : Int32} (hp : ∀ r ∈ rows, ∃ o, F_X0_isPicked N 1 vals now [r] 0 by' what = some o) : ∀ (n i s : Nat), i ≤ rows.length → rows.length < n + i → L_X0_howMany_5 N dm (fun x3 => some x3) by' what vals now rows n (nI s) (nI i) = some (nI (s + pn N vals now by' what (rows.drop i))) := by
  intro n
  induction n with
  | zero => intro i s h1 h2; omega
  | succ n ih =>
    intro i s h1 h2
    rw [e_X0_howMany_5]
    unfold K_X0_howMany_5
    rw [lt_b]
    by_cases q : i = rows.length
    · rw [if_pos (show tsize rows ≤ nI i by rw [q]; exact nI_le (Nat.le_refl _) (by omega)), q, List.drop_length]
      rfl
    · have hi : i < rows.length := by omega
      rw [if_neg (show ¬ tsize rows ≤ nI i from nI_ge hi (by omega)), n_pick (by omega) (hp _ (mem_at hi)), bd_some, drop_get hi]
      have e : pn N vals now by' what (List.getD rows i [] :: rows.drop (i + 1)) = pn N vals now by' what (rows.drop (i + 1)) + if pkR N vals now by' what (rw' rows i) = 0 then 0 else 1 := by
        unfold pn
        rw [List.countP_cons]
        simp only [decide_eq_true_eq]
        by_cases z : pkR N vals now by' what (rw' rows i) = 0
        · rw [if_pos z, if_neg (fun y => y z)]
        · rw [if_neg z, if_pos z]
      rw [e]
      unfold J_X0_howMany_31
      rw [lt_b, lt_b, lt_b, nI_1, nI_1]
      by_cases z : pkR N vals now by' what (rw' rows i) = 0
      · rw [if_pos z, if_pos z, ih (i + 1) s (by omega) (by omega)]
        rfl
      · rw [if_neg z, if_neg z, ih (i + 1) (s + 1) (by omega) (by omega)]
        congr 2
        omega
theorem n_hm {N dm : Nat} (hN : 65536 ≤ N) {vals : Nat → Int32} {now : Int32} {rows : Rows} (hl : rows.length < 65536) {by' what : Int32} (hp : ∀ r ∈ rows, ∃ o, F_X0_isPicked N 1 vals now [r] 0 by' what = some o) : F_X0_howMany N dm vals now rows by' what = some (nI (pn N vals now by' what rows)) := by
  unfold F_X0_howMany
  have := n_hmL (N := N) (dm := dm) hl hp N 0 0 (Nat.zero_le _) (by omega)
  rw [nI_0, List.drop_zero, Nat.zero_add] at this
  exact this
theorem pick_dirty {N : Nat} {vals : Nat → Int32} {now what : Int32} (r : List Int32) : F_X0_isPicked N 1 vals now [r] 0 4 what = some (if cl r 8 = 0 then 0 else 1) := by
  unfold F_X0_isPicked
  have : F_X0_isDirty 1 [r] 0 = some (if cl r 8 = 0 then 0 else 1) := n_dirty (rows := [r]) (i := 0) (by decide)
  rw [if_neg (by decide), if_neg (by decide), if_neg (by decide), if_neg (by decide), this, bd_some]
  split
  · rw [ck_t (Or.inl rfl)]
  · rw [ck_t (Or.inr rfl)]
theorem pn_dirty {N : Nat} {vals : Nat → Int32} {now what : Int32} (rows : Rows) : pn N vals now 4 what rows = dn rows := by
  unfold pn dn
  refine List.countP_congr (fun r _ => ?_)
  simp only [decide_eq_true_eq]
  unfold pkR
  rw [pick_dirty]
  show ¬ (if cl r 8 = 0 then (0 : Int32) else 1) = 0 ↔ _
  by_cases z : cl r 8 = 0
  · rw [if_pos z]; exact ⟨fun y => absurd rfl y, fun y => absurd z y⟩
  · rw [if_neg z]; exact ⟨fun _ => z, fun _ => one_ne⟩
theorem m_flush {N : Nat} (hN : 65536 ≤ N) {c : Nat} {tp : List Nat} {T : Nat → Rows} {V : Nat → Nat → Int32} {g : Nat → Int32} (hs : SQ c tp T V g) :
    ∃ (r : Int32) (T' : Nat → Rows) (V' : Nat → Nat → Int32) (g' : Nat → Int32), F_X11_flush N (V 0) (V 4 0) (T 0) (T 2) (V 1) (T 4) = some (r, T' 0, T' 2, V' 1, T' 4) ∧ F_X12_flush N g = some (r, g') ∧ SQ (c + 1) tp T' V' g' ∧ (∀ j, j ≠ 0 → j ≠ 2 → j ≠ 4 → T' j = T j) ∧ ∀ j, j ≠ 1 → V' j = V j := by
  obtain ⟨p, q, h, hI, hB, hq⟩ := hs
  have h200 := h.e.2
  have hdl : dn (T 4) ≤ (T 4).length := List.countP_le_length
  obtain ⟨T', V', g', d1, d2, d3, d4, d5, d6⟩ := s_flushL hN (p := p) (fun book written sums ents => some (nI (dn (T 4)), book, written, sums, ents)) (nI (dn (T 4))) (dn (T 4)) T V g h hI rfl
  refine ⟨nI (dn (T 4)), T', V', g', ?_, ?_, ⟨p, q, d3, d4, hB.le (by rw [d5 6 (by decide) (by decide) (by decide)]; exact Nat.le_refl _) (by rw [d5 7 (by decide) (by decide) (by decide)]; exact Nat.le_refl _), by omega⟩, d5, d6⟩
  · unfold F_X11_flush F_X6_writeOutDirty
    rw [n_hm hN (by omega) (fun r _ => ⟨_, pick_dirty r⟩), bd_some, pn_dirty]
    have := d1 N (by omega)
    rw [this, bd_some]
  · unfold F_X12_flush
    rw [s_fd hN h.e, bd_some]
    have := d2 N 0 (by omega)
    rw [nI_0, Nat.zero_add] at this
    exact this
