/-! ===== count: both sides ===== -/
def inN (line : Rows) : Nat := line.countP (fun r => decide (cl r 1 = 0))
theorem s_inL {g : Nat → Int32} {line waits lr : Rows} (hG : GT g 15 2003 20 lr) (hl : lr.length = line.length) (h256 : line.length ≤ 256) (hLR : ∀ i, i < line.length → LR waits (rw' line i) (rw' lr i)) (h01 : ∀ r ∈ line, cl r 1 = 0 ∨ cl r 1 = 1) (N : Nat) : ∀ (n i a : Nat), i ≤ line.length → line.length < n + i → L_X12_loads_4 N (fun x2 => some x2) 1 g n (nI a) (nI i) = some (nI (a + inN (line.drop i))) := by
  have hm : g 15 = nI line.length := by rw [hG.1, hl]
  intro n
  induction n with
  | zero => intro i a h1 h2; omega
  | succ n ih =>
    intro i a h1 h2
    rw [e_X12_loads_4]
    unfold K_X12_loads_4
    rw [gl 15 15 rfl (by decide), hm]
    by_cases q : i = line.length
    · rw [if_pos (by rw [q]; exact nI_le (Nat.le_refl _) (by omega)), q, List.drop_length]
      rfl
    · have hi : i < line.length := by omega
      have e1 : F_X12_loadAt g (nI i) 1 = some (if cl (rw' line i) 1 = 1 then 2 else 1) := by
        rw [s_loadAt hG (by omega) (by omega) 1 1 rfl (by decide)]
        exact congrArg some (hLR i hi).2.1
      have ec : inN (List.getD line i [] :: line.drop (i + 1)) = inN (line.drop (i + 1)) + if cl (rw' line i) 1 = 0 then 1 else 0 := by
        unfold inN
        rw [List.countP_cons]
        simp only [decide_eq_true_eq]
      rw [if_neg (nI_ge hi (by omega)), e1, bd_some, drop_get hi, ec]
      unfold J_X12_loads_31
      rw [lt_b, lt_b, lt_b, lt_b, nI_1, nI_1]
      rcases h01 _ (mem_at hi) with z | z
      · rw [if_neg (show ¬ cl (rw' line i) 1 = 1 by rw [z]; decide), if_pos rfl, if_pos z, ih (i + 1) (a + 1) (by omega) (by omega)]
        congr 2
        omega
      · rw [if_pos z, if_neg (show ¬ (2 : Int32) = 1 by decide), if_neg (show ¬ cl (rw' line i) 1 = 0 by rw [z]; decide), Int32.add_zero, ih (i + 1) a (by omega) (by omega)]
        rfl
theorem iL_01 {line : Rows} (h : iL line) : ∀ r ∈ line, cl r 1 = 0 ∨ cl r 1 = 1 := by
  intro r hr
  obtain ⟨i, hi, rfl⟩ := List.getElem_of_mem hr
  have := h.2.1 i hi
  rw [show rw' line i = line[i] from q_getD_lt hi] at this
  rw [this]
  split
  · exact Or.inr rfl
  · exact Or.inl rfl
theorem s_inLine {N : Nat} (hN : 65536 ≤ N) {g : Nat → Int32} {line waits : Rows} (h : RL g line waits) (hI : iL line) : F_X12_loads N g 1 = some (nI (inN line)) := by
  obtain ⟨lr, hG, hl, h256, hLR⟩ := h
  unfold F_X12_loads
  have := s_inL hG hl h256 hLR (iL_01 hI) N N 0 0 (Nat.zero_le _) (by omega)
  rw [nI_0, List.drop_zero, Nat.zero_add] at this
  exact this
/-! stale ones, dirty ones -/
def stN (vals : Nat → Int32) (now : Int32) (rows : Rows) : Nat := rows.countP (fun r => decide (¬ stI vals now (cl r 6) = 0))
theorem pick_stale {N : Nat} {vals : Nat → Int32} {now what : Int32} (r : List Int32) : F_X0_isPicked N 1 vals now [r] 0 3 what = some (stI vals now (cl r 6)) := by
  unfold F_X0_isPicked
  have s1 : F_X0_isStale 1 vals now [r] 0 = some (stI vals now (cl r 6)) := n_stale (rows := [r]) (i := 0) (by decide)
  rw [if_neg (by decide), if_neg (by decide), if_neg (by decide), if_pos rfl, s1, bd_some, ck_t (stI_01 _ _ _)]
theorem pn_stale {N : Nat} {vals : Nat → Int32} {now what : Int32} (rows : Rows) : pn N vals now 3 what rows = stN vals now rows := by
  unfold pn stN
  refine List.countP_congr (fun r _ => ?_)
  simp only [decide_eq_true_eq]
  unfold pkR
  rw [pick_stale]
  rfl
theorem s_stN {N : Nat} {g vals sc : Nat → Int32} {rows : Rows} (h0 : R0 g vals sc) (h : RE g rows) (taped : Int32) : ∀ (n i a : Nat), i ≤ rows.length → rows.length < n + i → L_X12_count_96 N (fun x2 => some x2) g taped n (nI a) (nI i) = some (nI (a + stN vals (sc 0) (rows.drop i))) := by
  have h200 := h.2
  intro n
  induction n with
  | zero => intro i a h1 h2; omega
  | succ n ih =>
    intro i a h1 h2
    rw [e_X12_count_96]
    unfold K_X12_count_96
    rw [gl 13 13 rfl (by decide), s_many h]
    by_cases q : i = rows.length
    · rw [if_pos (by rw [q]; exact nI_le (Nat.le_refl _) (by omega)), q, List.drop_length]
      rfl
    · have hi : i < rows.length := by omega
      have ec : stN vals (sc 0) (List.getD rows i [] :: rows.drop (i + 1)) = stN vals (sc 0) (rows.drop (i + 1)) + if stI vals (sc 0) (cl (rw' rows i) 6) = 0 then 0 else 1 := by
        unfold stN
        rw [List.countP_cons]
        simp only [decide_eq_true_eq]
        by_cases z : stI vals (sc 0) (cl (rw' rows i) 6) = 0
        · rw [if_pos z, if_neg (fun y => y z)]
        · rw [if_neg z, if_pos z]
      rw [if_neg (nI_ge hi (by omega)), s_stale h0 h hi, bd_some, drop_get hi, ec]
      unfold J_X12_count_121
      rw [lt_b, lt_b, lt_b, lt_b, nI_1, nI_1, Int32.add_zero]
      by_cases z : stI vals (sc 0) (cl (rw' rows i) 6) = 0
      · rw [if_pos z, if_pos z, ih (i + 1) a (by omega) (by omega)]
        rfl
      · rw [if_neg z, if_neg z, ih (i + 1) (a + 1) (by omega) (by omega)]
        congr 2
        omega
theorem s_dnN {N : Nat} {g : Nat → Int32} {rows : Rows} (h : RE g rows) (taped : Int32) : ∀ (n i a : Nat), i ≤ rows.length → rows.length < n + i → L_X12_count_166 N (fun x2 => some x2) g taped n (nI a) (nI i) = some (nI (a + dn (rows.drop i))) := by
  have h200 := h.2
  intro n
  induction n with
  | zero => intro i a h1 h2; omega
  | succ n ih =>
    intro i a h1 h2
    rw [e_X12_count_166]
    unfold K_X12_count_166
    rw [gl 13 13 rfl (by decide), s_many h]
    by_cases q : i = rows.length
    · rw [if_pos (by rw [q]; exact nI_le (Nat.le_refl _) (by omega)), q, List.drop_length]
      rfl
    · have hi : i < rows.length := by omega
      have e8 : cl (mEn (rw' rows i)) 8 = cl (rw' rows i) 8 := rfl
      have ec : dn (List.getD rows i [] :: rows.drop (i + 1)) = dn (rows.drop (i + 1)) + if cl (rw' rows i) 8 = 0 then 0 else 1 := by
        unfold dn
        rw [List.countP_cons]
        simp only [decide_eq_true_eq]
        by_cases z : cl (rw' rows i) 8 = 0
        · rw [if_pos z, if_neg (fun y => y z)]
        · rw [if_neg z, if_pos z]
      rw [if_neg (nI_ge hi (by omega)), s_at h hi 8 8 rfl (by decide), bd_some, e8, drop_get hi, ec]
      unfold J_X12_count_193
      rw [lt_b, lt_b, lt_b, lt_b, nI_1, nI_1, Int32.add_zero]
      by_cases z : cl (rw' rows i) 8 = 0
      · rw [if_pos z, if_pos z, ih (i + 1) a (by omega) (by omega)]
        rfl
      · rw [if_neg z, if_neg z, ih (i + 1) (a + 1) (by omega) (by omega)]
        congr 2
        omega
/-- the askers who wait -/
def wkN (waits : Rows) : Nat → Nat
  | 0 => 0
  | a + 1 => wkN waits a + if wn waits (nI a) = 0 then 0 else 1
theorem n_wkL {N : Nat} {waits : Rows} (hl : waits.length < 65536) : ∀ (n i : Nat), i ≤ 16 → 16 < n + i → L_X3_waitingAskers_4 N (fun x1 => some x1) waits n (nI (wkN waits i)) (nI i) = some (nI (wkN waits 16)) := by
  intro n
  induction n with
  | zero => intro i h1 h2; omega
  | succ n ih =>
    intro i h1 h2
    rw [e_X3_waitingAskers_4]
    unfold K_X3_waitingAskers_4 J_X3_waitingAskers_25
    by_cases q : i = 16
    · subst q
      rw [if_pos (show (16 : Int32) ≤ nI 16 by decide)]
    · have hi : i < 16 := by omega
      have hw : wn waits (nI i) ≤ waits.length := List.countP_le_length
      have eh : thowMany waits 1 (nI i) = nI (wn waits (nI i)) := howMany_eq _ 1 1 rfl (by decide) _
      rw [if_neg (show ¬ (16 : Int32) ≤ nI i from nI_ge (b := 16) hi (by decide)), lt_b, eh, lt_b, lt_b, lt_b, nI_1, nI_1]
      have step := ih (i + 1) (by omega) (by omega)
      have e : wkN waits (i + 1) = wkN waits i + if wn waits (nI i) = 0 then 0 else 1 := rfl
      rw [e] at step
      by_cases z : wn waits (nI i) = 0
      · rw [if_pos (show nI (wn waits (nI i)) ≤ 0 by rw [z]; decide)]
        rw [if_pos z, Nat.add_zero] at step
        exact step
      · rw [if_neg (nI_nle (by omega) (by omega))]
        rw [if_neg z] at step
        exact step
theorem s_wkL {N : Nat} (hN : 65536 ≤ N) {p : P} {T : Nat → Rows} {V : Nat → Nat → Int32} {g : Nat → Int32} (h : RR T V g) (hI : Iv p T V) (hl : (T 7).length < 65536) (taped : Int32) : ∀ (n i : Nat), i ≤ 16 → 16 < n + i → L_X12_count_133 N (fun x2 => some x2) g taped n (nI (wkN (T 7) i)) (nI i) = some (nI (wkN (T 7) 16)) := by
  intro n
  induction n with
  | zero => intro i h1 h2; omega
  | succ n ih =>
    intro i h1 h2
    rw [e_X12_count_133]
    unfold K_X12_count_133 J_X12_count_154
    by_cases q : i = 16
    · subst q
      rw [if_pos (show (16 : Int32) ≤ nI 16 by decide)]
    · have hi : i < 16 := by omega
      have hw : wn (T 7) (nI i) ≤ (T 7).length := List.countP_le_length
      have eb : F_X12_box N g (nI i) 1 = some (nI (wn (T 7) (nI i))) := by
        unfold F_X12_box
        have ea : F_X12_isAsker (nI i) = some 1 := by
          rcases n_asker (nI i) with ⟨a1, -⟩ | ⟨-, a2, -⟩
          · unfold F_X11_isAsker at a1
            rw [if_neg (nI_pos (by omega)), if_neg (show ¬ (16 : Int32) ≤ nI i from nI_ge (b := 16) hi (by decide))] at a1
            exact absurd (Option.some.inj a1) one_ne
          · exact a2
        rw [ea, bd_some, if_neg one_ne]
        rcases in01 1 0 1 with ⟨-, b2⟩ | ⟨b1, -, -⟩
        · exact absurd ⟨by decide, by decide⟩ b2
        · rw [b1, bd_some, if_neg one_ne, if_neg one_ne]
          exact s_box1 hN h hI _
      rw [if_neg (show ¬ (16 : Int32) ≤ nI i from nI_ge (b := 16) hi (by decide)), eb, bd_some, lt_b, lt_b, lt_b, lt_b, nI_1, nI_1, Int32.add_zero]
      have step := ih (i + 1) (by omega) (by omega)
      have e : wkN (T 7) (i + 1) = wkN (T 7) i + if wn (T 7) (nI i) = 0 then 0 else 1 := rfl
      rw [e] at step
      by_cases z : wn (T 7) (nI i) = 0
      · rw [if_pos (show nI (wn (T 7) (nI i)) ≤ 0 by rw [z]; decide)]
        rw [if_pos z, Nat.add_zero] at step
        exact step
      · rw [if_neg (nI_nle (by omega) (by omega))]
        rw [if_neg z] at step
        exact step
theorem m_count {N : Nat} (hN : 65536 ≤ N) {c : Nat} (hc : c < 512) {tp : List Nat} {T : Nat → Rows} {V : Nat → Nat → Int32} {g : Nat → Int32} (hs : SQ c tp T V g) {tby : Nat → Int32} {tsz : Int32} {tape : Nat → Int32} {taped : Int32} (ht : TR tp tby tsz tape taped) (x : Int32) : ∃ r, F_X11_count N tsz (V 0) (V 4 0) (T 4) (T 5) (T 6) (T 7) x = some r ∧ F_X12_count N g taped x = some r := by
  obtain ⟨p, q, h, hI, hB, hq⟩ := hs
  have h200 := h.e.2
  have h7 : (T 7).length < 65536 := by have := hB.2.2.2; omega
  unfold F_X11_count F_X12_count F_X0_size F_X3_inLine F_X10_size F_X5_now F_X3_waitingAskers
  by_cases h0 : x = 0
  · exact ⟨_, by rw [if_pos h0, lt_b, bd_some], by rw [if_pos h0, gl 13 13 rfl (by decide), s_many h.e]; rfl⟩
  rw [if_neg h0, if_neg h0]
  by_cases h1 : x = 1
  · exact ⟨_, by rw [if_pos h1, n_weight hN (by omega), bd_some], by rw [if_pos h1, s_weight hN h.e, bd_some]⟩
  rw [if_neg h1, if_neg h1]
  by_cases h2 : x = 2
  · exact ⟨_, by rw [if_pos h2, n_running, bd_some], by rw [if_pos h2, s_loads hN h.l, bd_some]⟩
  rw [if_neg h2, if_neg h2]
  by_cases h3 : x = 3
  · exact ⟨_, by rw [if_pos h3, lt_b, bd_some, howMany_eq _ 1 1 rfl (by decide)], by rw [if_pos h3, s_inLine hN h.l hI.ld.1, bd_some]; rfl⟩
  rw [if_neg h3, if_neg h3]
  by_cases h4 : x = 4
  · exact ⟨tsz, by rw [if_pos h4, bd_some], by rw [if_pos h4, ht.2.2.1, ht.2.1]⟩
  rw [if_neg h4, if_neg h4]
  by_cases h5 : x = 5
  · exact ⟨V 4 0, by rw [if_pos h5, bd_some], by rw [if_pos h5, gl 8 8 rfl (by decide), h.z.2.1]⟩
  rw [if_neg h5, if_neg h5]
  by_cases h6 : x = 6
  · have := s_stN (N := N) h.z h.e taped N 0 0 (Nat.zero_le _) (by omega)
    rw [nI_0, List.drop_zero, Nat.zero_add] at this
    exact ⟨_, by rw [if_pos h6, n_hm hN (by omega) (fun r _ => ⟨_, pick_stale r⟩), bd_some, pn_stale], by rw [if_pos h6]; exact this⟩
  rw [if_neg h6, if_neg h6]
  by_cases h7' : x = 7
  · have a1 := n_wkL (N := N) h7 N 0 (by omega) (by omega)
    have a2 := s_wkL hN h hI h7 taped N 0 (by omega) (by omega)
    have e0 : nI (wkN (T 7) 0) = 0 := rfl
    rw [e0, nI_0] at a1 a2
    exact ⟨_, by rw [if_pos h7', a1, bd_some], by rw [if_pos h7']; exact a2⟩
  rw [if_neg h7', if_neg h7']
  by_cases h8 : x = 8
  · have := s_dnN (N := N) h.e taped N 0 0 (Nat.zero_le _) (by omega)
    rw [nI_0, List.drop_zero, Nat.zero_add] at this
    exact ⟨_, by rw [if_pos h8, n_hm hN (by omega) (fun r _ => ⟨_, pick_dirty r⟩), bd_some, pn_dirty], by rw [if_pos h8]; exact this⟩
  rw [if_neg h8, if_neg h8]
  by_cases h9 : x = 9
  · exact ⟨_, by rw [if_pos h9, lt_b, bd_some], by rw [if_pos h9, gl 14 14 rfl (by decide), h.c.1.1, List.length_map]; rfl⟩
  rw [if_neg h9, if_neg h9]
  exact ⟨-1001, rfl, rfl⟩
