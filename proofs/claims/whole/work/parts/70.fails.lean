/-! ===== a load fails; leases end: both sides ===== -/
theorem dls_tally (k v : Int32) (j : Nat) : ∀ (l : List Int32) (s a : Nat → Int32) (b : Rows), dls k v l (tallyN s j, a, b) = (tallyN (dls k v l (s, a, b)).1 j, (dls k v l (s, a, b)).2)
  | [], s, a, b => rfl
  | x :: xs, s, a, b => by
    have e : dl1 k v (tallyN s j, a, b) x = (tallyN (dl1 k v (s, a, b) x).1 j, (dl1 k v (s, a, b) x).2) := by
      unfold dl1 dS
      dsimp only
      by_cases q : (bx b x.toNatClampNeg).length < 12
      · rw [if_pos q, if_pos q, tally_comm]
      · rw [if_neg q, if_neg q, tally_comm s j 9, tally_comm _ j 8]
    show dls k v xs (dl1 k v (tallyN s j, a, b) x) = _
    rw [e, dls_tally k v j xs _ _ _]
    rfl
/-- what stays of the rest as loads end -/
def fL (T T' : Nat → Rows) (V V' : Nat → Nat → Int32) : Prop := (∀ j, j ≠ 0 → j ≠ 1 → j ≠ 6 → j ≠ 7 → j ≠ 8 → T' j = T j) ∧ (∀ j, j ≠ 1 → j ≠ 2 → V' j = V j) ∧ (T' 6).length ≤ (T 6).length ∧ (T' 7).length ≤ (T 7).length
theorem fL.trans {T T1 T2 : Nat → Rows} {V V1 V2 : Nat → Nat → Int32} (h : fL T T1 V V1) (h' : fL T1 T2 V1 V2) : fL T T2 V V2 := ⟨fun j a b c d e => (h'.1 j a b c d e).trans (h.1 j a b c d e), fun j a b => (h'.2.1 j a b).trans (h.2.1 j a b), Nat.le_trans h'.2.2.1 h.2.2.1, Nat.le_trans h'.2.2.2 h.2.2.2⟩
theorem iG_run {T T' : Nat → Rows} {V V' : Nat → Nat → Int32} (hr : runP T T' V V') {t : Nat} (hG : iG (T 6) t) (hn : V 4 0 = nI t) : iG (T' 6) t := by
  obtain ⟨f, h1, h2⟩ := hG
  obtain ⟨-, -, -, -, -, -, r7, r8, r9⟩ := hr
  refine ⟨fun i => if i < rnN (T 6) then f i else t, fun i hi => ?_, fun i j hij hj => ?_⟩
  · dsimp only
    by_cases q : i < rnN (T 6)
    · rw [if_pos q, r8 i q]; exact h1 i q
    · rw [if_neg q, r9 i (by omega) hi]; exact ⟨Nat.le_refl _, hn⟩
  · dsimp only
    by_cases q : j < rnN (T 6)
    · rw [if_pos q, if_pos (by omega)]; exact h2 i j hij q
    · rw [if_neg q]
      by_cases q2 : i < rnN (T 6)
      · rw [if_pos q2]; exact (h1 i q2).1
      · rw [if_neg q2]; exact Nat.le_refl _
theorem iU_rm {waits : Rows} (h : iU waits) (k : Int32) : iU (rmW waits k) := h.sublist List.filter_sublist
theorem fk_at {line : Rows} (h : iL line) {l : Nat} (hl : l < line.length) : fk 0 line (cl (rw' line l) 0) = some l := by
  obtain ⟨i, hi⟩ := fk_of (c := 0) (rows := line) (v := cl (rw' line l) 0) (r := rw' line l) (by rw [show rw' line l = line[l] from q_getD_lt hl]; exact List.getElem_mem hl) rfl
  have h1 := fk_lt hi
  by_cases q : i = l
  · rw [hi, q]
  · exact absurd h1.2 (row_key h hl h1.1 q)
/-- behind a load that ended, and what may run runs -/
theorem e_inv {T : Nat → Rows} {V : Nat → Nat → Int32} {t : Nat} (hI : iLd T t) {l : Nat} (hl : l < (T 6).length) {k : Int32} (hk : cl (rw' (T 6) l) 0 = k) (v : Int32) (h12 : b12 (T 8)) (s : Nat → Int32) (a : Nat → Int32) : iLd (eT T (dls k v (wl (T 7) k) (s, a, T 8)) k l) t := by
  obtain ⟨h1, h2, h3, h4, h5, h6⟩ := hI
  refine ⟨(iL_erase h1 hl).1, ?_, iU_rm h3 k, iG_erase h1 h4 hl, ?_, h6⟩
  · show iW ((T 6).eraseIdx l) (rmW (T 7) k)
    rw [← hk]
    exact iW_erase h2 hl
  · exact (dls_ok (by rw [← hk]; exact (h1.at hl).2) v _ _ (wl_as16 h2 k) h5 h12).1
theorem b12_of {g : Nat → Int32} {boxes : Rows} (h : RB g boxes) : b12 boxes := fun a ha => (h a ha).2
theorem n_noteI {N : Nat} (hN : 65536 ≤ N) {k : Int32} (h : Vk0 k) (now : Int32) (book : Rows) (s : Nat → Int32) (x : Int32) (kind : Nat) (hx : x = nI kind) (hk : kind < 14) : F_X2_note N now book s x k = some (pushK book x now k, tlk s kind) := by
  subst hx; exact n_note hN h now book s kind hk
theorem s_fail {N : Nat} (hN : 65536 ≤ N) {T : Nat → Rows} {V : Nat → Nat → Int32} {g : Nat → Int32} (h : RR T V g) {t : Nat} (hI : iLd T t) (hn : V 4 0 = nI t) {lo : Nat} (hlo : V 0 4 = nI lo) (hlo8 : lo ≤ 8) (hw : (T 7).length < 65536) {l : Nat} (hl : l < (T 6).length) {k : Int32} (hk : cl (rw' (T 6) l) 0 = k) (c : Int32) :
    ∃ (T' : Nat → Rows) (V' : Nat → Nat → Int32) (g' : Nat → Int32), F_X3_fail N (V 0) (V 4 0) (T 0) (T 1) (V 1) (V 2) (T 6) (T 7) (T 8) k c = some (nI (wl (T 7) k).length, T' 0, T' 1, V' 1, V' 2, T' 6, T' 7, T' 8) ∧ F_X12_fails N g (nI l) c = some (nI (wl (T 7) k).length, g') ∧ RR T' V' g' ∧ iLd T' t ∧ fL T T' V V' ∧ ((T 6).length = (T' 6).length + 1) ∧ (l < rnN (T 6) → rnN (T 6) - 1 ≤ rnN (T' 6)) ∧ (∀ i, i < rnN ((T 6).eraseIdx l) → rw' (T' 6) i = rw' ((T 6).eraseIdx l) i) ∧ ∀ i, rnN ((T 6).eraseIdx l) ≤ i → i < rnN (T' 6) → cl (rw' (T' 6) i) 2 = nI t := by
  have h256 : (T 6).length ≤ 256 := by obtain ⟨lr, hG, hle, h6, -⟩ := h.2.2.2.2.2.2.1; exact h6
  have hI' := id hI
  obtain ⟨h1, h2, h3, h4, h5, h6⟩ := hI'
  have hkV : Vk k := by rw [← hk]; exact (h1.at hl).2
  have hb := b12_of h.2.2.2.2.2.2.2.1
  obtain ⟨g1, c1, c2⟩ := s_delivers hN h h1 h2 hl hk (-c)
  have inv1 := e_inv (V := V) hI hl hk (-c) hb (V 1) (V 2)
  generalize hst : dls k (-c) (wl (T 7) k) (V 1, V 2, T 8) = st at c2 inv1
  have d1 := s_led c2 (j := 5) (by decide)
  rw [show dV V st 1 = st.1 from rfl, dV_1] at d1
  obtain ⟨g2, e1, e2⟩ := s_happens hN d1 (k := k) (Or.inr hkV) 6
  have inv2 : iLd (va_up (eT T st k l) 0 (pushK (eT T st k l 0) 6 (dV V (tallyN st.1 5, st.2.1, st.2.2) 4 0) k)) t := inv1
  obtain ⟨T', V', g', r1, r2, r3, r4⟩ := s_runs hN e2 inv2.1 inv2.2.2.2.2.2 (lo := lo) hlo hlo8
  have hkc : F_X12_loadAt g (nI l) 0 = some (kc k) := by
    have := (LR16 h.2.2.2.2.2.2.1 hl).2.1
    rw [hk] at this
    exact this
  have hG := iG_run r4 inv2.2.2.2.1 hn
  have hlen : (T' 6).length = (T 6).length - 1 := by
    rw [r4.2.2.1]
    show ((T 6).eraseIdx l).length = _
    rw [List.length_eraseIdx_of_lt hl]
  have hT7 : T' 7 = rmW (T 7) k := r4.2.2.2.2.1 7 (by decide) (by decide) (by decide)
  have hT8 : T' 8 = st.2.2 := r4.2.2.2.2.1 8 (by decide) (by decide) (by decide)
  have hV2 : V' 2 = st.2.1 := r4.2.2.2.2.2.1 2 (by decide)
  have hkeys := r4.2.2.2.1
  refine ⟨T', V', g', ?_, ?_, r3, ⟨r4.1, ?_, ?_, hG, ?_, r4.2.1⟩, ⟨?_, ?_, by omega, ?_⟩, by omega, ?_, ?_, ?_⟩
  · unfold F_X3_fail
    rw [n_noteI hN (Or.inr hkV) (V 4 0) (T 0) (V 1) 6 6 rfl (by decide), bd_some]
    rw [n_end hN hkV (-c) hw (wl_as16 h2 k) h5 hb _ (V 2) (by rw [← hk]; exact fk_at h1 hl) (by omega), bd_some]
    rw [show tlk (V 1) 6 = tallyN (V 1) 5 from rfl, dls_tally, hst]
    dsimp only
    have r1' : F_X3_runWhatMay N (V 0) (V 4 0) (pushK (T 0) 6 (V 4 0) k) (T 1) (tallyN st.1 5) ((T 6).eraseIdx l) = some (T' 0, T' 1, V' 1, T' 6) := r1
    rw [r1', bd_some, hT7, hT8, hV2]
  · unfold F_X12_fails
    rw [hkc, bd_some, c1, bd_some]
    dsimp only
    rw [gl 25 25 rfl (by decide), gs 25 25 rfl (by decide), e1, bd_some, r2, bd_some]
  · rw [hT7]
    exact iW_keys inv2.2.1 r4.2.2.1 hkeys
  · rw [hT7]; exact iU_rm h3 k
  · rw [hT8]; exact inv2.2.2.2.2.1
  · intro j a0 a1 a6 a7 a8
    rw [r4.2.2.2.2.1 j a0 a1 a6]
    show va_up (va_up (va_up (va_up T 8 st.2.2) 6 _) 7 _) 0 _ j = T j
    rw [vu_ne a0, vu_ne a7, vu_ne a6, vu_ne a8]
  · intro j a1 a2
    rw [r4.2.2.2.2.2.1 j a1]
    show va_up (va_up V 1 _) 2 _ j = V j
    rw [vu_ne a2, vu_ne a1]
  · rw [hT7]; exact List.length_filter_le _ _
  · intro hlr
    have e := (iL_erase h1 hl).2
    rw [if_pos hlr] at e
    have : rnN ((T 6).eraseIdx l) ≤ rnN (T' 6) := r4.2.2.2.2.2.2.1
    omega
  · exact r4.2.2.2.2.2.2.2.1
  · intro i hi1 hi2
    rw [← hn]
    exact r4.2.2.2.2.2.2.2.2 i hi1 hi2
