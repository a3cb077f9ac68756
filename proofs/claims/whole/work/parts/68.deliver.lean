/-! ===== all who wait for a load are delivered: both sides ===== -/
def b12 (boxes : Rows) : Prop := ∀ a, a < 16 → (bx boxes a).length ≤ 12
theorem dB_b12 {boxes : Rows} (h : b12 boxes) {a : Nat} (ha : a < 16) (k v : Int32) : b12 (dB boxes a k v) := by
  intro b hb
  rw [bx_dB ha (h a ha) k v hb]
  by_cases q : b = a
  · rw [if_pos q, List.length_append, List.length_singleton]
    have := keepR_len (most := 12) (h a ha) (by decide)
    omega
  · rw [if_neg q]; exact h b hb
abbrev DSt : Type := (Nat → Int32) × (Nat → Int32) × Rows
def dl1 (k v : Int32) (st : DSt) (x : Int32) : DSt := (dS st.2.2 x.toNatClampNeg st.1, dO x.toNatClampNeg st.2.1, dB st.2.2 x.toNatClampNeg k v)
def dls (k v : Int32) (l : List Int32) (st : DSt) : DSt := l.foldl (dl1 k v) st
def as16 (l : List Int32) : Prop := ∀ x ∈ l, ∃ a, a < 16 ∧ x = nI a
theorem as16.at {l : List Int32} (h : as16 l) {j : Nat} (hj : j < l.length) : ∃ a, a < 16 ∧ l.getD j 0 = nI a := by
  rw [q_getD_lt hj]
  exact h _ (List.getElem_mem hj)
theorem dls_ok {k : Int32} (hk : Vk k) (v : Int32) : ∀ (l : List Int32) (st : DSt), as16 l → iB st.2.2 → b12 st.2.2 → iB (dls k v l st).2.2 ∧ b12 (dls k v l st).2.2
  | [], st, _, h1, h2 => ⟨h1, h2⟩
  | x :: xs, st, hl, h1, h2 => by
    obtain ⟨a, ha, rfl⟩ := hl x List.mem_cons_self
    show iB (dls k v xs (dl1 k v st (nI a))).2.2 ∧ b12 (dls k v xs (dl1 k v st (nI a))).2.2
    refine dls_ok hk v xs _ (fun y hy => hl y (List.mem_cons_of_mem _ hy)) ?_ ?_
    · unfold dl1
      rw [nI_clamp (by omega)]
      exact dB_iB h1 ha hk v
    · unfold dl1
      rw [nI_clamp (by omega)]
      exact dB_b12 h2 ha k v
theorem wl_cons (r : List Int32) (rs : Rows) (k : Int32) : wl (r :: rs) k = if cl r 0 = k then cl r 1 :: wl rs k else wl rs k := by
  unfold wl
  rw [List.filter_cons]
  by_cases q : cl r 0 = k
  · have q' : r.getD 0 0 = k := q
    rw [if_pos q, decide_eq_true q', if_pos rfl, List.map_cons]
  · have q' : ¬ r.getD 0 0 = k := q
    rw [if_neg q, decide_eq_false q', if_neg (by decide)]
theorem wl_as16 {line waits : Rows} (h : iW line waits) (k : Int32) : as16 (wl waits k) := by
  intro x hx
  obtain ⟨r, hr, rfl⟩ := List.mem_map.mp hx
  exact (h r (List.mem_filter.mp hr).1).2
theorem n_endL {N : Nat} {k : Int32} (hk : Vk k) (v : Int32) (line waits : Rows) (hl : waits.length < 65536) (hA : as16 (wl waits k)) (kk : Int32 → (Nat → Int32) → (Nat → Int32) → Rows → (Option (Int32 × (Nat → Int32) × (Nat → Int32) × Rows × Rows × Rows))) : ∀ (n i a : Nat) (st : DSt), i ≤ waits.length → waits.length < n + i → as16 (wl (waits.drop i) k) → iB st.2.2 → b12 st.2.2 →
    L_X3_end_5 N kk k v line waits n (nI a) (nI i) st.1 st.2.1 st.2.2 = kk (nI (a + (wl (waits.drop i) k).length)) (dls k v (wl (waits.drop i) k) st).1 (dls k v (wl (waits.drop i) k) st).2.1 (dls k v (wl (waits.drop i) k) st).2.2 := by
  intro n
  induction n with
  | zero => intro i a st h1 h2; omega
  | succ n ih =>
    intro i a st h1 h2 hA hB h12
    rw [e_X3_end_5]
    unfold K_X3_end_5 J_X3_end_50
    rw [lt_b, lt_b]
    by_cases q : i = waits.length
    · rw [if_pos (show tsize waits ≤ nI i by rw [q]; exact nI_le (Nat.le_refl _) (by omega)), q, List.drop_length]
      rfl
    · have hi : i < waits.length := by omega
      rw [if_neg (show ¬ tsize waits ≤ nI i from nI_ge hi (by omega)), lt_b, tg i 0 0 rfl (by omega) (by decide), lt_b, tg i 1 1 rfl (by omega) (by decide)]
      rw [drop_get hi, wl_cons] at hA ⊢
      by_cases q2 : cl (rw' waits i) 0 = k
      · have q2' : cl (waits.getD i []) 0 = k := q2
        rw [if_pos q2'] at hA ⊢
        rw [if_pos q2]
        obtain ⟨b, hb, e⟩ := hA _ List.mem_cons_self
        have e' : cl (rw' waits i) 1 = nI b := e
        rw [e', n_deliver hB h12 hb, bd_some, lt_b, lt_b]
        rw [nI_1, nI_1]
        have := ih (i + 1) (a + 1) (dl1 k v st (nI b)) (by omega) (by omega) (fun y hy => hA y (List.mem_cons_of_mem _ hy)) (by unfold dl1; rw [nI_clamp (by omega)]; exact dB_iB hB hb hk v) (by unfold dl1; rw [nI_clamp (by omega)]; exact dB_b12 h12 hb k v)
        have d1 : dl1 k v st (nI b) = (dS st.2.2 b st.1, dO b st.2.1, dB st.2.2 b k v) := by unfold dl1; rw [nI_clamp (by omega)]
        rw [d1] at this
        rw [this, List.length_cons, show a + 1 + (wl (waits.drop (i + 1)) k).length = a + ((wl (waits.drop (i + 1)) k).length + 1) by omega]
        show _ = kk _ (dls k v _ (dl1 k v st (nI b))).1 (dls k v _ (dl1 k v st (nI b))).2.1 (dls k v _ (dl1 k v st (nI b))).2.2
        rw [d1]
      · have q2' : ¬ cl (waits.getD i []) 0 = k := q2
        rw [if_neg q2'] at hA ⊢
        rw [if_neg q2, nI_1]
        exact ih (i + 1) a st (by omega) (by omega) hA hB h12
theorem n_end {N : Nat} (hN : 65536 ≤ N) {k : Int32} (hk : Vk k) (v : Int32) {line waits boxes : Rows} (hl : waits.length < 65536) (hA : as16 (wl waits k)) (hB : iB boxes) (h12 : b12 boxes) (s a : Nat → Int32) {i : Nat} (hi : fk 0 line k = some i) (hil : i < 65536) :
    F_X3_end N s a line waits boxes k v = some (nI (wl waits k).length, (dls k v (wl waits k) (s, a, boxes)).1, (dls k v (wl waits k) (s, a, boxes)).2.1, line.eraseIdx i, waits.filter (fun r => !(decide (cl r 0 = k))), (dls k v (wl waits k) (s, a, boxes)).2.2) := by
  unfold F_X3_end
  have := n_endL (N := N) hk v line waits hl hA (fun x3 sums asum boxes => lt (tremoveAll waits 0 k) (fun o_9 =>
    bd (F_X3_rowOf line k) (fun o_12 =>
    lt (tremove line o_12) (fun o_13 =>
    some (x3, sums, asum, o_13, o_9, boxes))))) N 0 0 (s, a, boxes) (by omega) (by omega) hA hB h12
  rw [List.drop_zero, nI_0, Nat.zero_add] at this
  refine this.trans ?_
  rw [lt_b, n_loadRow, bd_some, hi, lt_b]
  show some (_, _, _, tremove line (nI i), _, _) = _
  rw [tremove_nI (by omega)]
  rfl
theorem vu_at {α : Type} (f : Nat → α) (k : Nat) (x : α) : va_up f k x k = x := by unfold va_up; rw [if_pos rfl]
theorem vu_ne {α : Type} {f : Nat → α} {k j : Nat} {x : α} (h : j ≠ k) : va_up f k x j = f j := by unfold va_up; rw [if_neg h]
theorem vu_idem {α : Type} (f : Nat → α) (k : Nat) (x y : α) : va_up (va_up f k x) k y = va_up f k y := by
  funext j
  by_cases q : j = k
  · subst q; rw [vu_at, vu_at]
  · rw [vu_ne q, vu_ne q, vu_ne q]
theorem vu_comm {α : Type} (f : Nat → α) {k l : Nat} (h : k ≠ l) (x y : α) : va_up (va_up f k x) l y = va_up (va_up f l y) k x := by
  funext j
  by_cases q : j = k
  · subst q; rw [vu_ne h, vu_at, vu_at]
  · by_cases q2 : j = l
    · subst q2; rw [vu_at, vu_ne q, vu_at]
    · rw [vu_ne q2, vu_ne q, vu_ne q, vu_ne q2]
abbrev dT (T : Nat → Rows) (st : DSt) : Nat → Rows := va_up T 8 st.2.2
abbrev dV (V : Nat → Nat → Int32) (st : DSt) : Nat → Nat → Int32 := va_up (va_up V 1 st.1) 2 st.2.1
theorem dV_1 (V : Nat → Nat → Int32) (st : DSt) (s : Nat → Int32) : va_up (dV V st) 1 s = dV V (s, st.2.1, st.2.2) := by
  unfold dV
  rw [vu_comm _ (by decide : (2 : Nat) ≠ 1), vu_idem]
theorem dV_2 (V : Nat → Nat → Int32) (st : DSt) (s : Nat → Int32) : va_up (dV V st) 2 s = dV V (st.1, s, st.2.2) := by
  unfold dV
  rw [vu_idem]
theorem dT_8 (T : Nat → Rows) (st : DSt) (s : Rows) : va_up (dT T st) 8 s = dT T (st.1, st.2.1, s) := by
  unfold dT
  rw [vu_idem]
theorem dl1_eq {a : Nat} (ha : a < 16) (k v : Int32) (st : DSt) : dl1 k v st (nI a) = (dS st.2.2 a st.1, dO a st.2.1, dB st.2.2 a k v) := by unfold dl1; rw [nI_clamp (by omega)]
/-- the reference: one who waits is delivered -/
theorem s_del1 {N : Nat} (hN : 65536 ≤ N) {T : Nat → Rows} {V : Nat → Nat → Int32} {l : Nat} (hl : l < (T 6).length) {k v : Int32} (hk : cl (rw' (T 6) l) 0 = k) {j a : Nat} (ha : a < 16) (hj : j < (wl (T 7) k).length) (hja : (wl (T 7) k).getD j 0 = nI a) (rec : Int32 → (Nat → Int32) → Option (Int32 × (Nat → Int32))) (kk : (Nat → Int32) → (Option (Int32 × (Nat → Int32)))) {st : DSt} {g : Nat → Int32} (h : RR (dT T st) (dV V st) g) :
    ∃ g', K_X12_delivers_10 N rec kk (nI l) v (nI (wl (T 7) k).length) (nI j) g = rec (nI (j + 1)) g' ∧ RR (dT T (dl1 k v st (nI a))) (dV V (dl1 k v st (nI a))) g' := by
  have hRL : ∀ {g : Nat → Int32}, RL g (T 6) (T 7) → F_X12_loadAt g (nI l) 0 = some (kc k) ∧ F_X12_loadAt g (nI l) (4 + nI j) = some (nI a) := by
    rintro g ⟨lr, hG, hlen, h256, hLR⟩
    have q := hLR l hl
    have e0 : (rw' (T 6) l).getD 0 0 = k := hk
    have h16 := q.2.2.2.2.1
    rw [show (List.getD (T 6) l []).getD 0 0 = k from hk] at h16
    refine ⟨?_, ?_⟩
    · rw [s_loadAt hG (by omega) (by omega) 0 0 rfl (by decide)]
      have := q.1
      rw [show (List.getD (T 6) l []).getD 0 0 = k from hk] at this
      exact congrArg some this
    · have e : (4 : Int32) + nI j = nI (4 + j) := nI_add 4 j
      rw [e, s_loadAt hG (by omega) (by omega) (nI (4 + j)) (4 + j) rfl (by omega)]
      have := q.2.2.2.2.2.1 j (by rw [show (List.getD (T 6) l []).getD 0 0 = k from hk]; exact hj)
      rw [show (List.getD (T 6) l []).getD 0 0 = k from hk, hja] at this
      exact congrArg some this
  have hj16 : (wl (T 7) k).length < 65536 ∧ (wl (T 7) k).length ≤ 16 := by
    obtain ⟨lr, hG, hlen, h256, hLR⟩ := h.2.2.2.2.2.2.1
    have q := (hLR l hl).2.2.2.2.1
    have : (wl (T 7) k).length ≤ 16 := by
      have e0 : (List.getD (dT T st 6) l []).getD 0 0 = k := hk
      rw [e0] at q
      exact q
    omega
  have hg29 := h.2.2.2.2.2.2.2.2.2.1 9 (by decide)
  have hbox := (h.2.2.2.2.2.2.2.1 a ha).1.1
  rw [List.length_map] at hbox
  have hb12 := (h.2.2.2.2.2.2.2.1 a ha).2
  have hrl0 : RL g (T 6) (T 7) := h.2.2.2.2.2.2.1
  -- behind the first sum
  have tail : ∀ (s1 : Nat → Int32) (g5 : Nat → Int32), RR (dT T st) (dV V (s1, st.2.1, st.2.2)) g5 → ∃ g', (bd (F_X12_slot N g5 (8003 + nI a) (8019 + (24 * nI a)) 2 12) (fun o_6 =>
      bd (F_X12_loadAt o_6.2 (nI l) 0) (fun o_7 =>
      sto o_6.2 8787 o_6.1 o_7 (fun g_8 =>
      sto g_8 8787 (o_6.1 + 1) v (fun g_9 =>
      ld g_9 8787 28 (fun v_10 =>
      sto g_9 8787 28 (v_10 + 1) (fun g_11 =>
      ld g_11 8787 ((8403 + (4 * nI a)) + 2) (fun v_12 =>
      sto g_11 8787 ((8403 + (4 * nI a)) + 2) (v_12 + 1) (fun g_13 =>
      lt (nI j + 1) (fun x4_14 =>
      rec x4_14 g_13)))))))))) = rec (nI (j + 1)) g' ∧ RR (dT T (tallyN s1 8, dO a st.2.1, dB st.2.2 a k v)) (dV V (tallyN s1 8, dO a st.2.1, dB st.2.2 a k v)) g' := by
    intro s1 g5 h5
    obtain ⟨X, g1, c1, c2, c3, c4, c5⟩ := s_boxed hN h5 ha k v
    have e2 : (8403 : Int32) + 4 * nI a + 2 = nI (8403 + (a * 4 + 2)) := by
      have : (4 : Int32) * nI a = nI (4 * a) := pk_mul 4 a
      rw [this]
      have e3 : (8403 : Int32) + nI (4 * a) = nI (8403 + 4 * a) := nI_add 8403 (4 * a)
      rw [e3]
      have e4 : nI (8403 + 4 * a) + 2 = nI (8403 + 4 * a + 2) := nI_add (8403 + 4 * a) 2
      rw [e4]
      congr 1
      omega
    have hX : nI X + 1 = nI (X + 1) := nI_1 X
    rw [c1, bd_some]
    dsimp only
    rw [(hRL c4).1, bd_some]
    have d1 := s_led c5 (j := 8) (by decide)
    have d2 := s_of d1 (j := a * 4 + 2) (by omega)
    rw [dT_8] at d2
    have e5 : va_up (dV V (s1, st.2.1, st.2.2)) 1 (tallyN (dV V (s1, st.2.1, st.2.2) 1) 8) = dV V (tallyN s1 8, st.2.1, st.2.2) := by rw [dV_1]; rfl
    rw [e5, dV_2] at d2
    refine ⟨_, ?_, d2⟩
    rw [gs (nI X) X rfl (by omega), hX, gs (nI (X + 1)) (X + 1) rfl (by omega), gl 28 28 rfl (by decide), gs 28 28 rfl (by decide), e2, gl _ (8403 + (a * 4 + 2)) rfl (by omega), gs _ (8403 + (a * 4 + 2)) rfl (by omega), lt_b, nI_1]
  unfold K_X12_delivers_10 J_X12_delivers_56
  rw [if_neg (nI_ge hj (by omega)), (hRL hrl0).2, bd_some, gl 29 29 rfl (by decide)]
  have e1 : (8003 : Int32) + nI a = nI (8003 + a) := nI_add 8003 a
  rw [e1, gl _ (8003 + a) rfl (by omega), hbox, ← e1, dl1_eq ha]
  unfold dS
  by_cases q : (bx st.2.2 a).length < 12
  · rw [if_pos q, if_neg (show ¬ nI (bx (dT T st 8) a).length = 12 from fun z => by
      have := (nI_eq (a := (bx st.2.2 a).length) (b := 12) (by omega) (by decide)).mp z
      omega), gs 29 29 rfl (by decide), Int32.add_zero, upd_self]
    exact tail st.1 g h
  · have q12 : (bx st.2.2 a).length = 12 := by
      have : (bx (dT T st 8) a).length ≤ 12 := hb12
      have e : dT T st 8 = st.2.2 := rfl
      rw [e] at this
      omega
    rw [if_neg q, if_pos (show nI (bx (dT T st 8) a).length = 12 by
      show nI (bx st.2.2 a).length = 12
      rw [q12]; rfl), gs 29 29 rfl (by decide)]
    refine tail (tallyN st.1 9) _ ?_
    have d1 := s_led h (j := 9) (by decide)
    rw [dV_1] at d1
    exact d1
theorem s_delL {N : Nat} (hN : 65536 ≤ N) {T : Nat → Rows} {V : Nat → Nat → Int32} {l : Nat} (hl : l < (T 6).length) {k v : Int32} (hk : cl (rw' (T 6) l) 0 = k) (hA : as16 (wl (T 7) k)) (h16 : (wl (T 7) k).length ≤ 16) (kk : (Nat → Int32) → (Option (Int32 × (Nat → Int32)))) : ∀ (n j : Nat) (st : DSt) (g : Nat → Int32), j ≤ (wl (T 7) k).length → (wl (T 7) k).length < n + j → RR (dT T st) (dV V st) g →
    ∃ g', L_X12_delivers_10 N kk (nI l) v (nI (wl (T 7) k).length) n (nI j) g = kk g' ∧ RR (dT T (dls k v ((wl (T 7) k).drop j) st)) (dV V (dls k v ((wl (T 7) k).drop j) st)) g' := by
  intro n
  induction n with
  | zero => intro j st g h1 h2; omega
  | succ n ih =>
    intro j st g h1 h2 h
    rw [e_X12_delivers_10]
    by_cases q : j = (wl (T 7) k).length
    · refine ⟨g, ?_, ?_⟩
      · unfold K_X12_delivers_10
        rw [if_pos (show nI (wl (T 7) k).length ≤ nI j by rw [q]; exact nI_le (Nat.le_refl _) (by omega))]
      · rw [q, List.drop_length]; exact h
    · have hj : j < (wl (T 7) k).length := by omega
      obtain ⟨a, ha, e⟩ := hA.at hj
      obtain ⟨g1, c1, c2⟩ := s_del1 hN hl hk (v := v) ha hj e (L_X12_delivers_10 N kk (nI l) v (nI (wl (T 7) k).length) n) kk h
      obtain ⟨g', c3, c4⟩ := ih (j + 1) _ g1 (by omega) (by omega) c2
      refine ⟨g', c1.trans c3, ?_⟩
      have e2 : (wl (T 7) k).drop j = nI a :: (wl (T 7) k).drop (j + 1) := by rw [List.drop_eq_getElem_cons hj, ← e, q_getD_lt hj]
      rw [e2]
      exact c4
