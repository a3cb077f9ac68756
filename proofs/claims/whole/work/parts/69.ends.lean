/-! ===== a load is no more: both sides ===== -/
/-- when those that run began: in their order, none later than now -/
def iG (line : Rows) (t : Nat) : Prop := ∃ f : Nat → Nat, (∀ i, i < rnN line → f i ≤ t ∧ cl (rw' line i) 2 = nI (f i)) ∧ ∀ i j, i ≤ j → j < rnN line → f i ≤ f j
def iU (waits : Rows) : Prop := waits.Pairwise (fun r q => ¬ (cl r 0 = cl q 0 ∧ cl r 1 = cl q 1))
def iLd (T : Nat → Rows) (t : Nat) : Prop := iL (T 6) ∧ iW (T 6) (T 7) ∧ iU (T 7) ∧ iG (T 6) t ∧ iB (T 8) ∧ kOK (T 1)
theorem er_at {rows : Rows} {l j : Nat} : rw' (rows.eraseIdx l) j = if j < l then rw' rows j else rw' rows (j + 1) := q_erD
theorem iL_erase {line : Rows} (h : iL line) {l : Nat} (hl : l < line.length) : iL (line.eraseIdx l) ∧ rnN (line.eraseIdx l) = if l < rnN line then rnN line - 1 else rnN line := by
  have hle := List.length_eraseIdx_of_lt hl
  have hrl := rnN_le line
  have key : ∀ i, i < (line.eraseIdx l).length → cl (rw' (line.eraseIdx l) i) 1 = if i < (if l < rnN line then rnN line - 1 else rnN line) then 1 else 0 := by
    intro i hi
    rw [hle] at hi
    rw [er_at]
    by_cases q : i < l
    · rw [if_pos q, h.2.1 i (by omega)]
      by_cases q2 : l < rnN line
      · rw [if_pos q2, if_pos (by omega), if_pos (by omega)]
      · rw [if_neg q2]
    · rw [if_neg q, h.2.1 (i + 1) (by omega)]
      by_cases q2 : l < rnN line
      · rw [if_pos q2]
        by_cases q3 : i + 1 < rnN line
        · rw [if_pos q3, if_pos (by omega)]
        · rw [if_neg q3, if_neg (by omega)]
      · rw [if_neg q2, if_neg (by omega), if_neg (by omega)]
  have hrn : rnN (line.eraseIdx l) = if l < rnN line then rnN line - 1 else rnN line := pre_count (by rw [hle]; split <;> omega) key
  refine ⟨⟨fun r hr => h.1 r (List.mem_of_mem_eraseIdx hr), ?_, h.2.2.sublist (List.eraseIdx_sublist ..)⟩, hrn⟩
  rw [hrn]
  exact key
theorem iG_erase {line : Rows} (h : iL line) {t : Nat} (hG : iG line t) {l : Nat} (hl : l < line.length) : iG (line.eraseIdx l) t := by
  obtain ⟨f, h1, h2⟩ := hG
  have hrn := (iL_erase h hl).2
  refine ⟨fun i => if i < l then f i else f (i + 1), fun i hi => ?_, fun i j hij hj => ?_⟩
  · rw [hrn] at hi
    rw [er_at]
    dsimp only
    by_cases q : i < l
    · rw [if_pos q, if_pos q]
      refine h1 i ?_
      split at hi <;> omega
    · rw [if_neg q, if_neg q]
      refine h1 (i + 1) ?_
      split at hi <;> omega
  · rw [hrn] at hj
    show (if i < l then f i else f (i + 1)) ≤ if j < l then f j else f (j + 1)
    by_cases q : i < l
    · rw [if_pos q]
      by_cases q2 : j < l
      · rw [if_pos q2]; exact h2 i j hij (by split at hj <;> omega)
      · rw [if_neg q2]; exact h2 i (j + 1) (by omega) (by split at hj <;> omega)
    · rw [if_neg q, if_neg (by omega)]; exact h2 (i + 1) (j + 1) (by omega) (by split at hj <;> omega)
abbrev rmW (waits : Rows) (k : Int32) : Rows := waits.filter (fun r => !(decide (cl r 0 = k)))
theorem wl_rm {waits : Rows} {k k' : Int32} (h : ¬ k' = k) : wl (rmW waits k) k' = wl waits k' := by
  unfold wl rmW
  rw [List.filter_filter]
  congr 1
  refine List.filter_congr (fun r _ => ?_)
  by_cases q : r.getD 0 0 = k'
  · rw [decide_eq_true q, Bool.true_and]
    have : ¬ cl r 0 = k := fun z => h (q.symm.trans z)
    rw [decide_eq_false this]
    rfl
  · rw [decide_eq_false q, Bool.false_and]
theorem row_key {line : Rows} (h : iL line) {l j : Nat} (hl : l < line.length) (hj : j < line.length) (hne : j ≠ l) : ¬ cl (rw' line j) 0 = cl (rw' line l) 0 := by
  have hp := List.pairwise_iff_getElem.mp h.2.2
  have ej : rw' line j = line[j] := q_getD_lt hj
  have el : rw' line l = line[l] := q_getD_lt hl
  rw [ej, el]
  rcases Nat.lt_or_gt_of_ne hne with q | q
  · exact hp j l hj hl q
  · exact fun z => hp l j hl hj q z.symm
theorem iW_erase {line waits : Rows} (h : iW line waits) {l : Nat} (hl : l < line.length) : iW (line.eraseIdx l) (rmW waits (cl (rw' line l) 0)) := by
  intro r hr
  obtain ⟨h1, h2⟩ := List.mem_filter.mp hr
  obtain ⟨⟨q, hq, e⟩, h3⟩ := h r h1
  refine ⟨⟨q, ?_, e⟩, h3⟩
  have hne : ¬ cl r 0 = cl (rw' line l) 0 := by simpa using h2
  obtain ⟨i, hi, rfl⟩ := List.getElem_of_mem hq
  have hil : i ≠ l := by
    rintro rfl
    refine hne ?_
    rw [← e, show rw' line i = line[i] from q_getD_lt hi]
  rw [List.mem_eraseIdx_iff_getElem?]
  exact ⟨i, hil, List.getElem?_eq_getElem hi⟩
/-- the load's row goes -/
theorem RL_erase {N : Nat} (hN : 65536 ≤ N) {g : Nat → Int32} {line waits w2 : Rows} (h : RL g line waits) {l : Nat} (hl : l < line.length) (hw : ∀ j, j < line.length → j ≠ l → wl w2 (cl (rw' line j) 0) = wl waits (cl (rw' line j) 0)) : ∃ g', F_X12_takesOut N g 15 2003 20 (nI l) = some g' ∧ RL g' (line.eraseIdx l) w2 ∧ ∀ p, p ≠ 15 → (p < 2003 ∨ 8003 ≤ p) → g' p = g p := by
  obtain ⟨lr, hG, hlen, h256, hLR⟩ := h
  obtain ⟨g', c1, c2, c3⟩ := g_takesOut hN hG (by decide) (by omega) (by decide) (Or.inl (by decide)) (i := l) (by omega)
  refine ⟨g', c1, ⟨lr.eraseIdx l, c2, ?_, ?_, ?_⟩, fun p hp hq => c3 p hp (by omega)⟩
  · rw [List.length_eraseIdx_of_lt (by omega), List.length_eraseIdx_of_lt hl, hlen]
  · rw [List.length_eraseIdx_of_lt hl]; omega
  · intro i hi
    rw [List.length_eraseIdx_of_lt hl] at hi
    have e1 : (line.eraseIdx l).getD i [] = if i < l then line.getD i [] else line.getD (i + 1) [] := q_erD
    have e2 : (lr.eraseIdx l).getD i [] = if i < l then lr.getD i [] else lr.getD (i + 1) [] := q_erD
    rw [e1, e2]
    have go : ∀ j, j < line.length → j ≠ l → LR w2 (line.getD j []) (lr.getD j []) := by
      intro j hj hjl
      have q := hLR j hj
      unfold LR at q ⊢
      have e := hw j hj hjl
      have e' : wl w2 ((line.getD j []).getD 0 0) = wl waits ((line.getD j []).getD 0 0) := e
      rw [e']
      exact q
    by_cases q : i < l
    · rw [if_pos q, if_pos q]; exact go i (by omega) (by omega)
    · rw [if_neg q, if_neg q]; exact go (i + 1) (by omega) (by omega)
/-- the tables behind a load's end -/
def eT (T : Nat → Rows) (st : DSt) (k : Int32) (l : Nat) : Nat → Rows := va_up (va_up (dT T st) 6 ((T 6).eraseIdx l)) 7 (rmW (T 7) k)
theorem LR16 {g : Nat → Int32} {line waits : Rows} (h : RL g line waits) {l : Nat} (hl : l < line.length) : (wl waits (cl (rw' line l) 0)).length ≤ 16 ∧ F_X12_loadAt g (nI l) 0 = some (kc (cl (rw' line l) 0)) ∧ F_X12_loadAt g (nI l) 3 = some (nI (wl waits (cl (rw' line l) 0)).length) ∧ F_X12_loadAt g (nI l) 1 = some (if cl (rw' line l) 1 = 1 then 2 else 1) ∧ (cl (rw' line l) 1 = 1 → F_X12_loadAt g (nI l) 2 = some (cl (rw' line l) 2)) ∧ ∀ j, j < (wl waits (cl (rw' line l) 0)).length → F_X12_loadAt g (nI l) (nI (4 + j)) = some ((wl waits (cl (rw' line l) 0)).getD j 0) := by
  obtain ⟨lr, hG, hlen, h256, hLR⟩ := h
  have q := hLR l hl
  refine ⟨q.2.2.2.2.1, ?_, ?_, ?_, fun h1 => ?_, fun j hj => ?_⟩
  · rw [s_loadAt hG (by omega) (by omega) 0 0 rfl (by decide)]
    exact congrArg some q.1
  · rw [s_loadAt hG (by omega) (by omega) 3 3 rfl (by decide)]
    exact congrArg some q.2.2.2.1
  · rw [s_loadAt hG (by omega) (by omega) 1 1 rfl (by decide)]
    exact congrArg some q.2.1
  · rw [s_loadAt hG (by omega) (by omega) 2 2 rfl (by decide)]
    exact congrArg some (q.2.2.1 h1)
  · have h16 : (wl waits (cl (rw' line l) 0)).length ≤ 16 := q.2.2.2.2.1
    rw [s_loadAt hG (by omega) (by omega) (nI (4 + j)) (4 + j) rfl (by omega)]
    exact congrArg some (q.2.2.2.2.2.1 j hj)
theorem s_delivers {N : Nat} (hN : 65536 ≤ N) {T : Nat → Rows} {V : Nat → Nat → Int32} {g : Nat → Int32} (h : RR T V g) (hI : iL (T 6)) (hW : iW (T 6) (T 7)) {l : Nat} (hl : l < (T 6).length) {k : Int32} (hk : cl (rw' (T 6) l) 0 = k) (v : Int32) :
    ∃ g', F_X12_delivers N g (nI l) v = some (nI (wl (T 7) k).length, g') ∧ RR (eT T (dls k v (wl (T 7) k) (V 1, V 2, T 8)) k l) (dV V (dls k v (wl (T 7) k) (V 1, V 2, T 8))) g' := by
  have hrl := h.2.2.2.2.2.2.1
  have q := LR16 hrl hl
  rw [hk] at q
  have h0 : RR (dT T (V 1, V 2, T 8)) (dV V (V 1, V 2, T 8)) g := by
    have e1 : dT T (V 1, V 2, T 8) = T := va_same T 8
    have e2 : dV V (V 1, V 2, T 8) = V := by
      show va_up (va_up V 1 (V 1)) 2 (V 2) = V
      rw [va_same]
      exact va_same V 2
    rw [e1, e2]; exact h
  unfold F_X12_delivers
  rw [q.2.2.1, bd_some]
  have hx := s_delL hN (V := V) hl hk (v := v) (wl_as16 hW k) q.1 (fun g => bd (F_X12_takesOut N g 15 2003 20 (nI l)) (fun o_15 => some (nI (wl (T 7) k).length, o_15))) N 0 (V 1, V 2, T 8) g (by omega) (by omega) h0
  rw [nI_0, List.drop_zero] at hx
  obtain ⟨g1, c1, c2⟩ := hx
  obtain ⟨g2, d1, d2, d3⟩ := RL_erase hN (w2 := rmW (T 7) k) c2.2.2.2.2.2.2.1 hl (fun j hj hjl => wl_rm (by rw [← hk]; exact row_key hI hl hj hjl))
  refine ⟨g2, ?_, ?_⟩
  · rw [c1]
    rw [d1, bd_some]
  · exact c2.uRL d2 (fun p hp hq => d3 p (by omega) (by omega))
