/-! ===== a table in the reference's one row of numbers: a count, a place, a width ===== -/
def GT (g : Nat → Int32) (cnt off w : Nat) (rows : Rows) : Prop := g cnt = nI rows.length ∧ ∀ i j : Nat, i < rows.length → j < w → g (off + (i * w + j)) = (rows.getD i []).getD j 0
theorem GT.frame {g g' : Nat → Int32} {cnt off w : Nat} {rows : Rows} (h : GT g cnt off w rows) (hc : g' cnt = g cnt) (hf : ∀ p, off ≤ p → p < off + rows.length * w → g' p = g p) : GT g' cnt off w rows :=
  ⟨by rw [hc]; exact h.1, fun i j hi hj => by rw [hf _ (by omega) (by have := cell_lt (w := w) hi hj; omega)]; exact h.2 i j hi hj⟩
/-- cells from s up to e come from w places further on, by the loop of takesOut -/
theorem g_takesL {cnt off w n0 : Nat} (hw : 0 < w) (hn : 0 < n0) (hoff : off + n0 * w ≤ 8787) (hcnt : cnt < 8787) (hap : cnt < off ∨ off + n0 * w ≤ cnt) (N : Nat) (k : (Nat → Int32) → Option (Nat → Int32)) (g : Nat → Int32) (hg : g cnt = nI n0) (s : Nat) : ∀ (n p : Nat), s ≤ p → p ≤ (n0 - 1) * w → (n0 - 1) * w < n + p → L_X12_takesOut_6 N k (nI cnt) (nI off) (nI w) n (nI p) (shf g (off + s) w (off + p)) = k (shf g (off + s) w (off + (n0 - 1) * w)) := by
  have e0 : (n0 - 1) * w + w = n0 * w := by
    obtain ⟨q, rfl⟩ : ∃ q, n0 = q + 1 := ⟨n0 - 1, by omega⟩
    rw [show q + 1 - 1 = q by omega, Nat.add_mul, Nat.one_mul]
  intro n
  induction n with
  | zero => intro p h1 h2 h3; omega
  | succ n ih =>
    intro p h1 h2 h3
    rw [e_X12_takesOut_6]
    unfold K_X12_takesOut_6
    have hc : shf g (off + s) w (off + p) cnt = nI n0 := by
      unfold shf
      rw [if_neg (by omega)]
      exact hg
    have e1 : nI n0 - 1 = nI (n0 - 1) := pk_sub (a := n0) (b := 1) (by omega)
    rw [ld_t (vp_in_nI hcnt (by omega)), nI_clamp (by omega), hc, e1, pk_mul]
    by_cases h4 : (n0 - 1) * w ≤ p
    · rw [if_pos (nI_le h4 (by omega)), show p = (n0 - 1) * w by omega]
    · rw [if_neg (nI_ge (by omega) (by omega)), nI_add, nI_add, ld_t (vp_in_nI (by omega) (by omega)), sto_t (vp_in_nI (by omega) (by omega)), nI_clamp (by omega), nI_clamp (by omega), lt_b, nI_1, shf_step (by omega) hw]
      exact ih (p + 1) (by omega) (by omega) (by omega)
theorem g_takesOut {N : Nat} (hN : 65536 ≤ N) {g : Nat → Int32} {cnt off w : Nat} {rows : Rows} (h : GT g cnt off w rows) (hw : 0 < w) (hoff : off + rows.length * w ≤ 8787) (hcnt : cnt < 8787) (hap : cnt < off ∨ off + rows.length * w ≤ cnt) {i : Nat} (hi : i < rows.length) :
    ∃ g', F_X12_takesOut N g (nI cnt) (nI off) (nI w) (nI i) = some g' ∧ GT g' cnt off w (rows.eraseIdx i) ∧ ∀ p, p ≠ cnt → (p < off ∨ off + rows.length * w ≤ p) → g' p = g p := by
  have e0 : (rows.length - 1) * w + w = rows.length * w := by
    obtain ⟨q, hq⟩ : ∃ q, rows.length = q + 1 := ⟨rows.length - 1, by omega⟩
    rw [hq, show q + 1 - 1 = q by omega, Nat.add_mul, Nat.one_mul]
  have hiw : i * w ≤ (rows.length - 1) * w := Nat.mul_le_mul_right w (by omega)
  unfold F_X12_takesOut
  rw [lt_b, pk_mul]
  have hl := g_takesL (cnt := cnt) (off := off) (w := w) (n0 := rows.length) hw (by omega) hoff hcnt hap N (fun g => ld g 8787 (nI cnt) (fun v_6 => sto g 8787 (nI cnt) (v_6 - 1) (fun g_7 => some g_7))) g h.1 (i * w) N (i * w) (Nat.le_refl _) hiw (by omega)
  rw [shf_0] at hl
  rw [hl]
  have hc : shf g (off + i * w) w (off + (rows.length - 1) * w) cnt = nI rows.length := by
    unfold shf
    rw [if_neg (by omega)]
    exact h.1
  have e1 : nI rows.length - 1 = nI (rows.length - 1) := pk_sub (a := rows.length) (b := 1) (by omega)
  rw [ld_t (vp_in_nI hcnt (by omega)), sto_t (vp_in_nI hcnt (by omega)), nI_clamp (by omega), hc, e1]
  have he : (rows.eraseIdx i).length = rows.length - 1 := List.length_eraseIdx_of_lt hi
  refine ⟨_, rfl, ⟨by rw [upd_at, he], fun a b ha hb => ?_⟩, fun p h1 h2 => ?_⟩
  · have ha' : a < rows.length - 1 := by rw [← he]; exact ha
    have h6 := cell_lt (w := w) ha' hb
    rw [upd_ne (by omega), q_erD]
    unfold shf
    by_cases h5 : a < i
    · have := cell_lt (w := w) h5 hb
      rw [if_neg (by omega), if_pos h5, h.2 a b (by omega) hb]
    · have h7 : i * w ≤ a * w := Nat.mul_le_mul_right w (by omega)
      rw [if_pos (by omega), if_neg h5, show off + (a * w + b) + w = off + ((a + 1) * w + b) by rw [Nat.add_mul, Nat.one_mul]; omega, h.2 (a + 1) b (by omega) hb]
  · rw [upd_ne h1]
    unfold shf
    rw [if_neg (by omega)]
theorem g_slotL {off w most : Nat} (hw : 0 < w) (hm : 0 < most) (hoff : off + most * w ≤ 8787) (N : Nat) (k : (Nat → Int32) → Option (Int32 × (Nat → Int32))) (g : Nat → Int32) (x1 : Int32) : ∀ (n p : Nat), p ≤ (most - 1) * w → (most - 1) * w < n + p → L_X12_slot_14 N k x1 (nI off) (nI w) (nI most) n (nI p) (shf g off w (off + p)) = k (shf g off w (off + (most - 1) * w)) := by
  have e0 : (most - 1) * w + w = most * w := by
    obtain ⟨q, rfl⟩ : ∃ q, most = q + 1 := ⟨most - 1, by omega⟩
    rw [show q + 1 - 1 = q by omega, Nat.add_mul, Nat.one_mul]
  have hmm : most * 1 ≤ most * w := Nat.mul_le_mul_left most hw
  intro n
  induction n with
  | zero => intro p h2 h3; omega
  | succ n ih =>
    intro p h2 h3
    rw [e_X12_slot_14]
    unfold K_X12_slot_14
    have e1 : nI most - 1 = nI (most - 1) := pk_sub (a := most) (b := 1) (by omega)
    rw [e1, pk_mul]
    by_cases h4 : (most - 1) * w ≤ p
    · rw [if_pos (nI_le h4 (by omega)), show p = (most - 1) * w by omega]
    · rw [if_neg (nI_ge (by omega) (by omega)), nI_add, nI_add, ld_t (vp_in_nI (by omega) (by omega)), sto_t (vp_in_nI (by omega) (by omega)), nI_clamp (by omega), nI_clamp (by omega), lt_b, nI_1, shf_step (by omega) hw]
      exact ih (p + 1) (by omega) (by omega)
/-- the rows that stay as one more comes -/
def keepR (most : Nat) (rows : Rows) : Rows := if rows.length < most then rows else rows.drop 1
theorem keepR_len {most : Nat} {rows : Rows} (h : rows.length ≤ most) (hm : 0 < most) : (keepR most rows).length < most ∧ (keepR most rows).length ≤ rows.length := by
  unfold keepR
  split
  · exact ⟨by assumption, Nat.le_refl _⟩
  · rw [List.length_drop]; omega
theorem g_slot1 {N cnt off w n0 : Nat} {g : Nat → Int32} (hcnt : cnt < 8787) (hg : g cnt = nI n0) (hn : n0 < 8787) : J_X12_slot_61 N (nI cnt) (nI off) (nI w) g = some (nI (off + n0 * w), upd g cnt (nI (n0 + 1))) := by
  unfold J_X12_slot_61
  rw [ld_t (vp_in_nI hcnt (by omega)), sto_t (vp_in_nI hcnt (by omega)), nI_clamp (by omega), hg, nI_1, ld_t (vp_in_nI hcnt (by omega)), nI_clamp (by omega), upd_at, nI_pred, pk_mul, nI_add]
/-- a place for one more: its count is told already, its cells are to be written -/
theorem g_slot {N : Nat} (hN : 65536 ≤ N) {g : Nat → Int32} {cnt off w most : Nat} {rows : Rows} (h : GT g cnt off w rows) (hw : 0 < w) (hm : 0 < most) (hlen : rows.length ≤ most) (hoff : off + most * w ≤ 8787) (hcnt : cnt < 8787) (hap : cnt < off ∨ off + most * w ≤ cnt) :
    ∃ g', F_X12_slot N g (nI cnt) (nI off) (nI w) (nI most) = some (nI (off + (keepR most rows).length * w), g') ∧ g' cnt = nI ((keepR most rows).length + 1) ∧ (∀ i j : Nat, i < (keepR most rows).length → j < w → g' (off + (i * w + j)) = ((keepR most rows).getD i []).getD j 0) ∧ ∀ p, p ≠ cnt → (p < off ∨ off + most * w ≤ p) → g' p = g p := by
  have e0 : (most - 1) * w + w = most * w := by
    obtain ⟨q, rfl⟩ : ∃ q, most = q + 1 := ⟨most - 1, by omega⟩
    rw [show q + 1 - 1 = q by omega, Nat.add_mul, Nat.one_mul]
  have hmm : most * 1 ≤ most * w := Nat.mul_le_mul_left most hw
  have hrm : rows.length * w ≤ most * w := Nat.mul_le_mul_right w hlen
  unfold F_X12_slot
  rw [ld_t (vp_in_nI hcnt (by omega)), nI_clamp (by omega), h.1]
  by_cases h1 : rows.length < most
  · have h2 : ¬ nI rows.length = nI most := fun e => by have := (nI_eq (by omega) (by omega)).mp e; omega
    have e1 : keepR most rows = rows := by unfold keepR; rw [if_pos h1]
    rw [if_neg h2, g_slot1 hcnt h.1 (by omega), e1]
    refine ⟨_, rfl, by rw [upd_at], fun i j hi hj => ?_, fun p h3 h4 => by rw [upd_ne h3]⟩
    have := cell_lt (w := w) hi hj
    rw [upd_ne (by omega), h.2 i j hi hj]
  · have hmr : rows.length = most := by omega
    have e1 : keepR most rows = rows.drop 1 := by unfold keepR; rw [if_neg h1]
    have hl := g_slotL (off := off) (w := w) (most := most) hw hm hoff N (fun g => ld g 8787 (nI cnt) (fun v_8 => sto g 8787 (nI cnt) (v_8 - 1) (fun g_9 => J_X12_slot_61 N (nI cnt) (nI off) (nI w) g_9))) g (nI cnt) N 0 (Nat.zero_le _) (by omega)
    rw [Nat.add_zero, shf_0, nI_0] at hl
    rw [if_pos (by rw [hmr]), hl]
    have hc : shf g off w (off + (most - 1) * w) cnt = nI most := by
      unfold shf
      rw [if_neg (by omega), h.1, hmr]
    have e2 : nI most - 1 = nI (most - 1) := pk_sub (a := most) (b := 1) (by omega)
    have hdl : (rows.drop 1).length = most - 1 := by rw [List.length_drop]; omega
    rw [ld_t (vp_in_nI hcnt (by omega)), sto_t (vp_in_nI hcnt (by omega)), nI_clamp (by omega), hc, e2, g_slot1 (n0 := most - 1) hcnt (by rw [upd_at]) (by omega), e1, hdl]
    refine ⟨_, rfl, by rw [upd_at], fun i j hi hj => ?_, fun p h3 h4 => ?_⟩
    · have h6 := cell_lt (w := w) hi hj
      rw [upd_ne (by omega), upd_ne (by omega)]
      unfold shf
      rw [if_pos (by omega), show off + (i * w + j) + w = off + ((i + 1) * w + j) by rw [Nat.add_mul, Nat.one_mul]; omega, h.2 (i + 1) j (by omega) hj, List.getD_eq_getElem?_getD (l := rows.drop 1), List.getElem?_drop, ← List.getD_eq_getElem?_getD, Nat.add_comm 1 i]
    · rw [upd_ne h3, upd_ne h3]
      unfold shf
      rw [if_neg (by omega)]
/-- behind a slot, once its cells are written -/
theorem GT.pushed {g' g2 : Nat → Int32} {cnt off w : Nat} {kr : Rows} {row : List Int32} (h1 : g' cnt = nI (kr.length + 1)) (h2 : ∀ i j : Nat, i < kr.length → j < w → g' (off + (i * w + j)) = (kr.getD i []).getD j 0) (hc : g2 cnt = g' cnt) (hk : ∀ p, off ≤ p → p < off + kr.length * w → g2 p = g' p) (hr : ∀ j, j < w → g2 (off + (kr.length * w + j)) = row.getD j 0) : GT g2 cnt off w (kr ++ [row]) := by
  refine ⟨by rw [hc, h1]; simp, fun i j hi hj => ?_⟩
  have hi' : i < kr.length + 1 := by simpa using hi
  by_cases h5 : i < kr.length
  · have := cell_lt (w := w) h5 hj
    rw [hk _ (by omega) (by omega), h2 i j h5 hj, List.getD_eq_getElem?_getD (l := kr ++ _), List.getElem?_append_left h5, ← List.getD_eq_getElem?_getD]
  · have h6 : i = kr.length := by omega
    subst h6
    rw [hr j hj, List.getD_eq_getElem?_getD (l := kr ++ _), List.getElem?_append_right (Nat.le_refl _), Nat.sub_self]
    rfl
