/-! ===== a wait is given up: both sides ===== -/
theorem fw_cons (r : List Int32) (rs : Rows) (k x : Int32) : fw (r :: rs) k x = if pW k x r = true then some 0 else (fw rs k x).map (fun j => j + 1) := by
  unfold fw
  rw [List.findIdx?_cons]
theorem fx_cons (y : Int32) (l : List Int32) (x : Int32) : fx (y :: l) x = if y = x then some 0 else (fx l x).map (fun j => j + 1) := by
  unfold fx
  rw [List.findIdx?_cons]
  by_cases q : y = x
  · rw [decide_eq_true q, if_pos rfl, if_pos q]
  · rw [decide_eq_false q, if_neg (by decide), if_neg q]
theorem wl_out {k x : Int32} : ∀ {waits : Rows} {i : Nat}, fw waits k x = some i → ∃ j, fx (wl waits k) x = some j ∧ j < (wl waits k).length ∧ wl (waits.eraseIdx i) k = (wl waits k).eraseIdx j ∧ ∀ k', ¬ k' = k → wl (waits.eraseIdx i) k' = wl waits k'
  | [], i, h => by cases h
  | r :: rs, i, h => by
    rw [fw_cons] at h
    by_cases q : pW k x r = true
    · rw [if_pos q] at h
      cases h
      have q' := q
      unfold pW at q'
      rw [Bool.and_eq_true, decide_eq_true_eq, decide_eq_true_eq] at q'
      refine ⟨0, ?_, ?_, ?_, fun k' hk' => ?_⟩
      · rw [wl_cons, if_pos q'.1, fx_cons, if_pos q'.2]
      · rw [wl_cons, if_pos q'.1]; exact Nat.succ_pos _
      · rw [wl_cons, if_pos q'.1]; rfl
      · rw [wl_cons, if_neg (fun z => hk' (z.symm.trans q'.1))]; rfl
    · rw [if_neg q] at h
      cases hf : fw rs k x with
      | none => rw [hf] at h; cases h
      | some i' =>
        rw [hf] at h
        have hi : i = i' + 1 := by
          have : some (i' + 1) = some i := h
          cases this
          rfl
        subst hi
        obtain ⟨j, h1, h2, h3, h4⟩ := wl_out hf
        have e : (r :: rs).eraseIdx (i' + 1) = r :: rs.eraseIdx i' := rfl
        rw [e]
        by_cases q0 : cl r 0 = k
        · have q1 : ¬ cl r 1 = x := fun z => q (by unfold pW; rw [decide_eq_true q0, decide_eq_true z]; rfl)
          refine ⟨j + 1, ?_, ?_, ?_, fun k' hk' => ?_⟩
          · rw [wl_cons, if_pos q0, fx_cons, if_neg q1, h1]; rfl
          · rw [wl_cons, if_pos q0, List.length_cons]; omega
          · rw [wl_cons, if_pos q0, wl_cons, if_pos q0, h3]; rfl
          · rw [wl_cons, wl_cons, h4 k' hk']
        · refine ⟨j, ?_, ?_, ?_, fun k' hk' => ?_⟩
          · rw [wl_cons, if_neg q0]; exact h1
          · rw [wl_cons, if_neg q0]; exact h2
          · rw [wl_cons, if_neg q0, wl_cons, if_neg q0, h3]
          · rw [wl_cons, wl_cons, h4 k' hk']
/-- the reference: those behind one who waits move up -/
theorem s_upL {N : Nat} {l m1 : Nat} (hl : l < 256) (hm : m1 ≤ 15) {β : Type} (kk : (Nat → Int32) → Option (Int32 × (Nat → Int32) × Int32 × Int32)) (x3 : Int32) (tape : Nat → Int32) (taped spot : Int32) (g : Nat → Int32) (hg : g (2003 + (l * 20 + 3)) = nI m1) (s : Nat) : ∀ (n j : Nat), s ≤ j → j ≤ m1 → m1 < n + j →
    L_X12_giveUp_76 N kk x3 (nI (2003 + l * 20)) tape taped spot n (nI j) (shf g (2003 + l * 20 + 4 + s) 1 (2003 + l * 20 + 4 + j)) = kk (shf g (2003 + l * 20 + 4 + s) 1 (2003 + l * 20 + 4 + m1)) := by
  intro n
  induction n with
  | zero => intro j h1 h2 h3; omega
  | succ n ih =>
    intro j h1 h2 h3
    rw [e_X12_giveUp_76]
    unfold K_X12_giveUp_76
    have e3 : nI (2003 + l * 20) + 3 = nI (2003 + (l * 20 + 3)) := by
      have : nI (2003 + l * 20) + 3 = nI (2003 + l * 20 + 3) := nI_add _ 3
      rw [this, Nat.add_assoc]
    have e4 : nI (2003 + l * 20) + 4 + nI j = nI (2003 + l * 20 + 4 + j) := by
      have : nI (2003 + l * 20) + 4 = nI (2003 + l * 20 + 4) := nI_add _ 4
      rw [this, nI_add]
    have hc : shf g (2003 + l * 20 + 4 + s) 1 (2003 + l * 20 + 4 + j) (2003 + (l * 20 + 3)) = nI m1 := by
      unfold shf
      rw [if_neg (by omega)]
      exact hg
    rw [e3, gl _ (2003 + (l * 20 + 3)) rfl (by omega), hc]
    by_cases q : m1 ≤ j
    · rw [if_pos (nI_le q (by omega)), show j = m1 by omega]
    · rw [if_neg (nI_ge (by omega) (by omega)), e4, nI_1, gl _ (2003 + l * 20 + 4 + j + 1) rfl (by omega), gs _ (2003 + l * 20 + 4 + j) rfl (by omega), lt_b, nI_1, shf_step (by omega) (by decide)]
      exact ih (j + 1) (by omega) (by omega) (by omega)
theorem range_at {f : Nat → Int32} {n j : Nat} (hj : j < n) : ((List.range n).map f).getD j 0 = f j := by
  rw [q_getD_lt (by rw [List.length_map, List.length_range]; exact hj), List.getElem_map, List.getElem_range]
/-- the row of a load whose waiters are told anew -/
theorem RL_row {g g' : Nat → Int32} {line waits w2 : Rows} (h : RL g line waits) (hI : iL line) {l : Nat} (hl : l < line.length) {k : Int32} (hk : cl (rw' line l) 0 = k) (hf : ∀ p, (p < 2003 + l * 20 ∨ 2003 + l * 20 + 20 ≤ p) → g' p = g p) (h3 : ∀ j, j < 3 → g' (2003 + (l * 20 + j)) = g (2003 + (l * 20 + j)))
    (hw : ∀ k', ¬ k' = k → wl w2 k' = wl waits k') (hm : g' (2003 + (l * 20 + 3)) = nI (wl w2 k).length) (h16 : (wl w2 k).length ≤ 16) (hj : ∀ j, j < (wl w2 k).length → g' (2003 + (l * 20 + (4 + j))) = (wl w2 k).getD j 0) : RL g' line w2 := by
  obtain ⟨lr, hG, hlen, h256, hLR⟩ := h
  have hll : l < lr.length := by omega
  have hk' : (line.getD l []).getD 0 0 = k := hk
  have rd : ∀ i, i < lr.length → (lr.modify l (fun _ => (List.range 20).map (fun j => g' (2003 + (l * 20 + j))))).getD i [] = if i = l then (List.range 20).map (fun j => g' (2003 + (l * 20 + j))) else lr.getD i [] := fun i hi => q_modD hi
  refine ⟨lr.modify l (fun _ => (List.range 20).map (fun j => g' (2003 + (l * 20 + j)))), ⟨?_, fun i j hi hj' => ?_⟩, by rw [List.length_modify]; exact hlen, h256, fun i hi => ?_⟩
  · rw [List.length_modify, hf 15 (by omega)]; exact hG.1
  · rw [List.length_modify] at hi
    rw [rd i hi]
    by_cases q : i = l
    · subst q
      rw [if_pos rfl, range_at hj']
    · rw [if_neg q, hf _ (by omega)]
      exact hG.2 i j hi hj'
  · have hil : i < lr.length := by omega
    rw [rd i hil]
    have qi := hLR i hi
    by_cases q : i = l
    · subst q
      rw [if_pos rfl]
      unfold LR at qi ⊢
      rw [hk'] at qi ⊢
      have old : ∀ j, j < 3 → g' (2003 + (i * 20 + j)) = (lr.getD i []).getD j 0 := fun j hj' => by rw [h3 j hj']; exact hG.2 i j hil (by omega)
      refine ⟨?_, ?_, fun z => ?_, ?_, h16, fun j hj' => ?_, by rw [List.length_map, List.length_range]⟩
      · rw [range_at (by decide), old 0 (by decide)]; exact qi.1
      · rw [range_at (by decide), old 1 (by decide)]; exact qi.2.1
      · rw [range_at (by decide), old 2 (by decide)]; exact qi.2.2.1 z
      · rw [range_at (by decide)]; exact hm
      · rw [range_at (by omega)]; exact hj j hj'
    · rw [if_neg q]
      have hne : ¬ (line.getD i []).getD 0 0 = k := by rw [← hk]; exact row_key hI hl hi q
      unfold LR at qi ⊢
      rw [hw _ hne]
      exact qi
theorem n_runs {line : Rows} (hl : line.length ≤ 256) {k : Int32} {l : Nat} (h : fk 0 line k = some l) : F_X3_runs line k = some (if cl (rw' line l) 1 = 1 then 1 else 0) := by
  have := (fk_lt h).1
  unfold F_X3_runs
  rw [n_loadRow, bd_some, h, lt_b]
  have e : tget line (oI (some l)) 1 = cl (rw' line l) 1 := tg l 1 1 rfl (by omega) (by decide)
  rw [e]
  split <;> rfl
theorem wl_count (waits : Rows) (k : Int32) : waits.countP (fun r => decide (cl r 0 = k)) = (wl waits k).length := by
  unfold wl
  rw [List.length_map, ← List.countP_eq_length_filter]
theorem not_in {waits : Rows} {k : Int32} (h : (wl waits k).length = 0) : ∀ r ∈ waits, ¬ cl r 0 = k := by
  intro r hr z
  rw [← wl_count] at h
  have := List.countP_eq_zero.mp h r hr
  rw [decide_eq_true z] at this
  exact this rfl
