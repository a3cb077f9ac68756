/-! ===== loads run, as many as may: both sides ===== -/
theorem pre_count {line : Rows} {rn : Nat} (hr : rn ≤ line.length) (h : ∀ i, i < line.length → cl (rw' line i) 1 = if i < rn then 1 else 0) : rnN line = rn := by
  unfold rnN
  rw [← List.take_append_drop rn line, List.countP_append]
  have h1 : (line.take rn).countP (fun r => decide (cl r 1 = 1)) = (line.take rn).length := by
    rw [List.countP_eq_length]
    intro r hr2
    obtain ⟨i, hi, rfl⟩ := List.getElem_of_mem hr2
    have hi2 : i < rn := by rw [List.length_take] at hi; omega
    have := h i (by omega)
    rw [if_pos hi2, show rw' line i = line[i]'(by omega) from q_getD_lt _] at this
    rw [List.getElem_take]
    exact decide_eq_true this
  have h2 : (line.drop rn).countP (fun r => decide (cl r 1 = 1)) = 0 := by
    rw [List.countP_eq_zero]
    intro r hr2
    obtain ⟨i, hi, rfl⟩ := List.getElem_of_mem hr2
    have hi2 : rn + i < line.length := by rw [List.length_drop] at hi; omega
    have := h (rn + i) hi2
    rw [if_neg (by omega), show rw' line (rn + i) = line[rn + i]'hi2 from q_getD_lt hi2] at this
    rw [List.getElem_drop]
    intro q
    have := of_decide_eq_true q
    simp_all
  rw [h1, h2, List.length_take]
  omega
/-- behind a load that begins to run -/
theorem run_iL {line : Rows} (hI : iL line) (hi : rnN line < line.length) (now : Int32) : iL ((line.modify (rnN line) (fun r => r.set 1 1)).modify (rnN line) (fun r => r.set 2 now)) ∧ rnN ((line.modify (rnN line) (fun r => r.set 1 1)).modify (rnN line) (fun r => r.set 2 now)) = rnN line + 1 := by
  generalize hl' : (line.modify (rnN line) (fun r => r.set 1 1)).modify (rnN line) (fun r => r.set 2 now) = line'
  have hlen : line'.length = line.length := by rw [← hl', List.length_modify, List.length_modify]
  have hrow : ∀ j, j < line.length → rw' line' j = if j = rnN line then [cl (rw' line (rnN line)) 0, 1, now] else rw' line j := fun j hj => by rw [← hl']; exact run_row hI hi now hj
  have hpre : ∀ j, j < line'.length → cl (rw' line' j) 1 = if j < rnN line + 1 then 1 else 0 := by
    intro j hj
    rw [hlen] at hj
    rw [hrow j hj]
    by_cases q : j = rnN line
    · rw [if_pos q, if_pos (by omega)]; rfl
    · rw [if_neg q, hI.2.1 j hj]
      by_cases q2 : j < rnN line
      · rw [if_pos q2, if_pos (by omega)]
      · rw [if_neg q2, if_neg (by omega)]
  have hcnt := pre_count (by omega) hpre
  have hkey : ∀ j, j < line.length → cl (rw' line' j) 0 = cl (rw' line j) 0 := by
    intro j hj
    rw [hrow j hj]
    by_cases q : j = rnN line
    · rw [if_pos q, q]; rfl
    · rw [if_neg q]
  refine ⟨⟨fun r hr => ?_, by rw [hcnt]; exact hpre, ?_⟩, hcnt⟩
  · obtain ⟨j, hj, rfl⟩ := List.getElem_of_mem hr
    have hj2 : j < line.length := by omega
    have e : line'[j] = rw' line' j := (q_getD_lt hj).symm
    rw [e]
    refine ⟨?_, by rw [hkey j hj2]; exact (hI.at hj2).2⟩
    rw [hrow j hj2]
    split
    · rfl
    · exact (hI.at hj2).1
  · rw [List.pairwise_iff_getElem]
    intro a b ha hb hab
    have ha2 : a < line.length := by omega
    have hb2 : b < line.length := by omega
    have e1 : line'[a] = rw' line' a := (q_getD_lt ha).symm
    have e2 : line'[b] = rw' line' b := (q_getD_lt hb).symm
    rw [e1, e2, hkey a ha2, hkey b hb2, show rw' line a = line[a] from q_getD_lt ha2, show rw' line b = line[b] from q_getD_lt hb2]
    exact (List.pairwise_iff_getElem.mp hI.2.2) a b ha2 hb2 hab
abbrev rkk : Rows → Rows → (Nat → Int32) → Rows → Option (Rows × Rows × (Nat → Int32) × Rows) := fun book told sums line => some (book, told, sums, line)
set_option maxHeartbeats 4000000 in
theorem s_runsL {N : Nat} (hN : 65536 ≤ N) : ∀ (f : Nat) (T : Nat → Rows) (V : Nat → Nat → Int32) (g : Nat → Int32), f ≤ 8 → RR T V g → iL (T 6) → kOK (T 1) →
    ∃ (T' : Nat → Rows) (V' : Nat → Nat → Int32) (g' : Nat → Int32), (∀ n, f < n → L_X3_runWhatMay_16 N rkk (V 0) (V 4 0) n (nI (rnN (T 6))) (nI f) (T 0) (T 1) (V 1) (T 6) = some (T' 0, T' 1, V' 1, T' 6)) ∧ (∀ n, (T 6).length - rnN (T 6) < n → L_X12_runs_15 N (fun g => some g) n (nI f) (nI (rnN (T 6))) g = some g') ∧ RR T' V' g' ∧ iL (T' 6) ∧ kOK (T' 1) ∧ (T' 6).length = (T 6).length ∧ (∀ i, i < (T 6).length → cl (rw' (T' 6) i) 0 = cl (rw' (T 6) i) 0) ∧ (∀ j, j ≠ 0 → j ≠ 1 → j ≠ 6 → T' j = T j) ∧ (∀ j, j ≠ 1 → V' j = V j) ∧ ((rnN (T' 6) = rnN (T 6) + f ∧ rnN (T' 6) ≤ (T 6).length) ∨ (rnN (T' 6) = (T 6).length ∧ rnN (T' 6) ≤ rnN (T 6) + f)) ∧ (∀ i, i < rnN (T 6) → rw' (T' 6) i = rw' (T 6) i) ∧ (∀ i, rnN (T 6) ≤ i → i < rnN (T' 6) → cl (rw' (T' 6) i) 2 = V 4 0) := by
  intro f
  induction f with
  | zero =>
    intro T V g hf h hI hk1
    have hm : g 15 = nI (T 6).length := by obtain ⟨lr, hG, hl, -, -⟩ := h.2.2.2.2.2.2.1; rw [hG.1, hl]
    have h256 : (T 6).length ≤ 256 := by obtain ⟨lr, hG, hl, h6, -⟩ := h.2.2.2.2.2.2.1; exact h6
    have hrl := rnN_le (T 6)
    refine ⟨T, V, g, fun n hn => ?_, fun n hn => ?_, h, hI, hk1, rfl, fun _ _ => rfl, fun _ _ _ _ => rfl, fun _ _ => rfl, Or.inl ⟨rfl, hrl⟩, fun _ _ => rfl, fun i h1 h2 => by omega⟩
    · obtain ⟨n, rfl⟩ : ∃ q, n = q + 1 := ⟨n - 1, by omega⟩
      rw [e_X3_runWhatMay_16]
      unfold K_X3_runWhatMay_16
      rw [if_pos (by decide)]
    · obtain ⟨n, rfl⟩ : ∃ q, n = q + 1 := ⟨n - 1, by omega⟩
      rw [e_X12_runs_15]
      unfold K_X12_runs_15
      rw [gl 15 15 rfl (by decide), if_pos (show nI 0 ≤ 0 by decide)]
      split <;> rfl
  | succ f ih =>
    intro T V g hf h hI hk1
    have hrl0 := h.2.2.2.2.2.2.1
    have hm : g 15 = nI (T 6).length := by obtain ⟨lr, hG, hl, -, -⟩ := hrl0; rw [hG.1, hl]
    have h256 : (T 6).length ≤ 256 := by obtain ⟨lr, hG, hl, h6, -⟩ := hrl0; exact h6
    have hrl := rnN_le (T 6)
    have hf0 : ¬ nI (f + 1) ≤ 0 := nI_nle (by omega) (by omega)
    by_cases hi : rnN (T 6) < (T 6).length
    · obtain ⟨g9, g12, o, g1, q9, q1, q2, q3, q4, q5, r1⟩ := s_run1 hN h hI hi
      obtain ⟨I1, hc1⟩ := run_iL hI hi (V 4 0)
      have e6 : rnT T V (rnN (T 6)) 6 = ((T 6).modify (rnN (T 6)) (fun r => r.set 1 1)).modify (rnN (T 6)) (fun r => r.set 2 (V 4 0)) := rfl
      rw [← e6] at I1 hc1
      have hk11 : kOK (rnT T V (rnN (T 6)) 1) := by
        intro r hr
        rcases List.mem_append.mp (show r ∈ keepR 60 (T 1) ++ [[cl (rw' (T 6) (rnN (T 6))) 0]] from hr) with z | z
        · exact hk1 r (keepR_mem z)
        · rw [List.mem_singleton.mp z]; exact (hI.at hi).2
      have hlen : (rnT T V (rnN (T 6)) 6).length = (T 6).length := by rw [e6, List.length_modify, List.length_modify]
      have hrow : ∀ j, j < (T 6).length → rw' (rnT T V (rnN (T 6)) 6) j = if j = rnN (T 6) then [cl (rw' (T 6) (rnN (T 6))) 0, 1, V 4 0] else rw' (T 6) j := fun j hj => run_row hI hi (V 4 0) hj
      obtain ⟨T', V', g', c1, c2, c3, c4, c5, c6, c7, c8, c9, c10, c11, c12⟩ := ih (rnT T V (rnN (T 6))) (va_up V 1 (tallyN (V 1) 2)) g1 (by omega) r1 I1 hk11
      have v4 : (va_up V 1 (tallyN (V 1) 2)) 4 = V 4 := rfl
      refine ⟨T', V', g', fun n hn => ?_, fun n hn => ?_, c3, c4, c5, by rw [c6, hlen], fun i hi2 => ?_, fun j a0 a1 a6 => ?_, fun j a1 => ?_, by rw [hc1, hlen] at c10; omega, fun i hi2 => ?_, fun i h1 h2 => ?_⟩
      · obtain ⟨n, rfl⟩ : ∃ q, n = q + 1 := ⟨n - 1, by omega⟩
        rw [e_X3_runWhatMay_16]
        unfold K_X3_runWhatMay_16 F_X5_now tsize
        rw [if_neg hf0, lt_b, if_neg (nI_ge hi (by omega)), lt_b, bd_some, lt_b, lt_b, tset_nI (by omega) 1 1 rfl (by decide), tset_nI (by omega) 2 2 rfl (by decide), ← e6, tg (rnN (T 6)) 0 0 rfl (by omega) (by decide), hrow _ hi, if_pos rfl]
        have e0 : cl [cl (rw' (T 6) (rnN (T 6))) 0, 1, V 4 0] 0 = cl (rw' (T 6) (rnN (T 6))) 0 := rfl
        rw [e0, n_noteTold hN (Or.inr (hI.at hi).2), bd_t rfl, lt_b, lt_b, nI_1, pk_m1]
        have := c1 n (by omega)
        rw [hc1] at this
        exact this
      · obtain ⟨n, rfl⟩ : ∃ q, n = q + 1 := ⟨n - 1, by omega⟩
        rw [e_X12_runs_15]
        unfold K_X12_runs_15
        have hIS : F_X12_loadAt g (nI (rnN (T 6))) 1 = some 1 := by
          obtain ⟨lr, hG, hl, h6, hLR⟩ := hrl0
          rw [s_loadAt hG (by omega) (by omega) 1 1 rfl (by decide)]
          have e1 := (hLR _ hi).2.1
          have e2 : (rw' (T 6) (rnN (T 6))).getD 1 0 = 0 := by
            have := hI.2.1 _ hi
            rw [if_neg (by omega)] at this
            exact this
          rw [e2, if_neg (by decide)] at e1
          exact congrArg some e1
        have hg8 : (upd g (2003 + (rnN (T 6) * 20 + 1)) 2) 8 = V 4 0 := by
          rw [upd_ne (by omega)]
          exact h.2.2.2.2.2.2.2.2.1.2.1
        rw [gl 15 15 rfl (by decide), hm, if_neg (nI_ge hi (by omega)), if_neg hf0, hIS, bd_t rfl, if_pos rfl, gs (2003 + nI (rnN (T 6)) * 20 + 1) (2003 + (rnN (T 6) * 20 + 1)) (ix3 2003 _ 20 1) (by omega), gl 8 8 rfl (by decide), hg8, gs (2003 + nI (rnN (T 6)) * 20 + 2) (2003 + (rnN (T 6) * 20 + 2)) (ix3 2003 _ 20 2) (by omega), ← q9, q1, bd_t rfl, q2, bd_t rfl, q3, gl 22 22 rfl (by decide), gs 22 22 rfl (by decide), q4, bd_t rfl, q5, bd_t rfl, lt_b, pk_m1]
        unfold J_X12_runs_126
        rw [lt_b, nI_1]
        have := c2 n (by rw [hc1, hlen]; omega)
        rw [hc1] at this
        exact this
      · rw [c7 i (by rw [hlen]; exact hi2), hrow i hi2]
        by_cases q : i = rnN (T 6)
        · rw [if_pos q, q]; rfl
        · rw [if_neg q]
      · rw [c8 j a0 a1 a6]
        unfold rnT
        rw [va_up_ne _ _ a0, va_up_ne _ _ a1, va_up_ne _ _ a6]
      · rw [c9 j a1, va_up_ne _ _ a1]
      · rw [c11 i (by omega), hrow i (by omega), if_neg (by omega)]
      · by_cases q : i = rnN (T 6)
        · rw [c11 i (by omega), hrow i (by omega), if_pos q]; rfl
        · exact c12 i (by omega) h2
    · have hfull : rnN (T 6) = (T 6).length := by omega
      refine ⟨T, V, g, fun n hn => ?_, fun n hn => ?_, h, hI, hk1, rfl, fun _ _ => rfl, fun _ _ _ _ => rfl, fun _ _ => rfl, Or.inr ⟨hfull, by omega⟩, fun _ _ => rfl, fun i h1 h2 => by omega⟩
      · obtain ⟨n, rfl⟩ : ∃ q, n = q + 1 := ⟨n - 1, by omega⟩
        rw [e_X3_runWhatMay_16]
        unfold K_X3_runWhatMay_16 tsize
        rw [if_neg hf0, lt_b, if_pos (nI_le (by omega) (by omega))]
      · obtain ⟨n, rfl⟩ : ∃ q, n = q + 1 := ⟨n - 1, by omega⟩
        rw [e_X12_runs_15]
        unfold K_X12_runs_15
        rw [gl 15 15 rfl (by decide), hm, if_pos (nI_le (by omega) (by omega))]
