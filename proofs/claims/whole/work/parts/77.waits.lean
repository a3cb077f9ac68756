/-! ===== a wait begins: both sides ===== -/
theorem iW_push2 {line waits : Rows} (h : iW line waits) {k : Int32} (hk : ∃ q ∈ line, cl q 0 = k) {a : Nat} (ha : a < 16) : iW line (waits ++ [[k, nI a]]) := by
  intro r hr
  rcases List.mem_append.mp hr with z | z
  · exact h r z
  · rw [List.mem_singleton.mp z]
    exact ⟨hk, a, ha, rfl⟩
theorem keep_lt {m : Nat} {rows : Rows} (h : rows.length < m) : keepR m rows = rows := by unfold keepR; rw [if_pos h]
theorem s_wait {N : Nat} (hN : 65536 ≤ N) {p : P} {T : Nat → Rows} {V : Nat → Nat → Int32} {g : Nat → Int32} (h : RR T V g) (hI : Iv p T V) (hl : (T 6).length < 256) (hw : (T 7).length < 256) {k : Int32} (hkV : Vk k) {a : Nat} (ha : a < 16) :
    ∃ (T' : Nat → Rows) (V' : Nat → Nat → Int32) (g' : Nat → Int32), F_X3_waitFor N (V 0) (V 4 0) (T 0) (T 1) (V 1) (T 6) (T 7) (nI a) k = some (T' 0, T' 1, V' 1, T' 6, T' 7) ∧ J_X12_asks_86 N (kc k) (nI a) g = some (-1006, g') ∧ RR T' V' g' ∧ Iv p T' V' ∧ (T' 6).length ≤ (T 6).length + 1 ∧ (T' 7).length ≤ (T 7).length + 1 ∧ (∀ j, j ≠ 0 → j ≠ 1 → j ≠ 6 → j ≠ 7 → T' j = T j) ∧ ∀ j, j ≠ 1 → V' j = V j := by
  have hrl := h.2.2.2.2.2.2.1
  have hlo := s_loadOf hN hrl hI.ld.1 hkV
  have h31 : ∀ j, fk 0 (T 6) k = some j → j < 2 ^ 31 := fun j hj => by have := (fk_lt hj).1; omega
  unfold F_X3_waitFor J_X12_asks_86
  rw [n_loadRow, bd_some, hlo, bd_some]
  cases hf : fk 0 (T 6) k with
  | none =>
    have hnew : ∀ q ∈ T 6, ¬ cl q 0 = k := fk_none hf
    obtain ⟨T', V', g', d1, d2, d3, d4, d5, d6, d7, d8, d9, d10, d11, d12, d13⟩ := s_lineUp hN h hI.ld.1 hI.ld.2.1 hI.ld.2.2.2.2.2 hI.r.2.2.2.2.1 hI.r.2.2.2.2.2.1 hkV hnew hl (some a) (fun _ z => by cases z; exact ha)
    have d4' : T' 7 = T 7 ++ [[k, nI a]] := d4
    have d2' : F_X12_lines N g (kc k) (nI a) = some g' := d2
    refine ⟨T', V', g', ?_, ?_, d3, ?_, by omega, by rw [d4', List.length_append, List.length_singleton]; omega, fun j h0 h1 h6 h7 => d9 j h0 h1 h6 h7, fun j h1 => d10 j h1⟩
    · rw [if_pos (show oI none = -1 from rfl), lt_b, tpush2, keep_lt hw, d1, bd_some, d4']
    · rw [if_pos (show oI none < 0 by decide), d2', bd_some]
    · have v0 := d10 0 (by decide)
      have v3 := d10 3 (by decide)
      have v4 := d10 4 (by decide)
      refine ⟨by rw [v0]; exact hI.r, ⟨?_, ?_, d7, ?_, ?_⟩, ?_, ?_, ?_, by rw [v4]; exact hI.n, by rw [v3]; exact hI.sk, ⟨d5, d6, ?_, ?_, ?_, d7⟩⟩
      · rw [d9 4 (by decide) (by decide) (by decide) (by decide), v4]; exact hI.i0.1
      · rw [d9 5 (by decide) (by decide) (by decide) (by decide)]; exact hI.i0.2.1
      · rw [d9 2 (by decide) (by decide) (by decide) (by decide)]; exact hI.i0.2.2.2.1
      · rw [d9 3 (by decide) (by decide) (by decide) (by decide)]; exact hI.i0.2.2.2.2
      · rw [d9 4 (by decide) (by decide) (by decide) (by decide), d9 5 (by decide) (by decide) (by decide) (by decide)]; exact hI.x
      · rw [d9 4 (by decide) (by decide) (by decide) (by decide)]; exact hI.sum
      · rw [d9 5 (by decide) (by decide) (by decide) (by decide)]; exact hI.cold
      · rw [d4']
        refine iU_push hI.ld.2.2.1 ?_
        rw [wl_nil hI.ld.2.1 hnew]
        exact List.not_mem_nil
      · exact iG_ext hI.ld.2.2.2.1 hI.n.1 d11 d12 d13
      · rw [d9 8 (by decide) (by decide) (by decide) (by decide)]; exact hI.ld.2.2.2.2.1
  | some l =>
    obtain ⟨hll, hlk⟩ := fk_lt hf
    have hne : ¬ oI (some l) = -1 := fun z => by
      have := (oI_m1 (o := some l) (fun j hj => by cases hj; omega)).mp z
      cases this
    have hge : ¬ oI (some l) < 0 := nI_pos (by omega)
    have hwt := s_waiterOf hN hrl hll hlk (nI a)
    have hoe : oI (some l) = nI l := rfl
    rw [if_neg hne, if_neg hge, n_rowOfWait hN (by omega), bd_some, hoe]
    unfold F_X12_joins
    rw [hwt, bd_some]
    by_cases hin : nI a ∈ wl (T 7) k
    · have f1 : ¬ fw (T 7) k (nI a) = none := fun z => (fw_none.mp z) hin
      have f2 : ¬ fx (wl (T 7) k) (nI a) = none := fun z => (fx_none.mp z) hin
      have f31 : ∀ j, fw (T 7) k (nI a) = some j → j < 2 ^ 31 := fun j hj => by
        have : j < (T 7).length := by
          unfold fw at hj
          rw [List.findIdx?_eq_some_iff_getElem] at hj
          exact hj.1
        omega
      have g1 : ¬ oI (fw (T 7) k (nI a)) = -1 := fun z => f1 ((oI_m1 f31).mp z)
      have h16 := (LR16 hrl hll).1
      rw [hlk] at h16
      have g2 : 0 ≤ oI (fx (wl (T 7) k) (nI a)) := by
        cases hx : fx (wl (T 7) k) (nI a) with
        | none => exact absurd hx f2
        | some j =>
          unfold fx at hx
          rw [List.findIdx?_eq_some_iff_getElem] at hx
          obtain ⟨h1, -⟩ := hx
          exact Int32.not_lt.mp (nI_pos (by omega))
      refine ⟨T, V, g, ?_, ?_, h, hI, by omega, by omega, fun _ _ _ _ _ => rfl, fun _ _ => rfl⟩
      · rw [if_neg g1]
      · rw [if_pos g2, bd_some]
    · have f1 : fw (T 7) k (nI a) = none := fw_none.mpr hin
      have f2 : fx (wl (T 7) k) (nI a) = none := fx_none.mpr hin
      have hU2 := iU_push hI.ld.2.2.1 hin
      have hW2 := iW_push2 hI.ld.2.1 (k := k) ⟨_, mem_at hll, hlk⟩ ha
      have hm15 : (wl (T 7) k).length < 16 := by
        have n1 := nodup_len 16 (wl (T 7 ++ [[k, nI a]]) k) (wl_nodup hU2 k) (wl_as16 hW2 k)
        rw [wl_push, if_pos rfl, List.length_append, List.length_singleton] at n1
        omega
      generalize hm : (wl (T 7) k).length = m at hm15
      have r1 := s_joined h hI.ld.1 hll hlk (nI a) hm hm15
      have r2 := s_led r1 (j := 3) (by decide)
      obtain ⟨g3, q3, r3⟩ := s_happens hN r2 (k := k) (Or.inr hkV) 2
      have hc3 : g (2003 + (l * 20 + 3)) = nI m := by
        obtain ⟨lr, hG, hlen, h256, hLR⟩ := hrl
        have := (hLR l hll).2.2.2.1
        rw [show (List.getD (T 6) l []).getD 0 0 = k from hlk, hm] at this
        rw [← this]
        exact hG.2 l 3 (by omega) (by decide)
      have hc0 : g (2003 + (l * 20 + 0)) = kc k := by
        obtain ⟨lr, hG, hlen, h256, hLR⟩ := hrl
        have := (hLR l hll).1
        rw [show (List.getD (T 6) l []).getD 0 0 = k from hlk] at this
        rw [← this]
        exact hG.2 l 0 (by omega) (by decide)
      refine ⟨va_up (va_up T 7 (T 7 ++ [[k, nI a]])) 0 (pushK (T 0) 2 (V 4 0) k), va_up V 1 (tallyN (V 1) 3), g3, ?_, ?_, r3, ⟨hI.r, ⟨hI.i0.1, hI.i0.2⟩, hI.x, hI.sum, hI.cold, hI.n, hI.sk, ⟨hI.ld.1, hW2, hU2, hI.ld.2.2.2⟩⟩, by show (T 6).length ≤ _; omega, ?_, fun j h0 h1 h6 h7 => by rw [vu_ne h0, vu_ne h7], fun j h1 => by rw [vu_ne h1]⟩
      · rw [f1, if_pos (show oI none = -1 from rfl), lt_b, tpush2, keep_lt hw, n_noteI hN (Or.inr hkV) (V 4 0) (T 0) (V 1) 2 2 rfl (by decide), bd_some]
        rfl
      · have e0 : (2003 : Int32) + nI l * 20 = nI (2003 + l * 20) := ix2 2003 l 20
        have e3 : nI (2003 + l * 20) + 3 = nI (2003 + (l * 20 + 3)) := by
          have : nI (2003 + l * 20) + 3 = nI (2003 + l * 20 + 3) := nI_add _ 3
          rw [this, Nat.add_assoc]
        have e4 : nI (2003 + l * 20) + 4 + nI m = nI (2003 + (l * 20 + (4 + m))) := by
          have : nI (2003 + l * 20) + 4 = nI (2003 + l * 20 + 4) := nI_add _ 4
          rw [this, nI_add]
          congr 1
          omega
        have e00 : nI (2003 + l * 20) + 0 = nI (2003 + (l * 20 + 0)) := by rw [Int32.add_zero]; rfl
        have q3' : F_X12_happens N (upd (upd (upd g (2003 + (l * 20 + (4 + m))) (nI a)) (2003 + (l * 20 + 3)) (nI (m + 1))) 23 (upd (upd g (2003 + (l * 20 + (4 + m))) (nI a)) (2003 + (l * 20 + 3)) (nI (m + 1)) 23 + 1)) 2 (kc k) = some g3 := q3
        have hk5 : ∀ X, upd (upd (upd g (2003 + (l * 20 + (4 + m))) (nI a)) (2003 + (l * 20 + 3)) (nI (m + 1))) 23 X (2003 + (l * 20 + 0)) = kc k := fun X => by rw [upd_ne (by omega), upd_ne (by omega), upd_ne (by omega), hc0]
        rw [f2, if_neg (show ¬ (0 : Int32) ≤ oI none by decide), lt_b, e0, e3, gl _ (2003 + (l * 20 + 3)) rfl (by omega), hc3, e4, gs _ (2003 + (l * 20 + (4 + m))) rfl (by omega), gl _ (2003 + (l * 20 + 3)) rfl (by omega), upd_ne (by omega), hc3, nI_1, gs _ (2003 + (l * 20 + 3)) rfl (by omega), gl 23 23 rfl (by decide), gs 23 23 rfl (by decide), e00, gl _ (2003 + (l * 20 + 0)) rfl (by omega), hk5, q3', bd_some, bd_some]
      · show (T 7 ++ [[k, nI a]]).length ≤ _
        rw [List.length_append, List.length_singleton]
        omega
