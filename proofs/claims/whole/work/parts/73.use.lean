/-! ===== a use begins: both sides ===== -/
def usT (T : Nat → Rows) (k : Int32) : Nat → Rows := va_up T 3 (keepR 60 (T 3) ++ [[k]])
noncomputable def usV (V : Nat → Nat → Int32) (k : Int32) (a : Nat) : Nat → Nat → Int32 := va_up (va_up (va_up (va_up V 4 (upd (V 4) 1 (V 4 1 + 1))) 1 (tallyN (V 1) 0)) 2 (tallyN (V 2) (a * 4 + 0))) 3 (sadd (hn k) 4 (V 3))
theorem n_noteUse (late : Rows) (s o : Nat → Int32) {a : Nat} (ha : a < 16) (k : Int32) : F_X2_noteUse late s o (nI a) k = some (keepR 60 late ++ [[k]], tallyN s 0, tallyN o (a * 4 + 0)) := by
  unfold F_X2_noteUse
  rw [lt_b, tpush1, n_tally s (x := 0) (j := 0) rfl (by decide), bd_some, n_tallyOf o ha 0 rfl (by decide), bd_some]
theorem s_uses {N : Nat} (hN : 65536 ≤ N) {T : Nat → Rows} {V : Nat → Nat → Int32} {g : Nat → Int32} (h : RR T V g) (h15 : c15 (V 3)) {k : Int32} (hk : Vk k) {a : Nat} (ha : a < 16) :
    ∃ g', F_X12_uses N g (kc k) (nI a) = some g' ∧ RR (usT T k) (usV V k a) g' := by
  have r1 : RR T (va_up V 4 (upd (V 4) 1 (V 4 1 + 1))) (upd g 9 (V 4 1 + 1)) := by
    have hr0 := h.2.2.2.2.2.2.2.2.1
    have := h.uR0 (v := V 0) (sc := upd (V 4) 1 (V 4 1 + 1)) (g' := upd g 9 (V 4 1 + 1)) (by
      obtain ⟨q1, q2, q3, q4, q5, n1, w1, q6, q7, q8, q9, q10, q11, q12⟩ := hr0
      refine ⟨fun i hi => by rw [upd_ne (by omega)]; exact q1 i hi, ?_, ?_, ?_, ?_, n1, w1, q6, q7, q8, ?_, q10, ?_, ?_⟩
      · rw [upd_ne (by decide), upd_ne (by decide)]; exact q2
      · rw [upd_at, upd_at]
      · rw [upd_ne (by decide), upd_ne (by decide)]; exact q4
      · rw [upd_ne (by decide), upd_ne (by decide)]; exact q5
      · rw [upd_ne (by decide)]; exact q9
      · rw [upd_ne (by decide)]; exact q11
      · rw [upd_ne (by decide)]; exact q12) (fun p hp hq => upd_ne (by omega))
    rw [va_same] at this
    exact this
  have r2 := s_led r1 (j := 0) (by decide)
  have r3 := s_of r2 (j := a * 4 + 0) (by omega)
  have g9 : g 9 = V 4 1 := h.2.2.2.2.2.2.2.2.1.2.2.1
  generalize hg3 : upd (upd (upd g 9 (V 4 1 + 1)) (20 + 0) (upd g 9 (V 4 1 + 1) (20 + 0) + 1)) (8403 + (a * 4 + 0)) (upd (upd g 9 (V 4 1 + 1)) (20 + 0) (upd g 9 (V 4 1 + 1) (20 + 0) + 1) (8403 + (a * 4 + 0)) + 1) = g3 at r3
  have hra := r3.2.2.2.1
  have h60 : (T 3).length ≤ 60 := hra.2
  obtain ⟨g4, c1, c2, c3, c4⟩ := g_slot hN (most := 60) hra.1 (by decide) (by decide) (by rw [List.length_map]; exact h60) (by decide) (by decide) (Or.inl (by decide))
  rw [keepR_map, List.length_map] at c1 c2 c3
  have hkl := keepR_len (most := 60) h60 (by decide)
  generalize hnl : (keepR 60 (T 3)).length = n at c1 c2 c3 hkl
  have r4 : RR (usT T k) (va_up (va_up (va_up V 4 (upd (V 4) 1 (V 4 1 + 1))) 1 (tallyN (V 1) 0)) 2 (tallyN (V 2) (a * 4 + 0))) (upd g4 (8607 + n * 1) (kc k)) := by
    refine r3.uRA ⟨?_, by rw [List.length_append, List.length_singleton, hnl]; omega⟩ (fun p hp hq => ?_)
    · rw [List.map_append]
      refine GT.pushed (g' := g4) (by rw [List.length_map, hnl]; exact c2) (by rw [List.length_map, hnl]; exact c3) (by rw [upd_ne (by omega)]) (fun p h5 h6 => ?_) (fun j hj => ?_)
      · rw [List.length_map, hnl] at h6; rw [upd_ne (by omega)]
      · rw [List.length_map, hnl, show j = 0 by omega, show 8607 + (n * 1 + 0) = 8607 + n * 1 by omega, upd_at]
        rfl
    · rw [upd_ne (by omega)]
      exact c4 p (by omega) (by omega)
  have h0 : RR (usT T k) (va_up (va_up (va_up (va_up V 4 (upd (V 4) 1 (V 4 1 + 1))) 1 (tallyN (V 1) 0)) 2 (tallyN (V 2) (a * 4 + 0))) 3 (sadd (hn k) 0 (V 3))) (upd g4 (8607 + n * 1) (kc k)) := by
    have e : va_up (va_up (va_up (va_up V 4 (upd (V 4) 1 (V 4 1 + 1))) 1 (tallyN (V 1) 0)) 2 (tallyN (V 2) (a * 4 + 0))) 3 (sadd (hn k) 0 (V 3)) = va_up (va_up (va_up V 4 (upd (V 4) 1 (V 4 1 + 1))) 1 (tallyN (V 1) 0)) 2 (tallyN (V 2) (a * 4 + 0)) := va_same _ 3
    rw [e]; exact r4
  obtain ⟨g', d1, d2⟩ := s_skaddL hN hk h15 N 0 _ (by omega) (by omega) h0
  refine ⟨g', ?_, d2⟩
  unfold F_X12_uses
  have e1 : (8403 : Int32) + 4 * nI a = nI (8403 + (a * 4 + 0)) := by
    have : (4 : Int32) * nI a = nI (4 * a) := pk_mul 4 a
    rw [this]
    have e3 : (8403 : Int32) + nI (4 * a) = nI (8403 + 4 * a) := nI_add 8403 (4 * a)
    rw [e3]
    congr 1
    omega
  have c1' : F_X12_slot N g3 18 8607 1 60 = some (nI (8607 + n * 1), g4) := c1
  rw [gl 9 9 rfl (by decide), g9, gs 9 9 rfl (by decide), gl 20 20 rfl (by decide), gs 20 20 rfl (by decide), e1, gl _ (8403 + (a * 4 + 0)) rfl (by omega), gs _ (8403 + (a * 4 + 0)) rfl (by omega)]
  have hg3' : upd (upd (upd g 9 (V 4 1 + 1)) 20 (upd g 9 (V 4 1 + 1) 20 + 1)) (8403 + (a * 4 + 0)) (upd (upd g 9 (V 4 1 + 1)) 20 (upd g 9 (V 4 1 + 1) 20 + 1) (8403 + (a * 4 + 0)) + 1) = g3 := hg3
  rw [hg3', c1', bd_some]
  dsimp only
  rw [gs _ (8607 + n * 1) rfl (by omega)]
  exact d1
theorem us_iv {p : P} {T : Nat → Rows} {V : Nat → Nat → Int32} (h : Iv p T V) {k : Int32} (hk : Vk k) (a : Nat) : Iv p (usT T k) (usV V k a) := by
  have e4 : usV V k a 4 = upd (V 4) 1 (V 4 1 + 1) := rfl
  refine ⟨h.r, ⟨?_, h.i0.2.1, h.i0.2.2.1, h.i0.2.2.2.1, ?_⟩, h.x, h.sum, h.cold, ?_, c15_sadd h.sk 4 (by omega), h.ld⟩
  · rw [e4, upd_ne (by decide)]; exact h.i0.1
  · intro r hr
    rcases List.mem_append.mp hr with z | z
    · exact h.i0.2.2.2.2 r (keepR_mem z)
    · rw [List.mem_singleton.mp z]; exact hk
  · rw [e4]
    exact ⟨by rw [upd_ne (by decide)]; exact h.n.1, h.n.2.1, by rw [upd_ne (by decide)]; exact h.n.2.2.1, by rw [upd_ne (by decide)]; exact h.n.2.2.2⟩
