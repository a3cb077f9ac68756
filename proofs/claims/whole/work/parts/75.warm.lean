/-! ===== a cold one is warmed: both sides ===== -/
def P.wa (p : P) (a : Nat) : P := P.mk p.room p.c p.lo p.le p.t p.u a
theorem coldRow_c {k v w t s : Int32} (hk : Vk k) (hw : ∃ q, 1 ≤ q ∧ q ≤ 20 ∧ w = nI q) (hv : ∃ q, q ≤ 99999 ∧ v = nI q) (hs : ∃ q, q ≤ 99999 ∧ s = nI q) : cRow (coldRow k v w t s) := ⟨hk, hw, hv, hs⟩
set_option maxHeartbeats 2000000 in
theorem s_warm {N : Nat} (hN : 65536 ≤ N) {p : P} {T : Nat → Rows} {V : Nat → Nat → Int32} {g : Nat → Int32} (h : RR T V g) (hI : Iv p T V) (ha : p.a < 100000) {k : Int32} (hk : Vk k) {i : Nat} (hi : fk 7 (T 5) k = some i) (hno : ∀ r ∈ T 4, ¬ cl r 7 = k) :
    ∃ (r : Int32) (T' : Nat → Rows) (V' : Nat → Nat → Int32) (g' : Nat → Int32) (a' : Nat), F_X6_warm N (V 0) (V 4 0) (T 0) (T 2) (V 1) (T 4) (T 5) (V 3) (V 4 1) (V 4 3) k = some (r, T' 0, T' 2, V' 1, T' 4, T' 5, V' 4 3) ∧ F_X12_warms N g (nI i) = some (r, g') ∧ RR T' V' g' ∧ Iv (p.wa a') T' V' ∧ a' ≤ p.a + 1 ∧ (∀ j, j ≠ 0 → j ≠ 2 → j ≠ 4 → j ≠ 5 → T' j = T j) ∧ (∀ j, j ≠ 1 → j ≠ 4 → V' j = V j) ∧ ∀ j, j ≠ 3 → V' 4 j = V 4 j := by
  obtain ⟨hil, hik⟩ := fk_lt hi
  obtain ⟨hr0, hr1, hr2, hr3, hr4, hr5, hr6, hr7⟩ := hI.r
  have hcl := hI.cold
  have hrow : cRow (rw' (T 5) i) := hI.i0.2.1 _ (mem_at hil)
  obtain ⟨w, hw1, hw2, ew⟩ := hrow.2.1
  have hvv := hrow.2.2.1
  have hss := hrow.2.2.2
  obtain ⟨g1, q1, r1⟩ := s_coldOut hN h hil
  have r2 := s_led r1 (j := 12) (by decide)
  obtain ⟨g3, q3, r3⟩ := s_happens hN r2 (k := k) (Or.inr hk) 12
  have hel : ((T 5).eraseIdx i).length = (T 5).length - 1 := List.length_eraseIdx_of_lt hil
  generalize hT2 : va_up (va_up T 5 ((T 5).eraseIdx i)) 0 (pushK (va_up T 5 ((T 5).eraseIdx i) 0) 12 (va_up V 1 (tallyN (V 1) 12) 4 0) k) = T2 at r3
  have t20 : T2 0 = pushK (T 0) 12 (V 4 0) k := by rw [← hT2]; rfl
  have t25 : T2 5 = (T 5).eraseIdx i := by rw [← hT2]; rfl
  have t2j : ∀ j, j ≠ 0 → j ≠ 5 → T2 j = T j := fun j h0 h5 => by rw [← hT2, vu_ne h0, vu_ne h5]
  generalize hV1 : va_up V 1 (tallyN (V 1) 12) = V1 at r3
  have v11 : V1 1 = tallyN (V 1) 12 := by rw [← hV1]; rfl
  have v1j : ∀ j, j ≠ 1 → V1 j = V j := fun j h1 => by rw [← hV1, vu_ne h1]
  have v10 := v1j 0 (by decide)
  have v13 := v1j 3 (by decide)
  have v14 := v1j 4 (by decide)
  have I2 : Inv0 T2 V1 := by
    refine ⟨?_, ?_, ?_, ?_, ?_⟩
    · rw [t2j 4 (by decide) (by decide), v14]; exact hI.i0.1
    · rw [t25]; exact iC_erase hI.i0.2.1 i
    · rw [t2j 1 (by decide) (by decide)]; exact hI.i0.2.2.1
    · rw [t2j 2 (by decide) (by decide)]; exact hI.i0.2.2.2.1
    · rw [t2j 3 (by decide) (by decide)]; exact hI.i0.2.2.2.2
  have x2 : iX (T2 4) (T2 5) := by
    rw [t2j 4 (by decide) (by decide), t25]
    exact hI.x.sub (fun r hr => ⟨r, hr, rfl⟩) (List.eraseIdx_sublist _ _)
  have hk5 : ∀ q ∈ T2 5, ¬ cl q 7 = k := by rw [t25]; exact cold_gone hI.x.1 hi
  have hsum2 : wSN (T2 4) ≤ p.room := by rw [t2j 4 (by decide) (by decide)]; exact hI.sum
  obtain ⟨r, T3, V3, g4, c1, c2, c3, c4, c5, c6, c7, c8, c9, c10, c11, ⟨a', ha', ea'⟩, c13⟩ := s_letIn hN r3 I2 hr3 (by rw [v10]; exact hr2) (by rw [v10]; exact hr0) hr1 (by rw [t25]; omega) hw1 hw2 (a := p.a) (by rw [v14]; exact hI.n.2.2.2) ha (by rw [v13]; exact hI.sk) hk (by rw [t2j 4 (by decide) (by decide)]; exact hno) hvv hss (t := cl (rw' (T 5) i) 2) hsum2
  have x3 := c13 x2 hk5
  rw [v10, v14, t20, t2j 2 (by decide) (by decide), v11, t2j 4 (by decide) (by decide), t25, v13] at c1
  rw [v14] at c3
  -- both up to whether it is in
  have hoe : oI (some i) = nI i := rfl
  have c1' : F_X6_letIn N (V 0) (V 4 0) (pushK (T 0) 12 (V 4 0) k) (T 2) (tlk (V 1) 12) (T 4) ((T 5).eraseIdx i) (V 3) (V 4 1) (V 4 3) k (cl (rw' (T 5) i) 0) (nI w) (cl (rw' (T 5) i) 2) (cl (rw' (T 5) i) 6) = some (r, T3 0, T3 2, V3 1, T3 4, T3 5, V3 4 3) := c1
  have hrc := h.2.2.2.2.2.1
  have sh : ∀ (X : Int32 × (Nat → Int32) → Option (Int32 × (Nat → Int32))), (bd (F_X12_takesOut N g 14 1898 5 (nI i)) (fun o_6 =>
      ld o_6 8787 32 (fun v_7 =>
      sto o_6 8787 32 (v_7 + 1) (fun g_8 =>
      bd (F_X12_happens N g_8 12 (kc k)) (fun o_9 =>
      bd (F_X12_letsIn N o_9 (kc k) (cl (rw' (T 5) i) 0) (nI w) (cl (rw' (T 5) i) 2) (cl (rw' (T 5) i) 6)) X))))) = X (r, g4) := by
    intro X
    have q3' : F_X12_happens N (upd g1 32 (g1 32 + 1)) 12 (kc k) = some g3 := q3
    rw [q1, bd_some, gl 32 32 rfl (by decide), gs 32 32 rfl (by decide), q3', bd_some, c2, bd_some]
  have hc0 : F_X12_coldAt g (nI i) 0 = some (kc k) := by
    rw [s_coldAt hrc hil 0 0 rfl (by decide), ← hik]; rfl
  have hc1 : F_X12_coldAt g (nI i) 1 = some (cl (rw' (T 5) i) 0) := s_coldAt hrc hil 1 1 rfl (by decide)
  have hc2 : F_X12_coldAt g (nI i) 2 = some (nI w) := by rw [s_coldAt hrc hil 2 2 rfl (by decide), ← ew]; rfl
  have hc3 : F_X12_coldAt g (nI i) 3 = some (cl (rw' (T 5) i) 2) := s_coldAt hrc hil 3 3 rfl (by decide)
  have hc4 : F_X12_coldAt g (nI i) 4 = some (cl (rw' (T 5) i) 6) := s_coldAt hrc hil 4 4 rfl (by decide)
  have v30 : V3 0 = V 0 := (c10 0 (by decide) (by decide)).trans v10
  have v33 : V3 3 = V 3 := (c10 3 (by decide) (by decide)).trans v13
  have t31 : T3 1 = T 1 := (c9 1 (by decide) (by decide) (by decide) (by decide)).trans (t2j 1 (by decide) (by decide))
  have t36 : T3 6 = T 6 := (c9 6 (by decide) (by decide) (by decide) (by decide)).trans (t2j 6 (by decide) (by decide))
  have t37 : T3 7 = T 7 := (c9 7 (by decide) (by decide) (by decide) (by decide)).trans (t2j 7 (by decide) (by decide))
  have t38 : T3 8 = T 8 := (c9 8 (by decide) (by decide) (by decide) (by decide)).trans (t2j 8 (by decide) (by decide))
  have hld : iLd T3 p.t := by
    unfold iLd
    rw [t31, t36, t37, t38]
    exact hI.ld
  have hn' : V3 4 0 = nI p.t ∧ p.t ≤ 99999 ∧ V3 4 5 = nI p.u ∧ V3 4 3 = nI a' := by
    refine ⟨?_, hI.n.2.1, ?_, ea'⟩
    · rw [c11 0 (by decide), v14]; exact hI.n.1
    · rw [c11 5 (by decide), v14]; exact hI.n.2.2.1
  by_cases hr : r = 0
  · obtain ⟨eT3, eV3⟩ := c6 hr
    rw [if_pos hr] at c3
    obtain ⟨g5, q5, r5⟩ := s_cools hN hr3 c3 (by rw [v30]; exact hr2) (by show (T3 5).length ≤ 20; rw [eT3, t25]; omega) k (cl (rw' (T 5) i) 0) (nI w) (cl (rw' (T 5) i) 2) (cl (rw' (T 5) i) 6)
    have l5 : (T3 5 ++ [coldRow k (cl (rw' (T 5) i) 0) (nI w) (cl (rw' (T 5) i) 2) (cl (rw' (T 5) i) 6)]).length ≤ p.c := by
      rw [List.length_append, List.length_singleton, eT3, t25]; omega
    have e5 : trimC p.c (T3 5 ++ [coldRow k (cl (rw' (T 5) i) 0) (nI w) (cl (rw' (T 5) i) 2) (cl (rw' (T 5) i) 6)]) = T3 5 ++ [coldRow k (cl (rw' (T 5) i) 0) (nI w) (cl (rw' (T 5) i) 2) (cl (rw' (T 5) i) 6)] := by
      unfold trimC
      rw [show (T3 5 ++ [coldRow k (cl (rw' (T 5) i) 0) (nI w) (cl (rw' (T 5) i) 2) (cl (rw' (T 5) i) 6)]).length - p.c = 0 by omega]
      rfl
    have e5' : trimC p.c (va_up T3 0 (pushK (T3 0) 5 (V 4 0) k) 5 ++ [coldRow k (cl (rw' (T 5) i) 0) (nI w) (cl (rw' (T 5) i) 2) (cl (rw' (T 5) i) 6)]) = T3 5 ++ [coldRow k (cl (rw' (T 5) i) 0) (nI w) (cl (rw' (T 5) i) 2) (cl (rw' (T 5) i) 6)] := e5
    rw [e5'] at r5
    generalize hcr : coldRow k (cl (rw' (T 5) i) 0) (nI w) (cl (rw' (T 5) i) 2) (cl (rw' (T 5) i) 6) = cr at r5 l5
    have hcr7 : cl cr 7 = k := by rw [← hcr]; rfl
    refine ⟨cl (rw' (T 5) i) 0, va_up (va_up T3 0 (pushK (T3 0) 5 (V 4 0) k)) 5 (T3 5 ++ [cr]), V3, g5, a', ?_, ?_, r5, ⟨by rw [v30]; exact hI.r, ⟨c4.1, ?_, c4.2.2⟩, ?_, c8, l5, hn', by rw [v33]; exact hI.sk, hld⟩, ha', ?_, fun j h1 h4 => by rw [c10 j h1 h4, v1j j h1], fun j h3 => by rw [c11 j h3, v14]⟩
    · unfold F_X6_warm
      rw [n_rowOf, bd_some, hi, hoe, n_get0 (by omega) 0 0 rfl (by decide), bd_some, n_get0 (by omega) 1 1 rfl (by decide), bd_some, n_get0 (by omega) 2 2 rfl (by decide), bd_some, n_get0 (by omega) 6 6 rfl (by decide), bd_some, n_remove0 (by omega), bd_some, n_noteI hN (Or.inr hk) (V 4 0) (T 0) (V 1) 12 12 rfl (by decide), bd_some, ew]
      dsimp only
      rw [c1', bd_some]
      dsimp only
      unfold J_X6_warm_106 J_X6_warm_120
      rw [if_pos hr, n_add (by decide) (by rw [eT3, t25]; omega) (by decide), bd_some, if_pos hr, n_noteI hN (Or.inr hk) (V 4 0) (T3 0) (V3 1) 5 5 rfl (by decide), bd_some]
      rw [hcr]
      have hkr : keepR 20 (T3 5) = T3 5 := by unfold keepR; rw [if_pos (by rw [eT3, t25]; omega)]
      rw [hkr]
      rfl
    · unfold F_X12_warms
      rw [hc0, bd_some, hc1, bd_some, hc2, bd_some, hc3, bd_some, hc4, bd_some]
      refine (sh _).trans ?_
      dsimp only
      rw [if_pos hr, q5, bd_some]
    · intro q hq
      rcases List.mem_append.mp hq with z | z
      · exact c4.2.1 q z
      · rw [List.mem_singleton.mp z, ← hcr]
        exact coldRow_c hk ⟨w, hw1, hw2, rfl⟩ hvv hss
    · show iX (T3 4) (T3 5 ++ [cr])
      refine ⟨List.pairwise_append.mpr ⟨x3.1, List.pairwise_singleton _ _, fun r2 hr2 q hq => ?_⟩, fun r2 hr2 q hq => ?_⟩
      · rw [List.mem_singleton.mp hq, hcr7]
        exact hk5 r2 (by rw [← eT3]; exact hr2)
      · rcases List.mem_append.mp hq with z | z
        · exact x3.2 r2 hr2 q z
        · rw [List.mem_singleton.mp z, hcr7]
          rw [eT3, t2j 4 (by decide) (by decide)] at hr2
          exact hno r2 hr2
    · intro j h0 h2 h4 h5
      rw [vu_ne h5, vu_ne h0, c9 j h0 h2 h4 h5, t2j j h0 h5]
  · rw [if_neg hr] at c3
    refine ⟨cl (rw' (T 5) i) 0, va_up T3 0 (pushK (T3 0) 4 (V 4 0) k), V3, g4, a', ?_, ?_, c3, ⟨by rw [v30]; exact hI.r, c4, x3, c8, c7, hn', by rw [v33]; exact hI.sk, hld⟩, ha', ?_, fun j h1 h4 => by rw [c10 j h1 h4, v1j j h1], fun j h3 => by rw [c11 j h3, v14]⟩
    · unfold F_X6_warm
      rw [n_rowOf, bd_some, hi, hoe, n_get0 (by omega) 0 0 rfl (by decide), bd_some, n_get0 (by omega) 1 1 rfl (by decide), bd_some, n_get0 (by omega) 2 2 rfl (by decide), bd_some, n_get0 (by omega) 6 6 rfl (by decide), bd_some, n_remove0 (by omega), bd_some, n_noteI hN (Or.inr hk) (V 4 0) (T 0) (V 1) 12 12 rfl (by decide), bd_some, ew]
      dsimp only
      rw [c1', bd_some]
      dsimp only
      unfold J_X6_warm_106 J_X6_warm_120
      rw [if_neg hr, if_neg hr, n_noteI hN (Or.inr hk) (V 4 0) (T3 0) (V3 1) 4 4 rfl (by decide), bd_some]
      rfl
    · unfold F_X12_warms
      rw [hc0, bd_some, hc1, bd_some, hc2, bd_some, hc3, bd_some, hc4, bd_some]
      refine (sh _).trans ?_
      dsimp only
      rw [if_neg hr]
    · intro j h0 h2 h4 h5
      rw [vu_ne h0, c9 j h0 h2 h4 h5, t2j j h0 h5]
