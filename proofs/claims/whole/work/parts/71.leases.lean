/-! ===== leases end; a step: both sides ===== -/
theorem nI_le_iff {a b : Nat} (ha : a < 2 ^ 31) (hb : b < 2 ^ 31) : nI a ≤ nI b ↔ a ≤ b := by
  constructor
  · intro h
    by_cases q : a ≤ b
    · exact q
    · exact absurd h (nI_ge (by omega) ha)
  · intro h; exact nI_le h hb
theorem nI_lt_iff {a b : Nat} (ha : a < 2 ^ 31) (hb : b < 2 ^ 31) : nI a < nI b ↔ a < b := by
  constructor
  · intro h
    by_cases q : a < b
    · exact q
    · exact absurd h (nI_nlt (by omega) ha)
  · intro h; exact nI_lt h hb
/-- from a load on that is not over, and none behind it: nothing happens -/
theorem s_noneL {N : Nat} {T : Nat → Rows} {V : Nat → Nat → Int32} {g : Nat → Int32} (h : RR T V g) (hI : iL (T 6)) {le t : Nat} (hle : V 0 7 = nI le) (hle9 : le ≤ 999) (hn : V 4 0 = nI t) (ht : t ≤ 99999) (hno : ∀ i, i < rnN (T 6) → ∃ a, a ≤ 99999 ∧ cl (rw' (T 6) i) 2 = nI a ∧ t < a + le) (kk : (Nat → Int32) → (Option (Int32 × (Nat → Int32)))) : ∀ (n i : Nat), i ≤ (T 6).length → (T 6).length < n + i → L_X12_step_46 N kk n (nI i) g = kk g := by
  have h256 : (T 6).length ≤ 256 := by obtain ⟨lr, hG, hle, h6, -⟩ := h.2.2.2.2.2.2.1; exact h6
  have hm : g 15 = nI (T 6).length := by obtain ⟨lr, hG, hle, h6, -⟩ := h.2.2.2.2.2.2.1; rw [hG.1, hle]
  have hg7 : g 7 = nI le := by rw [h.2.2.2.2.2.2.2.2.1.1 7 (by decide)]; exact hle
  have hg8 : g 8 = nI t := by rw [h.2.2.2.2.2.2.2.2.1.2.1]; exact hn
  intro n
  induction n with
  | zero => intro i h1 h2; omega
  | succ n ih =>
    intro i h1 h2
    rw [e_X12_step_46]
    unfold K_X12_step_46 J_X12_step_137
    rw [gl 7 7 rfl (by decide), hg7, gl 15 15 rfl (by decide), hm]
    by_cases q0 : le = 0
    · rw [q0, if_pos (show nI 0 ≤ 0 by decide)]
    rw [if_neg (nI_nle (by omega) (by omega))]
    by_cases q : i = (T 6).length
    · rw [q, if_pos (nI_le (Nat.le_refl _) (by omega))]
    have hi : i < (T 6).length := by omega
    have q4 := LR16 h.2.2.2.2.2.2.1 hi
    rw [if_neg (nI_ge hi (by omega)), q4.2.2.2.1, bd_some]
    have hr := hI.2.1 i hi
    by_cases q2 : i < rnN (T 6)
    · rw [if_pos q2] at hr
      obtain ⟨a, ha, ea, hlt⟩ := hno i q2
      rw [hr, if_pos rfl, if_pos rfl, gl 8 8 rfl (by decide), hg8, q4.2.2.2.2.1 hr, bd_some, gl 7 7 rfl (by decide), hg7, ea, nI_add, if_pos (nI_lt hlt (by omega)), lt_b, nI_1]
      exact ih (i + 1) (by omega) (by omega)
    · rw [if_neg q2] at hr
      rw [hr, if_neg (show ¬ (0 : Int32) = 1 by decide), if_neg (show ¬ (1 : Int32) = 2 by decide), lt_b, nI_1]
      exact ih (i + 1) (by omega) (by omega)
abbrev ekk : Rows → Rows → (Nat → Int32) → (Nat → Int32) → Rows → Rows → Rows → (Option (Rows × Rows × (Nat → Int32) × (Nat → Int32) × Rows × Rows × Rows)) := fun book told sums asum line waits boxes => some (book, told, sums, asum, line, waits, boxes)
theorem s_leasesL {N : Nat} (hN : 65536 ≤ N) {le t lo : Nat} (hle9 : le ≤ 999) (ht : t ≤ 99999) (hlo8 : lo ≤ 8) (kk : (Nat → Int32) → (Option (Int32 × (Nat → Int32)))) : ∀ (m : Nat) (T : Nat → Rows) (V : Nat → Nat → Int32) (g : Nat → Int32), RR T V g → iLd T t → V 4 0 = nI t → V 0 7 = nI le → V 0 4 = nI lo → (T 7).length < 65536 → m ≤ rnN (T 6) → (∀ i, m ≤ i → i < rnN (T 6) → cl (rw' (T 6) i) 2 = nI t) →
    ∃ (T' : Nat → Rows) (V' : Nat → Nat → Int32) (g' : Nat → Int32), (∀ n, m < n → L_X3_endLeases_5 N ekk (V 0) (V 4 0) n (nI m) (T 0) (T 1) (V 1) (V 2) (T 6) (T 7) (T 8) = some (T' 0, T' 1, V' 1, V' 2, T' 6, T' 7, T' 8)) ∧ (∀ n, m + (T 6).length < n → L_X12_step_46 N kk n 0 g = kk g') ∧ RR T' V' g' ∧ iLd T' t ∧ fL T T' V V' := by
  intro m
  induction m with
  | zero =>
    intro T V g h hI hn h7 h4 hw hm hnow
    refine ⟨T, V, g, fun n hn0 => ?_, fun n hn0 => ?_, h, hI, ⟨fun _ _ _ _ _ _ => rfl, fun _ _ _ => rfl, Nat.le_refl _, Nat.le_refl _⟩⟩
    · obtain ⟨n, rfl⟩ : ∃ q, n = q + 1 := ⟨n - 1, by omega⟩
      rw [e_X3_endLeases_5]
      unfold K_X3_endLeases_5
      rw [if_pos (show nI 0 ≤ 0 by decide)]
    · by_cases q0 : le = 0
      · have hg7 : g 7 = nI le := by rw [h.2.2.2.2.2.2.2.2.1.1 7 (by decide)]; exact h7
        obtain ⟨n, rfl⟩ : ∃ q, n = q + 1 := ⟨n - 1, by omega⟩
        rw [e_X12_step_46]
        unfold K_X12_step_46
        rw [gl 7 7 rfl (by decide), hg7, q0, if_pos (show nI 0 ≤ 0 by decide)]
      · exact s_noneL h hI.1 h7 hle9 hn ht (fun i hi => ⟨t, ht, hnow i (Nat.zero_le _) hi, by omega⟩) kk n 0 (Nat.zero_le _) (by omega)
  | succ m ih =>
    intro T V g h hI hn h7 h4 hw hm hnow
    have h256 : (T 6).length ≤ 256 := by obtain ⟨lr, hG, hle, h6, -⟩ := h.2.2.2.2.2.2.1; exact h6
    have hrl := rnN_le (T 6)
    have h0l : 0 < (T 6).length := by omega
    have hI' := id hI
    obtain ⟨i1, i2, i3, i4, i5, i6⟩ := hI'
    obtain ⟨f, f1, f2⟩ := id i4
    have hb0 := f1 0 (by omega)
    have hg7 : g 7 = nI le := by rw [h.2.2.2.2.2.2.2.2.1.1 7 (by decide)]; exact h7
    have hg8 : g 8 = nI t := by rw [h.2.2.2.2.2.2.2.2.1.2.1]; exact hn
    have hm15 : g 15 = nI (T 6).length := by obtain ⟨lr, hG, hle, h6, -⟩ := h.2.2.2.2.2.2.1; rw [hG.1, hle]
    have hpass : F_X5_hasPassed (V 0) (V 4 0) 7 (cl (rw' (T 6) 0) 2) = some (if le = 0 then 0 else if t < f 0 + le then 0 else 1) := by
      rw [n_passed 7 7 rfl (by decide), h7, hn, hb0.2, nI_add]
      congr 1
      by_cases q0 : le = 0
      · rw [if_pos q0, q0, if_pos (show nI 0 = 0 from rfl)]
      · rw [if_neg q0, if_neg (nI_ne0 (by omega) (by omega))]
        by_cases q1 : t < f 0 + le
        · rw [if_pos q1, if_pos (nI_lt q1 (by omega))]
        · rw [if_neg q1, if_neg (nI_nlt (by omega) (by omega))]
    by_cases hp : le = 0 ∨ t < f 0 + le
    · -- it isn't over, nor is any behind it
      refine ⟨T, V, g, fun n hn0 => ?_, fun n hn0 => ?_, h, hI, ⟨fun _ _ _ _ _ _ => rfl, fun _ _ _ => rfl, Nat.le_refl _, Nat.le_refl _⟩⟩
      · obtain ⟨n, rfl⟩ : ∃ q, n = q + 1 := ⟨n - 1, by omega⟩
        rw [e_X3_endLeases_5]
        unfold K_X3_endLeases_5
        rw [if_neg (nI_nle (by omega) (by omega)), lt_b, show tget (T 6) 0 2 = cl (rw' (T 6) 0) 2 from tg 0 2 2 rfl (by decide) (by decide), hpass, bd_some, if_pos]
        rcases hp with q | q
        · rw [if_pos q]
        · rw [if_pos q]; split <;> rfl
      · by_cases q0 : le = 0
        · obtain ⟨n, rfl⟩ : ∃ q, n = q + 1 := ⟨n - 1, by omega⟩
          rw [e_X12_step_46]
          unfold K_X12_step_46
          rw [gl 7 7 rfl (by decide), hg7, q0, if_pos (show nI 0 ≤ 0 by decide)]
        · refine s_noneL h hI.1 h7 hle9 hn ht (fun i hi => ⟨f i, by have := (f1 i hi).1; omega, (f1 i hi).2, ?_⟩) kk n 0 (Nat.zero_le _) (by omega)
          have := f2 0 i (Nat.zero_le _) hi
          omega
    · have q0 : ¬ le = 0 := fun z => hp (Or.inl z)
      have q1 : ¬ t < f 0 + le := fun z => hp (Or.inr z)
      generalize hk : cl (rw' (T 6) 0) 0 = k
      have hkV : Vk k := by rw [← hk]; exact (i1.at h0l).2
      obtain ⟨g1, c1, c2⟩ := s_happens hN h (k := k) (Or.inr hkV) 13
      have d1 := s_led c2 (j := 13) (by decide)
      obtain ⟨T2, V2, g2, e1, e2, e3, e4, e5, e6, e7, e8, e9⟩ := s_fail hN d1 (t := t) hI hn h4 hlo8 hw h0l hk 99
      have hrn := (iL_erase i1 h0l).2
      rw [if_pos (by omega)] at hrn
      have e7' : rnN (T 6) - 1 ≤ rnN (T2 6) := e7 (show 0 < rnN (T 6) by omega)
      have hnow2 : ∀ i, m ≤ i → i < rnN (T2 6) → cl (rw' (T2 6) i) 2 = nI t := by
        intro i a1 a2
        by_cases q : i < rnN ((T 6).eraseIdx 0)
        · have : rw' (T2 6) i = rw' ((T 6).eraseIdx 0) i := e8 i q
          rw [this, er_at, if_neg (by omega)]
          exact hnow (i + 1) (by omega) (by omega)
        · exact e9 i (by show rnN ((T 6).eraseIdx 0) ≤ i; omega) a2
      have hw2 : (T2 7).length < 65536 := by
        have : (T2 7).length ≤ (T 7).length := e5.2.2.2
        omega
      have hV4 : V2 4 = V 4 := e5.2.1 4 (by decide) (by decide)
      have hV0 : V2 0 = V 0 := e5.2.1 0 (by decide) (by decide)
      obtain ⟨T', V', g', r1, r2, r3, r4, r5⟩ := ih T2 V2 g2 e3 e4 (by rw [hV4]; exact hn) (by rw [hV0]; exact h7) (by rw [hV0]; exact h4) hw2 (by omega) hnow2
      refine ⟨T', V', g', fun n hn0 => ?_, fun n hn0 => ?_, r3, r4, ⟨?_, ?_, ?_, ?_⟩⟩
      · obtain ⟨n, rfl⟩ : ∃ q, n = q + 1 := ⟨n - 1, by omega⟩
        rw [e_X3_endLeases_5]
        unfold K_X3_endLeases_5
        rw [if_neg (nI_nle (by omega) (by omega)), lt_b, show tget (T 6) 0 2 = cl (rw' (T 6) 0) 2 from tg 0 2 2 rfl (by decide) (by decide), hpass, bd_some, if_neg (by rw [if_neg q0, if_neg q1]; decide), lt_b, show tget (T 6) 0 0 = cl (rw' (T 6) 0) 0 from tg 0 0 0 rfl (by decide) (by decide), hk, n_noteI hN (Or.inr hkV) (V 4 0) (T 0) (V 1) 13 13 rfl (by decide), bd_some]
        have e1' : F_X3_fail N (V 0) (V 4 0) (pushK (T 0) 13 (V 4 0) k) (T 1) (tlk (V 1) 13) (V 2) (T 6) (T 7) (T 8) k 99 = some (nI (wl (T 7) k).length, T2 0, T2 1, V2 1, V2 2, T2 6, T2 7, T2 8) := e1
        dsimp only
        rw [e1', bd_some, lt_b, pk_m1]
        have := r1 n (by omega)
        rw [hV0, hV4] at this
        exact this
      · obtain ⟨n, rfl⟩ : ∃ q, n = q + 1 := ⟨n - 1, by omega⟩
        have q4 := LR16 h.2.2.2.2.2.2.1 h0l
        have hr : cl (rw' (T 6) 0) 1 = 1 := by
          have := i1.2.1 0 h0l
          rw [if_pos (by omega)] at this
          exact this
        have z0 : nI 0 = 0 := rfl
        rw [z0] at q4
        rw [e_X12_step_46]
        unfold K_X12_step_46
        rw [gl 7 7 rfl (by decide), hg7, gl 15 15 rfl (by decide), hm15, if_neg (nI_nle (by omega) (by omega)), if_neg (show ¬ nI (T 6).length ≤ 0 from nI_nle h0l (by omega)), q4.2.2.2.1, bd_some, if_pos (by rw [hr, if_pos rfl]), gl 8 8 rfl (by decide), hg8, q4.2.2.2.2.1 hr, bd_some, gl 7 7 rfl (by decide), hg7, hb0.2, nI_add, if_neg (nI_nlt (by omega) (by omega)), q4.2.1, hk, bd_some, c1, bd_some, gl 33 33 rfl (by decide), gs 33 33 rfl (by decide)]
        have e2' : F_X12_fails N (upd g1 33 (g1 33 + 1)) 0 99 = some (nI (wl (T 7) k).length, g2) := e2
        rw [e2', bd_some]
        have e6' : (T 6).length = (T2 6).length + 1 := e6
        exact r2 n (by omega)
      · intro j a0 a1 a6 a7 a8
        rw [r5.1 j a0 a1 a6 a7 a8, e5.1 j a0 a1 a6 a7 a8, vu_ne a0]
      · intro j a1 a2
        rw [r5.2.1 j a1 a2, e5.2.1 j a1 a2, vu_ne a1]
      · exact Nat.le_trans r5.2.2.1 e5.2.2.1
      · exact Nat.le_trans r5.2.2.2 e5.2.2.2
