/-! ===== an entry is made new: both sides ===== -/
theorem uniq {ents : Rows} {esf : Int32} (h : iS ents esf) {i : Nat} (hi : i < ents.length) {r : List Int32} (hr : r ∈ ents) (hk : cl r 7 = cl (rw' ents i) 7) : r = rw' ents i := by
  obtain ⟨j, hj, rfl⟩ := List.getElem_of_mem hr
  have e1 : rw' ents i = ents[i] := q_getD_lt hi
  rw [e1] at hk ⊢
  have hp := List.pairwise_iff_getElem.mp h.2
  rcases Nat.lt_trichotomy j i with q | q | q
  · exact absurd hk (hp j i hj hi q).2
  · subst q; rfl
  · exact absurd hk.symm (hp i j hi hj q).2
theorem sub_sum {a b : List Nat} (h : a.Sublist b) : a.sum ≤ b.sum := by
  induction h with
  | slnil => exact Nat.le_refl _
  | cons x _ ih => rw [List.sum_cons]; omega
  | cons_cons x _ ih => rw [List.sum_cons, List.sum_cons]; omega
theorem fk_of {c : Nat} {rows : Rows} {v : Int32} {r : List Int32} (hr : r ∈ rows) (h : cl r c = v) : ∃ i, fk c rows v = some i := by
  cases hf : fk c rows v with
  | some i => exact ⟨i, rfl⟩
  | none =>
    unfold fk at hf
    rw [List.findIdx?_eq_none_iff] at hf
    have := hf r hr
    exact absurd (of_decide_eq_false this) (fun q => q h)
theorem fk_none {c : Nat} {rows : Rows} {v : Int32} (h : fk c rows v = none) : ∀ r ∈ rows, ¬ cl r c = v := by
  intro r hr
  unfold fk at h
  rw [List.findIdx?_eq_none_iff] at h
  exact of_decide_eq_false (h r hr)
theorem stE_keys {T : Nat → Rows} {V : Nat → Nat → Int32} (h : Inv0 T V) {e c : Nat} {x : Int32} (hc : c ≠ 7) : ∀ r ∈ stE T e c x 4, ∃ q ∈ T 4, cl q 7 = cl r 7 := by
  intro r hr
  have hr' : r ∈ (T 4).modify e (fun r => r.set c x) := hr
  rcases mem_modify hr' with z | ⟨q, h1, rfl⟩
  · exact ⟨r, z, rfl⟩
  · have hq : q ∈ T 4 := List.mem_of_getElem? h1
    exact ⟨q, hq, by rw [set_cl (h.1.1 q hq).1.1 (by decide), if_neg (Ne.symm hc)]⟩
set_option maxHeartbeats 4000000 in
theorem s_renew {N : Nat} (hN : 65536 ≤ N) {T : Nat → Rows} {V : Nat → Nat → Int32} {g : Nat → Int32} (h : RR T V g) (hI : Inv0 T V) {c room w : Nat} (hc : c ≤ 20) (h6 : V 0 6 = nI c) (hv0 : V 0 0 = nI room) (hr : room ≤ 200) (h5 : (T 5).length ≤ c) (hw1 : 1 ≤ w) (hw2 : w ≤ 20) {k v t : Int32} {e : Nat} (he : fk 7 (T 4) k = some e) (hvv : ∃ q, q ≤ 99999 ∧ v = nI q) (hnow : ∃ q, q ≤ 99999 ∧ V 4 0 = nI q) (hsum : wSN (T 4) ≤ room) :
    ∃ (r : Int32) (T' : Nat → Rows) (V' : Nat → Nat → Int32) (g' : Nat → Int32), F_X6_renew N (V 0) (V 4 0) (T 0) (T 2) (V 1) (T 4) (T 5) k v (nI w) t = some (r, T' 0, T' 2, V' 1, T' 4, T' 5) ∧ F_X12_renews N g (nI e) v (nI w) t = some (r, g') ∧ RR (va_up T' 0 (pushK (T' 0) (if r = 0 then 5 else 4) (V 4 0) k)) V' g' ∧ Inv0 T' V' ∧ (r = 0 ∨ r = 1) ∧ (T' 5).length ≤ c ∧ wSN (T' 4) ≤ room ∧ (∀ j, j ≠ 0 → j ≠ 2 → j ≠ 4 → j ≠ 5 → T' j = T j) ∧ (∀ j, j ≠ 1 → V' j = V j) ∧ (iX (T 4) (T 5) → iX (T' 4) (T' 5)) := by
  have hre := h.2.2.2.2.1
  have hr0 := h.2.2.2.2.2.2.2.2.1
  have h200 := hre.2
  obtain ⟨hel, hek⟩ := fk_lt he
  have hvk : Vk k := by rw [← hek]; exact (hI.1.at hel).2.1.1
  have hrow : F_X0_rowOf 200 (T 4) k = some (nI e) := by rw [n_rowOf, he]; rfl
  have hg0 : g 0 = nI room := by rw [hr0.1 0 (by decide)]; exact hv0
  have e0 : cl (mEn (rw' (T 4) e)) 0 = kc k := by show kc (cl (rw' (T 4) e) 7) = kc k; rw [hek]
  have e8 : cl (mEn (rw' (T 4) e)) 8 = cl (rw' (T 4) e) 8 := rfl
  by_cases hw : w ≤ room
  · -- it stays: from any state that is as it was but for its value
    have rest : ∀ {T1 : Nat → Rows} {g1 : Nat → Int32}, RR T1 V g1 → Inv0 T1 V → (T1 4).length = (T 4).length → cl (rw' (T1 4) e) 7 = k → (∀ j, j ≠ 4 → T1 j = T j) → (∀ r ∈ T1 4, ∃ q ∈ T 4, cl q 7 = cl r 7) →
        ∃ (T' : Nat → Rows) (V' : Nat → Nat → Int32) (g' : Nat → Int32), J_X6_renew_55 N k (nI w) t (nI e) (V 0) (V 4 0) (T 0) (T 2) (V 1) (T1 4) (T 5) = some (1, T' 0, T' 2, V' 1, T' 4, T' 5) ∧ J_X12_renews_62 N (nI e) (nI w) t (kc k) g1 = some (1, g') ∧ RR (va_up T' 0 (pushK (T' 0) 4 (V 4 0) k)) V' g' ∧ Inv0 T' V' ∧ (T' 5).length ≤ c ∧ wSN (T' 4) ≤ room ∧ (∀ j, j ≠ 0 → j ≠ 2 → j ≠ 4 → j ≠ 5 → T' j = T j) ∧ (∀ j, j ≠ 1 → V' j = V j) ∧ (iX (T 4) (T 5) → iX (T' 4) (T' 5)) := by
      intro T1 g1 r1 I1 hl1 hk1 hT1 hks
      have hel1 : e < (T1 4).length := by omega
      obtain ⟨g2, q2, r2⟩ := s_setE r1 I1.1.iE hel1 (c := 1) (by decide) (by decide) 2 rfl (nI w)
      have I2 : Inv0 (stE T1 e 1 (nI w)) V := stE_inv I1 (Or.inr (Or.inl ⟨rfl, w, hw1, hw2, rfl⟩))
      have r2' : RR (stE T1 e 1 (nI w)) V g2 := r2
      have hel2 : e < (stE T1 e 1 (nI w) 4).length := by rw [stE_len]; exact hel1
      obtain ⟨g3, q3, r3⟩ := s_setE r2' I2.1.iE hel2 (c := 2) (by decide) (by decide) 3 rfl t
      have I3 : Inv0 (stE (stE T1 e 1 (nI w)) e 2 t) V := stE_inv I2 (Or.inr (Or.inr (Or.inl rfl)))
      have r3' : RR (stE (stE T1 e 1 (nI w)) e 2 t) V g3 := r3
      have hel3 : e < (stE (stE T1 e 1 (nI w)) e 2 t 4).length := by rw [stE_len]; exact hel2
      obtain ⟨g4, q4, r4⟩ := s_setE r3' I3.1.iE hel3 (c := 6) (by decide) (by decide) 4 rfl (V 4 0)
      have I4 : Inv0 (stE (stE (stE T1 e 1 (nI w)) e 2 t) e 6 (V 4 0)) V := stE_inv I3 (Or.inr (Or.inr (Or.inr (Or.inr (Or.inr (Or.inl ⟨rfl, hnow⟩))))))
      have r4' : RR (stE (stE (stE T1 e 1 (nI w)) e 2 t) e 6 (V 4 0)) V g4 := r4
      have hel4 : e < (stE (stE (stE T1 e 1 (nI w)) e 2 t) e 6 (V 4 0) 4).length := by rw [stE_len]; exact hel3
      have c7 : cl (rw' (stE (stE (stE T1 e 1 (nI w)) e 2 t) e 6 (V 4 0) 4) e) 7 = k := by
        rw [stE_at I3 hel3 (by decide), if_neg (by decide), stE_at I2 hel2 (by decide), if_neg (by decide), stE_at I1 hel1 (by decide), if_neg (by decide)]
        exact hk1
      have c1 : cl (rw' (stE (stE (stE T1 e 1 (nI w)) e 2 t) e 6 (V 4 0) 4) e) 1 = nI w := by
        rw [stE_at I3 hel3 (by decide), if_neg (by decide), stE_at I2 hel2 (by decide), if_neg (by decide), stE_at I1 hel1 (by decide), if_pos rfl]
      generalize hT4 : stE (stE (stE T1 e 1 (nI w)) e 2 t) e 6 (V 4 0) = T4 at r4' I4 hel4 c7 c1
      have hT4j : ∀ j, j ≠ 4 → T4 j = T j := fun j hj => by rw [← hT4, stE_ne hj, stE_ne hj, stE_ne hj]; exact hT1 j hj
      have hsp : ∀ r ∈ T4 4, cl r 7 = k → wN r ≤ room := by
        intro r hr2 hk2
        rw [uniq I4.1 hel4 hr2 (by rw [hk2, c7])]
        unfold wN
        rw [c1, nI_clamp (by omega)]
        exact hw
      obtain ⟨T', V', g', m1, m2, m3, m4, m5, m6, m7, m8, m9, m10, m11, m12⟩ := s_make hN hc (sp := k) (Or.inr hvk) (lim := room) (mo := 0) (room := room) (by omega) hr (T4 4).length T4 V g4 r4' I4 h6 hv0 (by rw [hT4j 5 (by decide)]; exact h5) hsp rfl
      obtain ⟨g5, q5, r5⟩ := s_happens hN m3 (Or.inr hvk) 4
      have v4 : V' 4 = V 4 := m10 4 (by decide)
      rw [v4] at r5
      refine ⟨T', V', g5, ?_, ?_, r5, m4, m5, m6, fun j a0 a2 a4 a5 => by rw [m9 j a0 a2 a4 a5, hT4j j a4], m10, fun hx => m11 (hx.sub (fun r hr => ?_) (by rw [hT4j 5 (by decide)]; exact List.Sublist.refl _))⟩
      · unfold J_X6_renew_55 F_X0_set F_X5_now
        simp only [lt_b, bd_some]
        rw [tset_nI (by omega) 1 1 rfl (by decide), tset_nI (by omega) 2 2 rfl (by decide), tset_nI (by omega) 6 6 rfl (by decide), n_value 0 0 rfl (by decide), bd_some, hv0, n_make]
        have e4 : List.modify (List.modify (List.modify (T1 4) e (fun r => r.set 1 (nI w))) e (fun r => r.set 2 t)) e (fun r => r.set 6 (V 4 0)) = T4 4 := by rw [← hT4]; rfl
        have := m1 N (by have := r4'.2.2.2.2.1.2; omega)
        rw [hT4j 0 (by decide), hT4j 2 (by decide), hT4j 5 (by decide)] at this
        rw [e4, this, bd_some]
      · unfold J_X12_renews_62
        have hg8 : g3 8 = V 4 0 := r3'.2.2.2.2.2.2.2.2.1.2.1
        have := m2 (N + 1) (by have := r4'.2.2.2.2.1.2; omega)
        rw [nI_0] at this
        rw [q2, bd_t rfl, q3, bd_t rfl, gl 8 8 rfl (by decide), hg8, q4, bd_t rfl, s_makeF, this, bd_t rfl, q5, bd_t rfl]
      · rw [← hT4] at hr
        obtain ⟨r3, h3, k3⟩ := stE_keys I3 (by decide) r hr
        obtain ⟨r2, h2, k2⟩ := stE_keys I2 (by decide) r3 h3
        obtain ⟨r1, h1, k1⟩ := stE_keys I1 (by decide) r2 h2
        obtain ⟨r0, h0, k0⟩ := hks r1 h1
        exact ⟨r0, h0, k0.trans (k1.trans (k2.trans k3))⟩
    have main : ∃ (T' : Nat → Rows) (V' : Nat → Nat → Int32) (g' : Nat → Int32), F_X6_renew N (V 0) (V 4 0) (T 0) (T 2) (V 1) (T 4) (T 5) k v (nI w) t = some (1, T' 0, T' 2, V' 1, T' 4, T' 5) ∧ F_X12_renews N g (nI e) v (nI w) t = some (1, g') ∧ RR (va_up T' 0 (pushK (T' 0) 4 (V 4 0) k)) V' g' ∧ Inv0 T' V' ∧ (T' 5).length ≤ c ∧ wSN (T' 4) ≤ room ∧ (∀ j, j ≠ 0 → j ≠ 2 → j ≠ 4 → j ≠ 5 → T' j = T j) ∧ (∀ j, j ≠ 1 → V' j = V j) ∧ (iX (T 4) (T 5) → iX (T' 4) (T' 5)) := by
      unfold F_X6_renew F_X12_renews
      rw [hrow, bd_t rfl, n_value 0 0 rfl (by decide), bd_t rfl, hv0, if_pos (nI_le hw (by omega)), s_at hre hel 0 0 rfl (by decide), bd_t rfl, gl 0 0 rfl (by decide), hg0, if_pos (nI_le hw (by omega)), s_at hre hel 8 8 rfl (by decide), bd_t rfl, e0, e8]
      unfold F_X0_isDirty F_X0_set
      simp only [lt_b, bd_some]
      rw [tg e 8 8 rfl (by omega) (by decide), tset_nI (by omega) 0 0 rfl (by decide)]
      by_cases hd : cl (rw' (T 4) e) 8 = 0
      · rw [if_pos hd, if_pos hd, bd_some, if_pos rfl]
        obtain ⟨g1, q1, r1⟩ := s_setE h hI.1.iE hel (c := 0) (by decide) (by decide) 1 rfl v
        rw [q1, bd_some]
        refine rest (T1 := stE T e 0 v) r1 (stE_inv hI (Or.inl ⟨rfl, hvv⟩)) stE_len ?_ (fun j hj => stE_ne hj) ?_
        rw [stE_at hI hel (by decide), if_neg (by decide)]
        exact hek
        exact stE_keys hI (by decide)
      · rw [if_neg hd, if_neg hd, bd_some, if_neg (by decide)]
        exact rest h hI rfl hek (fun _ _ => rfl) (fun r hr => ⟨r, hr, rfl⟩)
    obtain ⟨T', V', g', a1, a2, a3, a4, a5, a6, a7, a8, a9⟩ := main
    exact ⟨1, T', V', g', a1, a2, by rw [if_neg (by decide)]; exact a3, a4, Or.inr rfl, a5, a6, a7, a8, a9⟩
  · -- it goes
    have hwr : ¬ nI w ≤ nI room := nI_ge (by omega) (by omega)
    have r1 := s_led h (j := 7) (by decide)
    obtain ⟨g2, q2, r2⟩ := s_leaves hN r1 hI.1.iE hel 7
    obtain ⟨g3, q3, r3⟩ := s_happens hN r2 (Or.inr hvk) 5
    have hlg := n_letGo hN (T := T) (V := V) hI.1.iE hel (by omega) 7 (by decide)
    have tl7 : tlk (lgV T V e 1) 7 = yV T V e 1 := by
      show tallyN (lgV T V e 1) 7 = _
      unfold yV lgV
      split
      · rfl
      · exact tally_comm _ _ _
    have hlT : lgT T (va_up V 1 (tallyN (V 1) 7)) e 7 = lgT T V e 7 := rfl
    have v4 : yV T V e 4 = V 4 := by unfold yV; rw [lgV_ne (by decide)]; rfl
    refine ⟨0, lgT T V e 7, yV T V e, g3, ?_, ?_, ?_, lg_inv hI hel v4, Or.inl rfl, ?_, ?_, fun j a0 a2 a4 a5 => lgT_ne a0 a2 a4, fun j a1 => ?_, fun hx => ?_⟩
    · unfold F_X6_renew
      have hlg' : F_X6_letGo N (V 4 0) (T 0) (T 2) (V 1) (T 4) (nI e) 7 = some (lgT T V e 7 0, lgT T V e 7 2, yV T V e 1, lgT T V e 7 4) := by rw [← tl7]; exact hlg
      have e5 : lgT T V e 7 5 = T 5 := lgT_ne (by decide) (by decide) (by decide)
      rw [hrow, bd_t rfl, n_value 0 0 rfl (by decide), bd_t rfl, hv0, if_neg hwr, hlg', bd_t rfl, e5]
    · unfold F_X12_renews
      have q2' : F_X12_leaves N (upd g 27 (g 27 + 1)) (nI e) 7 = some g2 := q2
      rw [s_at hre hel 0 0 rfl (by decide), bd_t rfl, gl 0 0 rfl (by decide), hg0, if_neg hwr, gl 27 27 rfl (by decide), gs 27 27 rfl (by decide), q2', bd_t rfl, e0, q3, bd_t rfl]
    · rw [if_pos rfl]
      have e1 : lgV T (va_up V 1 (tallyN (V 1) 7)) e = yV T V e := rfl
      rw [e1, v4] at r3
      exact r3
    · rw [lgT_ne (by decide) (by decide) (by decide)]; exact h5
    · rw [lgT_4]
      have hs : ((T 4).eraseIdx e).Sublist (T 4) := List.eraseIdx_sublist _ _
      have : wSN ((T 4).eraseIdx e) ≤ wSN (T 4) := sub_sum (hs.map wN)
      omega
    · unfold yV
      rw [lgV_ne a1, va_up_ne _ _ a1]
    · rw [lgT_4, lgT_ne (by decide) (by decide) (by decide)]
      exact hx.sub (fun r hr => ⟨r, List.mem_of_mem_eraseIdx hr, rfl⟩) (List.Sublist.refl _)
