/-! ===== feed, rule: both sides ===== -/
theorem byte_nI : ∀ b, b < 123 → (nI b).toInt8.toInt32 = nI b := by decide
theorem m_feed {tp : List Nat} {tby : Nat → Int32} {tsz : Int32} {tape : Nat → Int32} {taped : Int32} (ht : TR tp tby tsz tape taped) (x : Int32) :
    ∃ (r : Int32) (tp' : List Nat) (tby' : Nat → Int32) (tsz' : Int32) (tape' : Nat → Int32) (taped' : Int32), F_X11_feed tby tsz x = some (r, tby', tsz') ∧ F_X12_feed tape taped x = some (r, tape', taped') ∧ TR tp' tby' tsz' tape' taped' := by
  unfold F_X11_feed F_X12_feed
  have e1 : F_X1_isLetter x = F_X12_in x 97 122 := rfl
  rw [e1]
  have put : ∀ b, (b = 32 ∨ (97 ≤ b ∧ b ≤ 122)) → x = nI b → ∃ (r : Int32) (tp' : List Nat) (tby' : Nat → Int32) (tsz' : Int32) (tape' : Nat → Int32) (taped' : Int32), J_X11_feed_17 x tby tsz = some (r, tby', tsz') ∧ J_X12_feed_21 x tape taped = some (r, tape', taped') ∧ TR tp' tby' tsz' tape' taped' := by
    intro b hb ex
    obtain ⟨h60, es, et, hc⟩ := ht
    unfold J_X11_feed_17 J_X12_feed_21 F_X10_add F_X10_size
    rw [es, et, if_neg (show ¬ nI tp.length < 0 from nI_pos (by omega))]
    by_cases h : tp.length = 60
    · refine ⟨-1004, tp, tby, nI tp.length, tape, nI tp.length, ?_, ?_, ⟨h60, rfl, rfl, hc⟩⟩
      · rw [if_neg (show ¬ nI tp.length < nI 60 by rw [h]; decide), bd_some, if_pos rfl]
      · rw [if_pos (show nI tp.length = 60 by rw [h]; rfl)]
    · have hl : tp.length < 60 := by omega
      have hv : vp_nar .byte x.toInt8.toInt32 = nI b := by rw [pk_vb, ex, byte_nI b (by omega)]
      refine ⟨nI (tp.length + 1), tp ++ [b], upd tby tp.length (nI b), nI (tp.length + 1), upd tape tp.length (nI b), nI (tp.length + 1), ?_, ?_, ?_⟩
      · rw [if_pos (show nI tp.length < nI 60 from nI_lt hl (by decide)), ston rfl hl, lt_b, nI_1, bd_some, if_neg one_ne, bd_some, ex]
      · rw [if_neg (show ¬ nI tp.length = 60 from fun z => h ((nI_eq (b := 60) (by omega) (by decide)).mp z)), ston rfl hl, lt_b, nI_1, hv]
      · have hlen : (tp ++ [b]).length = tp.length + 1 := by rw [List.length_append, List.length_singleton]
        refine ⟨by omega, by rw [hlen], by rw [hlen], fun i hi => ?_⟩
        rw [hlen] at hi
        by_cases q : i = tp.length
        · rw [q, upd_at, upd_at, gD_last rfl]
          exact ⟨rfl, rfl, hb⟩
        · rw [upd_ne q, upd_ne q, gD_app (by omega)]
          exact hc i (by omega)
  rcases in01 x 97 122 with ⟨b1, b2⟩ | ⟨b1, b2, b3⟩
  · rw [b1, bd_some, bd_some, if_pos rfl, if_pos rfl]
    by_cases h : x = 32
    · rw [if_pos h, if_pos h]
      exact put 32 (Or.inl rfl) h
    · exact ⟨-1001, tp, tby, tsz, tape, taped, by rw [if_neg h], by rw [if_neg h], ht⟩
  · rw [b1, bd_some, bd_some, if_neg one_ne, if_neg one_ne]
    obtain ⟨b, hb, eb⟩ := nI_ofx (M := 122) (n := 122) rfl (Int32.le_trans (by decide) b2) b3
    have hb1 : 97 ≤ b := by rw [eb] at b2; exact (nI_leI (a := 97) (by omega) (by omega)).mp b2
    exact put b (Or.inr ⟨hb1, hb⟩) eb
theorem n_allow {i : Nat} (hi : i < 8) (v : Int32) : F_X5_allow (nI i) v = F_X12_in v (zLEAST i) (zMOST i) := by
  have h8 : ¬ (8 : Int32) ≤ nI i := nI_ge (b := 8) hi (by decide)
  unfold F_X5_allow F_X12_in
  rw [if_neg (nI_pos (by omega)), if_neg h8, if_neg h8, ldn rfl hi, ldn rfl hi]
theorem ck01 {x lo hi : Int32} : bd (F_X12_in x lo hi) (fun o => ck (o = 0 ∨ o = 1) (some o)) = F_X12_in x lo hi := by
  rcases in01 x lo hi with ⟨h, -⟩ | ⟨h, -⟩
  · rw [h, bd_some, ck_t (Or.inl rfl)]
  · rw [h, bd_some, ck_t (Or.inr rfl)]
theorem ck02 {x lo hi : Int32} : bd (F_X12_in x lo hi) (fun o => if (o = 0 : Prop) then some 0 else some 1) = F_X12_in x lo hi := by
  rcases in01 x lo hi with ⟨h, -⟩ | ⟨h, -⟩
  · rw [h, bd_some, if_pos rfl]
  · rw [h, bd_some, if_neg one_ne]
theorem s_isRule {i : Nat} (hi : i < 8) (v : Int32) : F_X12_isRule (nI i) v = F_X12_in v (zLEAST i) (zMOST i) := by
  unfold F_X12_isRule
  match i, hi with
  | 0, _ => rw [if_pos (by decide), ck01]; rfl
  | 1, _ => rw [if_neg (by decide), if_pos (by decide), ck01]; rfl
  | 2, _ => rw [if_neg (by decide), if_neg (by decide), if_pos (by decide), ck01]; rfl
  | 3, _ => rw [if_neg (by decide), if_neg (by decide), if_neg (by decide), if_pos (by decide), ck01]; rfl
  | 4, _ => rw [if_neg (by decide), if_neg (by decide), if_neg (by decide), if_neg (by decide), if_pos (by decide), ck01]; rfl
  | 5, _ => rw [if_neg (by decide), if_neg (by decide), if_neg (by decide), if_neg (by decide), if_neg (by decide), if_pos (by decide), ck01]; rfl
  | 6, _ => rw [if_neg (by decide), if_neg (by decide), if_neg (by decide), if_neg (by decide), if_neg (by decide), if_neg (by decide), if_pos (by decide), if_pos (by decide), ck02]; rfl
  | 7, _ => rw [if_neg (by decide), if_neg (by decide), if_neg (by decide), if_neg (by decide), if_neg (by decide), if_neg (by decide), if_neg (by decide), if_pos (by decide), ck01]; rfl
  | i + 8, hi => omega
theorem n_rule (w v : Int32) : (F_X5_allow w v = some 0 ∧ F_X12_isRule w v = some 0) ∨ (F_X5_allow w v = some 1 ∧ F_X12_isRule w v = some 1 ∧ ∃ i, i < 8 ∧ w = nI i ∧ zLEAST i ≤ v ∧ v ≤ zMOST i) := by
  by_cases h1 : w < 0
  · left
    have ne : ∀ a : Int32, 0 ≤ a → ¬ w = a := fun a ha z => Int32.lt_irrefl (Int32.lt_of_lt_of_le h1 (by rw [z]; exact ha))
    unfold F_X5_allow F_X12_isRule
    refine ⟨by rw [if_pos h1], ?_⟩
    rw [if_neg (ne 0 (by decide)), if_neg (ne 1 (by decide)), if_neg (ne 2 (by decide)), if_neg (ne 3 (by decide)), if_neg (ne 4 (by decide)), if_neg (ne 5 (by decide)), if_neg (ne 6 (by decide)), if_neg (ne 7 (by decide)), if_neg (ne 6 (by decide))]
  by_cases h2 : (8 : Int32) ≤ w
  · left
    have ne : ∀ a : Int32, a < 8 → ¬ w = a := fun a ha z => Int32.lt_irrefl (Int32.lt_of_lt_of_le ha (by rw [← z]; exact h2))
    unfold F_X5_allow F_X12_isRule
    refine ⟨by rw [if_neg h1, if_pos h2], ?_⟩
    rw [if_neg (ne 0 (by decide)), if_neg (ne 1 (by decide)), if_neg (ne 2 (by decide)), if_neg (ne 3 (by decide)), if_neg (ne 4 (by decide)), if_neg (ne 5 (by decide)), if_neg (ne 6 (by decide)), if_neg (ne 7 (by decide)), if_neg (ne 6 (by decide))]
  obtain ⟨i, hi, e, -, -, -⟩ := pk_mu h1 (L := 8) h2 (by decide)
  rw [e, n_allow hi, s_isRule hi]
  rcases in01 v (zLEAST i) (zMOST i) with ⟨b1, b2⟩ | ⟨b1, b2, b3⟩
  · exact Or.inl ⟨b1, b1⟩
  · exact Or.inr ⟨b1, b1, i, hi, rfl, b2, b3⟩
theorem n_setv {vals : Nat → Int32} {i : Nat} (hi : i < 8) (v : Int32) : F_X5_set vals (nI i) v = some (upd vals i v) := by
  unfold F_X5_set
  rw [if_neg (nI_pos (by omega)), if_neg (nI_ge hi (by decide)), ston rfl hi]
/-- a rule is told; the window's apart -/
theorem s_setv {T : Nat → Rows} {V : Nat → Nat → Int32} {g : Nat → Int32} (h : RR T V g) {i : Nat} (hi : i < 8) (h1 : i ≠ 1) (v : Int32) : RR T (va_up V 0 (upd (V 0) i v)) (upd g i v) := by
  have := h.uR0 (v := upd (V 0) i v) (sc := V 4) (g' := upd g i v) (by
    obtain ⟨q1, q2, q3, q4, q5, n1, w1, q6, q7, q8, q9, q10, q11, q12⟩ := h.z
    refine ⟨fun j hj => ?_, by rw [upd_ne (by omega)]; exact q2, by rw [upd_ne (by omega)]; exact q3, by rw [upd_ne (by omega)]; exact q4, by rw [upd_ne (by omega)]; exact q5, n1, w1, q6, q7, q8, by rw [upd_ne (by omega)]; exact q9, by rw [upd_ne (Ne.symm h1)]; exact q10, q11, q12⟩
    by_cases q : j = i
    · rw [q, upd_at, upd_at]
    · rw [upd_ne q, upd_ne q]; exact q1 j hj) (fun p hp hq => upd_ne (by omega))
  have e : va_up (va_up V 0 (upd (V 0) i v)) 4 (V 4) = va_up V 0 (upd (V 0) i v) := va_same (va_up V 0 (upd (V 0) i v)) 4
  rw [e] at this
  exact this
theorem m_rule {N : Nat} (hN : 65536 ≤ N) {c : Nat} {tp : List Nat} {T : Nat → Rows} {V : Nat → Nat → Int32} {g : Nat → Int32} (hs : SQ c tp T V g) (x v : Int32) :
    ∃ (r : Int32) (T' : Nat → Rows) (V' : Nat → Nat → Int32) (g' : Nat → Int32), F_X11_rule N (V 0) (V 4 0) (T 0) (T 1) (T 2) (V 1) (T 4) (T 5) (V 4 2) (T 6) x v = some (r, V' 0, T' 0, T' 1, T' 2, V' 1, T' 4, T' 5, V' 4 2, T' 6) ∧ F_X12_rule N g x v = some (r, g') ∧ SQ (c + 1) tp T' V' g' ∧ T' 3 = T 3 ∧ T' 7 = T 7 ∧ T' 8 = T 8 ∧ V' 2 = V 2 ∧ V' 3 = V 3 ∧ ∀ j, j ≠ 2 → j ≠ 5 → V' 4 j = V 4 j := by
  unfold F_X11_rule F_X12_rule
  rcases n_rule x v with ⟨a1, a2⟩ | ⟨a1, a2, i, hi, rfl, hlo, hhi⟩
  · exact ⟨-1001, T, V, g, by rw [a1, bd_some, if_pos rfl], by rw [a2, bd_some, if_pos rfl], hs.up, rfl, rfl, rfl, rfl, rfl, fun _ _ _ => rfl⟩
  obtain ⟨p, q, h, hI, hB, hq⟩ := hs
  have gi : g i = V 0 i := h.z.1 i hi
  obtain ⟨hr0, hr1, hr2, hr3, hr4, hr5, hr6, hr7⟩ := hI.r
  have hcl := hI.cold
  rw [a1, a2, bd_some, bd_some, if_neg one_ne, if_neg one_ne, n_value (nI i) i rfl hi, bd_some, n_setv hi, bd_some, gl _ i rfl (by omega), gs _ i rfl (by omega), gi]
  have num : ∀ {M : Int32} {n : Nat}, M.toInt = n → v ≤ M → (0 : Int32) ≤ zLEAST i → ∃ j, j ≤ n ∧ v = nI j := fun hM hv h0 => nI_ofx hM (Int32.le_trans h0 hlo) hv
  -- rules that change nothing else
  have plain : ∀ (p' : P), i ≠ 1 → iR p' (upd (V 0) i v) → p'.t = p.t → p'.u = p.u → p'.a = p.a → p'.room = p.room → p'.c = p.c → ∃ (T' : Nat → Rows) (V' : Nat → Nat → Int32) (g' : Nat → Int32), g' = upd g i v ∧ V' = va_up V 0 (upd (V 0) i v) ∧ T' = T ∧ RR T' V' g' ∧ Iv p' T' V' ∧ Bd p' q T' := by
    intro p' h1 hR ht hu ha hro hc
    refine ⟨T, _, _, rfl, rfl, rfl, s_setv h hi h1 v, ⟨hR, hI.i0, hI.x, by rw [hro]; exact hI.sum, by rw [hc]; exact hI.cold, ?_, hI.sk, by rw [ht]; exact hI.ld⟩, ?_⟩
    · rw [ht, hu, ha]; exact hI.n
    · obtain ⟨b1, b2, b3, b4⟩ := hB
      exact ⟨by rw [hu]; exact b1, by rw [ha]; exact b2, b3, b4⟩
  have fin : ∀ (p' : P), i ≠ 0 → i ≠ 1 → i ≠ 4 → i ≠ 6 → iR p' (upd (V 0) i v) → p'.t = p.t → p'.u = p.u → p'.a = p.a → p'.room = p.room → p'.c = p.c → ∃ (r : Int32) (T' : Nat → Rows) (V' : Nat → Nat → Int32) (g' : Nat → Int32), some (V 0 i, upd (V 0) i v, T 0, T 1, T 2, V 1, T 4, T 5, V 4 2, T 6) = some (r, V' 0, T' 0, T' 1, T' 2, V' 1, T' 4, T' 5, V' 4 2, T' 6) ∧ some (V 0 i, upd g i v) = some (r, g') ∧ SQ (c + 1) tp T' V' g' ∧ T' 3 = T 3 ∧ T' 7 = T 7 ∧ T' 8 = T 8 ∧ V' 2 = V 2 ∧ V' 3 = V 3 ∧ ∀ j, j ≠ 2 → j ≠ 5 → V' 4 j = V 4 j := by
    intro p' n0 n1 n4 n6 hR ht hu ha hro hc
    obtain ⟨T', V', g', rfl, rfl, rfl, r1, I1, B1⟩ := plain p' n1 hR ht hu ha hro hc
    exact ⟨V 0 i, T', _, _, rfl, rfl, ⟨p', q, r1, I1, B1, by omega⟩, rfl, rfl, rfl, rfl, rfl, fun _ _ _ => rfl⟩
  have ni : ∀ j, j < 8 → i ≠ j → ¬ nI i = nI j := fun j hj hne z => hne ((nI_eq (by omega) (by omega)).mp z)
  match i, hi with
  | 0, _ =>
    obtain ⟨room, hro, ero⟩ := num (M := 200) (n := 200) rfl hhi (by decide)
    have r1 := s_setv h (i := 0) (by decide) (by decide) v
    have e0 : va_up V 0 (upd (V 0) 0 v) 0 0 = nI room := by rw [vu_at, upd_at, ero]
    obtain ⟨T1, V1, g1, c1, c2, r2, I2, c5, c6, c7, c8, c9, c10, c11, c12⟩ := s_make hN hr3 (sp := 0) (Or.inl rfl) (lim := room) (mo := 0) (room := room) (by omega) hro (T 4).length T (va_up V 0 (upd (V 0) 0 v)) _ r1 hI.i0 hr2 e0 hcl (fun r hr2 hk2 => absurd hk2 (hI.i0.1.1 r hr2).1.2.1.1.kr.ne0.1) rfl
    have h200 := h.e.2
    have c1' := c1 N (by omega)
    have c2' := c2 (N + 1) (by omega)
    rw [kc_0, nI_0] at c2'
    have x0 : V1 0 = upd (V 0) 0 v := c10 0 (by decide)
    have x4 : V1 4 = V 4 := c10 4 (by decide)
    refine ⟨V 0 0, T1, V1, g1, ?_, ?_, ⟨P.mk room p.c p.lo p.le p.t p.u p.a, q, r2, ⟨?_, I2, c11 hI.x, c6, c5, ?_, ?_, ?_⟩, ?_, by omega⟩, c9 3 (by decide) (by decide) (by decide) (by decide), c9 7 (by decide) (by decide) (by decide) (by decide), c9 8 (by decide) (by decide) (by decide) (by decide), c10 2 (by decide), c10 3 (by decide), fun j _ _ => by rw [x4]⟩
    · rw [if_pos (show nI 0 = 0 from rfl)]
      unfold F_X6_fitInto
      rw [n_make, ero]
      have c1'' : L_X6_makePlace_8 N mkk mkk (nI room) 0 (upd (V 0) 0 (nI room)) (V 4 0) N (nI (T 4).length) (T 0) (T 2) (V 1) (T 4) (T 5) = some (T1 0, T1 2, V1 1, T1 4, T1 5) := by rw [← ero]; rw [← ero] at c1'; exact c1'
      rw [c1'', bd_some, bd_some, x0, x4, c9 1 (by decide) (by decide) (by decide) (by decide), c9 6 (by decide) (by decide) (by decide) (by decide), ero]
    · rw [if_pos (show nI 0 = 0 from rfl), s_makeF, c2', bd_some]
    · rw [x0]
      exact ⟨by rw [upd_at, ero]; rfl, hro, by rw [upd_ne (by decide)]; exact hr2, hr3, by rw [upd_ne (by decide)]; exact hr4, hr5, by rw [upd_ne (by decide)]; exact hr6, hr7⟩
    · rw [x4]; exact hI.n
    · rw [c10 3 (by decide)]; exact hI.sk
    · have z := hI.ld
      unfold iLd at z ⊢
      rw [c9 1 (by decide) (by decide) (by decide) (by decide), c9 6 (by decide) (by decide) (by decide) (by decide), c9 7 (by decide) (by decide) (by decide) (by decide), c9 8 (by decide) (by decide) (by decide) (by decide)]
      exact z
    · obtain ⟨b1, b2, b3, b4⟩ := hB
      exact ⟨b1, b2, by rw [c9 6 (by decide) (by decide) (by decide) (by decide)]; exact b3, by rw [c9 7 (by decide) (by decide) (by decide) (by decide)]; exact b4⟩
  | 1, _ =>
    obtain ⟨w, hw, ew⟩ := num (M := 500) (n := 500) rfl hhi (by decide)
    have hw1 : 0 < w := by
      have hlo' : (1 : Int32) ≤ v := hlo
      rw [ew] at hlo'
      exact (nI_leI (a := 1) (by omega) (by omega)).mp hlo'
    have r1 := h.uR0 (v := upd (V 0) 1 v) (sc := upd (upd (V 4) 2 0) 5 0) (g' := upd (upd g 1 v) 11 0) (by
      obtain ⟨q1, q2, q3, q4, q5, n1, w1, q6, q7, q8, q9, q10, q11, q12⟩ := h.z
      refine ⟨fun j hj => ?_, ?_, ?_, ?_, ?_, 0, w, by omega, hw1, hw, ?_, by rw [upd_at, ew], ?_, ?_⟩
      · rw [upd_ne (by omega)]
        by_cases q : j = 1
        · rw [q, upd_at, upd_at]
        · rw [upd_ne q, upd_ne q]; exact q1 j hj
      · rw [upd_ne (by decide), upd_ne (by decide), upd_ne (by decide), upd_ne (by decide)]; exact q2
      · rw [upd_ne (by decide), upd_ne (by decide), upd_ne (by decide), upd_ne (by decide)]; exact q3
      · rw [upd_ne (by decide), upd_ne (by decide), upd_ne (by decide), upd_ne (by decide)]; exact q4
      · rw [upd_ne (by decide), upd_ne (by decide), upd_ne (by decide), upd_ne (by decide)]; exact q5
      · rw [upd_at]; rfl
      · rw [upd_ne (by decide), upd_at, Nat.zero_mod]; rfl
      · rw [upd_at]; rfl) (fun p hp hq => by rw [upd_ne (by omega), upd_ne (by omega)])
    have y4 : ∀ j, j ≠ 2 → j ≠ 5 → va_up (va_up V 0 (upd (V 0) 1 v)) 4 (upd (upd (V 4) 2 0) 5 0) 4 j = V 4 j := fun j h2 h5 => by rw [vu_at, upd_ne h5, upd_ne h2]
    refine ⟨V 0 1, T, _, _, ?_, ?_, ⟨P.mk p.room p.c p.lo p.le p.t 0 p.a, q, r1, ⟨?_, ⟨by rw [y4 3 (by decide) (by decide)]; exact hI.i0.1, hI.i0.2⟩, hI.x, hI.sum, hI.cold, ⟨by rw [y4 0 (by decide) (by decide)]; exact hI.n.1, hI.n.2.1, by rw [vu_at, upd_at]; rfl, by rw [y4 3 (by decide) (by decide)]; exact hI.n.2.2.2⟩, hI.sk, hI.ld⟩, ⟨by show 2 * 0 ≤ q; omega, hB.2⟩, by omega⟩, rfl, rfl, rfl, rfl, rfl, y4⟩
    · unfold F_X6_beginWindow
      rw [if_neg (show ¬ nI 1 = 0 by decide), if_pos (show nI 1 = 1 by decide), lt_b, bd_some]
      rfl
    · rw [if_neg (show ¬ nI 1 = 0 by decide), if_pos (show nI 1 = 1 by decide), gs 11 11 rfl (by decide)]
    · show iR _ (upd (V 0) 1 v)
      exact ⟨by rw [upd_ne (by decide)]; exact hr0, hr1, by rw [upd_ne (by decide)]; exact hr2, hr3, by rw [upd_ne (by decide)]; exact hr4, hr5, by rw [upd_ne (by decide)]; exact hr6, hr7⟩
  | 2, _ =>
    rw [if_neg (show ¬ nI 2 = 0 by decide), if_neg (show ¬ nI 2 = 0 by decide), if_neg (show ¬ nI 2 = 1 by decide), if_neg (show ¬ nI 2 = 1 by decide), if_neg (show ¬ nI 2 = 4 by decide), if_neg (show ¬ nI 2 = 4 by decide), if_neg (show ¬ nI 2 = 6 by decide), if_neg (show ¬ nI 2 = 6 by decide)]
    exact fin p (by decide) (by decide) (by decide) (by decide) ⟨by rw [upd_ne (by decide)]; exact hr0, hr1, by rw [upd_ne (by decide)]; exact hr2, hr3, by rw [upd_ne (by decide)]; exact hr4, hr5, by rw [upd_ne (by decide)]; exact hr6, hr7⟩ rfl rfl rfl rfl rfl
  | 3, _ =>
    rw [if_neg (show ¬ nI 3 = 0 by decide), if_neg (show ¬ nI 3 = 0 by decide), if_neg (show ¬ nI 3 = 1 by decide), if_neg (show ¬ nI 3 = 1 by decide), if_neg (show ¬ nI 3 = 4 by decide), if_neg (show ¬ nI 3 = 4 by decide), if_neg (show ¬ nI 3 = 6 by decide), if_neg (show ¬ nI 3 = 6 by decide)]
    exact fin p (by decide) (by decide) (by decide) (by decide) ⟨by rw [upd_ne (by decide)]; exact hr0, hr1, by rw [upd_ne (by decide)]; exact hr2, hr3, by rw [upd_ne (by decide)]; exact hr4, hr5, by rw [upd_ne (by decide)]; exact hr6, hr7⟩ rfl rfl rfl rfl rfl
  | 4, _ =>
    obtain ⟨lo, hlo', elo⟩ := num (M := 8) (n := 8) rfl hhi (by decide)
    obtain ⟨T1, V1, g1, e1, e2, e3, r1, I1, B1⟩ := plain (P.mk p.room p.c lo p.le p.t p.u p.a) (by decide) ⟨by rw [upd_ne (by decide)]; exact hr0, hr1, by rw [upd_ne (by decide)]; exact hr2, hr3, by rw [upd_at, elo]; rfl, hlo', by rw [upd_ne (by decide)]; exact hr6, hr7⟩ rfl rfl rfl rfl rfl
    subst e1 e2 e3
    obtain ⟨T', V', g', m1, m2, m3, m4⟩ := s_runs hN r1 I1.ld.1 I1.ld.2.2.2.2.2 (lo := lo) (by rw [vu_at, upd_at, elo]) hlo'
    have ld' := run_ld m4 I1.ld I1.n.1
    have tt := m4.2.2.2.2.1
    have vv := m4.2.2.2.2.2.1
    have I5 := iv_ld I1 ld' (tt 2 (by decide) (by decide) (by decide)) (tt 3 (by decide) (by decide) (by decide)) (tt 4 (by decide) (by decide) (by decide)) (tt 5 (by decide) (by decide) (by decide)) (vv 0 (by decide)) (vv 3 (by decide)) (vv 4 (by decide))
    have x0 : V' 0 = upd (V 0) 4 v := vv 0 (by decide)
    have x4 : V' 4 = V 4 := vv 4 (by decide)
    refine ⟨V 0 4, T', V', g', ?_, ?_, ⟨_, q, m3, I5, B1.le (by rw [m4.2.2.1]; exact Nat.le_refl _) (by rw [tt 7 (by decide) (by decide) (by decide)]; exact Nat.le_refl _), by omega⟩, tt 3 (by decide) (by decide) (by decide), tt 7 (by decide) (by decide) (by decide), tt 8 (by decide) (by decide) (by decide), vv 2 (by decide), vv 3 (by decide), fun j _ _ => by rw [x4]⟩
    · have m1' : F_X3_runWhatMay N (upd (V 0) 4 v) (V 4 0) (T1 0) (T1 1) (V 1) (T1 6) = some (T' 0, T' 1, V' 1, T' 6) := m1
      rw [if_neg (show ¬ nI 4 = 0 by decide), if_neg (show ¬ nI 4 = 1 by decide), if_pos (show nI 4 = 4 by decide), m1', bd_some, x0, x4, tt 2 (by decide) (by decide) (by decide), tt 4 (by decide) (by decide) (by decide), tt 5 (by decide) (by decide) (by decide)]
    · rw [if_neg (show ¬ nI 4 = 0 by decide), if_neg (show ¬ nI 4 = 1 by decide), if_pos (show nI 4 = 4 by decide), m2, bd_some]
  | 5, _ =>
    rw [if_neg (show ¬ nI 5 = 0 by decide), if_neg (show ¬ nI 5 = 0 by decide), if_neg (show ¬ nI 5 = 1 by decide), if_neg (show ¬ nI 5 = 1 by decide), if_neg (show ¬ nI 5 = 4 by decide), if_neg (show ¬ nI 5 = 4 by decide), if_neg (show ¬ nI 5 = 6 by decide), if_neg (show ¬ nI 5 = 6 by decide)]
    exact fin p (by decide) (by decide) (by decide) (by decide) ⟨by rw [upd_ne (by decide)]; exact hr0, hr1, by rw [upd_ne (by decide)]; exact hr2, hr3, by rw [upd_ne (by decide)]; exact hr4, hr5, by rw [upd_ne (by decide)]; exact hr6, hr7⟩ rfl rfl rfl rfl rfl
  | 6, _ =>
    obtain ⟨cc, hcc, ecc⟩ := num (M := 20) (n := 20) rfl hhi (by decide)
    have r1 := s_setv h (i := 6) (by decide) (by decide) v
    have e6 : va_up V 0 (upd (V 0) 6 v) 0 6 = nI cc := by rw [vu_at, upd_at, ecc]
    obtain ⟨g1, c1, r2⟩ := s_coldRoom hN hcc r1 e6
    have h21 := h.c.2
    have ht := n_trim hN (vals := upd (V 0) 6 v) (c := cc) (by rw [upd_at, ecc]) hcc (rows := T 5) h21
    refine ⟨V 0 6, _, _, g1, ?_, ?_, ⟨P.mk p.room cc p.lo p.le p.t p.u p.a, q, r2, ⟨?_, ⟨hI.i0.1, ?_, hI.i0.2.2⟩, ?_, hI.sum, trimC_len.1, hI.n, hI.sk, hI.ld⟩, hB, by omega⟩, rfl, rfl, rfl, rfl, rfl, fun _ _ _ => rfl⟩
    · rw [if_neg (show ¬ nI 6 = 0 by decide), if_neg (show ¬ nI 6 = 1 by decide), if_neg (show ¬ nI 6 = 4 by decide), if_pos (show nI 6 = 6 by decide), ht, bd_some]
      rfl
    · rw [if_neg (show ¬ nI 6 = 0 by decide), if_neg (show ¬ nI 6 = 1 by decide), if_neg (show ¬ nI 6 = 4 by decide), if_pos (show nI 6 = 6 by decide), c1, bd_some]
    · show iR _ (upd (V 0) 6 v)
      exact ⟨by rw [upd_ne (by decide)]; exact hr0, hr1, by rw [upd_at, ecc]; rfl, hcc, by rw [upd_ne (by decide)]; exact hr4, hr5, by rw [upd_ne (by decide)]; exact hr6, hr7⟩
    · exact fun r hr => hI.i0.2.1 r (List.mem_of_mem_drop hr)
    · exact hI.x.sub (fun r hr => ⟨r, hr, rfl⟩) (List.drop_sublist _ _)
  | 7, _ =>
    obtain ⟨le, hle, ele⟩ := num (M := 999) (n := 999) rfl hhi (by decide)
    rw [if_neg (show ¬ nI 7 = 0 by decide), if_neg (show ¬ nI 7 = 0 by decide), if_neg (show ¬ nI 7 = 1 by decide), if_neg (show ¬ nI 7 = 1 by decide), if_neg (show ¬ nI 7 = 4 by decide), if_neg (show ¬ nI 7 = 4 by decide), if_neg (show ¬ nI 7 = 6 by decide), if_neg (show ¬ nI 7 = 6 by decide)]
    exact fin (P.mk p.room p.c p.lo le p.t p.u p.a) (by decide) (by decide) (by decide) (by decide) ⟨by rw [upd_ne (by decide)]; exact hr0, hr1, by rw [upd_ne (by decide)]; exact hr2, hr3, by rw [upd_ne (by decide)]; exact hr4, hr5, by rw [upd_at, ele]; rfl, hle⟩ rfl rfl rfl rfl rfl
  | i + 8, hi => omega
