/-! ===== the tape's key, the askers: both sides ===== -/
theorem nI_ofx {x M : Int32} {n : Nat} (hM : M.toInt = n) (h0 : 0 ≤ x) (h : x ≤ M) : ∃ j : Nat, j ≤ n ∧ x = nI j := nI_of2 hM (Int32.not_lt.mpr h0) h
theorem TR.nil {tp : List Nat} {tby : Nat → Int32} {tsz : Int32} {tape : Nat → Int32} {taped : Int32} (_h : TR tp tby tsz tape taped) : TR [] tby 0 tape 0 := ⟨by decide, rfl, rfl, fun i hi => absurd hi (Nat.not_lt_zero _)⟩
theorem take_both {N : Nat} (hN : 65536 ≤ N) {tp : List Nat} {tby : Nat → Int32} {tsz : Int32} {tape : Nat → Int32} {taped : Int32} (h : TR tp tby tsz tape taped) (spot : Int32) :
    ∃ (k spot' : Int32), F_X10_takeKey N tby tsz = some (k, 0) ∧ F_X12_takesKey N tape taped spot = some (kc k, 0, spot') ∧ (k = 0 ∨ (Vk k ∧ tp ≠ [])) := by
  obtain ⟨spot', h2⟩ := k_takes hN h spot
  have h1 := k_take hN h
  by_cases q : tkey tp
  · rw [if_pos q] at h1 h2
    have kr := tkey_KR q
    exact ⟨_, spot', h1, by rw [kc_eq kr]; exact h2, Or.inr ⟨⟨_, kr⟩, q.1⟩⟩
  · rw [if_neg q] at h1 h2
    exact ⟨0, spot', h1, by rw [kc_0]; exact h2, Or.inl rfl⟩
theorem kc_ne0 {k : Int32} (h : Vk k) : ¬ k = 0 ∧ ¬ kc k = 0 := h.kr.ne0
theorem n_asker (x : Int32) : (F_X11_isAsker x = some 0 ∧ F_X12_isAsker x = some 0) ∨ (F_X11_isAsker x = some 1 ∧ F_X12_isAsker x = some 1 ∧ ∃ a, a < 16 ∧ x = nI a) := by
  unfold F_X11_isAsker F_X12_isAsker
  rw [k_in, bd_some]
  by_cases h1 : x < 0
  · left
    rw [if_pos h1, if_neg (fun q => Int32.lt_irrefl (Int32.lt_of_lt_of_le h1 q.1)), ck_t (Or.inl rfl)]
    exact ⟨rfl, rfl⟩
  · rw [if_neg h1]
    by_cases h2 : 16 ≤ x
    · left
      rw [if_pos h2, if_neg (fun q => absurd (Int32.le_trans h2 q.2) (by decide)), ck_t (Or.inl rfl)]
      exact ⟨rfl, rfl⟩
    · right
      have h3 : x < 16 := Int32.not_le.mp h2
      obtain ⟨j, hj, e⟩ := nI_of2 (M := 16) (n := 16) rfl h1 (Int32.le_of_lt h3)
      have hj2 : j < 16 := by
        rw [e] at h3
        exact (nI_ltI (a := j) (b := 16) (by omega) (by omega)).mp h3
      have h4 : x ≤ 15 := by rw [e]; exact nI_le (b := 15) (by omega) (by omega)
      rw [if_neg h2, if_pos ⟨Int32.not_lt.mp h1, h4⟩, ck_t (Or.inr rfl)]
      exact ⟨rfl, rfl, j, hj2, e⟩
/-! ===== asking, behind the use: both sides ===== -/
theorem n_letGoI {N : Nat} (hN : 65536 ≤ N) {T : Nat → Rows} {V : Nat → Nat → Int32} (hE : iE (T 4)) {e : Nat} (he : e < (T 4).length) (he2 : e < 2 ^ 31) (x : Int32) (kind : Nat) (hx : x = nI kind) (hk : kind < 14) : F_X6_letGo N (V 4 0) (T 0) (T 2) (V 1) (T 4) (nI e) x = some (lgT T V e x 0, lgT T V e x 2, tlk (lgV T V e 1) kind, lgT T V e x 4) := by
  subst hx
  exact n_letGo hN hE he he2 kind hk
theorem lg_iv {p : P} {T : Nat → Rows} {V : Nat → Nat → Int32} (h : Iv p T V) {e : Nat} (he : e < (T 4).length) {kind : Int32} : Iv p (lgT T V e kind) (lgV T V e) := by
  have t := fun j h0 h2 h4 => lgT_ne (T := T) (V := V) (e := e) (kind := kind) (j := j) h0 h2 h4
  have v := fun j h1 => lgV_ne (T := T) (V := V) (e := e) (j := j) h1
  refine ⟨by rw [v 0 (by decide)]; exact h.r, lg_inv h.i0 he (v 4 (by decide)), ?_, ?_, ?_, by rw [v 4 (by decide)]; exact h.n, by rw [v 3 (by decide)]; exact h.sk, ?_⟩
  · rw [lgT_4, t 5 (by decide) (by decide) (by decide)]
    exact h.x.sub (fun r hr => ⟨r, List.mem_of_mem_eraseIdx hr, rfl⟩) (List.Sublist.refl _)
  · rw [lgT_4]
    exact Nat.le_trans (sub_sum ((List.eraseIdx_sublist _ _).map _)) h.sum
  · rw [t 5 (by decide) (by decide) (by decide)]; exact h.cold
  · unfold iLd
    rw [t 6 (by decide) (by decide) (by decide), t 7 (by decide) (by decide) (by decide), t 8 (by decide) (by decide) (by decide), t 1 (by decide) (by decide) (by decide)]
    exact h.ld
theorem co_iv {p : P} {T : Nat → Rows} {V : Nat → Nat → Int32} (h : Iv p T V) (i : Nat) : Iv p (va_up T 5 ((T 5).eraseIdx i)) V := by
  refine ⟨h.r, ⟨h.i0.1, iC_erase h.i0.2.1 i, h.i0.2.2⟩, ?_, h.sum, ?_, h.n, h.sk, h.ld⟩
  · exact h.x.sub (fun r hr => ⟨r, hr, rfl⟩) (List.eraseIdx_sublist _ _)
  · show ((T 5).eraseIdx i).length ≤ _
    have := (List.eraseIdx_sublist (T 5) i).length_le
    have := h.cold
    omega
/-- what a use leaves of the key that is asked for: stale ones go -/
theorem s_begin {N : Nat} (hN : 65536 ≤ N) {p : P} {T : Nat → Rows} {V : Nat → Nat → Int32} {g : Nat → Int32} (h : RR T V g) (hI : Iv p T V) {k : Int32} (hk : Vk k) (uses uw : Int32) (x2 : Int32) (cnt : Nat → Int32) (hc : F_X7_add N cnt k = some (V 3)) :
    ∃ (T' : Nat → Rows) (V' : Nat → Nat → Int32) (g' : Nat → Int32), F_X6_beginUse N (V 0) (V 4 0) (T 0) (T 2) (V 1) (T 4) (T 5) cnt uses uw k = some (T' 0, T' 2, V' 1, T' 4, T' 5, V 3, uses + 1, uw + 1) ∧ RR T' V' g' ∧ Iv p T' V' ∧ (∀ j, j ≠ 0 → j ≠ 2 → j ≠ 4 → j ≠ 5 → T' j = T j) ∧ (∀ j, j ≠ 1 → V' j = V j) ∧
      ((∃ e, fk 7 (T' 4) k = some e ∧ F_X12_asks N g (kc k) x2 = bd (F_X12_hits N g' (nI e) x2) (fun o_12 => some (o_12.1, o_12.2))) ∨
       (fk 7 (T' 4) k = none ∧ ∃ i, fk 7 (T' 5) k = some i ∧ F_X12_asks N g (kc k) x2 = bd (F_X12_warms N g' (nI i)) (fun o_9 => some (o_9.1, o_9.2))) ∨
       (fk 7 (T' 4) k = none ∧ fk 7 (T' 5) k = none ∧ F_X12_asks N g (kc k) x2 = J_X12_asks_86 N (kc k) x2 g')) := by
  have h200 := h.e.2
  have hcl := hI.cold
  have hc20 := hI.r.2.2.2.1
  -- behind the entries: the cold shelf
  have cold : ∀ {T : Nat → Rows} {V : Nat → Nat → Int32} {g : Nat → Int32}, RR T V g → Iv p T V → fk 7 (T 4) k = none → ∀ (cnt : Nat → Int32) (uses uw : Int32),
      ∃ (T' : Nat → Rows) (g' : Nat → Int32), J_X6_beginUse_60 N k (V 0) (V 4 0) (T 0) (T 2) (V 1) (T 4) (T 5) cnt uses uw = some (T' 0, T' 2, V 1, T' 4, T' 5, cnt, uses, uw) ∧ RR T' V g' ∧ Iv p T' V ∧ (∀ j, j ≠ 5 → T' j = T j) ∧
        ((∃ i, fk 7 (T' 5) k = some i ∧ J_X12_asks_36 N (kc k) x2 g = bd (F_X12_warms N g' (nI i)) (fun o_9 => some (o_9.1, o_9.2))) ∨ (fk 7 (T' 5) k = none ∧ J_X12_asks_36 N (kc k) x2 g = J_X12_asks_86 N (kc k) x2 g')) := by
    intro T V g h hI _ cnt uses uw
    have h21 := h.c.2
    unfold J_X6_beginUse_60 J_X12_asks_36
    rw [n_rowOf, bd_some, s_coldOf hN h.c hI.i0.2.1 hk, bd_some]
    cases hf : fk 7 (T 5) k with
    | none =>
      refine ⟨T, g, ?_, h, hI, fun _ _ => rfl, Or.inr ⟨hf, ?_⟩⟩
      · rw [if_pos (show oI none = -1 from rfl)]
      · unfold J_X12_asks_69
        rw [if_pos (show oI none < 0 by decide), if_pos (show oI none < 0 by decide)]
    | some i =>
      obtain ⟨hil, hik⟩ := fk_lt hf
      have hne : ¬ oI (some i) = -1 := fun z => by
        have := (oI_m1 (o := some i) (fun j hj => by cases hj; omega)).mp z
        cases this
      have hge : ¬ oI (some i) < 0 := nI_pos (by omega)
      have hoe : oI (some i) = nI i := rfl
      have e4 : cl (mCo (rw' (T 5) i)) 4 = cl (rw' (T 5) i) 6 := rfl
      rw [if_neg hne, if_neg hge, hoe, n_stale (by omega), bd_some, s_coldAt h.c hil 4 4 rfl (by decide), bd_some, e4, s_over h.z, bd_some]
      by_cases q : stI (V 0) (V 4 0) (cl (rw' (T 5) i) 6) = 0
      · refine ⟨T, g, ?_, h, hI, fun _ _ => rfl, Or.inl ⟨i, hf, ?_⟩⟩
        · rw [if_pos q]
        · rw [if_pos q]
      · obtain ⟨g1, q1, r1⟩ := s_coldOut hN h hil
        refine ⟨_, g1, ?_, r1, co_iv hI i, fun j hj => vu_ne hj, Or.inr ⟨?_, ?_⟩⟩
        · rw [if_neg q, n_remove0 (by omega), bd_some]
          rfl
        · exact fk_ne (cold_gone hI.x.1 hf)
        · unfold J_X12_asks_69
          rw [if_neg q, if_neg (show ¬ nI i < 0 from nI_pos (by omega)), q1, bd_some]
  unfold F_X6_beginUse F_X12_asks
  rw [lt_b, lt_b, hc, bd_some, n_rowOf, bd_some, s_entry hN h.e hI.i0.1.iE hk, bd_some]
  cases hf : fk 7 (T 4) k with
  | none =>
    obtain ⟨T', g', c1, c2, c3, c4, c5⟩ := cold h hI hf (V 3) (uses + 1) (uw + 1)
    have e4 : T' 4 = T 4 := c4 4 (by decide)
    refine ⟨T', V, g', ?_, c2, c3, fun j _ _ _ h5 => c4 j h5, fun _ _ => rfl, Or.inr ?_⟩
    · rw [if_pos (show oI none = -1 from rfl)]; exact c1
    · unfold J_X12_asks_25
      rw [if_pos (show oI none < 0 by decide), if_pos (show oI none < 0 by decide), e4]
      rcases c5 with ⟨i, d1, d2⟩ | ⟨d1, d2⟩
      · exact Or.inl ⟨hf, i, d1, d2⟩
      · exact Or.inr ⟨hf, d1, d2⟩
  | some e =>
    obtain ⟨hel, hek⟩ := fk_lt hf
    have hne : ¬ oI (some e) = -1 := fun z => by
      have := (oI_m1 (o := some e) (fun j hj => by cases hj; omega)).mp z
      cases this
    have hge : ¬ oI (some e) < 0 := nI_pos (by omega)
    have hoe : oI (some e) = nI e := rfl
    rw [if_neg hne, if_neg hge, hoe, n_stale (by omega), bd_some, s_stale h.z h.e hel, bd_some]
    by_cases q : stI (V 0) (V 4 0) (cl (rw' (T 4) e) 6) = 0
    · have hno : fk 7 (T 5) k = none := fk_ne (fun r hr => by rw [← hek]; exact fun z => hI.x.2 _ (mem_at hel) r hr z.symm)
      refine ⟨T, V, g, ?_, h, hI, fun _ _ _ _ _ => rfl, fun _ _ => rfl, Or.inl ⟨e, hf, ?_⟩⟩
      · rw [if_pos q]
        unfold J_X6_beginUse_60
        rw [n_rowOf, bd_some, hno, if_pos (show oI none = -1 from rfl)]
      · rw [if_pos q]
    · obtain ⟨g1, q1, r1⟩ := s_leaves hN h hI.i0.1.iE hel 8
      have I1 : Iv p (lgT T V e 8) (lgV T V e) := lg_iv hI hel
      have hno : fk 7 (lgT T V e 8 4) k = none := by
        rw [lgT_4]
        refine fk_ne (fun r hr => ?_)
        rw [← hek]
        exact erase_key hI.i0.1 hel hr
      obtain ⟨T', g', c1, c2, c3, c4, c5⟩ := cold r1 I1 hno (V 3) (uses + 1) (uw + 1)
      have e4 : T' 4 = lgT T V e 8 4 := c4 4 (by decide)
      have v0 : lgV T V e 0 = V 0 := lgV_ne (by decide)
      have v4 : lgV T V e 4 = V 4 := lgV_ne (by decide)
      have t5 : lgT T V e 8 5 = T 5 := lgT_ne (by decide) (by decide) (by decide)
      rw [v0, v4, t5] at c1
      refine ⟨T', lgV T V e, g', ?_, c2, c3, fun j h0 h2 h4 h5 => by rw [c4 j h5, lgT_ne h0 h2 h4], fun j h1 => lgV_ne h1, Or.inr ?_⟩
      · rw [if_neg q, n_letGoI hN hI.i0.1.iE hel (by omega) 8 8 rfl (by decide), bd_some]
        exact c1
      · unfold J_X12_asks_25
        rw [if_neg q, if_neg (show ¬ nI e < 0 from nI_pos (by omega)), q1, bd_some, e4]
        rcases c5 with ⟨i, d1, d2⟩ | ⟨d1, d2⟩
        · exact Or.inl ⟨hno, i, d1, d2⟩
        · exact Or.inr ⟨hno, d1, d2⟩
