/-! ===== what is asked of the state: both sides ===== -/
theorem idx {x : Int32} {L : Nat} (h0 : ¬ x < 0) (h : x < nI L) (hL : L < 2 ^ 31) : ∃ i : Nat, i < L ∧ x = nI i := by
  obtain ⟨i, hi, e, -, -, -⟩ := pk_mu h0 (L := L) (Int32.not_le.mpr h) hL
  exact ⟨i, hi, e⟩
theorem n_len {N : Nat} (hN : 65536 ≤ N) {k : Int32} (hk : Vk k) : ∃ r, F_X1_length N k = some r ∧ F_X12_keyTells N (kc k) (-1) = some r := by
  obtain ⟨r, h1, h2⟩ := n_tells hN hk (i := -1) (by decide)
  unfold F_X11_lengthOrByte at h1
  rw [if_pos rfl] at h1
  obtain ⟨y, h3, h4⟩ := bd_e h1
  have : y = r := Option.some.inj h4
  subst this
  exact ⟨y, h3, h2⟩
theorem n_byt {N : Nat} (hN : 65536 ≤ N) {k : Int32} (hk : Vk k) {i : Int32} (hi : -1 ≤ i) (h1 : ¬ i = -1) : ∃ r, F_X1_byteAt N k i = some r ∧ F_X12_keyTells N (kc k) i = some r := by
  obtain ⟨r, h2, h3⟩ := n_tells hN hk hi
  unfold F_X11_lengthOrByte at h2
  rw [if_neg h1] at h2
  obtain ⟨y, h4, h5⟩ := bd_e h2
  have : y = r := Option.some.inj h5
  subst this
  exact ⟨y, h4, h3⟩
theorem m21 {x : Int32} (h : -2 ≤ x) (h2 : ¬ x = -2) : -1 ≤ x := by
  have a : (-2 : Int) ≤ x.toInt := by have := Int32.le_iff_toInt_le.mp h; exact this
  have b : ¬ x.toInt = -2 := fun z => h2 (Int32.toInt_inj.mp z)
  exact Int32.le_iff_toInt_le.mpr (by show (-1 : Int) ≤ _; omega)
theorem m32 {x : Int32} (h : -3 ≤ x) (h3 : ¬ x = -3) : -2 ≤ x := by
  have a : (-3 : Int) ≤ x.toInt := by have := Int32.le_iff_toInt_le.mp h; exact this
  have b : ¬ x.toInt = -3 := fun z => h3 (Int32.toInt_inj.mp z)
  exact Int32.le_iff_toInt_le.mpr (by show (-2 : Int) ≤ _; omega)
theorem m_writtenOf {N : Nat} (hN : 65536 ≤ N) {c : Nat} {tp : List Nat} {T : Nat → Rows} {V : Nat → Nat → Int32} {g : Nat → Int32} (hs : SQ c tp T V g) (x y : Int32) : ∃ r, F_X11_writtenOf N (T 2) x y = some r ∧ F_X12_writtenOf N g x y = some r := by
  obtain ⟨p, q, h, hI, hB, hq⟩ := hs
  unfold F_X11_writtenOf F_X12_writtenOf
  by_cases h1 : x < 0
  · exact ⟨-1001, by rw [if_pos h1], by rw [if_pos h1]⟩
  by_cases h2 : -2 ≤ y
  · have h40 := h.w.2
    have hm : g 17 = nI (T 2).length := by rw [h.w.1.1, List.length_map]
    have es : tsize (T 2) = nI (T 2).length := rfl
    rw [if_neg h1, if_neg h1, if_pos h2, if_pos h2, lt_b, gl 17 17 rfl (by decide), hm, es]
    by_cases h3 : x < nI (T 2).length
    · obtain ⟨i, hi, rfl⟩ := idx h1 h3 (by omega)
      have e2 : (8527 : Int32) + 2 * nI i = nI (8527 + 2 * i) := by
        have : (2 : Int32) * nI i = nI (2 * i) := pk_mul 2 i
        rw [this]; exact nI_add 8527 _
      have e3 : nI (8527 + 2 * i) + 1 = nI (8527 + 2 * i + 1) := nI_1 _
      have cell : ∀ j, j < 2 → g (8527 + 2 * i + j) = cl (mW2 (rw' (T 2) i)) j := fun j hj => by
        have := h.w.1.2 i j (by rw [List.length_map]; exact hi) hj
        rw [show 8527 + 2 * i + j = 8527 + (i * 2 + j) by omega, this]
        exact congrArg (fun r => List.getD r j 0) (map_at mW2 hi)
      have c0 : g (8527 + 2 * i) = kc (cl (rw' (T 2) i) 0) := cell 0 (by decide)
      have c1 : g (8527 + 2 * i + 1) = cl (rw' (T 2) i) 1 := cell 1 (by decide)
      have hv : Vk (cl (rw' (T 2) i) 0) := hI.i0.2.2.2.1 _ (mem_at hi)
      rw [if_pos h3, if_pos h3, e2]
      by_cases h4 : y = -1
      · refine ⟨cl (rw' (T 2) i) 1, ?_, ?_⟩
        · rw [if_pos h4, lt_b, tg i 1 1 rfl (by omega) (by decide)]
        · rw [if_pos h4, e3, gl _ (8527 + 2 * i + 1) rfl (by omega), c1]
      · rw [if_neg h4, if_neg h4, lt_b, tg i 0 0 rfl (by omega) (by decide), gl _ (8527 + 2 * i) rfl (by omega), c0]
        unfold J_X12_writtenOf_72
        by_cases h5 : y = -2
        · obtain ⟨r, r1, r2⟩ := n_len hN hv
          exact ⟨r, by rw [if_pos h5, r1, bd_some], by rw [if_pos h5, r2, bd_some]⟩
        · obtain ⟨r, r1, r2⟩ := n_byt hN hv (m21 h2 h5) h4
          exact ⟨r, by rw [if_neg h5, r1, bd_some], by rw [if_neg h5, r2, bd_some]⟩
    · exact ⟨-1003, by rw [if_neg h3], by rw [if_neg h3]⟩
  · exact ⟨-1001, by rw [if_neg h1, if_neg h2], by rw [if_neg h1, if_neg h2]⟩
theorem m_of {c : Nat} {tp : List Nat} {T : Nat → Rows} {V : Nat → Nat → Int32} {g : Nat → Int32} (hs : SQ c tp T V g) (x y : Int32) : ∃ r, F_X11_of (V 2) x y = some r ∧ F_X12_of g x y = some r := by
  obtain ⟨p, q, h, hI, hB, hq⟩ := hs
  unfold F_X11_of F_X12_of
  rcases n_asker x with ⟨a1, a2⟩ | ⟨a1, a2, a, ha, rfl⟩
  · exact ⟨-1001, by rw [a1, bd_some, if_pos rfl], by rw [a2, bd_some, if_pos rfl]⟩
  rw [a1, a2, bd_some, bd_some, if_neg one_ne, if_neg one_ne]
  rcases in01 y 0 3 with ⟨b1, b2⟩ | ⟨b1, b2, b3⟩
  · refine ⟨-1001, ?_, by rw [b1, bd_some, if_pos rfl]⟩
    by_cases h1 : y < 0
    · rw [if_pos h1]
    · rw [if_neg h1]
      by_cases h2 : y < 4
      · obtain ⟨j, hj, e⟩ := idx h1 (L := 4) h2 (by decide)
        exact absurd ⟨Int32.not_lt.mp h1, by rw [e]; exact nI_le (b := 3) (by omega) (by decide)⟩ b2
      · rw [if_neg h2]
  · obtain ⟨j, hj, e⟩ := nI_ofx (M := 3) (n := 3) rfl b2 b3
    subst e
    have h4 : nI j < (4 : Int32) := nI_lt (b := 4) (by omega) (by decide)
    have e1 : nI a * 4 + nI j = nI (a * 4 + j) := by
      have : nI a * 4 = nI (a * 4) := pk_mul a 4
      rw [this, nI_add]
    refine ⟨V 2 (a * 4 + j), ?_, ?_⟩
    · unfold F_X2_sumOf
      rw [if_neg (nI_pos (by omega)), if_pos h4, lt_b, e1, if_neg (nI_pos (by omega)), if_neg (nI_ge (by omega) (by decide)), ldn rfl (by omega), bd_some]
    · rw [b1, bd_some, if_neg one_ne, e_of a j, gl _ (8403 + (a * 4 + j)) rfl (by omega), h.o _ (by omega)]
theorem m_told {N : Nat} (hN : 65536 ≤ N) {c : Nat} {tp : List Nat} {T : Nat → Rows} {V : Nat → Nat → Int32} {g : Nat → Int32} (hs : SQ c tp T V g) (x y : Int32) : ∃ r, F_X11_told N (T 1) x y = some r ∧ F_X12_told N g x y = some r := by
  obtain ⟨p, q, h, hI, hB, hq⟩ := hs
  have h60 := h.t.2
  have hm : g 16 = nI (T 1).length := by rw [h.t.1.1, List.length_map]
  have es : tsize (T 1) = nI (T 1).length := rfl
  unfold F_X11_told F_X12_told
  by_cases h1 : x < -1
  · exact ⟨-1001, by rw [if_pos h1], by rw [if_pos h1]⟩
  rw [if_neg h1, if_neg h1]
  by_cases h2 : -1 ≤ y
  · rw [if_pos h2, if_pos h2, gl 16 16 rfl (by decide), gl 16 16 rfl (by decide), hm, lt_b, lt_b, es]
    by_cases h3 : x = -1
    · exact ⟨_, by rw [if_pos h3], by rw [if_pos h3]⟩
    rw [if_neg h3, if_neg h3]
    by_cases h4 : nI (T 1).length ≤ x
    · exact ⟨-1003, by rw [if_pos h4], by rw [if_pos h4]⟩
    have hx0 : ¬ x < 0 := by
      intro z
      have a : (-1 : Int) ≤ x.toInt := Int32.le_iff_toInt_le.mp (Int32.not_lt.mp h1)
      have b : ¬ x.toInt = -1 := fun w => h3 (Int32.toInt_inj.mp w)
      have d : x.toInt < 0 := Int32.lt_iff_toInt_lt.mp z
      omega
    obtain ⟨i, hi, rfl⟩ := idx hx0 (Int32.not_le.mp h4) (by omega)
    have e2 : (8467 : Int32) + nI i = nI (8467 + i) := nI_add 8467 i
    have c0 : g (8467 + i) = kc (cl (rw' (T 1) i) 0) := by
      have := h.t.1.2 i 0 (by rw [List.length_map]; exact hi) (by decide)
      rw [show 8467 + i = 8467 + (i * 1 + 0) by omega, this]
      exact congrArg (fun r => List.getD r 0 0) (map_at mT hi)
    have hv : Vk (cl (rw' (T 1) i) 0) := hI.i0.2.2.1 _ (mem_at hi)
    obtain ⟨r, r1, r2⟩ := n_tells hN hv h2
    exact ⟨r, by rw [if_neg h4, lt_b, tg i 0 0 rfl (by omega) (by decide), r1, bd_some], by rw [if_neg h4, e2, gl _ (8467 + i) rfl (by omega), c0, r2, bd_some]⟩
  · exact ⟨-1001, by rw [if_neg h2], by rw [if_neg h2]⟩
/-- the m-th of those who wait for a key -/
theorem tfindN {k : Int32} {m : Nat} (hm : m < 2 ^ 31) : ∀ (rows : Rows) (i a : Nat), a ≤ m → i + rows.length < 2 ^ 31 → (m - a < (wl rows k).length ∧ ∃ j, j < rows.length ∧ tfindA 0 k (nI m) rows (nI i) (nI a) = nI (i + j) ∧ cl (rw' rows j) 1 = (wl rows k).getD (m - a) 0) ∨ ((wl rows k).length ≤ m - a ∧ tfindA 0 k (nI m) rows (nI i) (nI a) = -1)
  | [], i, a, _, _ => Or.inr ⟨Nat.zero_le _, rfl⟩
  | r :: rs, i, a, ha, hl => by
    have hl' : i + 1 + rs.length < 2 ^ 31 := by rw [List.length_cons] at hl; omega
    have er : rcol r 0 = cl r 0 := rc r 0 rfl (by decide)
    unfold tfindA
    rw [er, wl_cons, nI_1]
    by_cases q : cl r 0 = k
    · rw [if_pos q, if_pos q]
      by_cases q2 : a = m
      · left
        subst q2
        rw [if_pos rfl, Nat.sub_self]
        exact ⟨Nat.succ_pos _, 0, Nat.succ_pos _, rfl, rfl⟩
      · rw [if_neg (fun z => q2 ((nI_eq (by omega) hm).mp z)), nI_1]
        have e : m - a = m - (a + 1) + 1 := by omega
        rcases tfindN (k := k) hm rs (i + 1) (a + 1) (by omega) hl' with ⟨h1, j, h2, h3, h4⟩ | ⟨h1, h2⟩
        · left
          refine ⟨by rw [List.length_cons]; omega, j + 1, by rw [List.length_cons]; omega, by rw [h3]; congr 1; omega, ?_⟩
          rw [e, List.getD_cons_succ]
          exact h4
        · right
          exact ⟨by rw [List.length_cons]; omega, h2⟩
    · rw [if_neg q, if_neg q]
      rcases tfindN (k := k) hm rs (i + 1) a ha hl' with ⟨h1, j, h2, h3, h4⟩ | ⟨h1, h2⟩
      · left
        exact ⟨h1, j + 1, by rw [List.length_cons]; omega, by rw [h3]; congr 1; omega, h4⟩
      · right
        exact ⟨h1, h2⟩
theorem m_load {N : Nat} (hN : 65536 ≤ N) {c : Nat} (hc : c < 512) {tp : List Nat} {T : Nat → Rows} {V : Nat → Nat → Int32} {g : Nat → Int32} (hs : SQ c tp T V g) {tby : Nat → Int32} {tsz : Int32} {tape : Nat → Int32} {taped : Int32} (ht : TR tp tby tsz tape taped) (spot x : Int32) :
    ∃ (r : Int32) (tp' : List Nat) (tsz' taped' spot' : Int32), F_X11_load N tby tsz (T 6) (T 7) x = some (r, tsz') ∧ F_X12_load N g tape taped spot x = some (r, taped', spot') ∧ TR tp' tby tsz' tape taped' ∧ SQ (c + 1) tp' T V g := by
  unfold F_X11_load F_X12_load
  by_cases hn0 : ¬ 0 ≤ x
  · exact ⟨-1001, tp, tsz, taped, spot, by rw [if_neg hn0], by rw [if_neg hn0], ht, hs.up⟩
  have h0 : 0 ≤ x := Decidable.not_not.mp hn0
  obtain ⟨k, spot', k1, k2, k3⟩ := take_both hN ht spot
  rw [if_pos h0, if_pos h0, k1, k2, bd_some, bd_some]
  rcases k3 with rfl | ⟨hk, hne⟩
  · exact ⟨-1002, [], 0, 0, spot', by rw [if_pos rfl], by rw [if_pos kc_0], ht.nil, hs.nil⟩
  have hs0 := hs.nil
  obtain ⟨p, q, h, hI, hB, hq⟩ := hs
  have h7 : (T 7).length ≤ 256 := by have := hB.2.2.2; omega
  have h256 : (T 6).length ≤ 256 := by obtain ⟨lr, hG, hle, h6, -⟩ := h.l; exact h6
  have hlo := s_loadOf hN h.l hI.ld.1 hk
  suffices H : ∃ r, (if (x = 0 : Prop) then
      bd (F_X3_rowOf (T 6) k) (fun o_5 =>
      if (o_5 = ((-1)) : Prop) then
      some (0, (0 : Int32))
      else
      bd (F_X3_runs (T 6) k) (fun o_6 =>
      if (o_6 = 0 : Prop) then
      some (1, (0 : Int32))
      else
      some (2, (0 : Int32))))
      else
      if (x = 1 : Prop) then
      lt (thowMany (T 7) 0 k) (fun o_4 =>
      some (o_4, (0 : Int32)))
      else
      lt (tfind (T 7) 0 k (x - 2)) (fun o_2 =>
      if (o_2 = ((-1)) : Prop) then
      some ((-1003), (0 : Int32))
      else
      lt (tget (T 7) o_2 1) (fun o_3 =>
      some (o_3, (0 : Int32))))) = some (r, (0 : Int32)) ∧ (bd (F_X12_loadOf N g (kc k)) (fun o_2 =>
      if (2 ≤ x : Prop) then
      if (o_2 < 0 : Prop) then
      some ((-1003), (0 : Int32), spot')
      else
      bd (F_X12_loadAt g o_2 3) (fun o_3 =>
      if (o_3 ≤ (x - 2) : Prop) then
      some ((-1003), (0 : Int32), spot')
      else
      bd (F_X12_loadAt g o_2 ((4 + x) - 2)) (fun o_4 =>
      some (o_4, (0 : Int32), spot')))
      else
      if (0 ≤ o_2 : Prop) then
      if (x = 0 : Prop) then
      J_X12_load_51 N o_2 1 g tape 0 spot'
      else
      J_X12_load_51 N o_2 3 g tape 0 spot'
      else
      some (0, (0 : Int32), spot'))) = some (r, (0 : Int32), spot') by
    obtain ⟨r, r1, r2⟩ := H
    exact ⟨r, [], 0, 0, spot', by rw [if_neg (kc_ne0 hk).1]; exact r1, by rw [if_neg (kc_ne0 hk).2]; exact r2, ht.nil, hs0⟩
  rw [hlo, bd_some]
  by_cases x0 : x = 0
  · subst x0
    rw [if_pos rfl, if_neg (show ¬ (2 : Int32) ≤ 0 by decide), if_pos rfl, n_loadRow, bd_some]
    cases hf : fk 0 (T 6) k with
    | none => exact ⟨0, by rw [if_pos (show oI none = -1 from rfl)], by rw [if_neg (show ¬ (0 : Int32) ≤ oI none by decide)]⟩
    | some l =>
      obtain ⟨hl, hlk⟩ := fk_lt hf
      have hne' : ¬ oI (some l) = -1 := fun z => by
        have := (oI_m1 (o := some l) (fun j hj => by cases hj; omega)).mp z
        cases this
      have hoe : oI (some l) = nI l := rfl
      unfold J_X12_load_51
      rw [if_neg hne', n_runs h256 hf, bd_some, if_pos (show (0 : Int32) ≤ oI (some l) from nI_pos' (by omega)), hoe, (LR16 h.l hl).2.2.2.1, bd_some]
      by_cases z : cl (rw' (T 6) l) 1 = 1
      · exact ⟨2, by rw [if_pos z, if_neg one_ne], by rw [if_pos z]⟩
      · exact ⟨1, by rw [if_neg z, if_pos rfl], by rw [if_neg z]⟩
  by_cases x1 : x = 1
  · subst x1
    rw [if_neg one_ne, if_pos rfl, if_neg (show ¬ (2 : Int32) ≤ 1 by decide), if_neg one_ne, lt_b, howMany_eq _ 0 0 rfl (by decide), wl_count]
    refine ⟨_, rfl, ?_⟩
    cases hf : fk 0 (T 6) k with
    | none =>
      rw [if_neg (show ¬ (0 : Int32) ≤ oI none by decide), wl_nil hI.ld.2.1 (fk_none hf)]
      rfl
    | some l =>
      obtain ⟨hl, hlk⟩ := fk_lt hf
      have hoe : oI (some l) = nI l := rfl
      unfold J_X12_load_51
      have := (LR16 h.l hl).2.2.1
      rw [hlk] at this
      rw [if_pos (show (0 : Int32) ≤ oI (some l) from nI_pos' (by omega)), hoe, this, bd_some]
  have hxi : (2 : Int) ≤ x.toInt := by
    have a : (0 : Int) ≤ x.toInt := Int32.le_iff_toInt_le.mp h0
    have b : ¬ x.toInt = 0 := fun z => x0 (Int32.toInt_inj.mp z)
    have d : ¬ x.toInt = 1 := fun z => x1 (Int32.toInt_inj.mp z)
    omega
  have h2 : (2 : Int32) ≤ x := Int32.le_iff_toInt_le.mpr hxi
  obtain ⟨m, hm, ex⟩ : ∃ m, m < 2 ^ 31 - 2 ∧ x = nI (m + 2) := by
    have hub : x.toInt < 2 ^ 31 := Int32.toInt_lt x
    refine ⟨x.toInt.toNat - 2, by omega, ?_⟩
    refine Int32.toInt_inj.mp ?_
    rw [show x.toInt.toNat - 2 + 2 = x.toInt.toNat by omega, nI_toInt (by omega)]
    omega
  subst ex
  have e2 : nI (m + 2) - 2 = nI m := by
    have := pk_sub (a := m + 2) (b := 2) (by omega)
    exact this
  have e4 : (4 : Int32) + nI (m + 2) - 2 = nI (4 + m) := by
    have a : (4 : Int32) + nI (m + 2) = nI (4 + (m + 2)) := nI_add 4 _
    have b := pk_sub (a := 4 + (m + 2)) (b := 2) (by omega)
    rw [a]
    exact b.trans (by congr 1)
  rw [if_neg x0, if_neg x1, if_pos h2, lt_b, e2, e4]
  have hlt : m - 0 = m := Nat.sub_zero m
  have tf := tfindN (k := k) (m := m) (by omega) (T 7) 0 0 (Nat.zero_le _) (by omega)
  rw [hlt, nI_0] at tf
  have et : tfind (T 7) 0 k (nI m) = tfindA 0 k (nI m) (T 7) 0 0 := rfl
  rw [et]
  have cls : (m < (wl (T 7) k).length ∧ (if (tfindA 0 k (nI m) (T 7) 0 0 = ((-1)) : Prop) then
      some ((-1003), (0 : Int32))
      else
      lt (tget (T 7) (tfindA 0 k (nI m) (T 7) 0 0) 1) (fun o_3 =>
      some (o_3, (0 : Int32)))) = some ((wl (T 7) k).getD m 0, (0 : Int32))) ∨ ((wl (T 7) k).length ≤ m ∧ (if (tfindA 0 k (nI m) (T 7) 0 0 = ((-1)) : Prop) then
      some ((-1003), (0 : Int32))
      else
      lt (tget (T 7) (tfindA 0 k (nI m) (T 7) 0 0) 1) (fun o_3 =>
      some (o_3, (0 : Int32)))) = some (-1003, (0 : Int32))) := by
    rcases tf with ⟨t1, j, t2, t3, t4⟩ | ⟨t1, t2⟩
    · left
      refine ⟨t1, ?_⟩
      rw [Nat.zero_add] at t3
      have hnj : ¬ nI j = -1 := fun z => by
        have := (oI_m1 (o := some j) (fun j hj => by cases hj; omega)).mp z
        cases this
      rw [t3, if_neg hnj, lt_b, tg j 1 1 rfl (by omega) (by decide), t4]
    · right
      exact ⟨t1, by rw [t2, if_pos rfl]⟩
  cases hf : fk 0 (T 6) k with
  | none =>
    have hw := wl_nil hI.ld.2.1 (k := k) (fk_none hf)
    rcases cls with ⟨t1, t2⟩ | ⟨t1, t2⟩
    · rw [hw] at t1; exact absurd t1 (Nat.not_lt_zero _)
    · exact ⟨-1003, t2, by rw [if_pos (show oI none < 0 by decide)]⟩
  | some l =>
    obtain ⟨hl, hlk⟩ := fk_lt hf
    have hoe : oI (some l) = nI l := rfl
    have L := LR16 h.l hl
    rw [hlk] at L
    have h16 := L.1
    rw [if_neg (show ¬ oI (some l) < 0 from nI_pos (by omega)), hoe, L.2.2.1, bd_some]
    rcases cls with ⟨t1, t2⟩ | ⟨t1, t2⟩
    · exact ⟨_, t2, by rw [if_neg (nI_ge t1 (by omega)), L.2.2.2.2.2 m t1, bd_some]⟩
    · exact ⟨-1003, t2, by rw [if_pos (nI_le t1 (by omega))]⟩
