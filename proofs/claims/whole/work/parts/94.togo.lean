/-! ===== toGo: both sides ===== -/
abbrev rkS (vals : Nat → Int32) (now : Int32) (rows : Rows) (e : Nat) : Nat := rank (So vals now rows) rows.length e
/-- the next behind one of rank m has rank m + 1 -/
theorem fB_next {vals : Nat → Int32} {now : Int32} {rows : Rows} {esf : Int32} (hI : iS rows esf) {b : Nat} (hb : b < rows.length) (hr : rkS vals now rows b + 1 < rows.length) : ∃ e, fB vals now rows (some b) 0 rows.length = some e ∧ e < rows.length ∧ rkS vals now rows e = rkS vals now rows b + 1 := by
  have hO := so_ord (vals := vals) (now := now) hI
  have ok : ∀ i, i < rows.length → okB vals now rows (some b) 0 i = So vals now rows b i := fun i hi => by
    have hk : ¬ cl (rw' rows i) 7 = 0 := (kc_ne0 (hI.iE.at hi).2).1
    unfold okB
    rw [decide_eq_true hk, Bool.true_and]
  obtain ⟨m1, m2⟩ := fB_min (b := some b) (sp := 0) hO (n := rows.length)
  cases hf : fB vals now rows (some b) 0 rows.length with
  | none =>
    have := rank_last hO hb (fun x hx => by rw [← ok x hx]; exact m2 hf x hx)
    have hr' : rank (So vals now rows) rows.length b + 1 < rows.length := hr
    omega
  | some e =>
    obtain ⟨h1, h2⟩ := fB_lt hf
    rw [ok e h1] at h2
    exact ⟨e, rfl, h1, rank_succ hO hb h1 h2 (fun x hx hbx => m1 e hf x hx (by rw [ok x hx]; exact hbx))⟩
theorem fB_first {vals : Nat → Int32} {now : Int32} {rows : Rows} {esf : Int32} (hI : iS rows esf) (h0 : 0 < rows.length) : ∃ e, fB vals now rows none 0 rows.length = some e ∧ e < rows.length ∧ rkS vals now rows e = 0 := by
  have hO := so_ord (vals := vals) (now := now) hI
  have ok : ∀ i, i < rows.length → okB vals now rows none 0 i = true := fun i hi => by
    have hk : ¬ cl (rw' rows i) 7 = 0 := (kc_ne0 (hI.iE.at hi).2).1
    unfold okB
    rw [decide_eq_true hk]
    rfl
  obtain ⟨m1, m2⟩ := fB_min (b := none) (sp := 0) hO (n := rows.length)
  cases hf : fB vals now rows none 0 rows.length with
  | none =>
    have := m2 hf 0 h0
    rw [ok 0 h0] at this
    cases this
  | some e =>
    obtain ⟨h1, h2⟩ := fB_lt hf
    exact ⟨e, rfl, h1, rank_0 (fun x hx => m1 e hf x hx (ok x hx))⟩
theorem n_nthL {N : Nat} (hN : 65536 ≤ N) {dm : Nat} {vals : Nat → Int32} {now : Int32} {rows : Rows} {esf : Int32} (hI : iS rows esf) (hl : rows.length < 65536) {m : Nat} (hm : m < rows.length) : ∀ (n i b : Nat), i ≤ m → m < n + i → b < rows.length → rkS vals now rows b = i → ∃ e, L_X0_nthToGo_26 N dm (fun x2 => some x2) (nI m) vals now rows n (nI b) (nI i) = some (nI e) ∧ e < rows.length ∧ rkS vals now rows e = m := by
  intro n
  induction n with
  | zero => intro i b h1 h2; omega
  | succ n ih =>
    intro i b h1 h2 hb hr
    rw [e_X0_nthToGo_26]
    unfold K_X0_nthToGo_26
    by_cases q : i = m
    · subst q
      rw [if_pos (nI_le (Nat.le_refl _) (by omega))]
      exact ⟨b, rfl, hb, hr⟩
    · obtain ⟨e, e1, e2, e3⟩ := fB_next hI hb (vals := vals) (now := now) (by rw [hr]; omega)
      have hoe : oI (some b) = nI b := rfl
      rw [if_neg (nI_ge (by omega) (by omega)), ← hoe, n_nextB hN hl (fun j hj => by cases hj; exact hb), bd_some, e1, lt_b, nI_1]
      exact ih (i + 1) e (by omega) (by omega) e2 (by rw [e3, hr])
/-- the m-th to go, or none -/
theorem n_nth {N : Nat} (hN : 65536 ≤ N) {dm : Nat} {vals : Nat → Int32} {now : Int32} {rows : Rows} {esf : Int32} (hI : iS rows esf) (hl : rows.length < 65536) {x : Int32} (hx : ¬ x < 0) : (nI rows.length ≤ x ∧ F_X0_nthToGo N dm vals now rows x = some (-1)) ∨ ∃ m e, x = nI m ∧ m < rows.length ∧ F_X0_nthToGo N dm vals now rows x = some (nI e) ∧ e < rows.length ∧ rkS vals now rows e = m := by
  unfold F_X0_nthToGo
  rw [if_neg hx, lt_b]
  by_cases h : x < tsize rows
  · right
    obtain ⟨m, hm, rfl⟩ := idx hx h (by omega)
    obtain ⟨b, b1, b2, b3⟩ := fB_first hI (vals := vals) (now := now) (by omega)
    have hnone : F_X0_nextToGo N dm vals now rows (-1) 0 = some (nI b) := by
      have := n_nextB hN (dm := dm) (vals := vals) (now := now) hl (b := none) (fun j hj => by cases hj) 0
      rw [b1] at this
      exact this
    obtain ⟨e, e1, e2, e3⟩ := n_nthL hN (dm := dm) hI hl hm N 0 b (Nat.zero_le _) (by omega) b2 b3
    rw [nI_0] at e1
    exact ⟨m, e, rfl, hm, by rw [if_pos h, hnone, bd_some, e1], e2, e3⟩
  · left
    exact ⟨Int32.not_lt.mp h, by rw [if_neg h]⟩
/-! the reference: how many go sooner -/
theorem s_goL {N : Nat} {g vals sc : Nat → Int32} (h0 : R0 g vals sc) {rows : Rows} (h : RE g rows) (hirr : ∀ a, So vals (sc 0) rows a a = false) (k60 : Int32 → Option Int32) (x1 : Int32) {e : Nat} (he : e < rows.length) : ∀ (n i : Nat), i ≤ rows.length → rows.length < n + i → L_X12_goingAt_18 N k60 x1 (nI e) g n (nI ((List.range i).countP (fun o => So vals (sc 0) rows o e))) (nI i) = k60 (nI (rkS vals (sc 0) rows e)) := by
  have h200 := h.2
  intro n
  induction n with
  | zero => intro i h1 h2; omega
  | succ n ih =>
    intro i h1 h2
    rw [e_X12_goingAt_18]
    unfold K_X12_goingAt_18 J_X12_goingAt_51 J_X12_goingAt_52
    rw [gl 13 13 rfl (by decide), s_many h]
    by_cases q : i = rows.length
    · rw [if_pos (by rw [q]; exact nI_le (Nat.le_refl _) (by omega)), q]
      rfl
    · have hi : i < rows.length := by omega
      have step := ih (i + 1) (by omega) (by omega)
      have ec : (List.range (i + 1)).countP (fun o => So vals (sc 0) rows o e) = (List.range i).countP (fun o => So vals (sc 0) rows o e) + if So vals (sc 0) rows i e = true then 1 else 0 := by
        rw [List.range_succ, List.countP_append, List.countP_cons, List.countP_nil, Nat.zero_add]
      rw [ec] at step
      rw [if_neg (nI_ge hi (by omega)), lt_b, lt_b, lt_b, lt_b, nI_1, nI_1, Int32.add_zero]
      by_cases z : i = e
      · subst z
        rw [if_neg (by rw [hirr i]; decide), Nat.add_zero] at step
        rw [if_pos rfl]
        exact step
      · rw [if_neg (fun y => z ((nI_eq (by omega) (by omega)).mp y)), s_sooner h0 h hi he, bd_some]
        by_cases y : soI vals (sc 0) (rw' rows i) (rw' rows e) = 0
        · rw [if_neg (show ¬ So vals (sc 0) rows i e = true by unfold So; rw [decide_eq_true_eq]; exact fun w => w y), Nat.add_zero] at step
          rw [if_pos y]
          exact step
        · rw [if_pos (show So vals (sc 0) rows i e = true from decide_eq_true y)] at step
          rw [if_neg y]
          exact step
theorem s_goesL {N : Nat} (hN : 65536 ≤ N) {g vals sc : Nat → Int32} (h0 : R0 g vals sc) {rows : Rows} (h : RE g rows) (hO : Ord (So vals (sc 0) rows) rows.length) {m : Nat} (hm : m < 2 ^ 31) : ∀ (n i : Nat), i ≤ rows.length → rows.length < n + i → (∀ j, j < i → ¬ rkS vals (sc 0) rows j = m) → (∃ e, e < rows.length ∧ rkS vals (sc 0) rows e = m ∧ L_X12_goingAt_2 N (fun _ => some (-1)) (fun x2 => some x2) (nI m) g n (nI i) = some (nI e)) ∨ ((∀ j, j < rows.length → ¬ rkS vals (sc 0) rows j = m) ∧ L_X12_goingAt_2 N (fun _ => some (-1)) (fun x2 => some x2) (nI m) g n (nI i) = some (-1)) := by
  have h200 := h.2
  intro n
  induction n with
  | zero => intro i h1 h2; omega
  | succ n ih =>
    intro i h1 h2 hno
    rw [e_X12_goingAt_2]
    unfold K_X12_goingAt_2
    rw [gl 13 13 rfl (by decide), s_many h]
    by_cases q : i = rows.length
    · right
      rw [if_pos (by rw [q]; exact nI_le (Nat.le_refl _) (by omega))]
      exact ⟨fun j hj => hno j (by omega), rfl⟩
    · have hi : i < rows.length := by omega
      have hb := rank_bd hO hi
      have go := s_goL (N := N) h0 h hO.1 (fun x3 => if (x3 = nI m : Prop) then some (nI i) else lt (nI i + 1) (fun x2_6 => L_X12_goingAt_2 N (fun _ => some (-1)) (fun x2 => some x2) (nI m) g n x2_6)) (nI m) hi N 0 (Nat.zero_le _) (by omega)
      have e0 : nI ((List.range 0).countP (fun o => So vals (sc 0) rows o i)) = 0 := rfl
      rw [e0, nI_0] at go
      rw [if_neg (nI_ge hi (by omega)), go]
      by_cases z : rkS vals (sc 0) rows i = m
      · left
        refine ⟨i, hi, z, ?_⟩
        rw [if_pos (by rw [z])]
      · have z' : ¬ rank (So vals (sc 0) rows) rows.length i = m := z
        rw [if_neg (fun y => z' ((nI_eq (by omega) hm).mp y)), lt_b, nI_1]
        exact ih (i + 1) (by omega) (by omega) (fun j hj => by
          by_cases w : j = i
          · rw [w]; exact z
          · exact hno j (by omega))
theorem s_going {N : Nat} (hN : 65536 ≤ N) {g vals sc : Nat → Int32} (h0 : R0 g vals sc) {rows : Rows} (h : RE g rows) (hO : Ord (So vals (sc 0) rows) rows.length) {m : Nat} (hm : m < 2 ^ 31) : (∃ e, e < rows.length ∧ rkS vals (sc 0) rows e = m ∧ F_X12_goingAt N g (nI m) = some (nI e)) ∨ ((∀ j, j < rows.length → ¬ rkS vals (sc 0) rows j = m) ∧ F_X12_goingAt N g (nI m) = some (-1)) := by
  have h200 := h.2
  have := s_goesL hN h0 h hO hm N 0 (Nat.zero_le _) (by omega) (fun j hj => by omega)
  rw [nI_0] at this
  exact this
/-- class and reference name the same one -/
theorem both_nth {N : Nat} (hN : 65536 ≤ N) {p : P} {T : Nat → Rows} {V : Nat → Nat → Int32} {g : Nat → Int32} (h : RR T V g) (hI : Iv p T V) {x : Int32} (hx : ¬ x < 0) : (F_X0_nthToGo N 200 (V 0) (V 4 0) (T 4) x = some (-1) ∧ F_X12_goingAt N g x = some (-1)) ∨ ∃ e, e < (T 4).length ∧ F_X0_nthToGo N 200 (V 0) (V 4 0) (T 4) x = some (nI e) ∧ F_X12_goingAt N g x = some (nI e) := by
  have h200 := h.e.2
  have hO := so_ord (vals := V 0) (now := V 4 0) hI.i0.1
  have hx' : x.toInt < 2 ^ 31 := Int32.toInt_lt x
  have hx0 : (0 : Int) ≤ x.toInt := Int32.le_iff_toInt_le.mp (Int32.not_lt.mp hx)
  have ex : x = nI x.toInt.toNat := by
    refine Int32.toInt_inj.mp ?_
    rw [nI_toInt (by omega)]
    omega
  rcases n_nth hN (dm := 200) (vals := V 0) (now := V 4 0) hI.i0.1 (by omega) hx with ⟨a1, a2⟩ | ⟨m, e, rfl, hm, a2, a3, a4⟩
  · left
    refine ⟨a2, ?_⟩
    generalize hy : x.toInt.toNat = y at ex
    subst ex
    have hy31 : y < 2 ^ 31 := by omega
    have hly : (T 4).length ≤ y := (nI_leI (by omega) hy31).mp a1
    rcases s_going hN h.z h.e hO hy31 with ⟨e, e1, e2, -⟩ | ⟨-, e2⟩
    · have := rank_bd hO e1
      have e2' : rank (So (V 0) (V 4 0) (T 4)) (T 4).length e = y := e2
      omega
    · exact e2
  · right
    refine ⟨e, a3, a2, ?_⟩
    rcases s_going hN h.z h.e hO (m := m) (by omega) with ⟨e', e1, e2, e3⟩ | ⟨e1, -⟩
    · have : e' = e := rank_inj hO e1 a3 (e2.trans a4.symm)
      rw [← this]; exact e3
    · exact absurd a4 (e1 e a3)
theorem m_toGo {N : Nat} (hN : 65536 ≤ N) {c : Nat} {tp : List Nat} {T : Nat → Rows} {V : Nat → Nat → Int32} {g : Nat → Int32} (hs : SQ c tp T V g) (x y : Int32) : ∃ r, F_X11_toGo N (V 0) (V 4 0) (T 4) x y = some r ∧ F_X12_toGo N g x y = some r := by
  obtain ⟨p, q, h, hI, hB, hq⟩ := hs
  have h200 := h.e.2
  unfold F_X11_toGo F_X12_toGo
  by_cases h1 : x < 0
  · exact ⟨-1001, by rw [if_pos h1], by rw [if_pos h1]⟩
  rw [if_neg h1, if_neg h1]
  by_cases h2 : -2 ≤ y
  · rw [if_pos h2, if_pos h2]
    rcases both_nth hN h hI h1 with ⟨a1, a2⟩ | ⟨e, he, a1, a2⟩
    · exact ⟨-1003, by rw [a1, bd_some, if_pos rfl], by rw [a2, bd_some, if_neg (by decide)]⟩
    · have hne : ¬ nI e = -1 := fun z => by
        have := (oI_m1 (o := some e) (fun j hj => by cases hj; omega)).mp z
        cases this
      have hv : Vk (cl (rw' (T 4) e) 7) := (hI.i0.1.iE.at he).2
      rw [a1, a2, bd_some, bd_some, if_neg hne, if_pos (nI_pos' (by omega))]
      by_cases h3 : y = -2
      · exact ⟨cl (rw' (T 4) e) 3, by rw [if_pos h3, n_get0 (by omega) 3 3 rfl (by decide), bd_some], by rw [if_pos h3, s_at h.e he 5 5 rfl (by decide), bd_some]; rfl⟩
      · obtain ⟨r, r1, r2⟩ := n_tells hN hv (m21 h2 h3)
        have e0 : cl (mEn (rw' (T 4) e)) 0 = kc (cl (rw' (T 4) e) 7) := rfl
        exact ⟨r, by rw [if_neg h3, n_get0 (by omega) 7 7 rfl (by decide), bd_some, r1, bd_some], by rw [if_neg h3, s_at h.e he 0 0 rfl (by decide), bd_some, e0, r2, bd_some]⟩
  · exact ⟨-1001, by rw [if_neg h2], by rw [if_neg h2]⟩
