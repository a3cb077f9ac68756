/-! ===== Table: what its methods do to a list of rows ===== -/
abbrev Rows : Type := List (List Int32)
def tb_dim (m w : Nat) : Prop := 1 ≤ m ∧ 1 ≤ w ∧ m * w < 65536
def tb_ok (m w : Nat) (rows : Rows) (sz : Int32) (f : Nat → Int32) : Prop := tb_dim m w ∧ rows.length ≤ m ∧ (∀ r ∈ rows, r.length = w) ∧ sz = nI rows.length ∧ ∀ i j : Nat, i < rows.length → j < w → f (i * w + j) = (rows.getD i []).getD j 0
def rcol (r : List Int32) (c : Int32) : Int32 := if c < 0 then 0 else r.getD c.toNatClampNeg 0
def tget (rows : Rows) (r c : Int32) : Int32 := if r < 0 then 0 else rcol (rows.getD r.toNatClampNeg []) c
def tset (rows : Rows) (r c x : Int32) : Rows := if r < 0 ∨ c < 0 then rows else rows.modify r.toNatClampNeg (fun row => row.set c.toNatClampNeg x)
def tsize (rows : Rows) : Int32 := nI rows.length
def trow (w : Nat) (a b c : Int32) : List Int32 := (List.range w).map (fun j => if j = 0 then a else if j = 1 then b else if j = 2 then c else 0)
def tpushR (m w : Nat) (rows : Rows) (a b c : Int32) : Rows := (if rows.length < m then rows else rows.drop 1) ++ [trow w a b c]
def tpush (m w : Nat) (rows : Rows) (a b c : Int32) : Int32 × Rows := (nI ((tpushR m w rows a b c).length - 1), tpushR m w rows a b c)
def tremove (rows : Rows) (r : Int32) : Rows := if r < 0 then rows else rows.eraseIdx r.toNatClampNeg
def tremoveAll (rows : Rows) (c v : Int32) : Rows := rows.filter (fun r => !(decide (rcol r c = v)))
def tfindA (c v n : Int32) : Rows → Int32 → Int32 → Int32
  | [], _, _ => -1
  | r :: rs, i, a => if rcol r c = v then (if a = n then i else tfindA c v n rs (i + 1) (a + 1)) else tfindA c v n rs (i + 1) a
def tfind (rows : Rows) (c v n : Int32) : Int32 := tfindA c v n rows 0 0
def thowMany (rows : Rows) (c v : Int32) : Int32 := nI (rows.countP (fun r => decide (rcol r c = v)))
theorem nI_big {m w : Nat} (h : tb_dim m w) {n : Nat} (hn : n ≤ m) : n < 2 ^ 31 := by
  obtain ⟨h1, h2, h3⟩ := h
  have : n * 1 ≤ m * w := Nat.mul_le_mul hn h2
  omega
theorem nI_bigw {m w : Nat} (h : tb_dim m w) : w < 2 ^ 31 := by
  obtain ⟨h1, h2, h3⟩ := h
  have : 1 * w ≤ m * w := Nat.mul_le_mul h1 (Nat.le_refl w)
  omega
theorem cell_lt {i n w j : Nat} (hi : i < n) (hj : j < w) : i * w + j < n * w := by
  have h1 : (i + 1) * w ≤ n * w := Nat.mul_le_mul_right w hi
  rw [Nat.add_mul, Nat.one_mul] at h1
  omega
theorem upd_at (f : Nat → Int32) (k : Nat) (x : Int32) : upd f k x k = x := pk_us
theorem upd_ne {f : Nat → Int32} {k j : Nat} {x : Int32} (h : j ≠ k) : upd f k x j = f j := pk_un h
theorem n_get {m w : Nat} {rows : Rows} {sz : Int32} {f : Nat → Int32} (ok : tb_ok m w rows sz f) (x1 x2 : Int32) : F_X9_get (m * w) (nI w) sz f x1 x2 = some (tget rows x1 x2) := by
  obtain ⟨hd, hlen, hrow, rfl, hf⟩ := ok
  have hz : ∀ x3, J_X9_get_37 (m * w) x3 (nI w) (nI rows.length) f = some 0 := fun x3 => by unfold J_X9_get_37 J_X9_get_38; rw [if_pos rfl]
  have hN := nI_big hd hlen
  have hW := nI_bigw hd
  unfold F_X9_get lt tget
  by_cases h1 : x1 < 0
  · rw [if_pos h1, if_pos h1, hz]
  rw [if_neg h1, if_neg h1]
  obtain ⟨i, hi, rfl⟩ := nI_of h1
  rw [nI_clamp hi]
  unfold rcol
  by_cases h2 : nI rows.length ≤ nI i
  · rw [if_pos h2, hz]
    have h3 : rows.length ≤ i := (nI_leI hN hi).mp h2
    rw [List.getD_eq_default _ _ h3]
    simp
  rw [if_neg h2]
  have h3 : i < rows.length := by
    rcases Nat.lt_or_ge i rows.length with q | q
    · exact q
    · exact absurd ((nI_leI hN hi).mpr q) h2
  have hr : (rows.getD i []).length = w := by
    rw [List.getD_eq_getElem _ _ h3]
    exact hrow _ (List.getElem_mem h3)
  by_cases h4 : x2 < 0
  · rw [if_pos h4, if_pos h4, hz]
  rw [if_neg h4, if_neg h4]
  obtain ⟨j, hj, rfl⟩ := nI_of h4
  rw [nI_clamp hj]
  by_cases h5 : nI w ≤ nI j
  · rw [if_pos h5, hz]
    have h6 : w ≤ j := (nI_leI hW hj).mp h5
    rw [List.getD_eq_default _ _ (by rw [hr]; exact h6)]
  rw [if_neg h5]
  have h6 : j < w := by
    rcases Nat.lt_or_ge j w with q | q
    · exact q
    · exact absurd ((nI_leI hW hj).mpr q) h5
  have h7 : i * w + j < m * w := Nat.lt_of_lt_of_le (cell_lt h3 h6) (Nat.mul_le_mul_right w hlen)
  have h8 : m * w < 2 ^ 31 := by have := hd.2.2; omega
  unfold J_X9_get_38
  rw [if_neg (by decide), pk_mul, nI_add, if_neg (nI_pos (by omega)), if_neg (nI_ge h7 h8), ld_t (vp_in_nI h7 h8), nI_clamp (by omega), hf i j h3 h6]
theorem modify_getD {rows : Rows} {i k : Nat} {g : List Int32 → List Int32} (hi : i < rows.length) : (rows.modify k g).getD i [] = if i = k then g (rows.getD i []) else rows.getD i [] := by
  have h2 : i < (rows.modify k g).length := by simpa using hi
  rw [List.getD_eq_getElem _ _ h2, List.getD_eq_getElem _ _ hi, List.getElem_modify]
  by_cases h : i = k
  · subst h; simp
  · simp [h, Ne.symm h]
theorem set_getD {r : List Int32} {j k : Nat} {x : Int32} (hj : j < r.length) : (r.set k x).getD j 0 = if j = k then x else r.getD j 0 := by
  have h2 : j < (r.set k x).length := by simpa using hj
  rw [List.getD_eq_getElem _ _ h2, List.getD_eq_getElem _ _ hj, List.getElem_set]
  by_cases h : j = k
  · subst h; simp
  · simp [h, Ne.symm h]
theorem n_set {m w : Nat} {rows : Rows} {sz : Int32} {f : Nat → Int32} (ok : tb_ok m w rows sz f) (x1 x2 x3 : Int32) : ∃ f', F_X9_set (m * w) (nI w) sz f x1 x2 x3 = some f' ∧ tb_ok m w (tset rows x1 x2 x3) sz f' := by
  have ok0 := ok
  obtain ⟨hd, hlen, hrow, rfl, hf⟩ := ok
  have hz : ∀ x4, J_X9_set_38 (m * w) x3 x4 (nI w) (nI rows.length) f = some f := fun x4 => by unfold J_X9_set_38 J_X9_set_39; rw [if_pos rfl]
  have hN := nI_big hd hlen
  have hW := nI_bigw hd
  unfold F_X9_set lt tset
  by_cases h1 : x1 < 0
  · rw [if_pos h1, if_pos (Or.inl h1), hz]; exact ⟨f, rfl, ok0⟩
  rw [if_neg h1]
  obtain ⟨i, hi, rfl⟩ := nI_of h1
  rw [nI_clamp hi]
  have same : rows.length ≤ i → ∀ g : List Int32 → List Int32, rows.modify i g = rows := fun h g => List.modify_eq_self h
  by_cases h2 : nI rows.length ≤ nI i
  · rw [if_pos h2, hz]
    have h3 : rows.length ≤ i := (nI_leI hN hi).mp h2
    rw [same h3]
    refine ⟨f, rfl, ?_⟩
    split <;> exact ok0
  rw [if_neg h2]
  have h3 : i < rows.length := by
    rcases Nat.lt_or_ge i rows.length with q | q
    · exact q
    · exact absurd ((nI_leI hN hi).mpr q) h2
  have hr : ∀ k, k < rows.length → (rows.getD k []).length = w := fun k hk => by
    rw [List.getD_eq_getElem _ _ hk]
    exact hrow _ (List.getElem_mem hk)
  by_cases h4 : x2 < 0
  · rw [if_pos h4, if_pos (Or.inr h4), hz]; exact ⟨f, rfl, ok0⟩
  rw [if_neg h4, if_neg (by rintro (q | q); exact h1 q; exact h4 q)]
  obtain ⟨j, hj, rfl⟩ := nI_of h4
  rw [nI_clamp hj]
  have hrow' : ∀ r ∈ rows.modify i (fun row => row.set j x3), r.length = w := by
    intro r hr'
    obtain ⟨k, hk, rfl⟩ := List.getElem_of_mem hr'
    have hk' : k < rows.length := by simpa using hk
    rw [List.getElem_modify]
    split
    · simp [hrow _ (List.getElem_mem hk')]
    · exact hrow _ (List.getElem_mem hk')
  by_cases h5 : nI w ≤ nI j
  · rw [if_pos h5, hz]
    have h6 : w ≤ j := (nI_leI hW hj).mp h5
    refine ⟨f, rfl, hd, by simpa using hlen, hrow', by simp, fun a b ha hb => ?_⟩
    have ha' : a < rows.length := by simpa using ha
    rw [hf a b ha' hb, modify_getD ha']
    split
    · next q => subst q; rw [set_getD (by rw [hr _ ha']; exact hb), if_neg (by omega)]
    · rfl
  rw [if_neg h5]
  have h6 : j < w := by
    rcases Nat.lt_or_ge j w with q | q
    · exact q
    · exact absurd ((nI_leI hW hj).mpr q) h5
  have h7 : i * w + j < m * w := Nat.lt_of_lt_of_le (cell_lt h3 h6) (Nat.mul_le_mul_right w hlen)
  have h8 : m * w < 2 ^ 31 := by have := hd.2.2; omega
  unfold J_X9_set_39
  rw [if_neg (by decide), pk_mul, nI_add, if_neg (nI_pos (by omega)), if_neg (nI_ge h7 h8), sto_t (vp_in_nI h7 h8), nI_clamp (by omega)]
  refine ⟨_, rfl, hd, by simpa using hlen, hrow', by simp, fun a b ha hb => ?_⟩
  have ha' : a < rows.length := by simpa using ha
  rw [modify_getD ha']
  by_cases q : a = i
  · subst q
    rw [if_pos rfl, set_getD (by rw [hr _ ha']; exact hb)]
    by_cases q2 : b = j
    · subst q2; rw [if_pos rfl, upd_at]
    · rw [if_neg q2, upd_ne (by omega), hf a b ha' hb]
  · rw [if_neg q, upd_ne ?_, hf a b ha' hb]
    intro e
    rcases Nat.lt_or_gt_of_ne q with z | z
    · have := cell_lt (w := w) z hb; omega
    · have := cell_lt (w := w) z h6; omega
theorem n_size {m w : Nat} {rows : Rows} {sz : Int32} {f : Nat → Int32} (ok : tb_ok m w rows sz f) : F_X9_size (m * w) sz = some (tsize rows) := by
  obtain ⟨hd, hlen, hrow, rfl, hf⟩ := ok
  rfl
theorem n_clear {m w : Nat} {rows : Rows} {sz : Int32} {f : Nat → Int32} (ok : tb_ok m w rows sz f) : F_X9_clear (m * w) sz = some 0 ∧ tb_ok m w [] 0 f := by
  obtain ⟨hd, hlen, hrow, rfl, hf⟩ := ok
  exact ⟨rfl, hd, Nat.zero_le _, fun _ h => by cases h, rfl, fun i j h => by simp at h⟩
theorem drop_get {rows : Rows} {i : Nat} (h : i < rows.length) : rows.drop i = rows.getD i [] :: rows.drop (i + 1) := by
  rw [List.drop_eq_getElem_cons h, List.getD_eq_getElem _ _ h]
theorem tget_nI {rows : Rows} {i : Nat} (h : i < 2 ^ 31) (c : Int32) : tget rows (nI i) c = rcol (rows.getD i []) c := by
  unfold tget
  rw [if_neg (nI_pos h), nI_clamp h]
theorem nI_lts {a b : Nat} (h : ¬ nI b ≤ nI a) (ha : a < 2 ^ 31) (hb : b < 2 ^ 31) : a < b := by
  rcases Nat.lt_or_ge a b with q | q
  · exact q
  · exact absurd ((nI_leI hb ha).mpr q) h
theorem n_findL {m w : Nat} {rows : Rows} {sz : Int32} {f : Nat → Int32} (ok : tb_ok m w rows sz f) (N : Nat) (x1 x2 x3 : Int32) : ∀ (n i : Nat) (a : Int32), rows.length < n + i → i ≤ rows.length → L_X9_find_6 N (m * w) (fun _ => some (-1)) (fun x5 => some x5) x1 x2 x3 (nI w) sz f n a (nI i) = some (tfindA x1 x2 x3 (rows.drop i) (nI i) a) := by
  have hg := n_get ok
  have hN := nI_big ok.1 ok.2.1
  have hsz : sz = nI rows.length := ok.2.2.2.1
  intro n
  induction n with
  | zero => intro i a h1 h2; omega
  | succ n ih =>
    intro i a h1 h2
    show K_X9_find_6 N (m * w) (L_X9_find_6 N (m * w) (fun _ => some (-1)) (fun x5 => some x5) x1 x2 x3 (nI w) sz f n) (fun _ => some (-1)) (fun x5 => some x5) x1 x2 x3 (nI w) sz f a (nI i) = _
    unfold K_X9_find_6
    by_cases h3 : i = rows.length
    · subst h3
      rw [hsz, if_pos (nI_le (Nat.le_refl _) hN), List.drop_length]
      rfl
    have h4 : i < rows.length := by omega
    rw [show (sz ≤ nI i) = (nI rows.length ≤ nI i) by rw [hsz], if_neg (nI_ge h4 hN), hg, bd_t rfl, drop_get h4, tget_nI (by omega)]
    unfold tfindA J_X9_find_41 lt
    rw [← nI_succ, ih (i + 1) (a + 1) (by omega) (by omega), ih (i + 1) a (by omega) (by omega)]
    split
    · split <;> rfl
    · rfl
theorem n_find {m w : Nat} {rows : Rows} {sz : Int32} {f : Nat → Int32} (ok : tb_ok m w rows sz f) {N : Nat} (hN : 65536 ≤ N) (x1 x2 x3 : Int32) : F_X9_find N (m * w) (nI w) sz f x1 x2 x3 = some (tfind rows x1 x2 x3) := by
  have h1 : rows.length < 65536 := by
    have := ok.1; have h := ok.2.1
    have : rows.length * 1 ≤ m * w := Nat.mul_le_mul h this.2.1
    have := ok.1.2.2; omega
  unfold F_X9_find
  have h := n_findL ok N x1 x2 x3 N 0 0 (by omega) (Nat.zero_le _)
  rw [nI_0] at h
  exact h
theorem n_howManyL {m w : Nat} {rows : Rows} {sz : Int32} {f : Nat → Int32} (ok : tb_ok m w rows sz f) (N : Nat) (x1 x2 : Int32) : ∀ (n i a : Nat), rows.length < n + i → i ≤ rows.length → L_X9_howMany_5 N (m * w) (fun x3 => some x3) x1 x2 (nI w) sz f n (nI a) (nI i) = some (nI (a + (rows.drop i).countP (fun r => decide (rcol r x1 = x2)))) := by
  have hg := n_get ok
  have hN := nI_big ok.1 ok.2.1
  have hsz : sz = nI rows.length := ok.2.2.2.1
  intro n
  induction n with
  | zero => intro i a h1 h2; omega
  | succ n ih =>
    intro i a h1 h2
    show K_X9_howMany_5 N (m * w) (L_X9_howMany_5 N (m * w) (fun x3 => some x3) x1 x2 (nI w) sz f n) (fun x3 => some x3) x1 x2 (nI w) sz f (nI a) (nI i) = _
    unfold K_X9_howMany_5
    by_cases h3 : i = rows.length
    · subst h3
      rw [hsz, if_pos (nI_le (Nat.le_refl _) hN), List.drop_length]
      rfl
    have h4 : i < rows.length := by omega
    rw [show (sz ≤ nI i) = (nI rows.length ≤ nI i) by rw [hsz], if_neg (nI_ge h4 hN), hg, bd_t rfl, drop_get h4, tget_nI (by omega), List.countP_cons]
    unfold J_X9_howMany_28 lt
    rw [← nI_succ, ← nI_succ, ih (i + 1) (a + 1) (by omega) (by omega), ih (i + 1) a (by omega) (by omega)]
    by_cases h5 : rcol (rows.getD i []) x1 = x2
    · rw [if_pos h5]
      simp only [h5, decide_true, if_true]
      rw [show a + 1 + List.countP (fun r => decide (rcol r x1 = x2)) (List.drop (i + 1) rows) = a + (List.countP (fun r => decide (rcol r x1 = x2)) (List.drop (i + 1) rows) + 1) by omega]
    · rw [if_neg h5]
      simp only [h5, decide_false, Bool.false_eq_true, if_false, Nat.add_zero]
theorem len_lt {m w : Nat} {rows : Rows} {sz : Int32} {f : Nat → Int32} (ok : tb_ok m w rows sz f) : rows.length < 65536 := by
  have := ok.1; have h := ok.2.1
  have : rows.length * 1 ≤ m * w := Nat.mul_le_mul h this.2.1
  have := ok.1.2.2; omega
theorem n_howMany {m w : Nat} {rows : Rows} {sz : Int32} {f : Nat → Int32} (ok : tb_ok m w rows sz f) {N : Nat} (hN : 65536 ≤ N) (x1 x2 : Int32) : F_X9_howMany N (m * w) (nI w) sz f x1 x2 = some (thowMany rows x1 x2) := by
  have h1 := len_lt ok
  unfold F_X9_howMany
  have h := n_howManyL ok N x1 x2 N 0 0 (by omega) (Nat.zero_le _)
  rw [nI_0, Nat.zero_add] at h
  exact h
