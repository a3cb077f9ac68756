/-! ===== Table: what its methods do to a list of rows ===== -/
abbrev Rows : Type := List (List Int32)
def tb_dim (m w : Nat) : Prop := 1 ≤ m ∧ 1 ≤ w ∧ m * w < 65536
def tb_ok (m w : Nat) (rows : Rows) (sz : Int32) (f : Nat → Int32) : Prop := tb_dim m w ∧ rows.length ≤ m ∧ (∀ r ∈ rows, r.length = w) ∧ sz = nI rows.length ∧ ∀ i j : Nat, i < rows.length → j < w → f (i * w + j) = (rows.getD i []).getD j 0
def rcol (r : List Int32) (c : Int32) : Int32 := if c < 0 then 0 else r.getD c.toNatClampNeg 0
def tget (rows : Rows) (r c : Int32) : Int32 := if r < 0 then 0 else rcol (rows.getD r.toNatClampNeg []) c
def tset (rows : Rows) (r c x : Int32) : Rows := if r < 0 ∨ c < 0 then rows else rows.modify r.toNatClampNeg (fun row => row.set c.toNatClampNeg x)
def tsize (rows : Rows) : Int32 := nI rows.length
def trow (w : Nat) (a b c : Int32) : List Int32 := (List.range w).map (fun j => if j = 0 then a else if j = 1 then b else if j = 2 then c else 0)
def tpushR (m w : Nat) (rows : Rows) (a b c : Int32) : Rows := (if rows.length < m then rows else rows.drop 1) ++ [trow w a b c]
def tpush (m w : Nat) (rows : Rows) (a b c : Int32) : Int32 × Rows := (nI ((tpushR m w rows a b c).length - 1), tpushR m w rows a b c)
def tremove (rows : Rows) (r : Int32) : Rows := if r < 0 then rows else rows.eraseIdx r.toNatClampNeg
def tremoveAll (rows : Rows) (c v : Int32) : Rows := rows.filter (fun r => !(decide (rcol r c = v)))
def tfindA (c v n : Int32) : Rows → Int32 → Int32 → Int32
  | [], _, _ => -1
  | r :: rs, i, a => if rcol r c = v then (if a = n then i else tfindA c v n rs (i + 1) (a + 1)) else tfindA c v n rs (i + 1) a
def tfind (rows : Rows) (c v n : Int32) : Int32 := tfindA c v n rows 0 0
def thowMany (rows : Rows) (c v : Int32) : Int32 := nI (rows.countP (fun r => decide (rcol r c = v)))
theorem lt_b {α β : Type} (v : α) (b : α → β) : lt v b = b v := rfl
theorem q_getD_lt {α : Type} {l : List α} {i : Nat} {d : α} (h : i < l.length) : l.getD i d = l[i] := by
  rw [List.getD_eq_getElem?_getD, List.getElem?_eq_getElem h]; rfl
theorem q_getD_ge {α : Type} {l : List α} {i : Nat} {d : α} (h : l.length ≤ i) : l.getD i d = d := by
  rw [List.getD_eq_getElem?_getD, List.getElem?_eq_none h]; rfl
theorem nI_big {m w : Nat} (h : tb_dim m w) {n : Nat} (hn : n ≤ m) : n < 2 ^ 31 := by
  obtain ⟨h1, h2, h3⟩ := h
  have : n * 1 ≤ m * w := Nat.mul_le_mul hn h2
  omega
theorem nI_bigw {m w : Nat} (h : tb_dim m w) : w < 2 ^ 31 := by
  obtain ⟨h1, h2, h3⟩ := h
  have : 1 * w ≤ m * w := Nat.mul_le_mul h1 (Nat.le_refl w)
  omega
theorem cell_lt {i n w j : Nat} (hi : i < n) (hj : j < w) : i * w + j < n * w := by
  have h1 : (i + 1) * w ≤ n * w := Nat.mul_le_mul_right w hi
  rw [Nat.add_mul, Nat.one_mul] at h1
  omega
theorem upd_at (f : Nat → Int32) (k : Nat) (x : Int32) : upd f k x k = x := pk_us
theorem upd_ne {f : Nat → Int32} {k j : Nat} {x : Int32} (h : j ≠ k) : upd f k x j = f j := pk_un h
theorem n_get {m w : Nat} {rows : Rows} {sz : Int32} {f : Nat → Int32} (ok : tb_ok m w rows sz f) (x1 x2 : Int32) : F_X9_get (m * w) (nI w) sz f x1 x2 = some (tget rows x1 x2) := by
  obtain ⟨hd, hlen, hrow, rfl, hf⟩ := ok
  have hz : ∀ x3, J_X9_get_37 (m * w) x3 (nI w) (nI rows.length) f = some 0 := fun x3 => by unfold J_X9_get_37 J_X9_get_38; rw [if_pos rfl]
  have hN := nI_big hd hlen
  have hW := nI_bigw hd
  unfold F_X9_get lt tget
  dsimp only
  by_cases h1 : x1 < 0
  · rw [if_pos h1, if_pos h1, hz]
  rw [if_neg h1, if_neg h1]
  obtain ⟨i, hi, rfl⟩ := nI_of h1
  rw [nI_clamp hi]
  unfold rcol
  by_cases h2 : nI rows.length ≤ nI i
  · rw [if_pos h2, hz]
    have h3 : rows.length ≤ i := (nI_leI hN hi).mp h2
    rw [q_getD_ge h3]
    simp
  rw [if_neg h2]
  have h3 : i < rows.length := by
    rcases Nat.lt_or_ge i rows.length with q | q
    · exact q
    · exact absurd ((nI_leI hN hi).mpr q) h2
  have hr : (rows.getD i []).length = w := by
    rw [q_getD_lt h3]
    exact hrow _ (List.getElem_mem h3)
  by_cases h4 : x2 < 0
  · rw [if_pos h4, if_pos h4, hz]
  rw [if_neg h4, if_neg h4]
  obtain ⟨j, hj, rfl⟩ := nI_of h4
  rw [nI_clamp hj]
  by_cases h5 : nI w ≤ nI j
  · rw [if_pos h5, hz]
    have h6 : w ≤ j := (nI_leI hW hj).mp h5
    rw [q_getD_ge (by rw [hr]; exact h6)]
  rw [if_neg h5]
  have h6 : j < w := by
    rcases Nat.lt_or_ge j w with q | q
    · exact q
    · exact absurd ((nI_leI hW hj).mpr q) h5
  have h7 : i * w + j < m * w := Nat.lt_of_lt_of_le (cell_lt h3 h6) (Nat.mul_le_mul_right w hlen)
  have h8 : m * w < 2 ^ 31 := by have := hd.2.2; omega
  unfold J_X9_get_38
  rw [if_neg (by decide), pk_mul, nI_add, if_neg (nI_pos (by omega)), if_neg (nI_ge h7 h8), ld_t (vp_in_nI h7 h8), nI_clamp (by omega), hf i j h3 h6]
theorem q_modD {rows : Rows} {i k : Nat} {g : List Int32 → List Int32} (hi : i < rows.length) : (rows.modify k g).getD i [] = if i = k then g (rows.getD i []) else rows.getD i [] := by
  have h2 : i < (rows.modify k g).length := by simpa using hi
  rw [q_getD_lt h2, q_getD_lt hi, List.getElem_modify]
  by_cases h : i = k
  · subst h; simp
  · simp [h, Ne.symm h]
theorem q_setD {r : List Int32} {j k : Nat} {x : Int32} (hj : j < r.length) : (r.set k x).getD j 0 = if j = k then x else r.getD j 0 := by
  have h2 : j < (r.set k x).length := by simpa using hj
  rw [q_getD_lt h2, q_getD_lt hj, List.getElem_set]
  by_cases h : j = k
  · subst h; simp
  · simp [h, Ne.symm h]
theorem n_set {m w : Nat} {rows : Rows} {sz : Int32} {f : Nat → Int32} (ok : tb_ok m w rows sz f) (x1 x2 x3 : Int32) : ∃ f', F_X9_set (m * w) (nI w) sz f x1 x2 x3 = some f' ∧ tb_ok m w (tset rows x1 x2 x3) sz f' := by
  have ok0 := ok
  obtain ⟨hd, hlen, hrow, rfl, hf⟩ := ok
  have hz : ∀ x4, J_X9_set_38 (m * w) x3 x4 (nI w) (nI rows.length) f = some f := fun x4 => by unfold J_X9_set_38 J_X9_set_39; rw [if_pos rfl]
  have hN := nI_big hd hlen
  have hW := nI_bigw hd
  unfold F_X9_set lt tset
  dsimp only
  by_cases h1 : x1 < 0
  · rw [if_pos h1, if_pos (Or.inl h1), hz]; exact ⟨f, rfl, ok0⟩
  rw [if_neg h1]
  obtain ⟨i, hi, rfl⟩ := nI_of h1
  rw [nI_clamp hi]
  have same : rows.length ≤ i → ∀ g : List Int32 → List Int32, rows.modify i g = rows := fun h g => List.modify_eq_self h
  by_cases h2 : nI rows.length ≤ nI i
  · rw [if_pos h2, hz]
    have h3 : rows.length ≤ i := (nI_leI hN hi).mp h2
    rw [same h3]
    refine ⟨f, rfl, ?_⟩
    split <;> exact ok0
  rw [if_neg h2]
  have h3 : i < rows.length := by
    rcases Nat.lt_or_ge i rows.length with q | q
    · exact q
    · exact absurd ((nI_leI hN hi).mpr q) h2
  have hr : ∀ k, k < rows.length → (rows.getD k []).length = w := fun k hk => by
    rw [q_getD_lt hk]
    exact hrow _ (List.getElem_mem hk)
  by_cases h4 : x2 < 0
  · rw [if_pos h4, if_pos (Or.inr h4), hz]; exact ⟨f, rfl, ok0⟩
  rw [if_neg h4, if_neg (show ¬ (nI i < 0 ∨ x2 < 0) from fun q => q.elim h1 h4)]
  obtain ⟨j, hj, rfl⟩ := nI_of h4
  rw [nI_clamp hj]
  have hrow' : ∀ r ∈ rows.modify i (fun row => row.set j x3), r.length = w := by
    intro r hr'
    obtain ⟨k, hk, rfl⟩ := List.getElem_of_mem hr'
    have hk' : k < rows.length := by simpa using hk
    rw [List.getElem_modify]
    split
    · simp [hrow _ (List.getElem_mem hk')]
    · exact hrow _ (List.getElem_mem hk')
  by_cases h5 : nI w ≤ nI j
  · rw [if_pos h5, hz]
    have h6 : w ≤ j := (nI_leI hW hj).mp h5
    refine ⟨f, rfl, hd, by simpa using hlen, hrow', by simp, fun a b ha hb => ?_⟩
    have ha' : a < rows.length := by simpa using ha
    rw [hf a b ha' hb, q_modD ha']
    split
    · next q => subst q; rw [q_setD (by rw [hr _ ha']; exact hb), if_neg (by omega)]
    · rfl
  rw [if_neg h5]
  have h6 : j < w := by
    rcases Nat.lt_or_ge j w with q | q
    · exact q
    · exact absurd ((nI_leI hW hj).mpr q) h5
  have h7 : i * w + j < m * w := Nat.lt_of_lt_of_le (cell_lt h3 h6) (Nat.mul_le_mul_right w hlen)
  have h8 : m * w < 2 ^ 31 := by have := hd.2.2; omega
  unfold J_X9_set_39
  rw [if_neg (by decide), pk_mul, nI_add, if_neg (nI_pos (by omega)), if_neg (nI_ge h7 h8), sto_t (vp_in_nI h7 h8), nI_clamp (by omega)]
  refine ⟨_, rfl, hd, by simpa using hlen, hrow', by simp, fun a b ha hb => ?_⟩
  have ha' : a < rows.length := by simpa using ha
  rw [q_modD ha']
  by_cases q : a = i
  · subst q
    rw [if_pos rfl, q_setD (by rw [hr _ ha']; exact hb)]
    by_cases q2 : b = j
    · subst q2; rw [if_pos rfl, upd_at]
    · rw [if_neg q2, upd_ne (by omega), hf a b ha' hb]
  · rw [if_neg q, upd_ne ?_, hf a b ha' hb]
    intro e
    rcases Nat.lt_or_gt_of_ne q with z | z
    · have := cell_lt (w := w) z hb; omega
    · have := cell_lt (w := w) z h6; omega
theorem n_size {m w : Nat} {rows : Rows} {sz : Int32} {f : Nat → Int32} (ok : tb_ok m w rows sz f) : F_X9_size (m * w) sz = some (tsize rows) := by
  obtain ⟨hd, hlen, hrow, rfl, hf⟩ := ok
  rfl
theorem n_clear {m w : Nat} {rows : Rows} {sz : Int32} {f : Nat → Int32} (ok : tb_ok m w rows sz f) : F_X9_clear (m * w) sz = some 0 ∧ tb_ok m w [] 0 f := by
  obtain ⟨hd, hlen, hrow, rfl, hf⟩ := ok
  exact ⟨rfl, hd, Nat.zero_le _, (fun _ h => absurd h List.not_mem_nil), rfl, (fun i j h => absurd h (Nat.not_lt_zero _))⟩
theorem drop_get {rows : Rows} {i : Nat} (h : i < rows.length) : rows.drop i = rows.getD i [] :: rows.drop (i + 1) := by
  rw [List.drop_eq_getElem_cons h, q_getD_lt h]
theorem tget_nI {rows : Rows} {i : Nat} (h : i < 2 ^ 31) (c : Int32) : tget rows (nI i) c = rcol (rows.getD i []) c := by
  unfold tget
  rw [if_neg (nI_pos h), nI_clamp h]
theorem nI_lts {a b : Nat} (h : ¬ nI b ≤ nI a) (ha : a < 2 ^ 31) (hb : b < 2 ^ 31) : a < b := by
  rcases Nat.lt_or_ge a b with q | q
  · exact q
  · exact absurd ((nI_leI hb ha).mpr q) h
theorem n_findL {m w : Nat} {rows : Rows} {sz : Int32} {f : Nat → Int32} (ok : tb_ok m w rows sz f) (N : Nat) (x1 x2 x3 : Int32) : ∀ (n i : Nat) (a : Int32), rows.length < n + i → i ≤ rows.length → L_X9_find_6 N (m * w) (fun _ => some (-1)) (fun x5 => some x5) x1 x2 x3 (nI w) sz f n a (nI i) = some (tfindA x1 x2 x3 (rows.drop i) (nI i) a) := by
  have hg := n_get ok
  have hN := nI_big ok.1 ok.2.1
  have hsz : sz = nI rows.length := ok.2.2.2.1
  intro n
  induction n with
  | zero => intro i a h1 h2; omega
  | succ n ih =>
    intro i a h1 h2
    show K_X9_find_6 N (m * w) (L_X9_find_6 N (m * w) (fun _ => some (-1)) (fun x5 => some x5) x1 x2 x3 (nI w) sz f n) (fun _ => some (-1)) (fun x5 => some x5) x1 x2 x3 (nI w) sz f a (nI i) = _
    unfold K_X9_find_6
    by_cases h3 : i = rows.length
    · subst h3
      rw [hsz, if_pos (nI_le (Nat.le_refl _) hN), List.drop_length]
      rfl
    have h4 : i < rows.length := by omega
    have hlt : ¬ sz ≤ nI i := by rw [hsz]; exact nI_ge h4 hN
    rw [if_neg hlt, hg, bd_t rfl, drop_get h4, tget_nI (by omega)]
    unfold tfindA J_X9_find_41 lt
    dsimp only
    rw [← nI_succ, ih (i + 1) (a + 1) (by omega) (by omega), ih (i + 1) a (by omega) (by omega)]
    split
    · split <;> rfl
    · rfl
theorem n_find {m w : Nat} {rows : Rows} {sz : Int32} {f : Nat → Int32} (ok : tb_ok m w rows sz f) {N : Nat} (hN : 65536 ≤ N) (x1 x2 x3 : Int32) : F_X9_find N (m * w) (nI w) sz f x1 x2 x3 = some (tfind rows x1 x2 x3) := by
  have h1 : rows.length < 65536 := by
    have := ok.1; have h := ok.2.1
    have : rows.length * 1 ≤ m * w := Nat.mul_le_mul h this.2.1
    have := ok.1.2.2; omega
  unfold F_X9_find
  have h := n_findL ok N x1 x2 x3 N 0 0 (by omega) (Nat.zero_le _)
  rw [nI_0] at h
  exact h
theorem n_howManyL {m w : Nat} {rows : Rows} {sz : Int32} {f : Nat → Int32} (ok : tb_ok m w rows sz f) (N : Nat) (x1 x2 : Int32) : ∀ (n i a : Nat), rows.length < n + i → i ≤ rows.length → L_X9_howMany_5 N (m * w) (fun x3 => some x3) x1 x2 (nI w) sz f n (nI a) (nI i) = some (nI (a + (rows.drop i).countP (fun r => decide (rcol r x1 = x2)))) := by
  have hg := n_get ok
  have hN := nI_big ok.1 ok.2.1
  have hsz : sz = nI rows.length := ok.2.2.2.1
  intro n
  induction n with
  | zero => intro i a h1 h2; omega
  | succ n ih =>
    intro i a h1 h2
    show K_X9_howMany_5 N (m * w) (L_X9_howMany_5 N (m * w) (fun x3 => some x3) x1 x2 (nI w) sz f n) (fun x3 => some x3) x1 x2 (nI w) sz f (nI a) (nI i) = _
    unfold K_X9_howMany_5
    by_cases h3 : i = rows.length
    · subst h3
      rw [hsz, if_pos (nI_le (Nat.le_refl _) hN), List.drop_length]
      rfl
    have h4 : i < rows.length := by omega
    have hlt : ¬ sz ≤ nI i := by rw [hsz]; exact nI_ge h4 hN
    rw [if_neg hlt, hg, bd_t rfl, drop_get h4, tget_nI (by omega), List.countP_cons]
    unfold J_X9_howMany_28 lt
    dsimp only
    rw [← nI_succ, ← nI_succ, ih (i + 1) (a + 1) (by omega) (by omega), ih (i + 1) a (by omega) (by omega)]
    by_cases h5 : rcol (rows.getD i []) x1 = x2
    · rw [if_pos h5]
      simp only [h5, decide_true, if_true]
      rw [show a + 1 + List.countP (fun r => decide (rcol r x1 = x2)) (List.drop (i + 1) rows) = a + (List.countP (fun r => decide (rcol r x1 = x2)) (List.drop (i + 1) rows) + 1) by omega]
    · rw [if_neg h5]
      simp only [h5, decide_false, Bool.false_eq_true, if_false, Nat.add_zero]
theorem len_lt {m w : Nat} {rows : Rows} {sz : Int32} {f : Nat → Int32} (ok : tb_ok m w rows sz f) : rows.length < 65536 := by
  have := ok.1; have h := ok.2.1
  have : rows.length * 1 ≤ m * w := Nat.mul_le_mul h this.2.1
  have := ok.1.2.2; omega
theorem n_howMany {m w : Nat} {rows : Rows} {sz : Int32} {f : Nat → Int32} (ok : tb_ok m w rows sz f) {N : Nat} (hN : 65536 ≤ N) (x1 x2 : Int32) : F_X9_howMany N (m * w) (nI w) sz f x1 x2 = some (thowMany rows x1 x2) := by
  have h1 := len_lt ok
  unfold F_X9_howMany
  have h := n_howManyL ok N x1 x2 N 0 0 (by omega) (Nat.zero_le _)
  rw [nI_0, Nat.zero_add] at h
  exact h

theorem q_erD {α : Type} {l : List α} {i a : Nat} {d : α} : (l.eraseIdx i).getD a d = if a < i then l.getD a d else l.getD (a + 1) d := by
  rw [List.getD_eq_getElem?_getD, List.getElem?_eraseIdx]
  split <;> rw [List.getD_eq_getElem?_getD]
/-- cells from s up to e come from w places further on -/
def shf (f : Nat → Int32) (s w e : Nat) : Nat → Int32 := fun q => if s ≤ q ∧ q < e then f (q + w) else f q
theorem shf_0 (f : Nat → Int32) (s w : Nat) : shf f s w s = f := by
  funext q
  unfold shf
  rw [if_neg (by omega)]
theorem shf_step {f : Nat → Int32} {s w p : Nat} (hs : s ≤ p) (hw : 0 < w) : upd (shf f s w p) p (shf f s w p (p + w)) = shf f s w (p + 1) := by
  funext q
  by_cases h : q = p
  · subst h
    rw [upd_at]
    unfold shf
    rw [if_neg (by omega), if_pos (by omega)]
  · rw [upd_ne h]
    unfold shf
    by_cases h2 : s ≤ q ∧ q < p
    · rw [if_pos h2, if_pos (by omega)]
    · rw [if_neg h2, if_neg (by omega)]
theorem n_removeL {β : Type} {L w n0 : Nat} (hL : L < 65536) (hw : 0 < w) (hn : n0 * w ≤ L) (N : Nat) (k : (Nat → Int32) → Option (Int32 × (Nat → Int32))) (f : Nat → Int32) (s : Nat) : ∀ (n p : Nat), s ≤ p → p + w ≤ n0 * w → n0 * w < n + p + w → L_X9_remove_20 N L k (nI w) (nI n0) n (nI p) (shf f s w p) = k (shf f s w (n0 * w - w)) := by
  intro n
  induction n with
  | zero => intro p h1 h2 h3; omega
  | succ n ih =>
    intro p h1 h2 h3
    show K_X9_remove_20 N L (L_X9_remove_20 N L k (nI w) (nI n0) n) k (nI w) (nI n0) (nI p) (shf f s w p) = _
    unfold K_X9_remove_20
    rw [pk_mul, nI_add]
    by_cases h4 : n0 * w ≤ p + w
    · rw [if_pos (nI_le h4 (by omega)), show n0 * w - w = p by omega]
    · rw [if_neg (nI_ge (by omega) (by omega)), if_neg (nI_ge (by omega) (by omega)), ld_t (vp_in_nI (by omega) (by omega)), sto_t (vp_in_nI (by omega) (by omega)), nI_clamp (by omega), nI_clamp (by omega), shf_step h1 hw]
      unfold lt
      dsimp only
      rw [← nI_succ]
      exact ih (p + 1) (by omega) (by omega) (by omega)
theorem tb_nw {m w : Nat} {rows : Rows} {sz : Int32} {f : Nat → Int32} (ok : tb_ok m w rows sz f) : rows.length * w ≤ m * w ∧ m * w < 65536 ∧ 0 < w := ⟨Nat.mul_le_mul_right w ok.2.1, ok.1.2.2, ok.1.2.1⟩
theorem n_remove {m w : Nat} {rows : Rows} {sz : Int32} {f : Nat → Int32} (ok : tb_ok m w rows sz f) {N : Nat} (hN : 65536 ≤ N) (x1 : Int32) : ∃ sz' f', F_X9_remove N (m * w) (nI w) sz f x1 = some (sz', f') ∧ tb_ok m w (tremove rows x1) sz' f' := by
  have ok0 := ok
  obtain ⟨hnw, hmw, hw⟩ := tb_nw ok
  obtain ⟨hd, hlen, hrow, rfl, hf⟩ := ok
  have hN2 := nI_big hd hlen
  unfold F_X9_remove tremove
  by_cases h1 : x1 < 0
  · rw [if_pos h1, if_pos h1]; exact ⟨_, _, rfl, ok0⟩
  rw [if_neg h1, if_neg h1]
  obtain ⟨i, hi, rfl⟩ := nI_of h1
  rw [nI_clamp hi]
  by_cases h2 : nI i < nI rows.length
  · rw [if_pos h2]
    have h3 : i < rows.length := (nI_ltI hi hN2).mp h2
    have h4 : (i + 1) * w ≤ rows.length * w := Nat.mul_le_mul_right w h3
    rw [Nat.add_mul, Nat.one_mul] at h4
    unfold lt
    dsimp only
    have hl := n_removeL (β := Unit) (L := m * w) (w := w) (n0 := rows.length) hmw hw hnw N (fun f => J_X9_remove_75 N (m * w) (nI w) (nI rows.length) f) f (i * w) N (i * w) (Nat.le_refl _) h4 (by omega)
    rw [shf_0] at hl
    rw [pk_mul, hl]
    unfold J_X9_remove_75 lt
    dsimp only
    have he : (rows.eraseIdx i).length = rows.length - 1 := List.length_eraseIdx_of_lt h3
    refine ⟨_, _, rfl, hd, by rw [he]; omega, fun r hr => hrow r (List.mem_of_mem_eraseIdx hr), ?_, fun a b ha hb => ?_⟩
    · rw [he]
      obtain ⟨k, hk⟩ : ∃ k, rows.length = k + 1 := ⟨rows.length - 1, by omega⟩
      rw [hk, nI_pred]
      rfl
    · have ha' : a < rows.length - 1 := by rw [← he]; exact ha
      rw [q_erD]
      unfold shf
      have e1 : rows.length * w - w = (rows.length - 1) * w := by rw [Nat.sub_mul, Nat.one_mul]
      by_cases h5 : a < i
      · have := cell_lt (w := w) h5 hb
        rw [if_neg (by omega), if_pos h5, hf a b (by omega) hb]
      · have h6 := cell_lt (w := w) ha' hb
        have h7 : i * w ≤ a * w := Nat.mul_le_mul_right w (by omega)
        rw [if_pos (by omega), if_neg h5, show a * w + b + w = (a + 1) * w + b by rw [Nat.add_mul, Nat.one_mul]; omega, hf (a + 1) b (by omega) hb]
  · rw [if_neg h2]
    have h3 : rows.length ≤ i := by
      rcases Nat.lt_or_ge i rows.length with q | q
      · exact absurd ((nI_ltI hi hN2).mpr q) h2
      · exact q
    rw [List.eraseIdx_of_length_le h3]
    exact ⟨_, _, rfl, ok0⟩

theorem eraseIdx_drop {rows : Rows} {i : Nat} : (rows.eraseIdx i).take i = rows.take i := by
  apply List.ext_getElem?
  intro k
  rw [List.getElem?_take, List.getElem?_take, List.getElem?_eraseIdx]
  by_cases h : k < i
  · rw [if_pos h, if_pos h, if_pos h]
  · rw [if_neg h, if_neg h]
theorem n_removeAllL {m w : Nat} {N : Nat} (hN : 65536 ≤ N) (x1 x2 : Int32) : ∀ (n i : Nat) (rows : Rows) (sz : Int32) (f : Nat → Int32), tb_ok m w rows sz f → i ≤ rows.length → i < n → ∃ sz' f', L_X9_removeAll_7 N (m * w) (fun sz f => some (sz, f)) x1 x2 (nI w) n (nI i - 1) sz f = some (sz', f') ∧ tb_ok m w (tremoveAll (rows.take i) x1 x2 ++ rows.drop i) sz' f' := by
  intro n
  induction n with
  | zero => intro i rows sz f ok h1 h2; omega
  | succ n ih =>
    intro i rows sz f ok h1 h2
    show ∃ sz' f', K_X9_removeAll_7 N (m * w) (L_X9_removeAll_7 N (m * w) (fun sz f => some (sz, f)) x1 x2 (nI w) n) (fun sz f => some (sz, f)) x1 x2 (nI w) (nI i - 1) sz f = some (sz', f') ∧ _
    unfold K_X9_removeAll_7
    have hl := len_lt ok
    cases i with
    | zero =>
      rw [if_pos (by decide)]
      exact ⟨_, _, rfl, ok⟩
    | succ i =>
      rw [nI_pred, if_neg (nI_pos (by omega)), n_get ok, bd_t rfl, tget_nI (by omega)]
      have e1 : rows.take (i + 1) = rows.take i ++ [rows.getD i []] := by
        rw [List.take_succ, q_getD_lt (by omega), List.getElem?_eq_getElem (by omega)]; rfl
      have hm : nI i + (-1) = nI i - 1 := (Int32.sub_eq_add_neg _ _).symm
      unfold J_X9_removeAll_26 lt
      dsimp only
      rw [hm]
      by_cases h3 : rcol (rows.getD i []) x1 = x2
      · rw [if_pos h3]
        obtain ⟨sz', f', hr, ok'⟩ := n_remove ok hN (nI i)
        rw [hr, bd_t rfl]
        have e2 : tremove rows (nI i) = rows.eraseIdx i := by unfold tremove; rw [if_neg (nI_pos (by omega)), nI_clamp (by omega)]
        rw [e2] at ok'
        have he : (rows.eraseIdx i).length = rows.length - 1 := List.length_eraseIdx_of_lt (by omega)
        obtain ⟨sz2, f2, h4, h5⟩ := ih i _ _ _ ok' (by rw [he]; omega) (by omega)
        refine ⟨sz2, f2, ?_, ?_⟩
        · exact h4
        · rw [e1]
          have e3 : (rows.eraseIdx i).drop i = rows.drop (i + 1) := by
            rw [List.eraseIdx_eq_take_drop_succ, List.drop_append_of_le_length (by simp; omega)]
            simp
          rw [eraseIdx_drop, e3] at h5
          have e4 : tremoveAll (rows.take i ++ [rows.getD i []]) x1 x2 = tremoveAll (rows.take i) x1 x2 := by
            unfold tremoveAll
            rw [List.filter_append]
            generalize rows.getD i [] = r at h3
            simp [h3]
          rw [e4]
          exact h5
      · rw [if_neg h3]
        obtain ⟨sz2, f2, h4, h5⟩ := ih i _ _ _ ok (by omega) (by omega)
        refine ⟨sz2, f2, ?_, ?_⟩
        · exact h4
        · rw [e1]
          have e4 : tremoveAll (rows.take i ++ [rows.getD i []]) x1 x2 = tremoveAll (rows.take i) x1 x2 ++ [rows.getD i []] := by
            unfold tremoveAll
            rw [List.filter_append]
            generalize rows.getD i [] = r at h3
            simp [h3]
          rw [e4, List.append_assoc, List.singleton_append, ← drop_get (by omega)]
          exact h5
theorem n_removeAll {m w : Nat} {rows : Rows} {sz : Int32} {f : Nat → Int32} (ok : tb_ok m w rows sz f) {N : Nat} (hN : 65536 ≤ N) (x1 x2 : Int32) : ∃ sz' f', F_X9_removeAll N (m * w) (nI w) sz f x1 x2 = some (sz', f') ∧ tb_ok m w (tremoveAll rows x1 x2) sz' f' := by
  have hl := len_lt ok
  obtain ⟨sz2, f2, h4, h5⟩ := n_removeAllL hN x1 x2 N rows.length rows sz f ok (Nat.le_refl _) (by omega)
  rw [List.take_length, List.drop_length, List.append_nil] at h5
  refine ⟨sz2, f2, ?_, h5⟩
  rw [← ok.2.2.2.1] at h4
  exact h4

theorem n_shiftL {L w : Nat} (hL : L < 65536) (hw : 0 < w) (N : Nat) (k : (Nat → Int32) → Option (Int32 × Int32 × (Nat → Int32))) (f : Nat → Int32) (a b c mo sz : Int32) : ∀ (n p : Nat), p + w ≤ L → L < n + p + w → L_X9_push_14 N L k a b c mo (nI w) sz n (nI p) (shf f 0 w p) = k (shf f 0 w (L - w)) := by
  intro n
  induction n with
  | zero => intro p h2 h3; omega
  | succ n ih =>
    intro p h2 h3
    show K_X9_push_14 N L (L_X9_push_14 N L k a b c mo (nI w) sz n) k a b c mo (nI w) sz (nI p) (shf f 0 w p) = _
    unfold K_X9_push_14
    rw [nI_add]
    by_cases h4 : L ≤ p + w
    · rw [if_pos (nI_le h4 (by omega)), show L - w = p by omega]
    · rw [if_neg (nI_ge (by omega) (by omega)), ld_t (vp_in_nI (by omega) (by omega)), sto_t (vp_in_nI (by omega) (by omega)), nI_clamp (by omega), nI_clamp (by omega), shf_step (Nat.zero_le _) hw]
      unfold lt
      dsimp only
      rw [← nI_succ]
      exact ih (p + 1) (by omega) (by omega)
/-- a row of three and zeros written from s on, j cells of it -/
def wrow (f : Nat → Int32) (s : Nat) (a b c : Int32) (j : Nat) : Nat → Int32 := fun q => if s ≤ q ∧ q < s + j then (if q - s = 0 then a else if q - s = 1 then b else if q - s = 2 then c else 0) else f q
theorem wrow_0 (f : Nat → Int32) (s : Nat) (a b c : Int32) : wrow f s a b c 0 = f := by
  funext q
  unfold wrow
  rw [if_neg (by omega)]
theorem wrow_step {f : Nat → Int32} {s : Nat} {a b c x : Int32} {j : Nat} (hx : x = if j = 0 then a else if j = 1 then b else if j = 2 then c else 0) : upd (wrow f s a b c j) (s + j) x = wrow f s a b c (j + 1) := by
  funext q
  by_cases h : q = s + j
  · subst h
    rw [upd_at, hx]
    unfold wrow
    rw [if_pos (show s ≤ s + j ∧ s + j < s + (j + 1) by omega), show s + j - s = j by omega]
  · rw [upd_ne h]
    unfold wrow
    by_cases h2 : s ≤ q ∧ q < s + j
    · rw [if_pos h2, if_pos (show s ≤ q ∧ q < s + (j + 1) by omega)]
    · rw [if_neg h2, if_neg (show ¬ (s ≤ q ∧ q < s + (j + 1)) by omega)]
theorem n_rowL {L w s : Nat} (hL : L < 65536) (hs : s + w ≤ L) (N : Nat) (k : (Nat → Int32) → Option (Int32 × Int32 × (Nat → Int32))) (f : Nat → Int32) (a b c mo sz : Int32) : ∀ (n j : Nat), j ≤ w → w < n + j → L_X9_push_78 N L k a b c (nI s) mo (nI w) sz n (nI j) (wrow f s a b c j) = k (wrow f s a b c w) := by
  intro n
  induction n with
  | zero => intro j h2 h3; omega
  | succ n ih =>
    intro j h2 h3
    show K_X9_push_78 N L (L_X9_push_78 N L k a b c (nI s) mo (nI w) sz n) k a b c (nI s) mo (nI w) sz (nI j) (wrow f s a b c j) = _
    unfold K_X9_push_78
    rw [nI_add]
    by_cases h4 : w ≤ j
    · rw [if_pos (nI_le h4 (by omega)), show j = w by omega]
    · rw [if_neg (nI_ge (by omega) (by omega)), if_neg (nI_ge (by omega) (by omega))]
      have go : ∀ x, x = (if j = 0 then a else if j = 1 then b else if j = 2 then c else 0) → J_X9_push_139 N L (L_X9_push_78 N L k a b c (nI s) mo (nI w) sz n) k (nI (s + j)) x a b c (nI s) (nI j) mo (nI w) sz (wrow f s a b c j) = k (wrow f s a b c w) := by
        intro x hx
        unfold J_X9_push_139 lt
        dsimp only
        rw [sto_t (vp_in_nI (by omega) (by omega)), nI_clamp (by omega), wrow_step hx, ← nI_succ]
        exact ih (j + 1) (by omega) (by omega)
      have q0 : (nI j = 0) ↔ j = 0 := by rw [← nI_0]; exact nI_eq (by omega) (by omega)
      have q1 : (nI j = 1) ↔ j = 1 := nI_eq (a := j) (b := 1) (by omega) (by omega)
      have q2 : (nI j = 2) ↔ j = 2 := nI_eq (a := j) (b := 2) (by omega) (by omega)
      by_cases e0 : j = 0
      · rw [if_pos (q0.mpr e0)]; exact go a (by rw [if_pos e0])
      rw [if_neg (fun h => e0 (q0.mp h))]
      by_cases e1 : j = 1
      · rw [if_pos (q1.mpr e1)]; exact go b (by rw [if_neg e0, if_pos e1])
      rw [if_neg (fun h => e1 (q1.mp h))]
      by_cases e2 : j = 2
      · rw [if_pos (q2.mpr e2)]; exact go c (by rw [if_neg e0, if_neg e1, if_pos e2])
      rw [if_neg (fun h => e2 (q2.mp h))]
      exact go 0 (by rw [if_neg e0, if_neg e1, if_neg e2])
theorem trow_len (w : Nat) (a b c : Int32) : (trow w a b c).length = w := by unfold trow; simp
theorem trow_at {w j : Nat} (a b c : Int32) (h : j < w) : (trow w a b c).getD j 0 = if j = 0 then a else if j = 1 then b else if j = 2 then c else 0 := by
  rw [q_getD_lt (by rw [trow_len]; exact h)]
  unfold trow
  simp
/-- a row written behind the rows that are there -/
theorem n_push1 {m w : Nat} {rows : Rows} {f : Nat → Int32} (ok : tb_ok m w rows (nI rows.length) f) (hm : rows.length < m) {N : Nat} (hN : 65536 ≤ N) (mo a b c : Int32) : ∃ f', J_X9_push_64 N (m * w) a b c mo (nI w) (nI rows.length) f = some (nI rows.length, nI (rows.length + 1), f') ∧ tb_ok m w (rows ++ [trow w a b c]) (nI (rows.length + 1)) f' := by
  obtain ⟨hnw, hmw, hw⟩ := tb_nw ok
  obtain ⟨hd, hlen, hrow, -, hf⟩ := ok
  have h4 : (rows.length + 1) * w ≤ m * w := Nat.mul_le_mul_right w hm
  rw [Nat.add_mul, Nat.one_mul] at h4
  have hwm : w ≤ m * w := by
    have : 1 * w ≤ m * w := Nat.mul_le_mul_right w hd.1
    omega
  unfold J_X9_push_64 lt
  dsimp only
  have hl := n_rowL (L := m * w) (w := w) (s := rows.length * w) hmw h4 N (fun f => J_X9_push_146 N (m * w) mo (nI w) (nI rows.length) f) f a b c mo (nI rows.length) N 0 (Nat.zero_le _) (by omega)
  rw [wrow_0, nI_0] at hl
  rw [pk_mul, hl]
  unfold J_X9_push_146 lt
  dsimp only
  rw [← nI_succ, nI_pred]
  refine ⟨_, rfl, hd, by simp; omega, fun r hr => ?_, by simp, fun i j hi hj => ?_⟩
  · rcases List.mem_append.mp hr with h | h
    · exact hrow r h
    · rw [List.mem_singleton.mp h]; exact trow_len w a b c
  · have hi' : i < rows.length + 1 := by simpa using hi
    unfold wrow
    by_cases h5 : i < rows.length
    · have := cell_lt (w := w) h5 hj
      rw [if_neg (by omega), hf i j h5 hj, List.getD_eq_getElem?_getD (l := rows ++ _), List.getElem?_append_left h5, ← List.getD_eq_getElem?_getD]
    · have h6 : i = rows.length := by omega
      subst h6
      rw [if_pos (by omega), show rows.length * w + j - rows.length * w = j by omega, List.getD_eq_getElem?_getD (l := rows ++ _), List.getElem?_append_right (Nat.le_refl _), Nat.sub_self]
      exact (trow_at a b c hj).symm
theorem n_pushF {m w : Nat} {rows : Rows} {f : Nat → Int32} (ok : tb_ok m w rows (nI rows.length) f) (hmm : rows.length = m) {N : Nat} (hN : 65536 ≤ N) (a b c : Int32) : L_X9_push_14 N (m * w) (fun f => lt (nI m - 1) (fun sz_8 => J_X9_push_64 N (m * w) a b c (nI m) (nI w) sz_8 f)) a b c (nI m) (nI w) (nI rows.length) N 0 f = J_X9_push_64 N (m * w) a b c (nI m) (nI w) (nI (rows.drop 1).length) (shf f 0 w (m * w - w)) := by
  obtain ⟨hnw, hmw, hw⟩ := tb_nw ok
  have hwm : w ≤ m * w := by
    have : 1 * w ≤ m * w := Nat.mul_le_mul_right w ok.1.1
    omega
  have hl := n_shiftL (L := m * w) (w := w) hmw hw N (fun f => lt (nI m - 1) (fun sz_8 => J_X9_push_64 N (m * w) a b c (nI m) (nI w) sz_8 f)) f a b c (nI m) (nI rows.length) N 0 (by omega) (by omega)
  rw [shf_0, nI_0] at hl
  refine hl.trans ?_
  have e2 : nI m - 1 = nI (rows.drop 1).length := by
    obtain ⟨k, hk⟩ : ∃ k, m = k + 1 := ⟨m - 1, by have := ok.1.1; omega⟩
    have hdl : (rows.drop 1).length = k := by rw [List.length_drop]; omega
    rw [hdl, hk, nI_pred]
  rw [← e2]
  exact lt_b _ _
theorem n_pushG {m w : Nat} {rows : Rows} {f : Nat → Int32} (ok : tb_ok m w rows (nI rows.length) f) (hmm : rows.length = m) : tb_ok m w (rows.drop 1) (nI (rows.drop 1).length) (shf f 0 w (m * w - w)) := by
  obtain ⟨hnw, hmw, hw⟩ := tb_nw ok
  obtain ⟨hd, hlen, hrow, -, hf⟩ := ok
  obtain ⟨k, hk⟩ : ∃ k, m = k + 1 := ⟨m - 1, by have := hd.1; omega⟩
  have hdl : (rows.drop 1).length = k := by rw [List.length_drop]; omega
  refine ⟨hd, by omega, fun r hr => hrow r (List.mem_of_mem_drop hr), rfl, fun i j hi hj => ?_⟩
  have hi' : i < k := by omega
  have h5 := cell_lt (w := w) hi' hj
  have e1 : m * w - w = k * w := by rw [hk, Nat.add_mul, Nat.one_mul]; omega
  unfold shf
  rw [if_pos (by omega), show i * w + j + w = (i + 1) * w + j by rw [Nat.add_mul, Nat.one_mul]; omega, hf (i + 1) j (by omega) hj, List.getD_eq_getElem?_getD (l := rows.drop 1), List.getElem?_drop, ← List.getD_eq_getElem?_getD, Nat.add_comm 1 i]
theorem n_push {m w : Nat} {rows : Rows} {sz : Int32} {f : Nat → Int32} (ok : tb_ok m w rows sz f) {N : Nat} (hN : 65536 ≤ N) (a b c : Int32) : ∃ sz' f', F_X9_push N (m * w) (nI m) (nI w) sz f a b c = some ((tpush m w rows a b c).1, sz', f') ∧ tb_ok m w (tpush m w rows a b c).2 sz' f' := by
  have hs : sz = nI rows.length := ok.2.2.2.1
  subst hs
  have hN2 := nI_big ok.1 ok.2.1
  have hM := nI_big ok.1 (Nat.le_refl m)
  have hlen := ok.2.1
  by_cases h1 : rows.length < m
  · obtain ⟨f', h2, h3⟩ := n_push1 ok h1 hN (nI m) a b c
    have e1 : tpush m w rows a b c = (nI rows.length, rows ++ [trow w a b c]) := by
      unfold tpush tpushR
      rw [if_pos h1, List.length_append, List.length_singleton, Nat.add_sub_cancel]
    rw [e1]
    refine ⟨nI (rows.length + 1), f', ?_, h3⟩
    unfold F_X9_push
    rw [if_pos (nI_lt h1 hM)]
    exact h2
  · have hmm : rows.length = m := by omega
    have hdl : (rows.drop 1).length < m := by rw [List.length_drop]; have := ok.1.1; omega
    obtain ⟨f', h2, h3⟩ := n_push1 (n_pushG ok hmm) hdl hN (nI m) a b c
    have e1 : tpush m w rows a b c = (nI (rows.drop 1).length, rows.drop 1 ++ [trow w a b c]) := by
      unfold tpush tpushR
      rw [if_neg h1, List.length_append, List.length_singleton, Nat.add_sub_cancel]
    rw [e1]
    refine ⟨nI ((rows.drop 1).length + 1), f', ?_, h3⟩
    unfold F_X9_push
    rw [if_neg (nI_nlt (by omega) hN2)]
    exact (n_pushF ok hmm hN a b c).trans h2
