/-! ===== entries: finding, weighing, who goes first: both sides ===== -/
abbrev cl (r : List Int32) (c : Nat) : Int32 := r.getD c 0
abbrev rw' (rows : Rows) (i : Nat) : List Int32 := rows.getD i []
theorem rc (r : List Int32) {x : Int32} (c : Nat) (hx : x = nI c) (hc : c < 2 ^ 31) : rcol r x = cl r c := by
  subst hx
  unfold rcol
  rw [if_neg (nI_pos hc), nI_clamp hc]
theorem tg {rows : Rows} (i : Nat) (x : Int32) (c : Nat) (hx : x = nI c) (hi : i < 2 ^ 31) (hc : c < 2 ^ 31) : tget rows (nI i) x = cl (rw' rows i) c := by
  rw [tget_nI hi, rc _ c hx hc]
def oI : Option Nat → Int32
  | some i => nI i
  | none => -1
def fk (c : Nat) (rows : Rows) (v : Int32) : Option Nat := rows.findIdx? (fun r => decide (cl r c = v))
theorem fk_lt {c : Nat} {rows : Rows} {v : Int32} {i : Nat} (h : fk c rows v = some i) : i < rows.length ∧ cl (rw' rows i) c = v := by
  unfold fk at h
  rw [List.findIdx?_eq_some_iff_getElem] at h
  obtain ⟨h1, h2, -⟩ := h
  refine ⟨h1, ?_⟩
  rw [show rw' rows i = rows[i] from q_getD_lt h1]
  exact of_decide_eq_true h2
theorem tfindA_oI {c : Nat} (hc : c < 2 ^ 31) (v : Int32) : ∀ (rows : Rows) (i : Nat), tfindA (nI c) v 0 rows (nI i) 0 = oI ((fk c rows v).map (fun j => j + i))
  | [], i => rfl
  | r :: rs, i => by
    unfold tfindA fk
    rw [rc r c rfl hc, List.findIdx?_cons]
    by_cases h : cl r c = v
    · rw [if_pos h, if_pos rfl, if_pos (decide_eq_true h)]
      show nI i = nI (0 + i)
      rw [Nat.zero_add]
    · rw [if_neg h, if_neg (fun q => h (of_decide_eq_true q)), nI_1, tfindA_oI hc v rs (i + 1)]
      unfold fk
      rw [Option.map_map]
      congr 2
      funext j
      show j + (i + 1) = j + 1 + i
      omega
theorem tfind_oI (rows : Rows) (x : Int32) (c : Nat) (hx : x = nI c) (hc : c < 2 ^ 31) (v : Int32) : tfind rows x v 0 = oI (fk c rows v) := by
  subst hx
  have := tfindA_oI hc v rows 0
  rw [nI_0] at this
  unfold tfind
  rw [this]
  congr 1
  cases fk c rows v <;> rfl
def stI (vals : Nat → Int32) (now since : Int32) : Int32 := if vals 2 = 0 then 0 else if now < since + vals 2 then 0 else 1
theorem stI_01 (vals : Nat → Int32) (now since : Int32) : stI vals now since = 0 ∨ stI vals now since = 1 := by
  unfold stI
  split
  · exact Or.inl rfl
  · split
    · exact Or.inl rfl
    · exact Or.inr rfl
theorem n_passed {vals : Nat → Int32} {now : Int32} (x : Int32) (j : Nat) (hx : x = nI j) (hj : j < 8) (since : Int32) : F_X5_hasPassed vals now x since = some (if vals j = 0 then 0 else if now < since + vals j then 0 else 1) := by
  subst hx
  unfold F_X5_hasPassed J_X5_hasPassed_23
  rw [if_neg (nI_pos (by omega)), if_neg (nI_ge (b := 8) hj (by omega)), ldn (i := nI j) (n := 8) (k := j) rfl hj]
  split
  · rfl
  · split <;> rfl
theorem n_stale {dm : Nat} {vals : Nat → Int32} {now : Int32} {rows : Rows} {i : Nat} (hi : i < 2 ^ 31) : F_X0_isStale dm vals now rows (nI i) = some (stI vals now (cl (rw' rows i) 6)) := by
  unfold F_X0_isStale
  rw [lt_b, tg i 6 6 rfl hi (by decide), n_passed 2 2 rfl (by decide), bd_t rfl]
  exact ck_t (stI_01 _ _ _)
theorem s_over {g vals sc : Nat → Int32} (h : R0 g vals sc) (since : Int32) : F_X12_isOver g since = some (stI vals (sc 0) since) := by
  unfold F_X12_isOver stI
  rw [gl 2 2 rfl (by decide), h.1 2 (by decide), gl 8 8 rfl (by decide), gl 2 2 rfl (by decide), h.1 2 (by decide), h.2.1]
  split
  · rfl
  · split <;> rfl
/-- entries as the class must hold them -/
def iE (ents : Rows) : Prop := ∀ r ∈ ents, r.length = 9 ∧ Vk (cl r 7)
theorem iE.at {ents : Rows} (h : iE ents) {i : Nat} (hi : i < ents.length) : (rw' ents i).length = 9 ∧ Vk (cl (rw' ents i) 7) := by
  rw [show rw' ents i = ents[i] from q_getD_lt hi]
  exact h _ (List.getElem_mem hi)
theorem map_at (f : List Int32 → List Int32) {rows : Rows} {i : Nat} (hi : i < rows.length) : rw' (rows.map f) i = f (rw' rows i) := by
  rw [show rw' (rows.map f) i = (rows.map f)[i]'(by rw [List.length_map]; exact hi) from q_getD_lt _, show rw' rows i = rows[i] from q_getD_lt hi, List.getElem_map]
theorem s_at {g : Nat → Int32} {ents : Rows} (h : RE g ents) {i : Nat} (hi : i < ents.length) (x : Int32) (c : Nat) (hx : x = nI c) (hc : c < 9) : F_X12_at g (nI i) x = some (cl (mEn (rw' ents i)) c) := by
  subst hx
  have h2 := h.2
  unfold F_X12_at
  rw [gl (98 + nI i * 9 + nI c) (98 + (i * 9 + c)) (ix3 98 i 9 c) (by omega), h.1.2 i c (by rw [List.length_map]; exact hi) hc, ← map_at mEn hi]
theorem s_stale {g vals sc : Nat → Int32} (h0 : R0 g vals sc) {ents : Rows} (h : RE g ents) {i : Nat} (hi : i < ents.length) : F_X12_isStale g (nI i) = some (stI vals (sc 0) (cl (rw' ents i) 6)) := by
  unfold F_X12_isStale
  rw [s_at h hi 4 4 rfl (by decide), bd_t rfl, s_over h0, bd_t rfl]
  exact ck_t (stI_01 _ _ _)
theorem s_many {g : Nat → Int32} {ents : Rows} (h : RE g ents) : g 13 = nI ents.length := by rw [h.1.1, List.length_map]
theorem s_entryL {g : Nat → Int32} {ents : Rows} (h : RE g ents) (hE : iE ents) {k : Int32} (hk : Vk k) (N : Nat) : ∀ (n i : Nat), i ≤ ents.length → ents.length < n + i → L_X12_entryOf_2 N (fun _ => some (-1)) (fun x2 => some x2) (kc k) g n (nI i) = some (oI ((fk 7 (ents.drop i) k).map (fun j => j + i))) := by
  have h2 := h.2
  intro n
  induction n with
  | zero => intro i h3 h4; omega
  | succ n ih =>
    intro i h3 h4
    rw [e_X12_entryOf_2]
    unfold K_X12_entryOf_2
    rw [gl 13 13 rfl (by decide), s_many h]
    by_cases h5 : i = ents.length
    · subst h5
      rw [if_pos (nI_le (Nat.le_refl _) (by omega)), List.drop_length]
      rfl
    have h6 : i < ents.length := by omega
    rw [if_neg (nI_ge h6 (by omega)), s_at h h6 0 0 rfl (by decide), bd_t rfl, drop_get h6]
    have e1 : cl (mEn (rw' ents i)) 0 = kc (cl (rw' ents i) 7) := rfl
    rw [e1]
    unfold fk
    rw [List.findIdx?_cons]
    by_cases h7 : cl (rw' ents i) 7 = k
    · rw [if_pos ((kc_inj (hE.at h6).2 hk).mpr h7), if_pos (decide_eq_true h7)]
      show some (nI i) = some (nI (0 + i))
      rw [Nat.zero_add]
    · rw [if_neg (fun q => h7 ((kc_inj (hE.at h6).2 hk).mp q)), if_neg (fun q => h7 (of_decide_eq_true q)), lt_b, nI_1, ih (i + 1) (by omega) (by omega)]
      unfold fk
      rw [Option.map_map]
      congr 3
      funext j
      show j + (i + 1) = j + 1 + i
      omega
theorem s_entry {N : Nat} (hN : 65536 ≤ N) {g : Nat → Int32} {ents : Rows} (h : RE g ents) (hE : iE ents) {k : Int32} (hk : Vk k) : F_X12_entryOf N g (kc k) = some (oI (fk 7 ents k)) := by
  have h2 := h.2
  unfold F_X12_entryOf
  have := s_entryL h hE hk N N 0 (Nat.zero_le _) (by omega)
  rw [nI_0, List.drop_zero] at this
  rw [this]
  congr 2
  cases fk 7 ents k <;> rfl
theorem n_rowOf {dm : Nat} {rows : Rows} {k : Int32} : F_X0_rowOf dm rows k = some (oI (fk 7 rows k)) := by
  unfold F_X0_rowOf
  rw [lt_b, tfind_oI rows 7 7 rfl (by decide)]
def wS (rows : Rows) : Int32 := rows.foldl (fun a r => a + cl r 1) 0
theorem wS_take {rows : Rows} {i : Nat} (h : i < rows.length) : wS (rows.take (i + 1)) = wS (rows.take i) + cl (rw' rows i) 1 := by
  unfold wS
  rw [List.take_succ, List.getElem?_eq_getElem h, List.foldl_append, show rw' rows i = rows[i] from q_getD_lt h]
  rfl
theorem n_weightL {dm : Nat} {rows : Rows} (hl : rows.length < 65536) (N : Nat) : ∀ (n i : Nat), i ≤ rows.length → rows.length < n + i → L_X0_weight_4 N dm (fun x1 => some x1) rows n (wS (rows.take i)) (nI i) = some (wS rows) := by
  intro n
  induction n with
  | zero => intro i h3 h4; omega
  | succ n ih =>
    intro i h3 h4
    rw [e_X0_weight_4]
    unfold K_X0_weight_4 tsize
    rw [lt_b]
    by_cases h5 : i = rows.length
    · subst h5
      rw [if_pos (nI_le (Nat.le_refl _) (by omega)), List.take_length]
    have h6 : i < rows.length := by omega
    rw [if_neg (nI_ge h6 (by omega)), lt_b, tg i 1 1 rfl (by omega) (by decide), lt_b, lt_b, nI_1, ← wS_take h6]
    exact ih (i + 1) (by omega) (by omega)
theorem n_weight {N : Nat} (hN : 65536 ≤ N) {dm : Nat} {rows : Rows} (hl : rows.length < 65536) : F_X0_weight N dm rows = some (wS rows) := by
  unfold F_X0_weight
  have := n_weightL (dm := dm) hl N N 0 (Nat.zero_le _) (by omega)
  rw [nI_0, List.take_zero] at this
  exact this
theorem s_weightL {g : Nat → Int32} {ents : Rows} (h : RE g ents) (N : Nat) : ∀ (n i : Nat), i ≤ ents.length → ents.length < n + i → L_X12_weight_4 N (fun x1 => some x1) g n (wS (ents.take i)) (nI i) = some (wS ents) := by
  have h2 := h.2
  intro n
  induction n with
  | zero => intro i h3 h4; omega
  | succ n ih =>
    intro i h3 h4
    rw [e_X12_weight_4]
    unfold K_X12_weight_4
    rw [gl 13 13 rfl (by decide), s_many h]
    by_cases h5 : i = ents.length
    · subst h5
      rw [if_pos (nI_le (Nat.le_refl _) (by omega)), List.take_length]
    have h6 : i < ents.length := by omega
    rw [if_neg (nI_ge h6 (by omega)), s_at h h6 2 2 rfl (by decide), bd_t rfl, lt_b, lt_b, nI_1]
    have e1 : wS (ents.take i) + cl (mEn (rw' ents i)) 2 = wS (ents.take (i + 1)) := (wS_take h6).symm
    rw [e1]
    exact ih (i + 1) (by omega) (by omega)
theorem s_weight {N : Nat} (hN : 65536 ≤ N) {g : Nat → Int32} {ents : Rows} (h : RE g ents) : F_X12_weight N g = some (wS ents) := by
  have h2 := h.2
  unfold F_X12_weight
  have := s_weightL h N N 0 (Nat.zero_le _) (by omega)
  rw [nI_0, List.take_zero] at this
  exact this
/-- whether an entry goes ahead of another: 1, 0 -/
def soI (vals : Nat → Int32) (now : Int32) (r q : List Int32) : Int32 :=
  if stI vals now (cl r 6) = stI vals now (cl q 6) then
    (if cl r 3 = cl q 3 then (if cl r 4 = cl q 4 then (if cl q 5 ≤ cl r 5 then 0 else 1) else (if cl q 4 ≤ cl r 4 then 0 else 1)) else (if cl q 3 ≤ cl r 3 then 0 else 1))
  else stI vals now (cl r 6)
theorem n_ahead {N : Nat} (hN : 65536 ≤ N) {dm : Nat} {vals : Nat → Int32} {now : Int32} {rows : Rows} {i j : Nat} (hi : i < 2 ^ 31) (hj : j < 2 ^ 31) : F_X0_goesAhead N dm vals now rows (nI i) (nI j) = some (soI vals now (rw' rows i) (rw' rows j)) := by
  obtain ⟨n, rfl⟩ : ∃ n, N = n + 4 := ⟨N - 4, by omega⟩
  unfold F_X0_goesAhead soI
  rw [n_stale hi, bd_t rfl, n_stale hj, bd_t rfl]
  by_cases h1 : stI vals now (cl (rw' rows i) 6) = stI vals now (cl (rw' rows j) 6)
  · rw [if_pos h1, if_pos h1, e_X0_goesAhead_20]
    unfold K_X0_goesAhead_20
    rw [if_neg (by decide), lt_b, tg i 3 3 rfl hi (by decide), lt_b, tg j 3 3 rfl hj (by decide)]
    by_cases h2 : cl (rw' rows i) 3 = cl (rw' rows j) 3
    · rw [if_pos h2, if_pos h2, lt_b, e_X0_goesAhead_20]
      unfold K_X0_goesAhead_20
      rw [if_neg (by decide), lt_b, show (3 : Int32) + 1 = 4 from rfl, tg i 4 4 rfl hi (by decide), lt_b, tg j 4 4 rfl hj (by decide)]
      by_cases h3 : cl (rw' rows i) 4 = cl (rw' rows j) 4
      · rw [if_pos h3, if_pos h3, lt_b, e_X0_goesAhead_20]
        unfold K_X0_goesAhead_20
        rw [if_neg (by decide), lt_b, show (4 : Int32) + 1 = 5 from rfl, tg i 5 5 rfl hi (by decide), lt_b, tg j 5 5 rfl hj (by decide)]
        by_cases h4 : cl (rw' rows i) 5 = cl (rw' rows j) 5
        · rw [if_pos h4, lt_b, e_X0_goesAhead_20]
          unfold K_X0_goesAhead_20
          rw [if_pos (by decide), if_pos (by rw [h4]; exact Int32.le_refl _)]
        · rw [if_neg h4]
          dsimp only
          split <;> rfl
      · rw [if_neg h3, if_neg h3]
        dsimp only
        split <;> rfl
    · rw [if_neg h2, if_neg h2]
      dsimp only
      split <;> rfl
  · rw [if_neg h1, if_neg h1]
    exact ck_t (stI_01 _ _ _)
theorem bd_some {α β : Type} (y : α) (f : α → Option β) : bd (some y) f = f y := rfl
theorem s_sooner {g vals sc : Nat → Int32} (h0 : R0 g vals sc) {ents : Rows} (h : RE g ents) {i j : Nat} (hi : i < ents.length) (hj : j < ents.length) : F_X12_isSooner g (nI i) (nI j) = some (soI vals (sc 0) (rw' ents i) (rw' ents j)) := by
  unfold F_X12_isSooner soI
  rw [s_stale h0 h hi, bd_t rfl, s_stale h0 h hj, bd_t rfl]
  by_cases h1 : stI vals (sc 0) (cl (rw' ents i) 6) = stI vals (sc 0) (cl (rw' ents j) 6)
  · rw [if_pos h1, if_pos h1]
    simp only [s_at h hi 5 5 rfl (by decide), s_at h hj 5 5 rfl (by decide), s_at h hi 6 6 rfl (by decide), s_at h hj 6 6 rfl (by decide), s_at h hi 7 7 rfl (by decide), s_at h hj 7 7 rfl (by decide), bd_some]
    show (if cl (rw' ents i) 3 = cl (rw' ents j) 3 then _ else _) = _
    by_cases h2 : cl (rw' ents i) 3 = cl (rw' ents j) 3
    · rw [if_pos h2, if_pos h2]
      show (if cl (rw' ents i) 4 = cl (rw' ents j) 4 then _ else _) = _
      by_cases h3 : cl (rw' ents i) 4 = cl (rw' ents j) 4
      · rw [if_pos h3, if_pos h3]
        show (if cl (rw' ents j) 5 ≤ cl (rw' ents i) 5 then _ else _) = _
        split <;> rfl
      · rw [if_neg h3, if_neg h3]
        show (if cl (rw' ents j) 4 ≤ cl (rw' ents i) 4 then _ else _) = _
        split <;> rfl
    · rw [if_neg h2, if_neg h2]
      show (if cl (rw' ents j) 3 ≤ cl (rw' ents i) 3 then _ else _) = _
      split <;> rfl
  · rw [if_neg h1, if_neg h1, bd_t rfl]
    exact ck_t (stI_01 _ _ _)
