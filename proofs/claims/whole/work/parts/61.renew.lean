/-! ===== one cell of an entry is written; an entry is made new: both sides ===== -/
theorem tset_nI {rows : Rows} {i : Nat} (hi : i < 2 ^ 31) (y : Int32) (c : Nat) (hy : y = nI c) (hc : c < 2 ^ 31) (x : Int32) : tset rows (nI i) y x = rows.modify i (fun r => r.set c x) := by
  subst hy
  unfold tset
  rw [if_neg (fun q => q.elim (nI_pos hi) (nI_pos hc)), nI_clamp hi, nI_clamp hc]
theorem modD {rows : Rows} {i k : Nat} {f : List Int32 → List Int32} (hk : k < rows.length) : rw' (rows.modify i f) k = if k = i then f (rw' rows k) else rw' rows k := q_modD hk
theorem GT.set {g : Nat → Int32} {cnt off w : Nat} {rows : Rows} (h : GT g cnt off w rows) (hap : cnt < off ∨ off + rows.length * w ≤ cnt) {i j : Nat} (hi : i < rows.length) (hj : j < w) (hr : (rw' rows i).length = w) (x : Int32) : GT (upd g (off + (i * w + j)) x) cnt off w (rows.modify i (fun r => r.set j x)) := by
  have h1 := cell_lt (w := w) hi hj
  refine ⟨by rw [upd_ne (by omega), List.length_modify]; exact h.1, fun a b ha hb => ?_⟩
  rw [List.length_modify] at ha
  show _ = (rw' (rows.modify i (fun r => r.set j x)) a).getD b 0
  rw [modD ha]
  by_cases q : a = i
  · subst q
    rw [if_pos rfl, q_setD (by rw [hr]; exact hb)]
    by_cases q2 : b = j
    · subst q2; rw [if_pos rfl, upd_at]
    · rw [if_neg q2, upd_ne (by omega), h.2 a b ha hb]
  · rw [if_neg q, upd_ne ?_, h.2 a b ha hb]
    intro e
    rcases Nat.lt_or_gt_of_ne q with z | z
    · have := cell_lt (w := w) z hb; omega
    · have := cell_lt (w := w) z hj; omega
theorem map_modify {f : List Int32 → List Int32} {p q : List Int32 → List Int32} {rows : Rows} {i : Nat} (h : ∀ r, rows[i]? = some r → f (p r) = q (f r)) : (rows.modify i p).map f = (rows.map f).modify i q := by
  apply List.ext_getElem?
  intro k
  rw [List.getElem?_map, List.getElem?_modify, List.getElem?_modify, List.getElem?_map]
  cases hk : rows[k]? with
  | none => rfl
  | some r =>
    by_cases e : i = k
    · subst e
      simp only [Option.map_some, if_pos]
      show some (f (p r)) = some (q (f r))
      rw [h r hk]
    · simp [e]
/-- which column of the reference's rows a column of the class's is -/
def colR (c : Nat) : Nat := ([1, 2, 3, 5, 6, 7, 4, 0, 8] : List Nat).getD c 0
theorem mEn_set {r : List Int32} (hr : r.length = 9) {c : Nat} (hc : c < 9) (h7 : c ≠ 7) (x : Int32) : mEn (r.set c x) = (mEn r).set (colR c) x := by
  have g1 : ∀ j, j < 9 → (r.set c x).getD j 0 = if j = c then x else r.getD j 0 := fun j hj => q_setD (by omega)
  unfold mEn
  rw [g1 0 (by decide), g1 1 (by decide), g1 2 (by decide), g1 3 (by decide), g1 4 (by decide), g1 5 (by decide), g1 6 (by decide), g1 7 (by decide), g1 8 (by decide)]
  match c, hc, h7 with
  | 0, _, _ => rfl
  | 1, _, _ => rfl
  | 2, _, _ => rfl
  | 3, _, _ => rfl
  | 4, _, _ => rfl
  | 5, _, _ => rfl
  | 6, _, _ => rfl
  | 7, _, h => exact absurd rfl h
  | 8, _, _ => rfl
  | c + 9, h, _ => omega
theorem colR_lt {c : Nat} (hc : c < 9) : colR c < 9 := by
  match c, hc with
  | 0, _ => decide
  | 1, _ => decide
  | 2, _ => decide
  | 3, _ => decide
  | 4, _ => decide
  | 5, _ => decide
  | 6, _ => decide
  | 7, _ => decide
  | 8, _ => decide
  | c + 9, h => omega
/-- the reference writes one cell of an entry -/
theorem s_setE {T : Nat → Rows} {V : Nat → Nat → Int32} {g : Nat → Int32} (h : RR T V g) (hE : iE (T 4)) {e : Nat} (he : e < (T 4).length) {c : Nat} (hc : c < 9) (h7 : c ≠ 7) (y : Int32) (hy : y = nI (colR c)) (x : Int32) : ∃ g', F_X12_sets g (nI e) y x = some g' ∧ RR (va_up T 4 ((T 4).modify e (fun r => r.set c x))) V g' := by
  have hre := h.2.2.2.2.1
  have h200 := hre.2
  have hc9 := colR_lt hc
  refine ⟨_, s_sets (n := e) rfl (by omega) y (colR c) hy hc9 x, h.uRE ⟨?_, by rw [List.length_modify]; exact h200⟩ (fun p hp hq => upd_ne (by omega))⟩
  rw [map_modify (q := fun r => r.set (colR c) x) (fun r hr => mEn_set (hE r (List.mem_of_getElem? hr)).1 hc h7 x)]
  have := hre.1.set (i := e) (j := colR c) (Or.inl (by decide)) (by rw [List.length_map]; exact he) hc9 (by rw [map_at mEn he]; rfl) x
  rw [← Nat.add_assoc] at this
  exact this
theorem mem_modify {rows : Rows} {i : Nat} {f : List Int32 → List Int32} {r : List Int32} (h : r ∈ rows.modify i f) : r ∈ rows ∨ ∃ q, rows[i]? = some q ∧ r = f q := by
  obtain ⟨k, hk⟩ := List.getElem?_of_mem h
  rw [List.getElem?_modify] at hk
  cases hq : rows[k]? with
  | none => rw [hq] at hk; cases hk
  | some q =>
    rw [hq] at hk
    by_cases e : i = k
    · subst e
      simp at hk
      exact Or.inr ⟨q, hq, hk.symm⟩
    · simp [e] at hk
      exact Or.inl (by rw [← hk]; exact List.mem_of_getElem? hq)
theorem pw_modify {R : List Int32 → List Int32 → Prop} {f : List Int32 → List Int32} : ∀ {rows : Rows} {i : Nat}, rows.Pairwise R → (∀ r q, rows[i]? = some q → R r q → R r (f q)) → (∀ r q, rows[i]? = some q → R q r → R (f q) r) → (rows.modify i f).Pairwise R
  | [], i, _, _, _ => by cases i <;> exact List.Pairwise.nil
  | r :: rs, 0, h, _, h2 => by
    rw [List.modify_zero_cons, List.pairwise_cons]
    have := List.pairwise_cons.mp h
    exact ⟨fun q hq => h2 q r rfl (this.1 q hq), this.2⟩
  | r :: rs, i + 1, h, h1, h2 => by
    rw [List.modify_succ_cons, List.pairwise_cons]
    have hp := List.pairwise_cons.mp h
    refine ⟨fun q hq => ?_, pw_modify hp.2 (fun a q hq => h1 a q hq) (fun a q hq => h2 a q hq)⟩
    rcases mem_modify hq with z | ⟨z, hz, rfl⟩
    · exact hp.1 q z
    · exact h1 r z hz (hp.1 z (List.mem_of_getElem? hz))
/-- a row changes, but for its key and its number of coming -/
theorem iS.mod {ents : Rows} {esf : Int32} (h : iS ents esf) {i : Nat} {f : List Int32 → List Int32} (hf : ∀ r, eRow r → eRow (f r) ∧ cl (f r) 5 = cl r 5 ∧ cl (f r) 7 = cl r 7) : iS (ents.modify i f) esf := by
  refine ⟨fun r hr => ?_, pw_modify h.2 (fun r q hq hR => ?_) (fun r q hq hR => ?_)⟩
  · rcases mem_modify hr with z | ⟨z, hz, rfl⟩
    · exact h.1 r z
    · have hm := h.1 z (List.mem_of_getElem? hz)
      have := hf z hm.1
      exact ⟨this.1, by rw [this.2.1]; exact hm.2⟩
  · have := hf q (h.1 q (List.mem_of_getElem? hq)).1
    rw [this.2.1, this.2.2]; exact hR
  · have := hf q (h.1 q (List.mem_of_getElem? hq)).1
    rw [this.2.1, this.2.2]; exact hR
theorem set_cl {r : List Int32} {c j : Nat} {x : Int32} (hr : r.length = 9) (hj : j < 9) : cl (r.set c x) j = if j = c then x else cl r j := q_setD (by omega)
/-- what may be written into an entry's columns -/
def colOK (c : Nat) (x : Int32) : Prop := (c = 0 ∧ ∃ v, v ≤ 99999 ∧ x = nI v) ∨ (c = 1 ∧ ∃ w, 1 ≤ w ∧ w ≤ 20 ∧ x = nI w) ∨ c = 2 ∨ (c = 3 ∧ ∃ v, v ≤ 999 ∧ x = nI v) ∨ c = 4 ∨ (c = 6 ∧ ∃ v, v ≤ 99999 ∧ x = nI v) ∨ c = 8
theorem eRow.set {r : List Int32} (h : eRow r) {c : Nat} {x : Int32} (hx : colOK c x) : eRow (r.set c x) ∧ cl (r.set c x) 5 = cl r 5 ∧ cl (r.set c x) 7 = cl r 7 := by
  have hl := h.1
  have s : ∀ j, j < 9 → cl (r.set c x) j = if j = c then x else cl r j := fun j hj => set_cl hl hj
  refine ⟨⟨by rw [List.length_set]; exact hl, ⟨?_, ?_, ?_, ?_⟩, ?_⟩, ?_, ?_⟩
  · rw [s 7 (by decide), if_neg (by rcases hx with ⟨q, -⟩ | ⟨q, -⟩ | q | ⟨q, -⟩ | q | ⟨q, -⟩ | q <;> omega)]; exact h.2.1.1
  · rw [s 1 (by decide)]
    split
    · next q => rcases hx with ⟨z, -⟩ | ⟨-, z⟩ | z | ⟨z, -⟩ | z | ⟨z, -⟩ | z <;> first | exact z | omega
    · exact h.2.1.2.1
  · rw [s 0 (by decide)]
    split
    · next q => rcases hx with ⟨-, z⟩ | ⟨z, -⟩ | z | ⟨z, -⟩ | z | ⟨z, -⟩ | z <;> first | exact z | omega
    · exact h.2.1.2.2.1
  · rw [s 6 (by decide)]
    split
    · next q => rcases hx with ⟨z, -⟩ | ⟨z, -⟩ | z | ⟨z, -⟩ | z | ⟨-, z⟩ | z <;> first | exact z | omega
    · exact h.2.1.2.2.2
  · rw [s 3 (by decide)]
    split
    · next q => rcases hx with ⟨z, -⟩ | ⟨z, -⟩ | z | ⟨-, z⟩ | z | ⟨z, -⟩ | z <;> first | exact z | omega
    · exact h.2.2
  · rw [s 5 (by decide), if_neg (by rcases hx with ⟨q, -⟩ | ⟨q, -⟩ | q | ⟨q, -⟩ | q | ⟨q, -⟩ | q <;> omega)]
  · rw [s 7 (by decide), if_neg (by rcases hx with ⟨q, -⟩ | ⟨q, -⟩ | q | ⟨q, -⟩ | q | ⟨q, -⟩ | q <;> omega)]
/-- the tables behind a cell of an entry that is written -/
def stE (T : Nat → Rows) (e c : Nat) (x : Int32) : Nat → Rows := va_up T 4 ((T 4).modify e (fun r => r.set c x))
theorem stE_ne {T : Nat → Rows} {e c j : Nat} {x : Int32} (h : j ≠ 4) : stE T e c x j = T j := va_up_ne _ _ h
theorem stE_len {T : Nat → Rows} {e c : Nat} {x : Int32} : (stE T e c x 4).length = (T 4).length := List.length_modify ..
theorem stE_inv {T : Nat → Rows} {V : Nat → Nat → Int32} (h : Inv0 T V) {e c : Nat} {x : Int32} (hx : colOK c x) : Inv0 (stE T e c x) V := ⟨h.1.mod (fun _ hr => hr.set hx), h.2⟩
theorem stE_at {T : Nat → Rows} {V : Nat → Nat → Int32} (h : Inv0 T V) {e c j : Nat} {x : Int32} (he : e < (T 4).length) (hj : j < 9) : cl (rw' (stE T e c x 4) e) j = if j = c then x else cl (rw' (T 4) e) j := by
  show cl (rw' ((T 4).modify e (fun r => r.set c x)) e) j = _
  rw [modD he, if_pos rfl, set_cl (h.1.at he).1 hj]
