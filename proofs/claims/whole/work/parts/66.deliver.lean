/-! ===== deliveries: both sides ===== -/
abbrev pA (a : Nat) (r : List Int32) : Bool := decide (r.getD 0 0 = nI a)
theorem erase_first {p : List Int32 → Bool} : ∀ {rows : Rows} {i : Nat}, rows.findIdx? p = some i → (rows.eraseIdx i).filter p = (rows.filter p).drop 1 ∧ ∀ q : List Int32 → Bool, (∀ r, q r = true → p r = false) → (rows.eraseIdx i).filter q = rows.filter q
  | [], i, h => by simp at h
  | r :: rs, i, h => by
    rw [List.findIdx?_cons] at h
    cases hp : p r with
    | true =>
      rw [hp, if_pos rfl] at h
      cases h
      refine ⟨by rw [List.eraseIdx_cons_zero, List.filter_cons, hp, if_pos rfl]; rfl, fun q hq => ?_⟩
      have hqr : q r = false := by
        cases hh : q r with
        | false => rfl
        | true => have := hq r hh; rw [hp] at this; cases this
      rw [List.eraseIdx_cons_zero, List.filter_cons, hqr]
      rfl
    | false =>
      rw [hp, if_neg (by decide)] at h
      cases hf : rs.findIdx? p with
      | none => rw [hf] at h; cases h
      | some j =>
        rw [hf] at h
        have hj : j + 1 = i := Option.some.inj h
        subst hj
        obtain ⟨h1, h2⟩ := erase_first hf
        refine ⟨by rw [List.eraseIdx_cons_succ, List.filter_cons, hp, List.filter_cons, hp]; exact h1, fun q hq => ?_⟩
        rw [List.eraseIdx_cons_succ, List.filter_cons, List.filter_cons, h2 q hq]
def dB (boxes : Rows) (a : Nat) (k v : Int32) : Rows := (if (bx boxes a).length < 12 then boxes else boxes.eraseIdx ((boxes.findIdx? (pA a)).getD 0)) ++ [[nI a, k, v]]
theorem find_some {boxes : Rows} {a : Nat} (h : 0 < (bx boxes a).length) : ∃ i, boxes.findIdx? (pA a) = some i := by
  cases hf : boxes.findIdx? (pA a) with
  | some i => exact ⟨i, rfl⟩
  | none =>
    rw [List.findIdx?_eq_none_iff] at hf
    have : bx boxes a = [] := by
      unfold bx
      rw [List.filter_eq_nil_iff]
      intro r hr
      have := hf r hr
      intro q
      rw [show pA a r = true from q] at this
      cases this
    rw [this] at h
    exact absurd h (Nat.lt_irrefl 0)
theorem bx_app (x : Rows) (a b : Nat) (k v : Int32) (ha : a < 16) (hb : b < 16) : bx (x ++ [[nI a, k, v]]) b = if b = a then bx x b ++ [[nI a, k, v]] else bx x b := by
  unfold bx
  rw [List.filter_append]
  by_cases q : b = a
  · subst q
    rw [if_pos rfl]
    congr 1
    simp
  · rw [if_neg q]
    have : ¬ nI a = nI b := fun e => q ((nI_eq (by omega) (by omega)).mp e).symm
    simp [this]
theorem bx_dB {boxes : Rows} {a : Nat} (ha : a < 16) (hl : (bx boxes a).length ≤ 12) (k v : Int32) {b : Nat} (hb : b < 16) : bx (dB boxes a k v) b = if b = a then keepR 12 (bx boxes a) ++ [[nI a, k, v]] else bx boxes b := by
  unfold dB
  rw [bx_app _ _ _ _ _ ha hb]
  by_cases h1 : (bx boxes a).length < 12
  · rw [if_pos h1]
    by_cases q : b = a
    · subst q
      rw [if_pos rfl, if_pos rfl]
      unfold keepR
      rw [if_pos h1]
    · rw [if_neg q, if_neg q]
  · rw [if_neg h1]
    obtain ⟨i, hi⟩ := find_some (boxes := boxes) (a := a) (by omega)
    obtain ⟨e1, e2⟩ := erase_first hi
    rw [hi]
    show (if b = a then bx (boxes.eraseIdx i) b ++ _ else bx (boxes.eraseIdx i) b) = _
    by_cases q : b = a
    · subst q
      rw [if_pos rfl, if_pos rfl]
      unfold keepR
      rw [if_neg h1]
      congr 1
    · rw [if_neg q, if_neg q]
      exact e2 (fun r => decide (r.getD 0 0 = nI b)) (fun r hr => by
        have h2 := of_decide_eq_true hr
        refine decide_eq_false (fun e => q ?_)
        rw [h2] at e
        exact (nI_eq (by omega) (by omega)).mp e)
/-- boxes as the class must hold them -/
def iB (boxes : Rows) : Prop := ∀ r ∈ boxes, (∃ a, a < 16 ∧ cl r 0 = nI a) ∧ Vk (cl r 1)
theorem bx_cons (r : List Int32) (rs : Rows) (b : Nat) : (bx (r :: rs) b).length = (bx rs b).length + if r.getD 0 0 = nI b then 1 else 0 := by
  unfold bx
  rw [List.filter_cons]
  by_cases q : r.getD 0 0 = nI b
  · rw [if_pos (decide_eq_true q), if_pos q, List.length_cons]
  · rw [if_neg (fun z => q (of_decide_eq_true z)), if_neg q, Nat.add_zero]
theorem bx_total : ∀ {boxes : Rows}, iB boxes → boxes.length = (bx boxes 0).length + (bx boxes 1).length + (bx boxes 2).length + (bx boxes 3).length + (bx boxes 4).length + (bx boxes 5).length + (bx boxes 6).length + (bx boxes 7).length + (bx boxes 8).length + (bx boxes 9).length + (bx boxes 10).length + (bx boxes 11).length + (bx boxes 12).length + (bx boxes 13).length + (bx boxes 14).length + (bx boxes 15).length
  | [], _ => rfl
  | r :: rs, h => by
    have ih := bx_total (boxes := rs) (fun q hq => h q (List.mem_cons_of_mem _ hq))
    obtain ⟨⟨a, ha, he⟩, -⟩ := h r List.mem_cons_self
    have he' : r.getD 0 0 = nI a := he
    have s : ∀ b, b < 16 → (bx (r :: rs) b).length = (bx rs b).length + if b = a then 1 else 0 := by
      intro b hb
      rw [bx_cons, he']
      by_cases q : b = a
      · subst q; rw [if_pos rfl, if_pos rfl]
      · rw [if_neg q, if_neg (fun e => q ((nI_eq (by omega) (by omega)).mp e).symm)]
    rw [List.length_cons, ih, s 0 (by decide), s 1 (by decide), s 2 (by decide), s 3 (by decide), s 4 (by decide), s 5 (by decide), s 6 (by decide), s 7 (by decide), s 8 (by decide), s 9 (by decide), s 10 (by decide), s 11 (by decide), s 12 (by decide), s 13 (by decide), s 14 (by decide), s 15 (by decide)]
    match a, ha with
    | 0, _ => simp; omega
    | 1, _ => simp; omega
    | 2, _ => simp; omega
    | 3, _ => simp; omega
    | 4, _ => simp; omega
    | 5, _ => simp; omega
    | 6, _ => simp; omega
    | 7, _ => simp; omega
    | 8, _ => simp; omega
    | 9, _ => simp; omega
    | 10, _ => simp; omega
    | 11, _ => simp; omega
    | 12, _ => simp; omega
    | 13, _ => simp; omega
    | 14, _ => simp; omega
    | 15, _ => simp; omega
    | a + 16, h => omega
