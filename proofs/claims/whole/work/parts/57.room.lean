/-! ===== what the class's tables always are; making room: both sides ===== -/
def cRow (r : List Int32) : Prop := Vk (cl r 7) ∧ (∃ w, 1 ≤ w ∧ w ≤ 20 ∧ cl r 1 = nI w) ∧ (∃ v, v ≤ 99999 ∧ cl r 0 = nI v) ∧ ∃ s, s ≤ 99999 ∧ cl r 6 = nI s
def eRow (r : List Int32) : Prop := r.length = 9 ∧ cRow r ∧ ∃ c, c ≤ 999 ∧ cl r 3 = nI c
def iS (ents : Rows) (esf : Int32) : Prop := (∀ r ∈ ents, eRow r ∧ cl r 5 ≤ esf) ∧ ents.Pairwise (fun r q => cl r 5 < cl q 5 ∧ ¬ cl r 7 = cl q 7)
def iC (colds : Rows) : Prop := ∀ r ∈ colds, cRow r
def kOK (rows : Rows) : Prop := ∀ r ∈ rows, Vk (cl r 0)
def Inv0 (T : Nat → Rows) (V : Nat → Nat → Int32) : Prop := iS (T 4) (V 4 3) ∧ iC (T 5) ∧ kOK (T 1) ∧ kOK (T 2) ∧ kOK (T 3)
theorem iS.iE {ents : Rows} {esf : Int32} (h : iS ents esf) : iE ents := fun r hr => ⟨(h.1 r hr).1.1, (h.1 r hr).1.2.1.1⟩
theorem iS.sub {ents e2 : Rows} {esf : Int32} (h : iS ents esf) (hs : e2.Sublist ents) : iS e2 esf := ⟨fun r hr => h.1 r (hs.subset hr), h.2.sublist hs⟩
theorem iS.at {ents : Rows} {esf : Int32} (h : iS ents esf) {i : Nat} (hi : i < ents.length) : eRow (rw' ents i) := by
  rw [show rw' ents i = ents[i] from q_getD_lt hi]
  exact (h.1 _ (List.getElem_mem hi)).1
theorem keepR_mem {m : Nat} {rows : Rows} {r : List Int32} (h : r ∈ keepR m rows) : r ∈ rows := by
  unfold keepR at h
  split at h
  · exact h
  · exact List.mem_of_mem_drop h
theorem kOK.push {rows : Rows} (h : kOK rows) {k v : Int32} (hk : Vk k) : kOK (pushW rows k v) := by
  intro r hr
  unfold pushW at hr
  rcases List.mem_append.mp hr with q | q
  · exact h r (keepR_mem q)
  · rw [List.mem_singleton.mp q]; exact hk
theorem iC.trim {rows : Rows} (h : iC rows) {c : Nat} {r : List Int32} (hr : cRow r) : iC (trimC c (rows ++ [r])) := by
  intro q hq
  unfold trimC at hq
  rcases List.mem_append.mp (List.mem_of_mem_drop hq) with z | z
  · exact h q z
  · rw [List.mem_singleton.mp z]; exact hr
theorem lgW_ne {T : Nat → Rows} {V : Nat → Nat → Int32} {e j : Nat} (h0 : j ≠ 0) (h2 : j ≠ 2) : lgW T V e j = T j := by
  unfold lgW
  split
  · rfl
  · rw [va_up_ne _ _ h0, va_up_ne _ _ h2]
theorem lgT_ne {T : Nat → Rows} {V : Nat → Nat → Int32} {e j : Nat} {kind : Int32} (h0 : j ≠ 0) (h2 : j ≠ 2) (h4 : j ≠ 4) : lgT T V e kind j = T j := by
  unfold lgT
  rw [va_up_ne _ _ h4, va_up_ne _ _ h0, lgW_ne h0 h2]
theorem lgT_4 {T : Nat → Rows} {V : Nat → Nat → Int32} {e : Nat} {kind : Int32} : lgT T V e kind 4 = (T 4).eraseIdx e := rfl
theorem lgT_2 {T : Nat → Rows} {V : Nat → Nat → Int32} {e : Nat} {kind : Int32} (h : kOK (T 2)) (hv : Vk (cl (rw' (T 4) e) 7)) : kOK (lgT T V e kind 2) := by
  show kOK (lgW T V e 2)
  unfold lgW
  split
  · exact h
  · exact h.push hv
theorem lgV_ne {T : Nat → Rows} {V : Nat → Nat → Int32} {e j : Nat} (h : j ≠ 1) : lgV T V e j = V j := by
  unfold lgV
  split
  · rfl
  · rw [va_up_ne _ _ h]
theorem lg_inv {T : Nat → Rows} {V V' : Nat → Nat → Int32} (h : Inv0 T V) {e : Nat} (he : e < (T 4).length) {kind : Int32} (hV : V' 4 = V 4) : Inv0 (lgT T V e kind) V' := by
  refine ⟨?_, ?_, ?_, lgT_2 h.2.2.2.1 (h.1.at he).2.1.1, ?_⟩
  · rw [lgT_4, hV]; exact h.1.sub (List.eraseIdx_sublist _ _)
  · rw [lgT_ne (by decide) (by decide) (by decide)]; exact h.2.1
  · rw [lgT_ne (by decide) (by decide) (by decide)]; exact h.2.2.1
  · rw [lgT_ne (by decide) (by decide) (by decide)]; exact h.2.2.2.2
theorem cold_cRow {r : List Int32} (h : cRow r) : cRow (coldRow (cl r 7) (cl r 0) (cl r 1) (cl r 2) (cl r 6)) := h
theorem yc_inv {T : Nat → Rows} {V : Nat → Nat → Int32} (h : Inv0 T V) {c e : Nat} (he : e < (T 4).length) : Inv0 (ycT T V c e) V := by
  refine ⟨?_, ?_, ?_, ?_, ?_⟩
  · rw [ycT_ne (by decide)]; exact h.1
  · unfold ycT
    split
    · exact h.2.1.trim (cold_cRow (h.1.at he).2.1)
    · exact h.2.1
  · rw [ycT_ne (by decide)]; exact h.2.2.1
  · rw [ycT_ne (by decide)]; exact h.2.2.2.1
  · rw [ycT_ne (by decide)]; exact h.2.2.2.2
theorem y_inv {T : Nat → Rows} {V : Nat → Nat → Int32} (h : Inv0 T V) {c e : Nat} (he : e < (T 4).length) : Inv0 (yT T V c e) (yV T V e) := by
  unfold yT
  refine lg_inv (yc_inv h he) (by rw [ycT_ne (by decide)]; exact he) ?_
  unfold yV
  rw [lgV_ne (by decide)]
  rfl
/-- weights as numbers -/
def wN (r : List Int32) : Nat := (cl r 1).toNatClampNeg
def wSN (rows : Rows) : Nat := (rows.map wN).sum
theorem wN_eq {r : List Int32} (h : cRow r) : cl r 1 = nI (wN r) ∧ 1 ≤ wN r ∧ wN r ≤ 20 := by
  obtain ⟨w, h1, h2, h3⟩ := h.2.1
  unfold wN
  rw [h3, nI_clamp (by omega)]
  exact ⟨rfl, h1, h2⟩
theorem wS_foldl : ∀ (rows : Rows) (a : Nat), (∀ r ∈ rows, cl r 1 = nI (wN r)) → rows.foldl (fun a r => a + cl r 1) (nI a) = nI (a + wSN rows)
  | [], a, _ => rfl
  | r :: rs, a, h => by
    rw [List.foldl_cons, h r List.mem_cons_self, nI_add, wS_foldl rs _ (fun q hq => h q (List.mem_cons_of_mem _ hq))]
    show nI (a + wN r + wSN rs) = nI (a + (wN r + wSN rs))
    rw [Nat.add_assoc]
theorem wS_eq {rows : Rows} (h : ∀ r ∈ rows, cRow r) : wS rows = nI (wSN rows) := by
  unfold wS
  have := wS_foldl rows 0 (fun r hr => (wN_eq (h r hr)).1)
  rw [nI_0, Nat.zero_add] at this
  exact this
theorem wSN_le {rows : Rows} (h : ∀ r ∈ rows, cRow r) : rows.length ≤ wSN rows ∧ wSN rows ≤ 20 * rows.length := by
  induction rows with
  | nil => exact ⟨Nat.le_refl _, Nat.le_refl _⟩
  | cons r rs ih =>
    have h1 := ih (fun q hq => h q (List.mem_cons_of_mem _ hq))
    have h2 := wN_eq (h r List.mem_cons_self)
    show rs.length + 1 ≤ wN r + wSN rs ∧ wN r + wSN rs ≤ 20 * (rs.length + 1)
    omega
theorem iS.cr {ents : Rows} {esf : Int32} (h : iS ents esf) : ∀ r ∈ ents, cRow r := fun r hr => (h.1 r hr).1.2.1
/-- somebody can go: more weight than the spared one's -/
theorem ftg_some {vals : Nat → Int32} {now : Int32} {rows : Rows} {sp : Int32} : ∀ (n : Nat), (∃ i, i < n ∧ ¬ cl (rw' rows i) 7 = sp) → ∃ j, ftg vals now rows sp n = some j
  | 0, ⟨i, h, _⟩ => by omega
  | n + 1, ⟨i, hi, hk⟩ => by
    show ∃ j, stp vals now rows sp (ftg vals now rows sp n) n = some j
    unfold stp
    by_cases h1 : cl (rw' rows n) 7 = sp
    · rw [if_pos h1]
      exact ftg_some n ⟨i, by rcases Nat.lt_or_ge i n with q | q; exact q; exact absurd (by rw [show n = i by omega] at h1; exact h1) hk, hk⟩
    · rw [if_neg h1]
      cases ftg vals now rows sp n with
      | none => exact ⟨n, rfl⟩
      | some q =>
        dsimp only
        split
        · exact ⟨q, rfl⟩
        · exact ⟨n, rfl⟩
theorem wSN_only {sp : Int32} : ∀ (rows : Rows), rows.Pairwise (fun r q => cl r 5 < cl q 5 ∧ ¬ cl r 7 = cl q 7) → (∀ r ∈ rows, cl r 7 = sp) → rows = [] ∨ ∃ r, rows = [r]
  | [], _, _ => Or.inl rfl
  | [r], _, _ => Or.inr ⟨r, rfl⟩
  | r :: q :: rs, hp, h => by
    have h1 := (List.pairwise_cons.mp hp).1 q List.mem_cons_self
    exact absurd ((h r List.mem_cons_self).trans (h q (List.mem_cons_of_mem _ List.mem_cons_self)).symm) h1.2
theorem other {ents : Rows} {esf : Int32} (h : iS ents esf) {sp : Int32} {lim : Nat} (hsp : ∀ r ∈ ents, cl r 7 = sp → wN r ≤ lim) (hw : lim < wSN ents) : ∃ i, i < ents.length ∧ ¬ cl (rw' ents i) 7 = sp := by
  refine Classical.byContradiction (fun hn => ?_)
  have hall : ∀ r ∈ ents, cl r 7 = sp := by
    intro r hr
    refine Classical.byContradiction (fun hq => hn ?_)
    obtain ⟨i, hi, he⟩ := List.getElem_of_mem hr
    exact ⟨i, hi, by rw [show rw' ents i = ents[i] from q_getD_lt hi, he]; exact hq⟩
  rcases wSN_only ents h.2 hall with e | ⟨r, e⟩
  · rw [e] at hw; exact absurd hw (Nat.not_lt_zero _)
  · have h1 := hsp r (by rw [e]; exact List.mem_cons_self) (hall r (by rw [e]; exact List.mem_cons_self))
    rw [e] at hw
    have : wSN [r] = wN r := by show wN r + 0 = wN r; omega
    omega
theorem ycT_5 {T : Nat → Rows} {V : Nat → Nat → Int32} {c e : Nat} (hl : (T 5).length ≤ c) : (ycT T V c e 5).length ≤ c := by
  unfold ycT
  split
  · exact trimC_len.1
  · exact hl
/-- no key stands twice on the cold shelf, none there and among the entries -/
def iX (ents colds : Rows) : Prop := colds.Pairwise (fun r q => ¬ cl r 7 = cl q 7) ∧ ∀ r ∈ ents, ∀ q ∈ colds, ¬ cl r 7 = cl q 7
/-- the cold shelf's keys were there, or among the entries -/
def kF (T T' : Nat → Rows) : Prop := ∀ q ∈ T' 5, ∃ r, (r ∈ T 4 ∨ r ∈ T 5) ∧ cl r 7 = cl q 7
theorem iX.sub {e e2 c c2 : Rows} (h : iX e c) (h1 : ∀ r ∈ e2, ∃ q ∈ e, cl q 7 = cl r 7) (h2 : c2.Sublist c) : iX e2 c2 := ⟨h.1.sublist h2, fun r hr q hq z => by
  obtain ⟨r2, a, b⟩ := h1 r hr
  exact h.2 r2 a q (h2.subset hq) (b.trans z)⟩
theorem mem_at {rows : Rows} {i : Nat} (hi : i < rows.length) : rw' rows i ∈ rows := by
  rw [show rw' rows i = rows[i] from q_getD_lt hi]; exact List.getElem_mem hi
theorem erase_key {ents : Rows} {esf : Int32} (h : iS ents esf) {e : Nat} (he : e < ents.length) {r : List Int32} (hr : r ∈ ents.eraseIdx e) : ¬ cl r 7 = cl (rw' ents e) 7 := by
  rw [List.mem_eraseIdx_iff_getElem] at hr
  obtain ⟨i, hi, hne, rfl⟩ := hr
  have hp := List.pairwise_iff_getElem.mp h.2
  rw [show rw' ents e = ents[e] from q_getD_lt he]
  rcases Nat.lt_or_gt_of_ne hne with q | q
  · exact (hp i e hi he q).2
  · exact fun z => (hp e i he hi q).2 z.symm
theorem y_iX {T : Nat → Rows} {V : Nat → Nat → Int32} (h : Inv0 T V) {c e : Nat} (he : e < (T 4).length) : (iX (T 4) (T 5) → iX (yT T V c e 4) (yT T V c e 5)) ∧ kF T (yT T V c e) := by
  have e4 : yT T V c e 4 = (T 4).eraseIdx e := by
    show (ycT T V c e 4).eraseIdx e = _
    rw [ycT_ne (by decide)]
  have e5 : yT T V c e 5 = ycT T V c e 5 := lgT_ne (by decide) (by decide) (by decide)
  have hm := mem_at he
  unfold kF
  rw [e4, e5]
  unfold ycT
  by_cases q : stI (V 0) (V 4 0) (cl (rw' (T 4) e) 6) = 0
  · rw [if_pos q, show ∀ X : Rows, va_up T 5 X 5 = X from fun _ => rfl]
    refine ⟨fun hx => ⟨(List.pairwise_append.mpr ⟨hx.1, List.pairwise_singleton _ _, fun r hr q hq => ?_⟩).sublist (List.drop_sublist _ _), fun r hr q hq => ?_⟩, fun q hq => ?_⟩
    · rw [List.mem_singleton.mp hq]
      exact fun z => hx.2 _ hm r hr z.symm
    · rcases List.mem_append.mp (List.mem_of_mem_drop hq) with z | z
      · exact hx.2 r (List.mem_of_mem_eraseIdx hr) q z
      · rw [List.mem_singleton.mp z]
        exact erase_key h.1 he hr
    · rcases List.mem_append.mp (List.mem_of_mem_drop hq) with z | z
      · exact ⟨q, Or.inr z, rfl⟩
      · exact ⟨_, Or.inl hm, by rw [List.mem_singleton.mp z]; rfl⟩
  · rw [if_neg q]
    exact ⟨fun hx => hx.sub (fun r hr => ⟨r, List.mem_of_mem_eraseIdx hr, rfl⟩) (List.Sublist.refl _), fun q hq => ⟨q, Or.inr hq, rfl⟩⟩
theorem kF.refl (T : Nat → Rows) : kF T T := fun q hq => ⟨q, Or.inr hq, rfl⟩
theorem kF.trans {T T1 T2 : Nat → Rows} (h : kF T T1) (hs : ∀ r ∈ T1 4, r ∈ T 4) (h' : kF T1 T2) : kF T T2 := fun q hq => by
  obtain ⟨r, h1, h2⟩ := h' q hq
  rcases h1 with z | z
  · exact ⟨r, Or.inl (hs r z), h2⟩
  · obtain ⟨r2, h3, h4⟩ := h r z
    exact ⟨r2, h3, h4.trans h2⟩
