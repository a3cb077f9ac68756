/-! ===== other rules: what stands in the places ===== -/
/-- slot, key, count, last, came -/
abbrev Qr : Type := Nat × Int32 × Nat × Nat × Nat
abbrev qs (q : Qr) : Nat := q.1
abbrev qk (q : Qr) : Int32 := q.2.1
abbrev qc (q : Qr) : Nat := q.2.2.1
abbrev ql (q : Qr) : Nat := q.2.2.2.1
abbrev qm (q : Qr) : Nat := q.2.2.2.2
def qRow (q : Qr) : List Int32 := [qk q, nI (qc q), nI (ql q)]
/-- the reference's four arrays -/
abbrev Ar : Type := (Nat → Int32) × (Nat → Int32) × (Nat → Int32) × (Nat → Int32)
def QA (A : Ar) (t : Nat) (q : Qr) : Prop := Vk (qk q) ∧ A.1 (qs q) = kc (qk q) ∧ A.2.1 (qs q) = nI (qc q) ∧ A.2.2.1 (qs q) = nI (ql q) ∧ A.2.2.2 (qs q) = nI (qm q) ∧ qc q ≤ t ∧ ql q < t ∧ qm q < t
def PR (A : Ar) (t n : Nat) (Q : List Qr) : Prop := Q.length ≤ n ∧ (∀ q ∈ Q, qs q < Q.length ∧ QA A t q) ∧ Q.Pairwise (fun q r => ¬ qs q = qs r ∧ ¬ qk q = qk r ∧ ¬ ql q = ql r ∧ qm q < qm r)
theorem nd_all {m : Nat} {K : List Nat} (hK : K.Nodup) (hs : ∀ x ∈ K, x < m) (hl : K.length = m) : ∀ x, x < m → x ∈ K := by
  have h1 : (List.range m).countP (fun y => decide (y ∈ K)) = K.length := by
    rw [List.countP_eq_length_filter]
    refine List.Perm.length_eq ((List.perm_ext_iff_of_nodup (List.nodup_range.filter _) hK).mpr (fun y => ?_))
    rw [List.mem_filter]
    constructor
    · exact fun z => by simpa using z.2
    · exact fun z => ⟨List.mem_range.mpr (hs y z), by simpa using z⟩
  have h2 : (List.range m).countP (fun y => decide (y ∈ K)) = (List.range m).length := by rw [h1, hl, List.length_range]
  rw [List.countP_eq_length] at h2
  intro x hx
  have := h2 x (List.mem_range.mpr hx)
  simpa using this
theorem PR.slot {A : Ar} {t n : Nat} {Q : List Qr} (h : PR A t n Q) : ∀ x, x < Q.length → ∃ q ∈ Q, qs q = x := by
  intro x hx
  have hnd : (Q.map qs).Nodup := by
    unfold List.Nodup
    rw [List.pairwise_map]
    exact h.2.2.imp (fun z => z.1)
  have := nd_all (m := Q.length) hnd (fun y hy => by
    obtain ⟨q, hq, rfl⟩ := List.mem_map.mp hy
    exact (h.2.1 q hq).1) (by rw [List.length_map]) x hx
  obtain ⟨q, hq, e⟩ := List.mem_map.mp this
  exact ⟨q, hq, e⟩
theorem pw_eq {Q : List Qr} {R : Qr → Qr → Prop} (h : Q.Pairwise R) {f : Qr → Prop} {q r : Qr} (hq : q ∈ Q) (hr : r ∈ Q) (hR : ∀ a b, R a b → ¬ (a = q ∧ b = r) ∧ ¬ (a = r ∧ b = q)) : q = r := by
  obtain ⟨i, hi, rfl⟩ := List.getElem_of_mem hq
  obtain ⟨j, hj, rfl⟩ := List.getElem_of_mem hr
  have hp := List.pairwise_iff_getElem.mp h
  rcases Nat.lt_trichotomy i j with z | z | z
  · exact absurd ⟨rfl, rfl⟩ (hR _ _ (hp i j hi hj z)).1
  · subst z; rfl
  · exact absurd ⟨rfl, rfl⟩ (hR _ _ (hp j i hj hi z)).2
theorem PR.key {A : Ar} {t n : Nat} {Q : List Qr} (h : PR A t n Q) {q r : Qr} (hq : q ∈ Q) (hr : r ∈ Q) (e : qk q = qk r) : q = r :=
  pw_eq (f := fun _ => True) h.2.2 hq hr (fun a b z => ⟨fun y => z.2.1 (by rw [y.1, y.2]; exact e), fun y => z.2.1 (by rw [y.1, y.2]; exact e.symm)⟩)
theorem PR.slotU {A : Ar} {t n : Nat} {Q : List Qr} (h : PR A t n Q) {q r : Qr} (hq : q ∈ Q) (hr : r ∈ Q) (e : qs q = qs r) : q = r :=
  pw_eq (f := fun _ => True) h.2.2 hq hr (fun a b z => ⟨fun y => z.1 (by rw [y.1, y.2]; exact e), fun y => z.1 (by rw [y.1, y.2]; exact e.symm)⟩)
/-- the class's row of a key -/
theorem q_find {Q : List Qr} (k : Int32) : fk 0 (Q.map qRow) k = Q.findIdx? (fun q => decide (qk q = k)) := by
  unfold fk
  rw [List.findIdx?_map]
  rfl
/-- the reference's slot of a key, or behind all -/
theorem s_slotL {N : Nat} {A : Ar} {t n : Nat} {Q : List Qr} (h : PR A t n Q) (hn : n ≤ 12) {k : Int32} (hk : Vk k) (kk : Int32 → (Option (Int32 × (Nat → Int32) × (Nat → Int32) × (Nat → Int32) × (Nat → Int32)))) (x1 x2 x4 : Int32) {t5 : Nat} (ht5 : t5 < 60) (g asked : Nat → Int32) (am : Int32) (ha : asked t5 = kc k) {s : Nat} (hs : s ≤ Q.length) (hno : ∀ q ∈ Q, qs q < s → ¬ qk q = k) (hyes : s < Q.length → ∃ q ∈ Q, qs q = s ∧ qk q = k) : ∀ (f i : Nat), i ≤ s → s < f + i → L_X12_goes_20 N kk x1 x2 (nI Q.length) x4 (nI t5) g asked am A.1 A.2.1 A.2.2.1 A.2.2.2 f (nI i) = kk (nI s) := by
  have hl := h.1
  intro f
  induction f with
  | zero => intro i h1 h2; omega
  | succ f ih =>
    intro i h1 h2
    rw [e_X12_goes_20]
    unfold K_X12_goes_20
    by_cases q1 : Q.length ≤ i
    · rw [if_pos (nI_le q1 (by omega)), show i = s by omega]
    · have hi : i < Q.length := by omega
      obtain ⟨q, hq, eq⟩ := h.slot i hi
      have qa := (h.2.1 q hq).2
      rw [if_neg (nI_ge hi (by omega)), ldn (k := i) rfl (by omega), ldn (k := t5) rfl ht5, ha]
      have eth : A.1 i = kc (qk q) := by have := qa.2.1; rw [eq] at this; exact this
      rw [eth]
      by_cases z : i = s
      · subst z
        obtain ⟨r, hr, er, ek⟩ := hyes hi
        have : q = r := h.slotU hq hr (eq.trans er.symm)
        subst this
        rw [if_pos (by rw [ek])]
      · have hne : ¬ qk q = k := hno q hq (by rw [eq]; omega)
        rw [if_neg (fun y => hne ((kc_inj qa.1 hk).mp y)), lt_b, nI_1]
        exact ih (i + 1) (by omega) (by omega)
/-! who goes by a rule -/
def lsQ (rule : Nat) (q r : Qr) : Prop := if rule = 2 then qm q < qm r else if rule = 0 then ql q < ql r else (qc q < qc r ∨ (qc q = qc r ∧ ql q < ql r))
theorem lsQ_tr {rule : Nat} {a b c : Qr} (h1 : lsQ rule a b) (h2 : lsQ rule b c) : lsQ rule a c := by
  unfold lsQ at *
  by_cases r2 : rule = 2
  · rw [if_pos r2] at *; omega
  · rw [if_neg r2] at *
    by_cases r0 : rule = 0
    · rw [if_pos r0] at *; omega
    · rw [if_neg r0] at *; omega
theorem lsQ_irr {rule : Nat} {a : Qr} : ¬ lsQ rule a a := by
  unfold lsQ
  split
  · omega
  · split <;> omega
theorem lsQ_tot {A : Ar} {t n rule : Nat} {Q : List Qr} (h : PR A t n Q) {a b : Qr} (ha : a ∈ Q) (hb : b ∈ Q) (h1 : ¬ lsQ rule a b) (h2 : ¬ lsQ rule b a) : a = b := by
  refine pw_eq (f := fun _ => True) h.2.2 ha hb (fun x y z => ?_)
  obtain ⟨z1, z2, z3, z4⟩ := z
  unfold lsQ at h1 h2
  by_cases r2 : rule = 2
  · rw [if_pos r2] at h1 h2
    refine ⟨fun w => ?_, fun w => ?_⟩
    · rw [w.1, w.2] at z4; omega
    · rw [w.1, w.2] at z4; omega
  · rw [if_neg r2] at h1 h2
    by_cases r0 : rule = 0
    · rw [if_pos r0] at h1 h2
      refine ⟨fun w => z3 ?_, fun w => z3 ?_⟩
      · rw [w.1, w.2]; omega
      · rw [w.1, w.2]; omega
    · rw [if_neg r0] at h1 h2
      refine ⟨fun w => z3 ?_, fun w => z3 ?_⟩
      · rw [w.1, w.2]; omega
      · rw [w.1, w.2]; omega
abbrev qAt (Q : List Qr) (i : Nat) : Qr := Q.getD i (0, 0, 0, 0, 0)
theorem qAt_mem {Q : List Qr} {i : Nat} (h : i < Q.length) : qAt Q i ∈ Q := by
  rw [show qAt Q i = Q[i] from q_getD_lt h]
  exact List.getElem_mem h
theorem row_q {Q : List Qr} {i : Nat} (h : i < Q.length) : rw' (Q.map qRow) i = qRow (qAt Q i) := by
  show (Q.map qRow).getD i [] = _
  rw [q_getD_lt (by rw [List.length_map]; exact h), List.getElem_map, show qAt Q i = Q[i] from q_getD_lt h]
theorem n_f2gL {N : Nat} {A : Ar} {t n rule : Nat} {Q : List Qr} (h : PR A t n Q) (hn : n ≤ 12) (ht : t < 65536) (hr : rule < 4) (hr2 : rule ≠ 2) : ∀ (f i b : Nat), i ≤ Q.length → Q.length < f + i → b < i → (∀ j, j < i → ¬ lsQ rule (qAt Q j) (qAt Q b)) → ∃ b', b' < Q.length ∧ (∀ j, j < Q.length → ¬ lsQ rule (qAt Q j) (qAt Q b')) ∧ L_X4_firstToGo_4 N (fun x2 => some x2) (nI rule) (Q.map qRow) f (nI b) (nI i) = some (nI b') := by
  have hl := h.1
  have hlen : (Q.map qRow).length = Q.length := List.length_map _
  intro f
  induction f with
  | zero => intro i b h1 h2; omega
  | succ f ih =>
    intro i b h1 h2 hb hmin
    rw [e_X4_firstToGo_4]
    unfold K_X4_firstToGo_4
    have es : tsize (Q.map qRow) = nI Q.length := by unfold tsize; rw [hlen]
    rw [lt_b, es]
    by_cases q1 : i = Q.length
    · rw [if_pos (nI_le (by omega) (by omega))]
      exact ⟨b, by omega, fun j hj => hmin j (by omega), rfl⟩
    · have hi : i < Q.length := by omega
      have hbl : b < Q.length := by omega
      have qi := (h.2.1 _ (qAt_mem hi)).2
      have qb := (h.2.1 _ (qAt_mem hbl)).2
      have n2 : ¬ nI rule = 2 := fun z => hr2 ((nI_eq (b := 2) (by omega) (by decide)).mp z)
      have t1 : ∀ j, j < Q.length → tget (Q.map qRow) (nI j) 1 = nI (qc (qAt Q j)) := fun j hj => by rw [tg j 1 1 rfl (by omega) (by decide), row_q hj]; rfl
      have t2 : ∀ j, j < Q.length → tget (Q.map qRow) (nI j) 2 = nI (ql (qAt Q j)) := fun j hj => by rw [tg j 2 2 rfl (by omega) (by decide), row_q hj]; rfl
      -- the step by what is less
      have go : ∀ (X : Option Int32), (lsQ rule (qAt Q i) (qAt Q b) → X = L_X4_firstToGo_4 N (fun x2 => some x2) (nI rule) (Q.map qRow) f (nI i) (nI (i + 1))) → (¬ lsQ rule (qAt Q i) (qAt Q b) → X = L_X4_firstToGo_4 N (fun x2 => some x2) (nI rule) (Q.map qRow) f (nI b) (nI (i + 1))) → ∃ b', b' < Q.length ∧ (∀ j, j < Q.length → ¬ lsQ rule (qAt Q j) (qAt Q b')) ∧ X = some (nI b') := by
        intro X x1 x2
        by_cases z : lsQ rule (qAt Q i) (qAt Q b)
        · rw [x1 z]
          refine ih (i + 1) i (by omega) (by omega) (by omega) (fun j hj y => ?_)
          by_cases w : j = i
          · rw [w] at y; exact lsQ_irr y
          · exact hmin j (by omega) (lsQ_tr y z)
        · rw [x2 z]
          refine ih (i + 1) b (by omega) (by omega) (by omega) (fun j hj y => ?_)
          by_cases w : j = i
          · rw [w] at y; exact z y
          · exact hmin j (by omega) y
      rw [if_neg (nI_ge hi (by omega)), if_neg n2]
      unfold J_X4_firstToGo_49 J_X4_firstToGo_50 J_X4_firstToGo_62 J_X4_firstToGo_89
      rw [t1 i hi, t1 b hbl, t2 i hi, t2 b hbl]
      simp only [lt_b, nI_1]
      obtain ⟨-, -, -, -, -, ic, il, -⟩ := qi
      obtain ⟨-, -, -, -, -, bc, bl, -⟩ := qb
      refine go _ (fun z => ?_) (fun z => ?_)
      · unfold lsQ at z
        rw [if_neg hr2] at z
        by_cases r0 : rule = 0
        · rw [if_pos r0] at z
          rw [if_pos (by rw [r0]; rfl), if_pos trivial, if_neg (nI_ge (by omega) (by omega))]
        · rw [if_neg r0] at z
          have n0 : ¬ nI rule = 0 := fun y => r0 ((nI_eq (b := 0) (by omega) (by decide)).mp y)
          rw [if_neg n0]
          by_cases e : qc (qAt Q i) = qc (qAt Q b)
          · rw [if_pos (by rw [e]), if_pos trivial, if_neg (nI_ge (by omega) (by omega))]
          · rw [if_neg (fun y => e ((nI_eq (by omega) (by omega)).mp y)), if_neg (by decide), if_neg (nI_ge (by omega) (by omega))]
      · unfold lsQ at z
        rw [if_neg hr2] at z
        by_cases r0 : rule = 0
        · rw [if_pos r0] at z
          rw [if_pos (by rw [r0]; rfl), if_pos trivial, if_pos (nI_le (by omega) (by omega))]
        · rw [if_neg r0] at z
          have n0 : ¬ nI rule = 0 := fun y => r0 ((nI_eq (b := 0) (by omega) (by decide)).mp y)
          rw [if_neg n0]
          by_cases e : qc (qAt Q i) = qc (qAt Q b)
          · rw [if_pos (by rw [e]), if_pos trivial, if_pos (nI_le (by omega) (by omega))]
          · rw [if_neg (fun y => e ((nI_eq (by omega) (by omega)).mp y)), if_neg (by decide), if_pos (nI_le (by omega) (by omega))]
theorem n_f2g {N : Nat} (hN : 65536 ≤ N) {A : Ar} {t n rule : Nat} {Q : List Qr} (h : PR A t n Q) (hn : n ≤ 12) (ht : t < 65536) (hr : rule < 4) (h0 : 0 < Q.length) : ∃ b', b' < Q.length ∧ (∀ j, j < Q.length → ¬ lsQ rule (qAt Q j) (qAt Q b')) ∧ F_X4_firstToGo N (Q.map qRow) (nI rule) = some (nI b') := by
  have hl := h.1
  unfold F_X4_firstToGo
  by_cases r2 : rule = 2
  · subst r2
    refine ⟨0, h0, fun j hj z => ?_, ?_⟩
    · unfold lsQ at z
      rw [if_pos rfl] at z
      by_cases w : j = 0
      · rw [w] at z; omega
      · have hp := List.pairwise_iff_getElem.mp h.2.2 0 j h0 hj (by omega)
        rw [show qAt Q j = Q[j] from q_getD_lt hj, show qAt Q 0 = Q[0] from q_getD_lt h0] at z
        omega
    · obtain ⟨M, rfl⟩ : ∃ M, N = M + 1 := ⟨N - 1, by omega⟩
      rw [e_X4_firstToGo_4]
      unfold K_X4_firstToGo_4
      rw [lt_b]
      by_cases q : tsize (Q.map qRow) ≤ 1
      · rw [if_pos q]; rfl
      · rw [if_neg q, if_pos (show nI 2 = 2 from rfl)]; rfl
  · have := n_f2gL (N := N) h hn ht hr r2 N 1 0 (by omega) (by omega) (by omega) (fun j hj => by rw [show j = 0 by omega]; exact lsQ_irr)
    exact this
theorem s_against {A : Ar} {t n rule : Nat} {Q : List Qr} (h : PR A t n Q) (hn : n ≤ 12) (ht : t < 65536) (hr : rule < 4) {a b : Qr} (ha : a ∈ Q) (hb : b ∈ Q) : ∃ o, F_X12_against A.2.1 A.2.2.1 A.2.2.2 (nI rule) (nI (qs a)) (nI (qs b)) = some o ∧ (0 ≤ o ↔ ¬ lsQ rule a b) := by
  have hl := h.1
  obtain ⟨sa, -, -, a3, a4, a5, a6, a7, a8⟩ := h.2.1 a ha
  obtain ⟨sb, -, -, b3, b4, b5, b6, b7, b8⟩ := h.2.1 b hb
  have cmp : ∀ x y : Nat, x < 65536 → y < 65536 → (0 ≤ nI x - nI y ↔ ¬ x < y) := fun x y hx hy => by
    rw [Int32.le_iff_toInt_le, pk_sub_toInt (by omega) (by omega)]
    show (0 : Int) ≤ (x : Int) - y ↔ _
    omega
  unfold F_X12_against J_X12_against_38 lsQ
  rw [ldn (k := qs a) rfl (by omega), ldn (k := qs b) rfl (by omega), ldn (k := qs a) rfl (by omega), ldn (k := qs b) rfl (by omega), ldn (k := qs a) rfl (by omega), ldn (k := qs b) rfl (by omega), ldn (k := qs a) rfl (by omega), ldn (k := qs b) rfl (by omega), a3, b3, a4, b4, a5, b5]
  by_cases r2 : rule = 2
  · rw [if_pos (by rw [r2]; rfl), if_pos r2]
    exact ⟨_, rfl, cmp _ _ (by omega) (by omega)⟩
  · rw [if_neg (show ¬ nI rule = 2 from fun z => r2 ((nI_eq (b := 2) (by omega) (by decide)).mp z)), if_neg r2]
    by_cases r0 : rule = 0
    · rw [if_pos (by rw [r0]; rfl), if_pos r0]
      exact ⟨_, rfl, cmp _ _ (by omega) (by omega)⟩
    · rw [if_neg (show ¬ nI rule = 0 from fun z => r0 ((nI_eq (b := 0) (by omega) (by decide)).mp z)), if_neg r0]
      by_cases e : qc a = qc b
      · rw [if_pos (by rw [e])]
        refine ⟨_, rfl, (cmp _ _ (by omega) (by omega)).trans ?_⟩
        omega
      · rw [if_neg (fun z => e ((nI_eq (by omega) (by omega)).mp z))]
        refine ⟨_, rfl, (cmp _ _ (by omega) (by omega)).trans ?_⟩
        omega
theorem s_f2gL {N : Nat} {A : Ar} {t n rule : Nat} {Q : List Qr} (h : PR A t n Q) (hn : n ≤ 12) (ht : t < 65536) (hr : rule < 4) (kk : Int32 → (Option (Int32 × (Nat → Int32) × (Nat → Int32) × (Nat → Int32) × (Nat → Int32)))) (x2 x4 x5 : Int32) (g asked : Nat → Int32) (am : Int32) : ∀ (f i : Nat) (b : Qr), i ≤ Q.length → Q.length < f + i → b ∈ Q → (∀ q ∈ Q, qs q < i → ¬ lsQ rule q b) → ∃ b' ∈ Q, (∀ q ∈ Q, ¬ lsQ rule q b') ∧ L_X12_goes_83 N kk (nI rule) x2 (nI Q.length) x4 x5 g asked am A.1 A.2.1 A.2.2.1 A.2.2.2 f (nI (qs b)) (nI i) = kk (nI (qs b')) := by
  have hl := h.1
  intro f
  induction f with
  | zero => intro i b h1 h2; omega
  | succ f ih =>
    intro i b h1 h2 hb hmin
    rw [e_X12_goes_83]
    unfold K_X12_goes_83 J_X12_goes_108
    by_cases q1 : i = Q.length
    · rw [if_pos (nI_le (by omega) (by omega))]
      exact ⟨b, hb, fun q hq => hmin q hq (by have := (h.2.1 q hq).1; omega), rfl⟩
    · have hi : i < Q.length := by omega
      obtain ⟨a, ha, ea⟩ := h.slot i hi
      obtain ⟨o, o1, o2⟩ := s_against h hn ht hr ha hb
      rw [ea] at o1
      rw [if_neg (nI_ge hi (by omega)), o1, bd_some, lt_b, lt_b, nI_1]
      by_cases z : lsQ rule a b
      · rw [if_neg (fun y => (o2.mp y) z), ← ea]
        refine ih (qs a + 1) a (by rw [ea]; omega) (by rw [ea]; omega) ha (fun q hq hqi y => ?_)
        by_cases w : qs q = i
        · have : q = a := h.slotU hq ha (w.trans ea.symm)
          rw [this] at y; exact lsQ_irr y
        · exact hmin q hq (by omega) (lsQ_tr y z)
      · rw [if_pos (o2.mpr z)]
        refine ih (i + 1) b (by omega) (by omega) hb (fun q hq hqi y => ?_)
        by_cases w : qs q = i
        · have : q = a := h.slotU hq ha (w.trans ea.symm)
          rw [this] at y; exact z y
        · exact hmin q hq (by omega) y
/-- the reference goes for the same one -/
theorem s_f2g {N : Nat} (hN : 65536 ≤ N) {A : Ar} {t n rule : Nat} {Q : List Qr} (h : PR A t n Q) (hn : n ≤ 12) (ht : t < 65536) (hr : rule < 4) (kk : Int32 → (Option (Int32 × (Nat → Int32) × (Nat → Int32) × (Nat → Int32) × (Nat → Int32)))) (x2 x4 x5 : Int32) (g asked : Nat → Int32) (am : Int32) {b : Nat} (hb : b < Q.length) (hmin : ∀ j, j < Q.length → ¬ lsQ rule (qAt Q j) (qAt Q b)) : L_X12_goes_83 N kk (nI rule) x2 (nI Q.length) x4 x5 g asked am A.1 A.2.1 A.2.2.1 A.2.2.2 N 0 1 = kk (nI (qs (qAt Q b))) := by
  have hl := h.1
  obtain ⟨a, ha, ea⟩ := h.slot 0 (by omega)
  obtain ⟨b', hb', m', e'⟩ := s_f2gL (N := N) h hn ht hr kk x2 x4 x5 g asked am N 1 a (by omega) (by omega) ha (fun q hq hq0 y => by
    have : q = a := h.slotU hq ha (by omega)
    rw [this] at y; exact lsQ_irr y)
  rw [ea, nI_0] at e'
  have : b' = qAt Q b := lsQ_tot h hb' (qAt_mem hb) (by
      have := m' _ (qAt_mem hb)
      intro z
      obtain ⟨j, hj, ej⟩ := List.getElem_of_mem hb'
      have hj2 := hmin j hj
      rw [show qAt Q j = Q[j] from q_getD_lt hj, ej] at hj2
      exact hj2 z) (m' _ (qAt_mem hb))
  rw [← this]
  exact e'
