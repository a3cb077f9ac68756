/-! ===== a strict order by ranks ===== -/
theorem cnt_or {α : Type} {p q r : α → Bool} : ∀ {l : List α}, (∀ x ∈ l, q x = (p x || r x)) → (∀ x ∈ l, ¬ (p x = true ∧ r x = true)) → l.countP q = l.countP p + l.countP r
  | [], _, _ => rfl
  | x :: xs, h1, h2 => by
    have ih := cnt_or (l := xs) (p := p) (q := q) (r := r) (fun y hy => h1 y (List.mem_cons_of_mem _ hy)) (fun y hy => h2 y (List.mem_cons_of_mem _ hy))
    have e := h1 x List.mem_cons_self
    have d := h2 x List.mem_cons_self
    rw [List.countP_cons, List.countP_cons, List.countP_cons, ih, e]
    cases hp : p x <;> cases hr : r x
    · simp
    · simp; omega
    · simp; omega
    · exact absurd ⟨hp, hr⟩ d
theorem cnt_one {n b : Nat} (h : b < n) : (List.range n).countP (fun o => decide (o = b)) = 1 := by
  induction n with
  | zero => omega
  | succ n ih =>
    rw [List.range_succ, List.countP_append]
    by_cases q : b = n
    · have z : (List.range n).countP (fun o => decide (o = b)) = 0 := by
        rw [List.countP_eq_zero]
        intro a ha
        have := List.mem_range.mp ha
        rw [decide_eq_true_eq]
        omega
      rw [z, q]
      simp
    · rw [ih (by omega)]
      have : ¬ n = b := fun z => q z.symm
      simp [this]
def rank (R : Nat → Nat → Bool) (n e : Nat) : Nat := (List.range n).countP (fun o => R o e)
/-- irreflexive, transitive, total below n -/
def Ord (R : Nat → Nat → Bool) (n : Nat) : Prop := (∀ a, R a a = false) ∧ (∀ a b c, R a b = true → R b c = true → R a c = true) ∧ ∀ a b, a < n → b < n → a ≠ b → R a b = true ∨ R b a = true
theorem rank_up {R : Nat → Nat → Bool} {n : Nat} {b : Nat} (hO : Ord R n) (hb : b < n) : (List.range n).countP (fun o => R o b || decide (o = b)) = rank R n b + 1 := by
  rw [← cnt_one hb]
  refine cnt_or (fun x _ => rfl) (fun x _ z => ?_)
  have : x = b := by simpa using z.2
  subst this
  rw [hO.1 x] at z
  exact absurd z.1 (by decide)
theorem rank_lt {R : Nat → Nat → Bool} {n a b : Nat} (hO : Ord R n) (ha : a < n) (h : R a b = true) : rank R n a < rank R n b := by
  have := rank_up hO ha
  have h2 : (List.range n).countP (fun o => R o a || decide (o = a)) ≤ rank R n b := by
    refine List.countP_mono_left (fun x _ hx => ?_)
    rw [Bool.or_eq_true] at hx
    rcases hx with z | z
    · exact hO.2.1 _ _ _ z h
    · have : x = a := by simpa using z
      rw [this]; exact h
  omega
theorem rank_iff {R : Nat → Nat → Bool} {n a b : Nat} (hO : Ord R n) (ha : a < n) (hb : b < n) : R a b = true ↔ rank R n a < rank R n b := by
  refine ⟨rank_lt hO ha, fun h => ?_⟩
  by_cases q : a = b
  · subst q; omega
  · rcases hO.2.2 a b ha hb q with z | z
    · exact z
    · have := rank_lt hO hb z; omega
theorem rank_inj {R : Nat → Nat → Bool} {n a b : Nat} (hO : Ord R n) (ha : a < n) (hb : b < n) (h : rank R n a = rank R n b) : a = b := by
  by_cases q : a = b
  · exact q
  · rcases hO.2.2 a b ha hb q with z | z
    · have := rank_lt hO ha z; omega
    · have := rank_lt hO hb z; omega
theorem rank_bd {R : Nat → Nat → Bool} {n b : Nat} (hO : Ord R n) (hb : b < n) : rank R n b < n := by
  have := rank_up hO hb
  have h2 : (List.range n).countP (fun o => R o b || decide (o = b)) ≤ (List.range n).length := List.countP_le_length
  rw [List.length_range] at h2
  omega
theorem rank_succ {R : Nat → Nat → Bool} {n b e : Nat} (hO : Ord R n) (hb : b < n) (he : e < n) (h : R b e = true) (hm : ∀ x, x < n → R b x = true → R x e = false) : rank R n e = rank R n b + 1 := by
  rw [← rank_up hO hb]
  unfold rank
  refine List.countP_congr (fun x hx => ?_)
  have hxn := List.mem_range.mp hx
  rw [Bool.or_eq_true, decide_eq_true_eq]
  constructor
  · intro z
    by_cases q : x = b
    · exact Or.inr q
    · rcases hO.2.2 x b hxn hb q with y | y
      · exact Or.inl y
      · have := hm x hxn y
        rw [z] at this
        cases this
  · rintro (z | z)
    · exact hO.2.1 _ _ _ z h
    · rw [z]; exact h
theorem rank_last {R : Nat → Nat → Bool} {n b : Nat} (hO : Ord R n) (hb : b < n) (h : ∀ x, x < n → R b x = false) : rank R n b + 1 = n := by
  rw [← rank_up hO hb]
  have : (List.range n).countP (fun o => R o b || decide (o = b)) = (List.range n).length := by
    rw [List.countP_eq_length]
    intro x hx
    have hxn := List.mem_range.mp hx
    rw [Bool.or_eq_true, decide_eq_true_eq]
    by_cases q : x = b
    · exact Or.inr q
    · rcases hO.2.2 x b hxn hb q with y | y
      · exact Or.inl y
      · rw [h x hxn] at y; cases y
  rw [this, List.length_range]
theorem rank_0 {R : Nat → Nat → Bool} {n b : Nat} (h : ∀ x, x < n → R x b = false) : rank R n b = 0 := by
  unfold rank
  rw [List.countP_eq_zero]
  intro x hx
  rw [h x (List.mem_range.mp hx)]
  decide
/-! ===== who goes ahead: an order ===== -/
def So (vals : Nat → Int32) (now : Int32) (rows : Rows) (a b : Nat) : Bool := decide (¬ soI vals now (rw' rows a) (rw' rows b) = 0)
theorem so_iff (vals : Nat → Int32) (now : Int32) (r q : List Int32) : ¬ soI vals now r q = 0 ↔ ((stI vals now (cl r 6)).toInt = 1 ∧ (stI vals now (cl q 6)).toInt = 0) ∨ ((stI vals now (cl r 6)).toInt = (stI vals now (cl q 6)).toInt ∧ ((cl r 3).toInt < (cl q 3).toInt ∨ ((cl r 3).toInt = (cl q 3).toInt ∧ ((cl r 4).toInt < (cl q 4).toInt ∨ ((cl r 4).toInt = (cl q 4).toInt ∧ (cl r 5).toInt < (cl q 5).toInt))))) := by
  have ii : ∀ x y : Int32, ¬ (if y ≤ x then (0 : Int32) else 1) = 0 ↔ x.toInt < y.toInt := by
    intro x y
    by_cases h : y ≤ x
    · rw [if_pos h]
      have := Int32.le_iff_toInt_le.mp h
      exact ⟨fun z => absurd rfl z, fun z => by omega⟩
    · rw [if_neg h]
      exact ⟨fun _ => Int32.lt_iff_toInt_lt.mp (Int32.not_le.mp h), fun _ => one_ne⟩
  have v0 : (0 : Int32).toInt = 0 := rfl
  have v1 : (1 : Int32).toInt = 1 := rfl
  unfold soI
  by_cases hs : stI vals now (cl r 6) = stI vals now (cl q 6)
  · rw [if_pos hs, hs]
    have hd : ¬ ((stI vals now (cl q 6)).toInt = 1 ∧ (stI vals now (cl q 6)).toInt = 0) := fun z => by omega
    by_cases h3 : cl r 3 = cl q 3
    · rw [if_pos h3, h3]
      by_cases h4 : cl r 4 = cl q 4
      · rw [if_pos h4, h4, ii]
        constructor
        · intro z; exact Or.inr ⟨rfl, Or.inr ⟨rfl, Or.inr ⟨rfl, z⟩⟩⟩
        · rintro (z | ⟨-, z | ⟨-, z | ⟨-, z⟩⟩⟩)
          · exact absurd z hd
          · omega
          · omega
          · exact z
      · rw [if_neg h4, ii]
        have h4' : ¬ (cl r 4).toInt = (cl q 4).toInt := fun z => h4 (Int32.toInt_inj.mp z)
        constructor
        · intro z; exact Or.inr ⟨rfl, Or.inr ⟨rfl, Or.inl z⟩⟩
        · rintro (z | ⟨-, z | ⟨-, z | ⟨z, -⟩⟩⟩)
          · exact absurd z hd
          · omega
          · exact z
          · exact absurd z h4'
    · rw [if_neg h3, ii]
      have h3' : ¬ (cl r 3).toInt = (cl q 3).toInt := fun z => h3 (Int32.toInt_inj.mp z)
      constructor
      · intro z; exact Or.inr ⟨rfl, Or.inl z⟩
      · rintro (z | ⟨-, z | ⟨z, -⟩⟩)
        · exact absurd z hd
        · exact z
        · exact absurd z h3'
  · rw [if_neg hs]
    rcases stI_01 vals now (cl r 6) with a | a <;> rcases stI_01 vals now (cl q 6) with b | b
    · exact absurd (a.trans b.symm) hs
    · rw [a, b, v0, v1]
      exact ⟨fun z => absurd rfl z, fun z => by omega⟩
    · rw [a, b, v0, v1]
      exact ⟨fun _ => Or.inl ⟨rfl, rfl⟩, fun _ => one_ne⟩
    · exact absurd (a.trans b.symm) hs
theorem so_ord {vals : Nat → Int32} {now : Int32} {rows : Rows} {esf : Int32} (h : iS rows esf) : Ord (So vals now rows) rows.length := by
  have st : ∀ r : List Int32, (stI vals now (cl r 6)).toInt = 0 ∨ (stI vals now (cl r 6)).toInt = 1 := fun r => by
    rcases stI_01 vals now (cl r 6) with a | a
    · rw [a]; exact Or.inl rfl
    · rw [a]; exact Or.inr rfl
  refine ⟨fun a => ?_, fun a b c h1 h2 => ?_, fun a b ha hb hab => ?_⟩
  · unfold So
    refine decide_eq_false (fun z => ?_)
    have := (so_iff vals now _ _).mp z
    omega
  · unfold So at *
    rw [decide_eq_true_eq] at *
    rw [so_iff] at *
    have s1 := st (rw' rows a)
    have s2 := st (rw' rows b)
    have s3 := st (rw' rows c)
    omega
  · unfold So
    rw [decide_eq_true_eq, decide_eq_true_eq, so_iff, so_iff]
    have s1 := st (rw' rows a)
    have s2 := st (rw' rows b)
    have hne : ¬ (cl (rw' rows a) 5).toInt = (cl (rw' rows b) 5).toInt := by
      intro z
      have z' : cl (rw' rows a) 5 = cl (rw' rows b) 5 := Int32.toInt_inj.mp z
      have hp := List.pairwise_iff_getElem.mp h.2
      have ea : rw' rows a = rows[a] := q_getD_lt ha
      have eb : rw' rows b = rows[b] := q_getD_lt hb
      rw [ea, eb] at z'
      rcases Nat.lt_or_gt_of_ne hab with y | y
      · have := (hp a b ha hb y).1
        rw [z'] at this
        exact Int32.lt_irrefl this
      · have := (hp b a hb ha y).1
        rw [z'] at this
        exact Int32.lt_irrefl this
    omega
/-! ===== the next to go behind one: the class ===== -/
def okB (vals : Nat → Int32) (now : Int32) (rows : Rows) (b : Option Nat) (sp : Int32) (i : Nat) : Bool := decide (¬ cl (rw' rows i) 7 = sp) && (match b with
  | none => true
  | some j => So vals now rows j i)
def stB (vals : Nat → Int32) (now : Int32) (rows : Rows) (b : Option Nat) (sp : Int32) (a : Option Nat) (i : Nat) : Option Nat := if okB vals now rows b sp i = true then (match a with
  | none => some i
  | some j => if So vals now rows i j = true then some i else some j) else a
def fB (vals : Nat → Int32) (now : Int32) (rows : Rows) (b : Option Nat) (sp : Int32) : Nat → Option Nat
  | 0 => none
  | n + 1 => stB vals now rows b sp (fB vals now rows b sp n) n
theorem fB_lt {vals : Nat → Int32} {now : Int32} {rows : Rows} {b : Option Nat} {sp : Int32} : ∀ {n j : Nat}, fB vals now rows b sp n = some j → j < n ∧ okB vals now rows b sp j = true
  | 0, j, h => by cases h
  | n + 1, j, h => by
    unfold fB stB at h
    by_cases q : okB vals now rows b sp n = true
    · rw [if_pos q] at h
      cases ha : fB vals now rows b sp n with
      | none =>
        rw [ha] at h
        cases h
        exact ⟨by omega, q⟩
      | some a =>
        rw [ha] at h
        have := fB_lt ha
        dsimp only at h
        split at h
        · cases h; exact ⟨by omega, q⟩
        · cases h; exact ⟨by omega, this.2⟩
    · rw [if_neg q] at h
      have := fB_lt h
      exact ⟨by omega, this.2⟩
theorem fB_min {vals : Nat → Int32} {now : Int32} {rows : Rows} {b : Option Nat} {sp : Int32} (hO : Ord (So vals now rows) rows.length) : ∀ {n : Nat}, (∀ j, fB vals now rows b sp n = some j → ∀ i, i < n → okB vals now rows b sp i = true → So vals now rows i j = false) ∧ (fB vals now rows b sp n = none → ∀ i, i < n → okB vals now rows b sp i = false)
  | 0 => ⟨fun j h => by (cases h), fun _ i hi => by omega⟩
  | n + 1 => by
    obtain ⟨ih1, ih2⟩ := fB_min (b := b) (sp := sp) hO (n := n)
    constructor
    · intro j h i hi hok
      unfold fB stB at h
      by_cases q : okB vals now rows b sp n = true
      · rw [if_pos q] at h
        cases ha : fB vals now rows b sp n with
        | none =>
          rw [ha] at h
          cases h
          by_cases z : i = n
          · rw [z]; exact hO.1 n
          · have := ih2 ha i (by omega)
            rw [hok] at this; cases this
        | some a =>
          rw [ha] at h
          dsimp only at h
          by_cases s : So vals now rows n a = true
          · rw [if_pos s] at h
            cases h
            by_cases z : i = n
            · rw [z]; exact hO.1 n
            · cases hh : So vals now rows i n with
              | false => rfl
              | true =>
                have := ih1 a ha i (by omega) hok
                rw [hO.2.1 _ _ _ hh s] at this
                cases this
          · rw [if_neg s] at h
            have eaj : a = j := Option.some.inj h
            rw [← eaj]
            by_cases z : i = n
            · rw [z]
              cases hh : So vals now rows n a with
              | false => rfl
              | true => exact absurd hh s
            · exact ih1 a ha i (by omega) hok
      · rw [if_neg q] at h
        by_cases z : i = n
        · rw [z] at hok; exact absurd hok q
        · exact ih1 j h i (by omega) hok
    · intro h i hi
      unfold fB stB at h
      by_cases q : okB vals now rows b sp n = true
      · rw [if_pos q] at h
        cases ha : fB vals now rows b sp n with
        | none => rw [ha] at h; cases h
        | some a =>
          rw [ha] at h
          dsimp only at h
          split at h <;> cases h
      · rw [if_neg q] at h
        by_cases z : i = n
        · rw [z]
          cases hh : okB vals now rows b sp n with
          | false => rfl
          | true => exact absurd hh q
        · exact ih2 h i (by omega)
theorem n_nextBL {N : Nat} (hN : 65536 ≤ N) {dm : Nat} {vals : Nat → Int32} {now : Int32} {rows : Rows} (hl : rows.length < 65536) {b : Option Nat} (hb : ∀ j, b = some j → j < rows.length) (sp : Int32) : ∀ (n i : Nat), i ≤ rows.length → rows.length < n + i → L_X0_nextToGo_5 N dm (fun x3 => some x3) (oI b) sp vals now rows n (oI (fB vals now rows b sp i)) (nI i) = some (oI (fB vals now rows b sp rows.length)) := by
  intro n
  induction n with
  | zero => intro i h3 h4; omega
  | succ n ih =>
    intro i h3 h4
    rw [e_X0_nextToGo_5]
    unfold K_X0_nextToGo_5 tsize
    rw [lt_b]
    by_cases h5 : i = rows.length
    · subst h5
      rw [if_pos (nI_le (Nat.le_refl _) (by omega))]
    have h6 : i < rows.length := by omega
    have step := ih (i + 1) (by omega) (by omega)
    rw [if_neg (nI_ge h6 (by omega)), lt_b, tg i 7 7 rfl (by omega) (by decide)]
    rw [show fB vals now rows b sp (i + 1) = stB vals now rows b sp (fB vals now rows b sp i) i from rfl] at step
    unfold stB at step
    -- behind the two tests
    have j68 : J_X0_nextToGo_68 N dm (L_X0_nextToGo_5 N dm (fun x3 => some x3) (oI b) sp vals now rows n) (fun x3 => some x3) (oI b) sp (oI (fB vals now rows b sp i)) (nI i) vals now rows = L_X0_nextToGo_5 N dm (fun x3 => some x3) (oI b) sp vals now rows n (oI (fB vals now rows b sp i)) (nI (i + 1)) := by
      unfold J_X0_nextToGo_68
      rw [lt_b, nI_1]
    have j50 : okB vals now rows b sp i = true → J_X0_nextToGo_50 N dm (L_X0_nextToGo_5 N dm (fun x3 => some x3) (oI b) sp vals now rows n) (fun x3 => some x3) (oI b) sp (oI (fB vals now rows b sp i)) (nI i) vals now rows = some (oI (fB vals now rows b sp rows.length)) := by
      intro ok
      rw [if_pos ok] at step
      have hfb : ∀ j, fB vals now rows b sp i = some j → j < 2 ^ 31 := fun j hj => by have := (fB_lt hj).1; omega
      unfold J_X0_nextToGo_50 J_X0_nextToGo_65 J_X0_nextToGo_68
      simp only [lt_b, nI_1]
      cases ho : fB vals now rows b sp i with
      | none =>
        rw [ho] at step
        rw [if_pos (show oI none = -1 from rfl)]
        exact step
      | some j =>
        rw [ho] at step hfb
        have hj := hfb j rfl
        rw [if_neg (fun e => by have := (oI_m1 hfb).mp e; cases this)]
        show bd (F_X0_goesAhead N dm vals now rows (nI i) (nI j)) _ = _
        rw [n_ahead hN (by omega) hj, bd_t rfl]
        dsimp only at step ⊢
        by_cases h8 : soI vals now (rw' rows i) (rw' rows j) = 0
        · rw [if_neg (show ¬ So vals now rows i j = true by unfold So; rw [decide_eq_true_eq]; exact fun z => z h8)] at step
          rw [if_pos h8]
          exact step
        · rw [if_pos (show So vals now rows i j = true from decide_eq_true h8)] at step
          rw [if_neg h8]
          exact step
    by_cases h7 : cl (rw' rows i) 7 = sp
    · rw [if_pos h7, j68]
      have nok : ¬ okB vals now rows b sp i = true := by
        unfold okB
        rw [decide_eq_false (fun z => z h7), Bool.false_and]
        decide
      rw [if_neg nok] at step
      exact step
    · rw [if_neg h7]
      cases hbo : b with
      | none =>
        have ok : okB vals now rows b sp i = true := by
          unfold okB
          rw [decide_eq_true h7, hbo]
          rfl
        rw [if_pos (show oI none = -1 from rfl), ← hbo]
        exact j50 ok
      | some j =>
        have hj := hb j hbo
        have hne : ¬ oI (some j) = -1 := fun z => by
          have := (oI_m1 (o := some j) (fun j hj => by cases hj; omega)).mp z
          cases this
        have hoe : oI (some j) = nI j := rfl
        rw [if_neg hne, hoe, n_ahead hN (by omega) (by omega), bd_some, ← hoe, ← hbo]
        by_cases h8 : soI vals now (rw' rows j) (rw' rows i) = 0
        · have nok : ¬ okB vals now rows b sp i = true := by
            unfold okB
            rw [hbo]
            dsimp only
            rw [show So vals now rows j i = false from decide_eq_false (fun z => z h8), Bool.and_false]
            decide
          rw [if_neg nok] at step
          rw [if_pos h8, j68]
          exact step
        · have ok : okB vals now rows b sp i = true := by
            unfold okB
            rw [hbo]
            dsimp only
            rw [decide_eq_true h7, show So vals now rows j i = true from decide_eq_true h8]
            rfl
          rw [if_neg h8]
          exact j50 ok
theorem n_nextB {N : Nat} (hN : 65536 ≤ N) {dm : Nat} {vals : Nat → Int32} {now : Int32} {rows : Rows} (hl : rows.length < 65536) {b : Option Nat} (hb : ∀ j, b = some j → j < rows.length) (sp : Int32) : F_X0_nextToGo N dm vals now rows (oI b) sp = some (oI (fB vals now rows b sp rows.length)) := by
  unfold F_X0_nextToGo
  exact n_nextBL hN hl hb sp N 0 (Nat.zero_le _) (by omega)
