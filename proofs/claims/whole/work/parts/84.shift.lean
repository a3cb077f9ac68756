/-! ===== a sum may be told sooner or later (the class's own functions) ===== -/
theorem bd_map {α β γ : Type} (x : Option α) (h : α → β) (f : β → Option γ) : bd (x.map h) f = bd x (fun y => f (h y)) := by cases x <;> rfl
theorem map_bd {α β γ : Type} (x : Option α) (f : α → Option β) (h : β → γ) : (bd x f).map h = bd x (fun y => (f y).map h) := by cases x <;> rfl
theorem map_of {α β : Type} {x : Option α} {h : α → β} {o' : β} (e : x.map h = some o') : ∃ o, x = some o ∧ h o = o' := by
  cases x with
  | none => cases e
  | some o => exact ⟨o, rfl, Option.some.inj e⟩
theorem bd_cg {α β : Type} (x : Option α) {f g : α → Option β} (h : ∀ y, f y = g y) : bd x f = bd x g := by rw [show f = g from funext h]
theorem sh_tally (s : Nat → Int32) (j : Nat) (x : Int32) : F_X2_tally (tallyN s j) x = (F_X2_tally s x).map (fun o => tallyN o j) := by
  unfold F_X2_tally
  by_cases h1 : x < 0
  · rw [if_pos h1, if_pos h1]; rfl
  rw [if_neg h1, if_neg h1]
  by_cases h2 : nI 14 ≤ x
  · rw [if_pos h2, if_pos h2]; rfl
  rw [if_neg h2, if_neg h2]
  obtain ⟨i, hi, e, -, -, -⟩ := pk_mu h1 h2 (by decide)
  rw [ldn e hi, ston e hi, ldn e hi, ston e hi]
  exact congrArg some (tally_comm s j i)
theorem sh_note (N : Nat) (now : Int32) (book : Rows) (s : Nat → Int32) (j : Nat) (x1 x2 : Int32) : F_X2_note N now book (tallyN s j) x1 x2 = (F_X2_note N now book s x1 x2).map (fun o => (o.1, tallyN o.2 j)) := by
  unfold F_X2_note F_X5_now
  rw [bd_some, bd_some, map_bd]
  refine bd_cg _ (fun y => ?_)
  rw [lt_b, lt_b]
  by_cases h1 : x1 < 0
  · rw [if_pos h1, if_pos h1]; rfl
  rw [if_neg h1, if_neg h1]
  by_cases h2 : 14 ≤ x1
  · rw [if_pos h2, if_pos h2]; rfl
  rw [if_neg h2, if_neg h2]
  obtain ⟨i, hi, e, -, -, -⟩ := pk_mu h1 (L := 14) h2 (by decide)
  rw [ldn e hi, ldn e hi, sh_tally, bd_map, map_bd]
  rfl
theorem sh_noteW (N : Nat) (now : Int32) (book written : Rows) (s : Nat → Int32) (j : Nat) (x1 x2 : Int32) : F_X2_noteWritten N now book written (tallyN s j) x1 x2 = (F_X2_noteWritten N now book written s x1 x2).map (fun o => (o.1, o.2.1, tallyN o.2.2 j)) := by
  unfold F_X2_noteWritten
  rw [lt_b, lt_b, sh_note, bd_map, map_bd]
  rfl
theorem sh_letGo (N : Nat) (now : Int32) (book written : Rows) (s : Nat → Int32) (j : Nat) (ents : Rows) (x1 x2 : Int32) : F_X6_letGo N now book written (tallyN s j) ents x1 x2 = (F_X6_letGo N now book written s ents x1 x2).map (fun o => (o.1, o.2.1, tallyN o.2.2.1 j, o.2.2.2)) := by
  have h39 : ∀ (x3 : Int32) (b w : Rows) (s : Nat → Int32), J_X6_letGo_39 N x1 x2 x3 now b w (tallyN s j) ents = (J_X6_letGo_39 N x1 x2 x3 now b w s ents).map (fun o => (o.1, o.2.1, tallyN o.2.2.1 j, o.2.2.2)) := by
    intro x3 b w s
    unfold J_X6_letGo_39
    rw [sh_note, bd_map, map_bd]
    refine bd_cg _ (fun y => ?_)
    rw [map_bd]
    rfl
  unfold F_X6_letGo
  rw [map_bd]
  refine bd_cg _ (fun y => ?_)
  rw [map_bd]
  refine bd_cg _ (fun z => ?_)
  by_cases h1 : z = 0
  · rw [if_pos h1, if_pos h1]; exact h39 _ _ _ _
  · rw [if_neg h1, if_neg h1, map_bd]
    refine bd_cg _ (fun u => ?_)
    rw [sh_noteW, bd_map, map_bd]
    exact bd_cg _ (fun t => h39 _ _ _ _)
def shM (j : Nat) (o : Rows × Rows × (Nat → Int32) × Rows × Rows) : Rows × Rows × (Nat → Int32) × Rows × Rows := (o.1, o.2.1, tallyN o.2.2.1 j, o.2.2.2)
theorem sh_makeL (N : Nat) (x1 x2 : Int32) (vals : Nat → Int32) (now : Int32) (j : Nat) : ∀ (n : Nat) (x3 : Int32) (book written : Rows) (s : Nat → Int32) (ents colds : Rows), L_X6_makePlace_8 N mkk mkk x1 x2 vals now n x3 book written (tallyN s j) ents colds = (L_X6_makePlace_8 N mkk mkk x1 x2 vals now n x3 book written s ents colds).map (shM j) := by
  intro n
  induction n with
  | zero => intro x3 book written s ents colds; rfl
  | succ n ih =>
    intro x3 book written s ents colds
    have h59 : ∀ (x4 : Int32) (cc : Rows), J_X6_makePlace_59 N (L_X6_makePlace_8 N mkk mkk x1 x2 vals now n) mkk mkk x1 x2 x3 x4 vals now book written (tallyN s j) ents cc = (J_X6_makePlace_59 N (L_X6_makePlace_8 N mkk mkk x1 x2 vals now n) mkk mkk x1 x2 x3 x4 vals now book written s ents cc).map (shM j) := by
      intro x4 cc
      unfold J_X6_makePlace_59
      rw [sh_letGo, bd_map, map_bd]
      exact bd_cg _ (fun y => by rw [lt_b, lt_b, ih])
    rw [e_X6_makePlace_8]
    unfold K_X6_makePlace_8
    by_cases h1 : x3 ≤ 0
    · rw [if_pos h1, if_pos h1]; rfl
    rw [if_neg h1, if_neg h1, map_bd]
    refine bd_cg _ (fun y => ?_)
    by_cases h2 : y ≤ x1
    · rw [if_pos h2, if_pos h2]; rfl
    rw [if_neg h2, if_neg h2, map_bd]
    refine bd_cg _ (fun z => ?_)
    by_cases h3 : z = -1
    · rw [if_pos h3, if_pos h3]; rfl
    rw [if_neg h3, if_neg h3, map_bd]
    refine bd_cg _ (fun u => ?_)
    by_cases h4 : u = 0
    · rw [if_pos h4, if_pos h4, map_bd]
      exact bd_cg _ (fun t => h59 _ _)
    · rw [if_neg h4, if_neg h4]; exact h59 _ _
theorem sh_make (N : Nat) (x1 x2 : Int32) (vals : Nat → Int32) (now : Int32) (j : Nat) (book written : Rows) (s : Nat → Int32) (ents colds : Rows) : F_X6_makePlace N vals now book written (tallyN s j) ents colds x1 x2 = (F_X6_makePlace N vals now book written s ents colds x1 x2).map (shM j) := by
  rw [n_make, n_make]
  exact sh_makeL N x1 x2 vals now j N _ book written s ents colds
theorem sh_letIn (N : Nat) (vals : Nat → Int32) (now : Int32) (book written : Rows) (s : Nat → Int32) (j : Nat) (ents colds : Rows) (cnt : Nat → Int32) (u e x1 x2 x3 x4 x5 : Int32) : F_X6_letIn N vals now book written (tallyN s j) ents colds cnt u e x1 x2 x3 x4 x5 = (F_X6_letIn N vals now book written s ents colds cnt u e x1 x2 x3 x4 x5).map (fun o => (o.1, o.2.1, o.2.2.1, tallyN o.2.2.2.1 j, o.2.2.2.2)) := by
  unfold F_X6_letIn
  rw [map_bd]
  refine bd_cg _ (fun y => ?_)
  by_cases h1 : y = 0
  · rw [if_pos h1, if_pos h1]; rfl
  rw [if_neg h1, if_neg h1, map_bd]
  refine bd_cg _ (fun z => ?_)
  rw [sh_make, bd_map, map_bd]
  refine bd_cg _ (fun t => ?_)
  rw [map_bd]
  refine bd_cg _ (fun t2 => ?_)
  rw [lt_b, lt_b, map_bd]
  refine bd_cg _ (fun t3 => ?_)
  rw [map_bd]
  refine bd_cg _ (fun t4 => ?_)
  rw [map_bd]
  refine bd_cg _ (fun t5 => ?_)
  rw [map_bd]
  exact bd_cg _ (fun t6 => rfl)
theorem sh_renew (N : Nat) (vals : Nat → Int32) (now : Int32) (book written : Rows) (s : Nat → Int32) (j : Nat) (ents colds : Rows) (x1 x2 x3 x4 : Int32) : F_X6_renew N vals now book written (tallyN s j) ents colds x1 x2 x3 x4 = (F_X6_renew N vals now book written s ents colds x1 x2 x3 x4).map (fun o => (o.1, o.2.1, o.2.2.1, tallyN o.2.2.2.1 j, o.2.2.2.2)) := by
  have h55 : ∀ (x5 : Int32) (ee : Rows), J_X6_renew_55 N x1 x3 x4 x5 vals now book written (tallyN s j) ee colds = (J_X6_renew_55 N x1 x3 x4 x5 vals now book written s ee colds).map (fun o => (o.1, o.2.1, o.2.2.1, tallyN o.2.2.2.1 j, o.2.2.2.2)) := by
    intro x5 ee
    unfold J_X6_renew_55
    rw [map_bd]
    refine bd_cg _ (fun t => ?_)
    rw [map_bd]
    refine bd_cg _ (fun t2 => ?_)
    rw [map_bd]
    refine bd_cg _ (fun t3 => ?_)
    rw [map_bd]
    refine bd_cg _ (fun t4 => ?_)
    rw [map_bd]
    refine bd_cg _ (fun t5 => ?_)
    rw [sh_make, bd_map, map_bd]
    exact bd_cg _ (fun t6 => rfl)
  unfold F_X6_renew
  rw [map_bd]
  refine bd_cg _ (fun y => ?_)
  rw [map_bd]
  refine bd_cg _ (fun z => ?_)
  by_cases h1 : x3 ≤ z
  · rw [if_pos h1, if_pos h1, map_bd]
    refine bd_cg _ (fun t => ?_)
    by_cases h2 : t = 0
    · rw [if_pos h2, if_pos h2, map_bd]
      exact bd_cg _ (fun u => h55 _ _)
    · rw [if_neg h2, if_neg h2]; exact h55 _ _
  · rw [if_neg h1, if_neg h1, sh_letGo, bd_map, map_bd]
    rfl
