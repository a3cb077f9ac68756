theorem mx_weak {E : mE} {l : Launch} {y : MethodName} {bc : ByteArray} {mL : Nat} {rt : Option FieldType} {rm : Room} {av : List Value} {wc : va_W} {post post2 : Option Value → va_W → Prop} (M : MX E l y bc mL rt rm av wc post) (h : ∀ v w', post v w' → post2 v w') : MX E l y bc mL rt rm av wc post2 := fun sz => MetFree.mono (M sz) (fun _ _ h => h) (fun _ _ _ _ _ h => h) (fun _ _ _ _ _ q => by
  obtain ⟨⟨⟨v, w', h1, h2, h3⟩, h4⟩, h5⟩ := q
  exact ⟨⟨⟨v, w', h1, h _ _ h2, h3⟩, h4⟩, h5⟩)
def tclear (_ : Rows) : Rows := []
theorem n_N : ∃ N : Nat, 65536 ≤ N := ⟨65536, Nat.le_refl _⟩
theorem c_X9_size (E : mE) (l : Launch) (h_rows a_rows dm dw : Nat) (rows : Rows) (s_rows : Int32) (f_rows : Nat → Int32)  (ok : tb_ok dm dw rows s_rows f_rows) (o : Int32) (ev : o = tsize rows) : MX E l yX9_size cX9_size 1 (some .int) ({ frames := 0, cells := 0, slots := 0, locals := 0 } : Room) [.ref h_rows] [(h_rows, .inr (8, [.int (nI dm), .int (nI dw), .ref a_rows, .int s_rows])), (a_rows, .inl (E.2.1, (dm * dw), .inl f_rows))] (fun (v : Option Value) (w' : va_W) => v = some (.int o) ∧ w' = [(h_rows, .inr (8, [.int (nI dm), .int (nI dw), .ref a_rows, .int s_rows])), (a_rows, .inl (E.2.1, (dm * dw), .inl f_rows))]) := by
  subst ev
  exact d_X9_size E l h_rows a_rows (dm * dw) (nI dm) (nI dw) s_rows f_rows  _ (n_size ok)
theorem c_X9_clear (E : mE) (l : Launch) (h_rows a_rows dm dw : Nat) (rows : Rows) (s_rows : Int32) (f_rows : Nat → Int32)  (ok : tb_ok dm dw rows s_rows f_rows) (o : Rows) (ev : o = tclear rows) : MX E l yX9_clear cX9_clear 1 none ({ frames := 0, cells := 0, slots := 0, locals := 0 } : Room) [.ref h_rows] [(h_rows, .inr (8, [.int (nI dm), .int (nI dw), .ref a_rows, .int s_rows])), (a_rows, .inl (E.2.1, (dm * dw), .inl f_rows))] (fun (v : Option Value) (w' : va_W) => ∃ (s_rows' : Int32) (f_rows' : Nat → Int32), tb_ok dm dw o s_rows' f_rows' ∧ v = none ∧ w' = [(h_rows, .inr (8, [.int (nI dm), .int (nI dw), .ref a_rows, .int s_rows'])), (a_rows, .inl (E.2.1, (dm * dw), .inl f_rows'))]) := by
  subst ev
  obtain ⟨h1, h2⟩ := n_clear ok
  refine mx_weak (d_X9_clear E l h_rows a_rows (dm * dw) (nI dm) (nI dw) s_rows f_rows  _ h1) (fun v w' q => ?_)
  exact ⟨_, _, h2, q.1, q.2⟩
theorem c_X9_get (E : mE) (l : Launch) (h_rows a_rows dm dw : Nat) (rows : Rows) (s_rows : Int32) (f_rows : Nat → Int32) (x1 : Int32) (x2 : Int32) (ok : tb_ok dm dw rows s_rows f_rows) (o : Int32) (ev : o = tget rows x1 x2) : MX E l yX9_get cX9_get 5 (some .int) ({ frames := 0, cells := 0, slots := 0, locals := 0 } : Room) [.ref h_rows, .int x1, .int x2] [(h_rows, .inr (8, [.int (nI dm), .int (nI dw), .ref a_rows, .int s_rows])), (a_rows, .inl (E.2.1, (dm * dw), .inl f_rows))] (fun (v : Option Value) (w' : va_W) => v = some (.int o) ∧ w' = [(h_rows, .inr (8, [.int (nI dm), .int (nI dw), .ref a_rows, .int s_rows])), (a_rows, .inl (E.2.1, (dm * dw), .inl f_rows))]) := by
  subst ev
  exact d_X9_get E l h_rows a_rows (dm * dw) (nI dm) (nI dw) s_rows f_rows x1 x2 _ (n_get ok x1 x2)
theorem c_X9_set (E : mE) (l : Launch) (h_rows a_rows dm dw : Nat) (rows : Rows) (s_rows : Int32) (f_rows : Nat → Int32) (x1 : Int32) (x2 : Int32) (x3 : Int32) (ok : tb_ok dm dw rows s_rows f_rows) (o : Rows) (ev : o = tset rows x1 x2 x3) : MX E l yX9_set cX9_set 6 none ({ frames := 0, cells := 0, slots := 0, locals := 0 } : Room) [.ref h_rows, .int x1, .int x2, .int x3] [(h_rows, .inr (8, [.int (nI dm), .int (nI dw), .ref a_rows, .int s_rows])), (a_rows, .inl (E.2.1, (dm * dw), .inl f_rows))] (fun (v : Option Value) (w' : va_W) => ∃ (s_rows' : Int32) (f_rows' : Nat → Int32), tb_ok dm dw o s_rows' f_rows' ∧ v = none ∧ w' = [(h_rows, .inr (8, [.int (nI dm), .int (nI dw), .ref a_rows, .int s_rows'])), (a_rows, .inl (E.2.1, (dm * dw), .inl f_rows'))]) := by
  subst ev
  obtain ⟨f1, h1, h2⟩ := n_set ok x1 x2 x3
  refine mx_weak (d_X9_set E l h_rows a_rows (dm * dw) (nI dm) (nI dw) s_rows f_rows x1 x2 x3 _ h1) (fun v w' q => ?_)
  exact ⟨_, _, h2, q.1, q.2⟩
theorem c_X9_find (E : mE) (l : Launch) (h_rows a_rows dm dw : Nat) (rows : Rows) (s_rows : Int32) (f_rows : Nat → Int32) (x1 : Int32) (x2 : Int32) (x3 : Int32) (ok : tb_ok dm dw rows s_rows f_rows) (o : Int32) (ev : o = tfind rows x1 x2 x3) : MX E l yX9_find cX9_find 6 (some .int) ({ frames := 1, cells := 0, slots := 0, locals := 24 } : Room) [.ref h_rows, .int x1, .int x2, .int x3] [(h_rows, .inr (8, [.int (nI dm), .int (nI dw), .ref a_rows, .int s_rows])), (a_rows, .inl (E.2.1, (dm * dw), .inl f_rows))] (fun (v : Option Value) (w' : va_W) => v = some (.int o) ∧ w' = [(h_rows, .inr (8, [.int (nI dm), .int (nI dw), .ref a_rows, .int s_rows])), (a_rows, .inl (E.2.1, (dm * dw), .inl f_rows))]) := by
  subst ev
  obtain ⟨N, hN⟩ := n_N
  exact d_X9_find E l N h_rows a_rows (dm * dw) (nI dm) (nI dw) s_rows f_rows x1 x2 x3 _ (n_find ok hN x1 x2 x3)
theorem c_X9_howMany (E : mE) (l : Launch) (h_rows a_rows dm dw : Nat) (rows : Rows) (s_rows : Int32) (f_rows : Nat → Int32) (x1 : Int32) (x2 : Int32) (ok : tb_ok dm dw rows s_rows f_rows) (o : Int32) (ev : o = thowMany rows x1 x2) : MX E l yX9_howMany cX9_howMany 5 (some .int) ({ frames := 1, cells := 0, slots := 0, locals := 24 } : Room) [.ref h_rows, .int x1, .int x2] [(h_rows, .inr (8, [.int (nI dm), .int (nI dw), .ref a_rows, .int s_rows])), (a_rows, .inl (E.2.1, (dm * dw), .inl f_rows))] (fun (v : Option Value) (w' : va_W) => v = some (.int o) ∧ w' = [(h_rows, .inr (8, [.int (nI dm), .int (nI dw), .ref a_rows, .int s_rows])), (a_rows, .inl (E.2.1, (dm * dw), .inl f_rows))]) := by
  subst ev
  obtain ⟨N, hN⟩ := n_N
  exact d_X9_howMany E l N h_rows a_rows (dm * dw) (nI dm) (nI dw) s_rows f_rows x1 x2 _ (n_howMany ok hN x1 x2)
theorem c_X9_remove (E : mE) (l : Launch) (h_rows a_rows dm dw : Nat) (rows : Rows) (s_rows : Int32) (f_rows : Nat → Int32) (x1 : Int32) (ok : tb_ok dm dw rows s_rows f_rows) (o : Rows) (ev : o = tremove rows x1) : MX E l yX9_remove cX9_remove 3 none ({ frames := 0, cells := 0, slots := 0, locals := 0 } : Room) [.ref h_rows, .int x1] [(h_rows, .inr (8, [.int (nI dm), .int (nI dw), .ref a_rows, .int s_rows])), (a_rows, .inl (E.2.1, (dm * dw), .inl f_rows))] (fun (v : Option Value) (w' : va_W) => ∃ (s_rows' : Int32) (f_rows' : Nat → Int32), tb_ok dm dw o s_rows' f_rows' ∧ v = none ∧ w' = [(h_rows, .inr (8, [.int (nI dm), .int (nI dw), .ref a_rows, .int s_rows'])), (a_rows, .inl (E.2.1, (dm * dw), .inl f_rows'))]) := by
  subst ev
  obtain ⟨N, hN⟩ := n_N
  obtain ⟨s1, f1, h1, h2⟩ := n_remove ok hN x1
  refine mx_weak (d_X9_remove E l N h_rows a_rows (dm * dw) (nI dm) (nI dw) s_rows f_rows x1 _ h1) (fun v w' q => ?_)
  exact ⟨_, _, h2, q.1, q.2⟩
theorem c_X9_removeAll (E : mE) (l : Launch) (h_rows a_rows dm dw : Nat) (rows : Rows) (s_rows : Int32) (f_rows : Nat → Int32) (x1 : Int32) (x2 : Int32) (ok : tb_ok dm dw rows s_rows f_rows) (o : Rows) (ev : o = tremoveAll rows x1 x2) : MX E l yX9_removeAll cX9_removeAll 4 none ({ frames := 1, cells := 0, slots := 0, locals := 24 } : Room) [.ref h_rows, .int x1, .int x2] [(h_rows, .inr (8, [.int (nI dm), .int (nI dw), .ref a_rows, .int s_rows])), (a_rows, .inl (E.2.1, (dm * dw), .inl f_rows))] (fun (v : Option Value) (w' : va_W) => ∃ (s_rows' : Int32) (f_rows' : Nat → Int32), tb_ok dm dw o s_rows' f_rows' ∧ v = none ∧ w' = [(h_rows, .inr (8, [.int (nI dm), .int (nI dw), .ref a_rows, .int s_rows'])), (a_rows, .inl (E.2.1, (dm * dw), .inl f_rows'))]) := by
  subst ev
  obtain ⟨N, hN⟩ := n_N
  obtain ⟨s1, f1, h1, h2⟩ := n_removeAll ok hN x1 x2
  refine mx_weak (d_X9_removeAll E l N h_rows a_rows (dm * dw) (nI dm) (nI dw) s_rows f_rows x1 x2 _ h1) (fun v w' q => ?_)
  exact ⟨_, _, h2, q.1, q.2⟩
theorem c_X9_push (E : mE) (l : Launch) (h_rows a_rows dm dw : Nat) (rows : Rows) (s_rows : Int32) (f_rows : Nat → Int32) (x1 : Int32) (x2 : Int32) (x3 : Int32) (ok : tb_ok dm dw rows s_rows f_rows) (o : Int32 × Rows) (ev : o = tpush dm dw rows x1 x2 x3) : MX E l yX9_push cX9_push 6 (some .int) ({ frames := 0, cells := 0, slots := 0, locals := 0 } : Room) [.ref h_rows, .int x1, .int x2, .int x3] [(h_rows, .inr (8, [.int (nI dm), .int (nI dw), .ref a_rows, .int s_rows])), (a_rows, .inl (E.2.1, (dm * dw), .inl f_rows))] (fun (v : Option Value) (w' : va_W) => ∃ (s_rows' : Int32) (f_rows' : Nat → Int32), tb_ok dm dw o.2 s_rows' f_rows' ∧ v = some (.int o.1) ∧ w' = [(h_rows, .inr (8, [.int (nI dm), .int (nI dw), .ref a_rows, .int s_rows'])), (a_rows, .inl (E.2.1, (dm * dw), .inl f_rows'))]) := by
  subst ev
  obtain ⟨N, hN⟩ := n_N
  obtain ⟨s1, f1, h1, h2⟩ := n_push ok hN x1 x2 x3
  refine mx_weak (d_X9_push E l N h_rows a_rows (dm * dw) (nI dm) (nI dw) s_rows f_rows x1 x2 x3 _ h1) (fun v w' q => ?_)
  exact ⟨_, _, h2, q.1, q.2⟩
