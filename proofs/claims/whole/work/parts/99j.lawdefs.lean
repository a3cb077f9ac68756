/-! THE CLAIM OUT OF ONE WALK OF THE LAW'S BODY. Your part is whole_start (and what it stands on); all else here is the same for every law, but numbers. -/
def R_law : String := "FrequencyShelfLaw"
def lw_P (b : Addr) (xs : List Int32) (args : Array Value) (s : State) : Prop := args = #[.ref b] ∧ s.IntsAt b xs ∧ xs.length ≤ 2048 ∧ (Jvm.Cond.and given_1 narrow_1).before args s = true
def lw_Q (_ : Array Value) (s : State) (o : Outcome) (t : State) : Prop := o = .returned (some (.int 1)) ∧ Framed s o t [] 96002 8814244
def lw_Z (below : List Frame) (a : Array Value) (s : State) : State → Prop := fun t => ∃ o, t.status = .running ∧ Ended t below o ∧ lw_Q a s o t
/-- the law's own end, with 1 on the stack, nothing written that was there before, its room as the claim has it -/
theorem lw_ret {p : Program} {l : Launch} {e : Env} {s : State} {m : MethodId} {below : List Frame} {meth : Method} {c : Code} {b : Nat} (hx : p.tables.exec = Jvm.exec) (hb : c.code = code) (hr : meth.sig.returnType = ret) (hlocks : meth.locks = false) {pc : Nat} {H : Heap} {ls : Array Slot} (hdg : decode code pc = .ok (.ireturn, 1)) : W p l e room_1 s m #[Value.ref b] below meth c H [] 96002 8814244 (lw_Z below #[Value.ref b] s) (F0 m pc ls [.int 1]) := by
  intro T hT X
  obtain ⟨fs, hret, hrun, hended, hW, hframe⟩ := X.leave (v := some (.int 1)) (hlocks := hlocks) (fun h => by rw [hr] at h; cases h)
  have hmeth' : T.vm.method? m = some meth := X.method'
  refine ⟨T.setFrames fs, ?_, .returned (some (.int 1)), hrun, hended, rfl, ⟨_, rfl⟩, hW, hframe⟩
  jvm_step X.here [X.here.top, hx, hb, hdg, hmeth', hr, ret, narrow_b1]
  (try refine ⟨rfl, ?_⟩); (try refine ⟨rfl, ?_⟩)
  first | (intro acts; rw [hret _ acts rfl rfl rfl]) | rw [hret _ _ rfl rfl rfl]
  exact Steps.refl _
/-- what holds at the law's entry: the machine, the code, the tables' words (any of lw_tbl by 'hts w (by decide +kernel)'), the script of L ints xs at the cell b, what the Statement gives of the start (any of its parts by flat_of_before) -/
def lw_At (p : Program) (s : State) (m : MethodId) (meth : Method) (c : Code) (b L : Nat) (xs : Nat → Int32) : Prop :=
  p.tables.exec = Jvm.exec ∧ c.code = code ∧ meth.sig.returnType = ret ∧ c.maxLocals = 4 ∧ s.vm.findClass R_law = some m.cls ∧ (∀ w ∈ lw_tbl, w.before #[Value.ref b] s = true) ∧ va_X b L xs s s.heap ∧ b < s.heap.size ∧ meth.locks = false ∧ (Jvm.Cond.and given_1 narrow_1).before #[Value.ref b] s = true

/-! ===== the law: worlds as lists, calls out of the law's body ===== -/
theorem pw_of {ws : va_W} (h : ∀ (i j : Nat) (p q : Nat × va_E), ws[i]? = some p → ws[j]? = some q → p.1 = q.1 → i = j) : ws.Pairwise (fun p q => p.1 ≠ q.1) := by
  rw [List.pairwise_iff_getElem]
  intro i j hi hj hij e
  have := h i j ws[i] ws[j] (List.getElem?_eq_getElem hi) (List.getElem?_eq_getElem hj) e
  omega
theorem of_pw {ws : va_W} (h : ws.Pairwise (fun p q => p.1 ≠ q.1)) : ∀ (i j : Nat) (p q : Nat × va_E), ws[i]? = some p → ws[j]? = some q → p.1 = q.1 → i = j := by
  intro i j p q h1 h2 e
  obtain ⟨hi, e1⟩ := List.getElem?_eq_some_iff.mp h1
  obtain ⟨hj, e2⟩ := List.getElem?_eq_some_iff.mp h2
  rw [List.pairwise_iff_getElem] at h
  subst e1
  subst e2
  rcases Nat.lt_trichotomy i j with z | z | z
  · exact absurd e (h i j hi hj z)
  · exact z
  · exact absurd e.symm (h j i hj hi z)
theorem mW.perm {E : mE} {A : Nat → Prop} {s : State} {ws ws' : va_W} {H : Heap} {locs : List Loc} (w : mW E A s ws H locs) (h : ws.Perm ws') : mW E A s ws' H locs := by
  have hm : ∀ (k : Nat) (q : Nat × va_E), ws'[k]? = some q → ∃ i, ws[i]? = some q := fun k q hk => List.mem_iff_getElem?.mp (h.mem_iff.mpr (List.mem_of_getElem? hk))
  refine ⟨fun k q hk => ?_, ⟨of_pw ?_, fun k q hk => ?_⟩, w.2.2⟩
  · obtain ⟨i, hi⟩ := hm k q hk
    exact w.1 i q hi
  · exact (h.pairwise_iff (fun h e => h e.symm)).mp (pw_of w.2.1.1)
  · obtain ⟨i, hi⟩ := hm k q hk
    exact w.2.1.2 i q hi
theorem rg_get {α : Type} : ∀ (wc wr : List α), (List.range wc.length).map (fun i => (wc ++ wr)[i]?) = wc.map some := by
  intro wc wr
  apply List.ext_getElem?
  intro k
  by_cases hk : k < wc.length
  · simp [hk, List.getElem?_append_left hk]
  · simp [hk]
theorem rg_get2 {α : Type} : ∀ (wc wr : List α), ((List.range wr.length).map (fun i => i + wc.length)).map (fun i => (wc ++ wr)[i]?) = wr.map some := by
  intro wc wr
  apply List.ext_getElem?
  intro k
  by_cases hk : k < wr.length
  · simp [hk, List.getElem?_append_right]
  · simp [hk]
theorem nd_of : ∀ {l : List Nat}, l.Nodup → va_nd l = true
  | [], _ => rfl
  | a :: l, h => by
    rw [List.nodup_cons] at h
    unfold va_nd
    rw [decide_eq_true h.1, nd_of h.2]
    rfl
theorem nd_rg (n : Nat) : va_nd (List.range n) = true := nd_of List.nodup_range
theorem nd_rg2 (n k : Nat) : va_nd ((List.range n).map (fun i => i + k)) = true := nd_of (by
  rw [List.nodup_iff_pairwise_ne, List.pairwise_map]
  exact (List.nodup_iff_pairwise_ne.mp List.nodup_range).imp (fun h e => h (by omega)))
theorem rg_dis (n k : Nat) : ∀ i ∈ (List.range n).map (fun i => i + k), i ∉ List.range k := by
  intro i hi hk
  obtain ⟨j, -, rfl⟩ := List.mem_map.mp hi
  rw [List.mem_range] at hk
  omega
/-- what stands throughout the law's body -/
def LF (E : mE) (p : Program) (s : State) (m : MethodId) (c : Code) (b : Nat) (A : Nat → Prop) : Prop := (p.tables.exec = Jvm.exec ∧ c.code = code ∧ c.maxLocals = 4 ∧ s.vm.findClass R_law = some m.cls ∧ (∀ w ∈ TB, w.before #[Value.ref b] s = true)) ∧ (∀ q : Nat, s.heap.size ≤ q → A q) ∧ va_K (mD E).1 (mD E).2.1 (mD E).2.2 s ∧ mZ E A s s.heap
/-- a method's answer r, within what a call of the law may take -/
def CX (E : mE) (l : Launch) (rt : FieldType) (y : MethodName) (bc : ByteArray) (mL : Nat) (av : List Value) (wc : va_W) (r : Value) (P : va_W → Prop) : Prop := ∃ rm : Room, (rm.frames + 1 ≤ 14 ∧ 8 + (mL + 11) + rm.locals ≤ 562) ∧ (rm.cells ≤ 90 ∧ rm.slots ≤ 8500) ∧ MX E l y bc mL (some rt) rm av wc (fun v w' => v = some r ∧ P w')
section LWC
variable {E : mE} {p : Program} {l : Launch} {e : Env} {s : State} {m : MethodId} {below : List Frame} {meth : Method} {c : Code} {H : Heap} {locs : List Loc} {cells slots b : Nat} {Q : State → Prop} {pc : Nat} {ls : Array Slot} {rest st0 : List Value} {A : Nat → Prop} {u wc wr : va_W} {y y2 : MethodName} {bc bc2 : ByteArray} {mL mL2 index : Nat} {rm : Room} {post2 : Option Value → va_W → Prop} {As av : List Value} {b0 : Nat} {rt : FieldType} {r : Value} {P : va_W → Prop}
theorem lw_call (F : LF E p s m c b A) (K : CX E l rt y bc mL (.ref b0 :: As) wc r P) (w : mW E A s u H locs) (hp : u.Perm (wc ++ wr)) {C : String} {TT : u_T} {N ci : Nat} {fs : List Value} (hc : CL[ci]? = some (C, TT, N)) (he : wc[0]? = some (b0, .inr (ci, fs)))
    (hw : Cond.code y bc mL (some rt) ∈ TB ∧ Cond.instanceMethod y ∈ TB ∧ Cond.selects C y y ∈ TB ∧ Cond.initialized C ∈ TB) (hlk : Cond.methodLink R_law index y ∈ TB) (n : Nat)
    (hd : y.cls = C ∧ y.cls ≠ "java/lang/invoke/MethodHandle" ∧ y.cls ≠ "java/lang/invoke/VarHandle" ∧ (parseMethodDescriptor y.desc).map (fun d => d.parameters.length) = some n)
    (hn2 : As.length = n) (hsz : ls.size = 4) (hstack : st0 = As.reverse ++ .ref b0 :: rest) (hroom : (rest.map fun v => v.category).sum ≤ 8) (hdg : decode code pc = .ok (.invokevirtual index, 3)) (hf : cells + 90 ≤ 96002 ∧ slots + 8500 ≤ 8814244)
    (kk : ∀ (w' : va_W) (H1 : Heap) (locs1 : List Loc), P w' → mW E A s (wr ++ w') H1 locs1 → W p l e room_1 s m #[Value.ref b] below meth c H1 locs1 (cells + 90) (slots + 8500) Q (F0 m (pc + 3) ls (r :: rest))) : W p l e room_1 s m #[Value.ref b] below meth c H locs cells slots Q (F0 m pc ls st0) := by
  obtain ⟨rm, hr1, hr2, M⟩ := K
  have w := w.perm hp
  have hlt : 0 < wc.length := (List.getElem?_eq_some_iff.mp he).1
  refine mc_callV (D := mD E) (Z := mZ E) M F.1 (fun _ h => h) F.2.1 (mZ_ok E) F.2.2.2 F.2.2.1 w.1 w.2.1 w.2.2 (List.range wc.length) ((List.range wr.length).map (fun i => i + wc.length)) (rg_get wc wr) (rg_get2 wc wr) (nd_rg _) (nd_rg2 _ _) (rg_dis _ _) hc (q0 := 0) (by rw [List.getElem?_append_left hlt]; exact he) hw hlk n hd hr1 hn2 hsz hstack hroom hdg ⟨Nat.le_trans (Nat.add_le_add_left hr2.1 _) hf.1, Nat.le_trans (Nat.add_le_add_left hr2.2 _) hf.2⟩ (fun v w' H1 locs1 h1 h2 h3 h4 => ?_)
  obtain ⟨rfl, hP⟩ := h1
  exact W.widen (k := cells + 90) (n := slots + 8500) (Nat.add_le_add_left hr2.1 _) (Nat.add_le_add_left hr2.2 _) (kk w' H1 locs1 hP ⟨h2, h3, h4⟩)
theorem lw_new (F : LF E p s m c b A) (w : mW E A s u H locs) {ci N : Nat} {C : String} {T : u_T} (hc : CL[ci]? = some (C, T, N)) (hin : ∀ w ∈ u_ws C T N, w ∈ TB) (ty : Nat → FieldType) (hty : ∀ k, k < N → parseFieldDescriptor (T k).2.2.1 = some (ty k)) (hcl : Cond.classLink R_law index C ∈ TB) (hinst : Cond.instantiable C N ∈ TB) (hini : Cond.initialized C ∈ TB) {fs : List Value} (hfs : ∀ j, j < N → defaultValue (ty j) = vp_V fs j) (hcells : cells + 1 ≤ 96002) (hslots : slots + N ≤ 8814244) (hdg : decode code pc = .ok (.new index, 3))
    (kk : ∀ (q : Nat) (H1 : Heap), mW E A s (u ++ [(q, .inr (ci, fs))]) H1 locs → W p l e room_1 s m #[Value.ref b] below meth c H1 locs (cells + 1) (slots + N) Q (F0 m (pc + 3) ls (.ref q :: rest))) : W p l e room_1 s m #[Value.ref b] below meth c H locs cells slots Q (F0 m pc ls rest) :=
  va_new (D := (mD E).1) (cl := (mD E).2.1) (tys := (mD E).2.2) (Ts := TB) F.1.1 F.1.2.1 F.1.2.2.2.2 hin ty hty F.1.2.2.2.1 (F.1.2.2.2.2 _ hcl) (F.1.2.2.2.2 _ hinst) (F.1.2.2.2.2 _ hini) F.2.2.1 w.1 w.2.1 w.2.2 F.2.1 hc hfs hcells hslots hdg (fun q H1 h1 h2 h3 => kk q H1 ⟨h1, h2, h3⟩)
theorem lw_init (M : MX E l y2 bc2 mL2 none rm (.ref b0 :: As) wc post2) (F : LF E p s m c b A) (w : mW E A s u H locs) (hp : u.Perm (wc ++ wr))
    (hw : Cond.code y2 bc2 mL2 none ∈ TB ∧ Cond.instanceMethod y2 ∈ TB ∧ Cond.initialized y2.cls ∈ TB) (hlk : Cond.methodLink R_law index y2 ∈ TB) (n : Nat) (hy : y2.name = "<init>")
    (hd : y2.cls ≠ "java/lang/invoke/MethodHandle" ∧ y2.cls ≠ "java/lang/invoke/VarHandle" ∧ (parseMethodDescriptor y2.desc).map (fun d => d.parameters.length) = some n) (hR2 : rm.frames + 1 ≤ 14 ∧ 8 + (mL2 + 11) + rm.locals ≤ 562)
    (hn2 : As.length = n) (hsz : ls.size = 4) (hstack : st0 = As.reverse ++ .ref b0 :: rest) (hroom : (rest.map fun v => v.category).sum ≤ 8) (hdg : decode code pc = .ok (.invokespecial index, 3)) (hf : cells + rm.cells ≤ 96002 ∧ slots + rm.slots ≤ 8814244)
    (kk : ∀ (v : Option Value) (w' : va_W) (H1 : Heap) (locs1 : List Loc), post2 v w' → mW E A s (wr ++ w') H1 locs1 → W p l e room_1 s m #[Value.ref b] below meth c H1 locs1 (cells + rm.cells) (slots + rm.slots) Q (F0 m (pc + 3) ls (v.toList ++ rest))) : W p l e room_1 s m #[Value.ref b] below meth c H locs cells slots Q (F0 m pc ls st0) := by
  have w := w.perm hp
  have hts := F.1.2.2.2.2
  have hF := va_free (wc := wc) w.2.1 w.2.2 F.2.1 (List.range wc.length) (rg_get wc wr)
  have wc1 : mW E A s wc H locs := w.sub (List.range wc.length) (nd_rg _) (rg_get wc wr)
  have hG : GoodIn TB (.code y2 bc2 mL2 none :: TB) := tb_good (fun _ h => h) hw.1
  refine mc_after (D := mD E) (g := F0 m pc ls st0) (av := .ref b0 :: As) (va_runI (As := As) (rest := rest) F.1 (M H.size) ⟨callB_of n hts hG rfl rfl rfl (hts _ hw.2.2) (hts _ hlk) hd hR2, hy, hts _ hw.2.1⟩ ⟨mc_blind (mZ_ok E), fun U hU hW => mc_pre (mZ_ok E) F.2.2.2 F.2.2.1 w.2.2 wc1.1 wc1.2.1 hF U hU hW⟩ rfl hn2 hsz hstack (lv_room hroom) hdg hf) w.1 w.2.1 w.2.2 (List.range wc.length) ((List.range wr.length).map (fun i => i + wc.length)) (rg_get wc wr) (rg_get2 wc wr) (nd_rg2 _ _) (rg_dis _ _) hF (fun v w' H1 locs1 h1 h2 h3 h4 => kk v w' H1 locs1 h1 ⟨h2, h3, h4⟩)
end LWC

/-- the class's cells -/
abbrev xw (E : mE) (hx hat hru hle hsh hlo : Nat) (kv : Value) (a : Nat → Nat) (s : Nat → Int32) (f : Nat → Nat → Int32) (C_tby : Nat → Int32) (C_tsz : Int32) (C_rowOfKeys : Rows) (C_places : Rows) (C_vals : Nat → Int32) (C_now : Int32) (C_book : Rows) (C_told : Rows) (C_written : Rows) (C_late : Rows) (C_sums : Nat → Int32) (C_asum : Nat → Int32) (C_ents : Rows) (C_colds : Rows) (C_cnt : Nat → Int32) (C_uses : Int32) (C_usesInWindow : Int32) (C_entriesSoFar : Int32) (C_dirtySoFar : Int32) (C_line : Rows) (C_waits : Rows) (C_boxes : Rows) : va_W := [(hx, .inr (10, [.ref (a 0), .ref (a 2), .ref (a 4), .ref hat, .ref hru, .ref hle, .ref hsh, .ref hlo, kv])), ((a 0), .inr (9, [.ref (a 1), .int C_tsz])), ((a 1), .inl (E.2.1, 60, .inl C_tby)), ((a 2), .inr (8, [.int (nI 30), .int (nI 1), .ref (a 3), .int (s 0)])), ((a 3), .inl (E.2.1, (30 * 1), .inl (f 0))), ((a 4), .inr (3, [.ref (a 5)])), ((a 5), .inr (8, [.int (nI 12), .int (nI 3), .ref (a 6), .int (s 1)])), ((a 6), .inl (E.2.1, (12 * 3), .inl (f 1))), (hru, .inr (4, [.ref (a 7), .int C_now])), ((a 7), .inl (E.2.1, 8, .inl C_vals)), (hle, .inr (1, [.ref hru, .ref (a 8), .ref (a 10), .ref (a 12), .ref (a 14), .ref (a 16), .ref (a 17)])), ((a 8), .inr (8, [.int (nI 40), .int (nI 3), .ref (a 9), .int (s 2)])), ((a 9), .inl (E.2.1, (40 * 3), .inl (f 2))), ((a 10), .inr (8, [.int (nI 60), .int (nI 1), .ref (a 11), .int (s 3)])), ((a 11), .inl (E.2.1, (60 * 1), .inl (f 3))), ((a 12), .inr (8, [.int (nI 40), .int (nI 2), .ref (a 13), .int (s 4)])), ((a 13), .inl (E.2.1, (40 * 2), .inl (f 4))), ((a 14), .inr (8, [.int (nI 60), .int (nI 1), .ref (a 15), .int (s 5)])), ((a 15), .inl (E.2.1, (60 * 1), .inl (f 5))), ((a 16), .inl (E.2.1, 14, .inl C_sums)), ((a 17), .inl (E.2.1, 64, .inl C_asum)), (hsh, .inr (5, [.ref hru, .ref hle, .ref (a 18), .ref (a 21), .ref (a 24), .int C_uses, .int C_usesInWindow, .int C_entriesSoFar, .int C_dirtySoFar])), ((a 18), .inr (0, [.ref hru, .ref (a 19)])), ((a 19), .inr (8, [.int (nI 200), .int (nI 9), .ref (a 20), .int (s 6)])), ((a 20), .inl (E.2.1, (200 * 9), .inl (f 6))), ((a 21), .inr (0, [.ref hru, .ref (a 22)])), ((a 22), .inr (8, [.int (nI 20), .int (nI 9), .ref (a 23), .int (s 7)])), ((a 23), .inl (E.2.1, (20 * 9), .inl (f 7))), ((a 24), .inr (6, [.ref (a 25)])), ((a 25), .inl (E.2.1, 64, .inl C_cnt)), (hlo, .inr (2, [.ref hru, .ref hle, .ref (a 26), .ref (a 28), .ref (a 30)])), ((a 26), .inr (8, [.int (nI 256), .int (nI 3), .ref (a 27), .int (s 8)])), ((a 27), .inl (E.2.1, (256 * 3), .inl (f 8))), ((a 28), .inr (8, [.int (nI 256), .int (nI 2), .ref (a 29), .int (s 9)])), ((a 29), .inl (E.2.1, (256 * 2), .inl (f 9))), ((a 30), .inr (8, [.int (nI 192), .int (nI 3), .ref (a 31), .int (s 10)])), ((a 31), .inl (E.2.1, (192 * 3), .inl (f 10)))]
def XW (E : mE) (hx hat hru hle hsh hlo : Nat) (kv : Value) (C_tby : Nat → Int32) (C_tsz : Int32) (C_rowOfKeys : Rows) (C_places : Rows) (C_vals : Nat → Int32) (C_now : Int32) (C_book : Rows) (C_told : Rows) (C_written : Rows) (C_late : Rows) (C_sums : Nat → Int32) (C_asum : Nat → Int32) (C_ents : Rows) (C_colds : Rows) (C_cnt : Nat → Int32) (C_uses : Int32) (C_usesInWindow : Int32) (C_entriesSoFar : Int32) (C_dirtySoFar : Int32) (C_line : Rows) (C_waits : Rows) (C_boxes : Rows) (w : va_W) : Prop := ∃ (a : Nat → Nat) (s : Nat → Int32) (f : Nat → Nat → Int32), (tb_ok 30 1 C_rowOfKeys (s 0) (f 0) ∧ tb_ok 12 3 C_places (s 1) (f 1) ∧ tb_ok 40 3 C_book (s 2) (f 2) ∧ tb_ok 60 1 C_told (s 3) (f 3) ∧ tb_ok 40 2 C_written (s 4) (f 4) ∧ tb_ok 60 1 C_late (s 5) (f 5) ∧ tb_ok 200 9 C_ents (s 6) (f 6) ∧ tb_ok 20 9 C_colds (s 7) (f 7) ∧ tb_ok 256 3 C_line (s 8) (f 8) ∧ tb_ok 256 2 C_waits (s 9) (f 9) ∧ tb_ok 192 3 C_boxes (s 10) (f 10)) ∧ w = xw E hx hat hru hle hsh hlo kv a s f C_tby C_tsz C_rowOfKeys C_places C_vals C_now C_book C_told C_written C_late C_sums C_asum C_ents C_colds C_cnt C_uses C_usesInWindow C_entriesSoFar C_dirtySoFar C_line C_waits C_boxes
/-- the reference's cells -/
abbrev mw (E : mE) (hm : Nat) (d : Nat → Nat) (z : Nat → Nat → Int32) (zi : Nat → Int32) (C_g C_kept : Nat → Int32) (C_isKept : Int32) (C_tape : Nat → Int32) (C_taped : Int32) : va_W := [(hm, .inr (11, [.ref (d 0), .ref (d 1), .int C_isKept, .ref (d 2), .int C_taped, .int ((zi 0)), .ref (d 3), .int ((zi 1)), .ref (d 4), .int ((zi 2)), .ref (d 5), .ref (d 6), .ref (d 7), .ref (d 8)])), ((d 0), .inl (E.2.1, 8787, .inl C_g)), ((d 1), .inl (E.2.1, 8787, .inl C_kept)), ((d 2), .inl (E.2.2.1, 60, .inl C_tape)), ((d 3), .inl (E.2.1, 40, .inl ((z 0)))), ((d 4), .inl (E.2.1, 60, .inl ((z 1)))), ((d 5), .inl (E.2.1, 12, .inl ((z 2)))), ((d 6), .inl (E.2.1, 12, .inl ((z 3)))), ((d 7), .inl (E.2.1, 12, .inl ((z 4)))), ((d 8), .inl (E.2.1, 12, .inl ((z 5))))]
def MW (E : mE) (hm : Nat) (g kept : Nat → Int32) (isKept : Int32) (tape : Nat → Int32) (taped : Int32) (w : va_W) : Prop := ∃ (d : Nat → Nat) (z : Nat → Nat → Int32) (zi : Nat → Int32), w = mw E hm d z zi g kept isKept tape taped
def LI (E : mE) (hx hm hat hru hle hsh hlo : Nat) (kv : Value) (kept : Nat → Int32) (isKept : Int32) (c : Nat) (w1 w2 : va_W) : Prop := ∃ (T : Nat → Rows) (V : Nat → Nat → Int32) (g : Nat → Int32) (tp : List Nat) (tby : Nat → Int32) (tsz : Int32) (tape : Nat → Int32) (taped : Int32) (rok plc : Rows), XW E hx hat hru hle hsh hlo kv tby tsz rok plc (V 0) (V 4 0) (T 0) (T 1) (T 2) (T 3) (V 1) (V 2) (T 4) (T 5) (V 3) (V 4 1) (V 4 2) (V 4 3) (V 4 4) (T 6) (T 7) (T 8) w1 ∧ MW E hm g kept isKept tape taped w2 ∧ SQ c tp T V g ∧ TR tp tby tsz tape taped
abbrev kc_ (E : mE) (hat hru hle hsh hlo k_h : Nat) (a : Nat → Nat) (s : Nat → Int32) (f : Nat → Nat → Int32) (kT : Nat → Rows) (K : Nat → Nat → Int32) : va_W := (hat, .inr (7, [.ref hru, .ref hle, .ref hsh, .ref hlo])) :: [(k_h, .inr (7, [.ref (a 0), .ref (a 2), .ref (a 13), .ref (a 22)])), ((a 0), .inr (4, [.ref (a 1), .int ((K 4 0))])), ((a 1), .inl (E.2.1, 8, .inl ((K 0)))), ((a 2), .inr (1, [.ref (a 0), .ref (a 3), .ref (a 5), .ref (a 7), .ref (a 9), .ref (a 11), .ref (a 12)])), ((a 3), .inr (8, [.int (nI 40), .int (nI 3), .ref (a 4), .int (s 0)])), ((a 4), .inl (E.2.1, (40 * 3), .inl (f 0))), ((a 5), .inr (8, [.int (nI 60), .int (nI 1), .ref (a 6), .int (s 1)])), ((a 6), .inl (E.2.1, (60 * 1), .inl (f 1))), ((a 7), .inr (8, [.int (nI 40), .int (nI 2), .ref (a 8), .int (s 2)])), ((a 8), .inl (E.2.1, (40 * 2), .inl (f 2))), ((a 9), .inr (8, [.int (nI 60), .int (nI 1), .ref (a 10), .int (s 3)])), ((a 10), .inl (E.2.1, (60 * 1), .inl (f 3))), ((a 11), .inl (E.2.1, 14, .inl ((K 1)))), ((a 12), .inl (E.2.1, 64, .inl ((K 2)))), ((a 13), .inr (5, [.ref (a 0), .ref (a 2), .ref (a 14), .ref (a 17), .ref (a 20), .int ((K 4 1)), .int ((K 4 2)), .int ((K 4 3)), .int ((K 4 4))])), ((a 14), .inr (0, [.ref (a 0), .ref (a 15)])), ((a 15), .inr (8, [.int (nI 200), .int (nI 9), .ref (a 16), .int (s 4)])), ((a 16), .inl (E.2.1, (200 * 9), .inl (f 4))), ((a 17), .inr (0, [.ref (a 0), .ref (a 18)])), ((a 18), .inr (8, [.int (nI 20), .int (nI 9), .ref (a 19), .int (s 5)])), ((a 19), .inl (E.2.1, (20 * 9), .inl (f 5))), ((a 20), .inr (6, [.ref (a 21)])), ((a 21), .inl (E.2.1, 64, .inl ((K 3)))), ((a 22), .inr (2, [.ref (a 0), .ref (a 2), .ref (a 23), .ref (a 25), .ref (a 27)])), ((a 23), .inr (8, [.int (nI 256), .int (nI 3), .ref (a 24), .int (s 6)])), ((a 24), .inl (E.2.1, (256 * 3), .inl (f 6))), ((a 25), .inr (8, [.int (nI 256), .int (nI 2), .ref (a 26), .int (s 7)])), ((a 26), .inl (E.2.1, (256 * 2), .inl (f 7))), ((a 27), .inr (8, [.int (nI 192), .int (nI 3), .ref (a 28), .int (s 8)])), ((a 28), .inl (E.2.1, (192 * 3), .inl (f 8)))]
/-- what is kept -/
def KP (E : mE) (hat hru hle hsh hlo : Nat) (kv : Value) (kept : Nat → Int32) (isKept : Int32) (c : Nat) (kw : va_W) : Prop := (kv = .null ∧ isKept = 0 ∧ kw = [(hat, .inr (7, [.ref hru, .ref hle, .ref hsh, .ref hlo]))]) ∨ ∃ (k_h : Nat) (a : Nat → Nat) (s : Nat → Int32) (f : Nat → Nat → Int32) (kT : Nat → Rows) (K : Nat → Nat → Int32), kv = .ref k_h ∧ isKept = 1 ∧ SQ c [] kT K kept ∧ (tb_ok 40 3 ((kT 0)) (s 0) (f 0) ∧ tb_ok 60 1 ((kT 1)) (s 1) (f 1) ∧ tb_ok 40 2 ((kT 2)) (s 2) (f 2) ∧ tb_ok 60 1 ((kT 3)) (s 3) (f 3) ∧ tb_ok 200 9 ((kT 4)) (s 4) (f 4) ∧ tb_ok 20 9 ((kT 5)) (s 5) (f 5) ∧ tb_ok 256 3 ((kT 6)) (s 6) (f 6) ∧ tb_ok 256 2 ((kT 7)) (s 7) (f 7) ∧ tb_ok 192 3 ((kT 8)) (s 8) (f 8)) ∧ kw = kc_ E hat hru hle hsh hlo k_h a s f kT K
def LSt (E : mE) (hx hm : Nat) (c : Nat) (w1 w2 kw : va_W) : Prop := ∃ (hat hru hle hsh hlo : Nat) (kv : Value) (kept : Nat → Int32) (isKept : Int32), LI E hx hm hat hru hle hsh hlo kv kept isKept c w1 w2 ∧ KP E hat hru hle hsh hlo kv kept isKept c kw
theorem KP.up {E : mE} {hat hru hle hsh hlo : Nat} {kv : Value} {kept : Nat → Int32} {isKept : Int32} {c : Nat} {kw : va_W} (h : KP E hat hru hle hsh hlo kv kept isKept c kw) : KP E hat hru hle hsh hlo kv kept isKept (c + 1) kw := by
  rcases h with h | ⟨k_h, a, s, f, kT, K, h1, h2, h3, h4⟩
  · exact Or.inl h
  · exact Or.inr ⟨k_h, a, s, f, kT, K, h1, h2, h3.up, h4⟩
theorem LI.up {E : mE} {hx hm hat hru hle hsh hlo : Nat} {kv : Value} {kept : Nat → Int32} {isKept : Int32} {c : Nat} {w1 w2 : va_W} (h : LI E hx hm hat hru hle hsh hlo kv kept isKept c w1 w2) : LI E hx hm hat hru hle hsh hlo kv kept isKept (c + 1) w1 w2 := by
  obtain ⟨T, V, g, tp, tby, tsz, tape, taped, rok, plc, h1, h2, h3, h4⟩ := h
  exact ⟨T, V, g, tp, tby, tsz, tape, taped, rok, plc, h1, h2, h3.up, h4⟩
theorem LI.x0 {E : mE} {hx hm hat hru hle hsh hlo : Nat} {kv : Value} {kept : Nat → Int32} {isKept : Int32} {c : Nat} {w1 w2 : va_W} (h : LI E hx hm hat hru hle hsh hlo kv kept isKept c w1 w2) : ∃ fs, w1[0]? = some (hx, .inr (10, fs)) := by
  obtain ⟨T, V, g, tp, tby, tsz, tape, taped, rok, plc, ⟨a, s, f, -, rfl⟩, h2, h3, h4⟩ := h
  exact ⟨_, rfl⟩
theorem LI.m0 {E : mE} {hx hm hat hru hle hsh hlo : Nat} {kv : Value} {kept : Nat → Int32} {isKept : Int32} {c : Nat} {w1 w2 : va_W} (h : LI E hx hm hat hru hle hsh hlo kv kept isKept c w1 w2) : ∃ fs, w2[0]? = some (hm, .inr (11, fs)) := by
  obtain ⟨T, V, g, tp, tby, tsz, tape, taped, rok, plc, h1, ⟨d, z, zi, rfl⟩, h3, h4⟩ := h
  exact ⟨_, rfl⟩
/-- a call that leaves alone what is kept -/
def KC {α : Type} (mk : α → Value) (rt : FieldType) (E : mE) (l : Launch) (hx hm hat hru hle hsh hlo : Nat) (kv : Value) (kept : Nat → Int32) (isKept : Int32) (c : Nat) (w1 w2 : va_W) (y1 : MethodName) (b1 : ByteArray) (m1 : Nat) (y2 : MethodName) (b2 : ByteArray) (m2 : Nat) (As : List Value) : Prop := ∃ (r : α) (P1 P2 : va_W → Prop), CX E l rt y1 b1 m1 (.ref hx :: As) w1 (mk r) P1 ∧ CX E l rt y2 b2 m2 (.ref hm :: As) w2 (mk r) P2 ∧ ∀ w1' w2', P1 w1' → P2 w2' → LI E hx hm hat hru hle hsh hlo kv kept isKept (c + 1) w1' w2'
/-- image, back -/
def KI (E : mE) (l : Launch) (hx hm : Nat) (c : Nat) (w1 w2 kw : va_W) (y1 : MethodName) (b1 : ByteArray) (m1 : Nat) (y2 : MethodName) (b2 : ByteArray) (m2 : Nat) : Prop := ∃ (r : Int32) (P1 P2 : va_W → Prop), CX E l .int y1 b1 m1 [.ref hx] (w1 ++ kw) (.int r) P1 ∧ CX E l .int y2 b2 m2 [.ref hm] w2 (.int r) P2 ∧ ∀ u' w2', P1 u' → P2 w2' → ∃ w1' kw', u' = w1' ++ kw' ∧ LSt E hx hm (c + 1) w1' w2' kw'
