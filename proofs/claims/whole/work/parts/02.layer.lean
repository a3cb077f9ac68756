/-! ===== my layer: one word list for all methods, contracts over worlds, calls ===== -/
def TB : List Cond := lw_tbl.filter goodWord
theorem tb_in {w : Cond} (h : w ∈ lw_tbl) (g : goodWord w = true) : w ∈ TB := List.mem_filter.mpr ⟨h, g⟩
theorem tb_at (i : Nat) {w : Cond} (h : lw_tbl[i]? = some w) (g : goodWord w = true) : w ∈ TB := tb_in (List.mem_of_getElem? h) g
theorem tb_good {Ts : List Cond} (hT : ∀ w ∈ TB, w ∈ Ts) {y : MethodName} {bc : ByteArray} {mL : Nat} {rt : Option FieldType} (h : Cond.code y bc mL rt ∈ TB) : GoodIn Ts (.code y bc mL rt :: TB) := by
  intro w hw
  have h1 : w ∈ TB := by
    rcases List.mem_cons.mp hw with e | e
    · rw [e]; exact h
    · exact e
  exact ⟨hT w h1, good_of_word (List.mem_filter.mp h1).2⟩
abbrev mc_Z : Type := (Nat → Prop) → State → Heap → Prop
def mc_zok (Z : mc_Z) : Prop := (∀ (A : Nat → Prop) (u U : State) (H : Heap), u.WarmedH U.vm → Z A u H → Z A U H) ∧ (∀ (A : Nat → Prop) (u U : State) (H : Heap), U.vm = u.vm → Z A u H → Z A U H) ∧ (∀ (A : Nat → Prop) (U : State) (H H1 : Heap), Z A U H → (∀ a : Nat, a < H.size → ¬ A a → H1[a]? = H[a]?) → Z A U H1) ∧ (∀ (A B : Nat → Prop) (U : State) (H : Heap), Z A U H → (∀ q, B q → A q) → Z B U H)
abbrev mc_D : Type := va_G × List vw_C × List (ClassId × FieldType)
/-- a contract: from a world wc (its cells apart), the method returns v with the world w', post v w'; cells and slots as its room says -/
def MC (D : mc_D) (Z : mc_Z) (l : Launch) (y : MethodName) (bc : ByteArray) (mL : Nat) (rt : Option FieldType) (rm : Room) (av : List Value) (wc : va_W) (post : Option Value → va_W → Prop) : Prop :=
  ∀ sz : Nat, Met l y (.code y bc mL rt :: TB) rm (va_Pc av (fun U => U.heap.size = sz ∧ va_P D.1 D.2.1 wc U.heap ∧ va_K D.1 D.2.1 D.2.2 U ∧ va_D (fun _ => True) wc ∧ Z (va_A wc sz) U U.heap))
    (fun _ st oc t => (∃ (v : Option Value) (w' : va_W), oc = .returned v ∧ post v w' ∧ va_P D.1 D.2.1 w' t.heap ∧ va_K D.1 D.2.1 D.2.2 t ∧ va_D (va_A wc sz) w') ∧ va_F (va_A wc sz) st t) rm.cells rm.slots (va_A wc sz)
section MCC
variable {p : Program} {l : Launch} {e : Env} {R : Room} {s : State} {m : MethodId} {args : Array Value} {below : List Frame} {meth : Method} {c : Code} {H : Heap} {locs : List Loc} {cells slots : Nat} {Q : State → Prop} {pc : Nat} {ls : Array Slot} {rest st0 : List Value} {D : mc_D} {Z : mc_Z} {A : Nat → Prop} {ws wc wr : va_W} {y : MethodName} {bc cc : ByteArray} {mL nL index : Nat} {rt : Option FieldType} {rm : Room} {post : Option Value → va_W → Prop} {Ts : List Cond} {own : String} {As av : List Value} {b : Addr}
theorem mc_blind (hz : mc_zok Z) {sz : Nat} : FrameBlind (va_Pc av (fun U => U.heap.size = sz ∧ va_P D.1 D.2.1 wc U.heap ∧ va_K D.1 D.2.1 D.2.2 U ∧ va_D (fun _ => True) wc ∧ Z (va_A wc sz) U U.heap)) := by
  intro a U g mk q
  obtain ⟨q0, q1, qP, qK, qD, qZ⟩ := q
  exact ⟨q0, q1, qP, va_K.moved (u := U) (U := U.calling g mk a) (Vm.Alike.refl U.vm) qK, qD, hz.2.1 _ U _ _ rfl qZ⟩
theorem mc_pre (hz : mc_zok Z) (hZ : Z A s s.heap) (hK : va_K D.1 D.2.1 D.2.2 s) (hS : va_S A s.heap H locs) (hP : va_P D.1 D.2.1 wc H) (hD : va_D A wc) (hF : ∀ q, va_A wc H.size q → A q) (U : State) (hU : U.heap = H) (hW : s.WarmedH U.vm) :
    va_Pc av (fun U => U.heap.size = H.size ∧ va_P D.1 D.2.1 wc U.heap ∧ va_K D.1 D.2.1 D.2.2 U ∧ va_D (fun _ => True) wc ∧ Z (va_A wc H.size) U U.heap) av.toArray U := by
  refine ⟨rfl, by rw [hU], by rw [hU]; exact hP, va_K.moved hW.alike hK, hD.weaken (fun _ _ _ _ => trivial), ?_⟩
  rw [hU]
  exact hz.2.2.2 _ _ _ _ (hz.1 _ _ _ _ hW (hz.2.2.1 _ _ _ _ hZ (fun a h1 h2 => hS.2.1 a h1 h2))) hF
/-- behind a call -/
theorem mc_after {g : JFrame} (hr : va_Run p l e R s m args below meth c H locs cells slots rm.cells rm.slots (F0 m pc ls st0) rest ((fun (_ : Array Value) (st : State) (oc : Outcome) (t : State) => (∃ (v : Option Value) (w' : va_W), oc = .returned v ∧ post v w' ∧ va_P D.1 D.2.1 w' t.heap ∧ va_K D.1 D.2.1 D.2.2 t ∧ va_D (va_A wc H.size) w') ∧ va_F (va_A wc H.size) st t) av.toArray) (va_A wc H.size))
    (hP : va_P D.1 D.2.1 ws H) (hD : va_D A ws) (hS : va_S A s.heap H locs) (isC isR : List Nat) (hC : isC.map (fun i => ws[i]?) = wc.map some) (hR : isR.map (fun i => ws[i]?) = wr.map some) (hn : va_nd isR = true) (hdis : ∀ i ∈ isR, i ∉ isC) (hF : ∀ q, va_A wc H.size q → A q)
    (kk : ∀ (v : Option Value) (w' : va_W) (H1 : Heap) (locs1 : List Loc), post v w' → va_P D.1 D.2.1 (wr ++ w') H1 → va_D A (wr ++ w') → va_S A s.heap H1 locs1 → W p l e R s m args below meth c H1 locs1 (cells + rm.cells) (slots + rm.slots) Q (F0 m (pc + 3) ls (v.toList ++ rest))) : W p l e R s m args below meth c H locs cells slots Q (F0 m pc ls st0) := by
  intro T hT X
  obtain ⟨v, st₀, t, T', L, h0, X', hL, e1, e2, ⟨⟨v2, w', hv, hp, hP1, hK1, hD1⟩, hzz, hk⟩, st⟩ := hr T hT X
  cases hv
  rw [h0] at hzz hk
  have hk1 : ∀ q : Nat, q < H.size → ¬ va_A wc H.size q → T'.heap[q]? = H[q]? := fun q h1 h2 => by rw [e1]; exact hk q h1 h2
  have hS1 : va_S A s.heap T'.heap (locs ++ L) := ⟨Nat.le_trans hS.1 (by rw [e1]; exact hzz), fun q h1 h2 => by
      rw [hk1 q (Nat.lt_of_lt_of_le h1 hS.1) (fun z => h2 (hF q z))]; exact hS.2.1 q h1 h2, fun q hq => by
      rcases List.mem_append.mp hq with h | h
      · exact hS.2.2 q h
      · exact hF _ (hL q h)⟩
  rw [← e1] at hP1
  obtain ⟨hP2, hD2⟩ := va_join hP hD isC isR hC hR hn hdis hk1 hF hP1 hD1
  obtain ⟨t2, a1, b1⟩ := kk _ w' T'.heap (locs ++ L) hp hP2 hD2 hS1 T' rfl X'
  exact ⟨t2, st t2 a1, b1⟩
/-- an instance method called by invokevirtual -/
theorem mc_callV (M : MC D Z l y bc mL rt rm (.ref b :: As) wc post) (S : CallFix p m c cc nL s args Ts own) (hT : ∀ w ∈ TB, w ∈ Ts) (hA : ∀ q : Nat, s.heap.size ≤ q → A q) (hz : mc_zok Z) (hZ : Z A s s.heap) (hK : va_K D.1 D.2.1 D.2.2 s) (hP : va_P D.1 D.2.1 ws H) (hD : va_D A ws) (hS : va_S A s.heap H locs)
    (isC isR : List Nat) (hC : isC.map (fun i => ws[i]?) = wc.map some) (hR : isR.map (fun i => ws[i]?) = wr.map some) (hnC : va_nd isC = true) (hn : va_nd isR = true) (hdis : ∀ i ∈ isR, i ∉ isC)
    {C : String} {TT : u_T} {N ci q0 : Nat} {fs : List Value} (hc : D.2.1[ci]? = some (C, TT, N)) (he : ws[q0]? = some (b, .inr (ci, fs)))
    (hw : Cond.code y bc mL rt ∈ TB ∧ Cond.instanceMethod y ∈ TB ∧ Cond.selects C y y ∈ TB ∧ Cond.initialized C ∈ TB) (hlk : Cond.methodLink own index y ∈ TB) (n : Nat)
    (hd : y.cls = C ∧ y.cls ≠ "java/lang/invoke/MethodHandle" ∧ y.cls ≠ "java/lang/invoke/VarHandle" ∧ (parseMethodDescriptor y.desc).map (fun d => d.parameters.length) = some n) (hR2 : rm.frames + 1 ≤ R.frames ∧ 8 + (mL + 11) + rm.locals ≤ R.locals)
    (hn2 : As.length = n) (hsz : ls.size = nL) (hstack : st0 = As.reverse ++ .ref b :: rest) (hroom : (rest.map fun v => v.category).sum ≤ 8) (hdg : decode cc pc = .ok (.invokevirtual index, 3)) (hf : cells + rm.cells ≤ R.cells ∧ slots + rm.slots ≤ R.slots)
    (kk : ∀ (v : Option Value) (w' : va_W) (H1 : Heap) (locs1 : List Loc), post v w' → va_P D.1 D.2.1 (wr ++ w') H1 → va_D A (wr ++ w') → va_S A s.heap H1 locs1 → W p l e R s m args below meth c H1 locs1 (cells + rm.cells) (slots + rm.slots) Q (F0 m (pc + 3) ls (v.toList ++ rest))) : W p l e R s m args below meth c H locs cells slots Q (F0 m pc ls st0) := by
  have hts := S.2.2.2.2
  have hF := va_free (wc := wc) hD hS hA isC hC
  have hPc : va_P D.1 D.2.1 wc H := fun k q hk => by
    have h1 : (isC.map (fun i => ws[i]?))[k]? = some (some q) := by rw [hC, List.getElem?_map, hk]; rfl
    rw [List.getElem?_map] at h1
    cases hi : isC[k]? with
    | none => rw [hi] at h1; cases h1
    | some i => rw [hi] at h1; exact hP i q (Option.some.inj h1)
  have hDc := hD.sub (ws' := wc) isC hnC hC
  have hG : GoodIn Ts (wsV own index C y (.code y bc mL rt :: TB)) := by
    intro w hw2
    unfold wsV at hw2
    rcases List.mem_append.mp hw2 with h | h
    · have : w ∈ TB := by
        simp only [List.mem_cons, List.not_mem_nil, or_false] at h
        rcases h with rfl | rfl | rfl | rfl
        · exact hlk
        · exact hw.2.1
        · exact hw.2.2.1
        · exact hw.2.2.2
      exact ⟨hT w this, good_of_word (List.mem_filter.mp this).2⟩
    · exact tb_good hT hw.1 w h
  refine mc_after (g := F0 m pc ls st0) (av := .ref b :: As) (va_runV (As := As) (rest := rest) S (M H.size) (cwV n hts hG rfl rfl rfl hd hR2) ⟨mc_blind hz, ?_, fun U hU hW => mc_pre hz hZ hK hS hPc hDc hF U hU hW⟩ rfl hn2 hsz hstack (lv_room hroom) hdg hf) hP hD hS isC isR hC hR hn hdis hF kk
  exact va_recv hK hP hc he
end MCC
