/-! ===== rows for texts: private, inherited and super's methods on a StringBuilder; methods of the constants ===== -/
section VRP
variable {p : Program} {l : Launch} {e : Env} {R : Room} {s : State} {m : MethodId} {args : Array Value} {below : List Frame} {meth : Method} {c : Code} {H : Heap} {locs : List Loc} {cells slots : Nat}
variable {y : MethodName} {bytes cc : ByteArray} {maxL nL mc ms n index : Nat} {ret : Option FieldType} {ws : List Cond} {rm : Room} {Pc : Array Value → State → Prop} {Qc : Array Value → State → Outcome → State → Prop} {free : Addr → Prop} {Ts : List Cond} {own C : String} {b : Addr} {As rest : List Value} {g : JFrame}
theorem tx_runP (S : CallFix p m c cc nL s args Ts own) (hM : Met l y ws rm Pc Qc mc ms free) (cw : CallB R s args own index y bytes maxL ret ws rm mc ms n) (hin : (Cond.instanceMethod y).before args s = true) (hse : (Cond.selects y.cls y y).before args s = true) (hpr : s.PrivateAt y) (hp : PreV s H C b Pc As)
    (hg : g.method = m) (hn : As.length = n) (hsize : g.locals.size = nL) (hstack : g.stack = As.reverse ++ .ref b :: rest) (hW : 2 * g.monitorRoom + (rest.map fun v => v.category).sum ≤ 8) (hdg : decode cc g.pc = .ok (.invokevirtual index, 3)) (hf : cells + mc ≤ R.cells ∧ slots + ms ≤ R.slots) :
    va_Run p l e R s m args below meth c H locs cells slots mc ms g rest (Qc (Value.ref b :: As).toArray) (free) := by
  have hK : Back l R p e below s args y 3 8 (PreOf R mc ms Pc) (PostOf Qc mc ms free) := callBack cw hM hp.1
  obtain ⟨-, -, -, -, -, -, hcode, -, hy, hlen, hl⟩ := cw
  obtain ⟨hx, hb, hml, ho, -⟩ := S
  obtain ⟨-, ⟨cellB, hcB, hoB, hclB⟩, hPc⟩ := hp
  intro T hT X
  obtain ⟨v, vm₁, ⟨U', l2, c2, s2⟩, hW₁, X', ⟨g', mk, t, L, e1, e2, hq, h1, hL, h2, h3⟩, st⟩ := privateBack X hx (bytes := bytes) (maxL := maxL) (ret := ret) ho hl hin hse hpr hcode hy hK hg (hsize.trans hml.symm) (s₀ := T.setTop g) (Steps.refl _) (by rw [hT]; exact hcB) (fun z h => by rw [h] at hoB; cases hoB) (argsL := As) (rest := rest) (fun sig h => hn.trans (hlen sig h)) hstack hW (by rw [hb]; exact hdg)
    (fun vm₁ hW₁ => ⟨hf.1, hf.2, hPc (T.setVm vm₁) hT hW₁⟩)
  dsimp only [Pt.U, Pt.locs, Pt.cells, Pt.slots] at X' e1 e2 h1 h2 h3 st
  subst h1; subst h2; subst h3
  exact ⟨v, (T.setVm vm₁).calling g' mk (Value.ref b :: As).toArray, t, U', L, hT, X', hL, e1, e2, hq, fun target h => st.trans h⟩
end VRP
def yIsL : MethodName := ⟨"java/lang/AbstractStringBuilde\x72", "isLatin1", "()Z"⟩
theorem tx_sel {s : State} {args : Array Value} (h0 : (Cond.selects "java/lang/StringBuilde\x72" yIsL yIsL).before args s = true) {y : MethodName} (hcls : y.cls = "java/lang/AbstractStringBuilde\x72") (hpriv : s.PrivateAt y) (hinst : (Cond.instanceMethod y).before args s = true) : (Cond.selects y.cls y y).before args s = true := by
  obtain ⟨c, r, mm, h1, h2, h3, h4, mk, h5, h6⟩ := Cond.selects_spec h0
  have hc : s.vm.findClass y.cls = some mm.cls := by rw [hcls]; exact findClass_of_methodNamed h3
  exact selects_self_of_private hc h5 h6 hpriv hinst (by rw [hcls]; exact ⟨by decide, by decide⟩)
section MTX
variable {E : mE} {p : Program} {l : Launch} {e : Env} {R : Room} {s : State} {m : MethodId} {args : Array Value} {below : List Frame} {meth : Method} {c : Code} {H : Heap} {locs : List Loc} {cells slots mc ms : Nat} {Q : State → Prop} {pc : Nat} {ls : Array Slot} {rest st0 : List Value} {A : Nat → Prop} {ws wc wr : va_W} {y y2 : MethodName} {bc bc2 : ByteArray} {mL mL2 index : Nat} {rt rt2 : Option FieldType} {rm : Room} {post post2 : Option Value → va_W → Prop} {As av : List Value} {a b : Nat}
theorem mx_aret {ty : FieldType} (B : mB E y bc mL (some ty) cells slots post p s m args below meth c A Q) (hrt : (∃ n, ty = .object n) ∨ ∃ t, ty = .array t) (w : mW E A s ws H locs) (hp : post (some (.ref a)) ws) (hdg : decode bc pc = .ok (.areturn, 1)) : W p l e R s m args below meth c H locs cells slots Q (F0 m pc ls [.ref a]) := by
  obtain ⟨wc, hQ, hf, hq⟩ := mx_post B w hp
  rw [hQ]
  exact W.aret B.1.1 B.1.2.1 B.2.1 hrt (Or.inr ⟨a, rfl⟩) hq hf hdg B.2.2.1
/-- a private method of AbstractStringBuilder, on a StringBuilder of the world -/
theorem mx_callP (M : MX E l y2 bc2 mL2 rt2 rm (.ref b :: As) wc post2) (B : mB E y bc mL rt mc ms post p s m args below meth c A Q) (w : mW E A s ws H locs)
    (isC isR : List Nat) (hC : isC.map (fun i => ws[i]?) = wc.map some) (hR : isR.map (fun i => ws[i]?) = wr.map some) (hnC : va_nd isC = true) (hn : va_nd isR = true) (hdis : ∀ i ∈ isR, i ∉ isC)
    (q0 : Nat) {C : String} {TT : u_T} {N ci : Nat} {fs : List Value} (hc : CL[ci]? = some (C, TT, N)) (he : ws[q0]? = some (b, .inr (ci, fs)))
    (hw : Cond.code y2 bc2 mL2 rt2 ∈ TB ∧ Cond.instanceMethod y2 ∈ TB ∧ Cond.initialized y2.cls ∈ TB ∧ Cond.selects "java/lang/StringBuilde\x72" yIsL yIsL ∈ TB) (hpr : y2 ∈ sPriv) (hcl : y2.cls = "java/lang/AbstractStringBuilde\x72") (hlk : Cond.methodLink y.cls index y2 ∈ TB) (n : Nat)
    (hd : y2.cls ≠ "java/lang/invoke/MethodHandle" ∧ y2.cls ≠ "java/lang/invoke/VarHandle" ∧ (parseMethodDescriptor y2.desc).map (fun d => d.parameters.length) = some n) (hR2 : rm.frames + 1 ≤ R.frames ∧ 8 + (mL2 + 11) + rm.locals ≤ R.locals)
    (hn2 : As.length = n) (hsz : ls.size = mL) (hstack : st0 = As.reverse ++ .ref b :: rest) (hroom : (rest.map fun v => v.category).sum ≤ 8) (hdg : decode bc pc = .ok (.invokevirtual index, 3)) {cells2 slots2 : Nat} (hc2 : cells + rm.cells = cells2) (hs2 : slots + rm.slots = slots2) (hf : cells2 ≤ R.cells ∧ slots2 ≤ R.slots)
    (kk : ∀ (v : Option Value) (w' : va_W) (H1 : Heap) (locs1 : List Loc), post2 v w' → mW E A s (wr ++ w') H1 locs1 → W p l e R s m args below meth c H1 locs1 cells2 slots2 Q (F0 m (pc + 3) ls (v.toList ++ rest))) : W p l e R s m args below meth c H locs cells slots Q (F0 m pc ls st0) := by
  have hts := B.1.2.2.2.2
  have hF := va_free (wc := wc) w.2.1 w.2.2 B.2.2.2.1 isC hC
  have wc1 : mW E A s wc H locs := w.sub isC hnC hC
  have hG : GoodIn TB (.code y2 bc2 mL2 rt2 :: TB) := tb_good (fun _ h => h) hw.1
  have hpv : s.PrivateAt y2 := Cond.privateMethod_at (B.2.2.2.2.2.1.2.2.2.2.2.2.2.2.2.2 y2 hpr)
  subst hc2
  subst hs2
  exact mc_after (D := mD E) (g := F0 m pc ls st0) (av := .ref b :: As) (tx_runP (As := As) (rest := rest) (C := C) B.1 (M H.size) (callB_of n hts hG rfl rfl rfl (hts _ hw.2.2.1) (hts _ hlk) hd hR2) (hts _ hw.2.1) (tx_sel (hts _ hw.2.2.2) hcl hpv (hts _ hw.2.1)) hpv ⟨mc_blind (mZ_ok E), va_recv B.2.2.2.2.1 w.1 hc he, fun U hU hW => mc_pre (mZ_ok E) B.2.2.2.2.2.1 B.2.2.2.2.1 w.2.2 wc1.1 wc1.2.1 hF U hU hW⟩ rfl hn2 hsz hstack (lv_room hroom) hdg hf) w.1 w.2.1 w.2.2 isC isR hC hR hn hdis hF (fun v w' H1 locs1 h1 h2 h3 h4 => kk v w' H1 locs1 h1 ⟨h2, h3, h4⟩)
/-- an inherited method -/
theorem mx_callU (M : MX E l y2 bc2 mL2 rt2 rm (.ref b :: As) wc post2) (B : mB E y bc mL rt mc ms post p s m args below meth c A Q) (w : mW E A s ws H locs)
    (isC isR : List Nat) (hC : isC.map (fun i => ws[i]?) = wc.map some) (hR : isR.map (fun i => ws[i]?) = wr.map some) (hnC : va_nd isC = true) (hn : va_nd isR = true) (hdis : ∀ i ∈ isR, i ∉ isC)
    (q0 : Nat) {C : String} {TT : u_T} {N ci : Nat} {fs : List Value} (hc : CL[ci]? = some (C, TT, N)) (he : ws[q0]? = some (b, .inr (ci, fs)))
    (hw : Cond.code y2 bc2 mL2 rt2 ∈ TB ∧ Cond.sameMethod y2.cls y2.cls y2.name y2.desc ∈ TB ∧ Cond.selects C y2 y2 ∈ TB ∧ Cond.instanceMethod y2 ∈ TB ∧ Cond.initialized y2.cls ∈ TB) (hlk : Cond.methodLink y.cls index y2 ∈ TB) (n : Nat)
    (hd : y2.cls ≠ "java/lang/invoke/MethodHandle" ∧ y2.cls ≠ "java/lang/invoke/VarHandle" ∧ (parseMethodDescriptor y2.desc).map (fun d => d.parameters.length) = some n) (hR2 : rm.frames + 1 ≤ R.frames ∧ 8 + (mL2 + 11) + rm.locals ≤ R.locals)
    (hn2 : As.length = n) (hsz : ls.size = mL) (hstack : st0 = As.reverse ++ .ref b :: rest) (hroom : (rest.map fun v => v.category).sum ≤ 8) (hdg : decode bc pc = .ok (.invokevirtual index, 3)) {cells2 slots2 : Nat} (hc2 : cells + rm.cells = cells2) (hs2 : slots + rm.slots = slots2) (hf : cells2 ≤ R.cells ∧ slots2 ≤ R.slots)
    (kk : ∀ (v : Option Value) (w' : va_W) (H1 : Heap) (locs1 : List Loc), post2 v w' → mW E A s (wr ++ w') H1 locs1 → W p l e R s m args below meth c H1 locs1 cells2 slots2 Q (F0 m (pc + 3) ls (v.toList ++ rest))) : W p l e R s m args below meth c H locs cells slots Q (F0 m pc ls st0) := by
  have hts := B.1.2.2.2.2
  have hF := va_free (wc := wc) w.2.1 w.2.2 B.2.2.2.1 isC hC
  have wc1 : mW E A s wc H locs := w.sub isC hnC hC
  have hG0 : GoodIn TB (.code y2 bc2 mL2 rt2 :: TB) := tb_good (fun _ h => h) hw.1
  have hG : GoodIn TB (va_wsU y.cls index C y2.cls y2 y2 (.code y2 bc2 mL2 rt2 :: TB)) := by
    intro w hw2
    unfold va_wsU at hw2
    rcases List.mem_append.mp hw2 with h | h
    · have : w ∈ TB := by
        simp only [List.mem_cons, List.not_mem_nil, or_false] at h
        rcases h with rfl | rfl | rfl | rfl | rfl
        · exact hlk
        · exact hw.2.1
        · exact hw.2.2.1
        · exact hw.2.2.2.1
        · exact hw.2.2.2.2
      exact ⟨this, good_of_word (List.mem_filter.mp this).2⟩
    · exact hG0 w h
  subst hc2
  subst hs2
  exact mc_after (D := mD E) (g := F0 m pc ls st0) (av := .ref b :: As) (va_runU (As := As) (rest := rest) (C := C) B.1 (M H.size) (va_cwU n hts hG rfl rfl rfl rfl hd hR2) ⟨mc_blind (mZ_ok E), va_recv B.2.2.2.2.1 w.1 hc he, fun U hU hW => mc_pre (mZ_ok E) B.2.2.2.2.2.1 B.2.2.2.2.1 w.2.2 wc1.1 wc1.2.1 hF U hU hW⟩ rfl hn2 hsz hstack (lv_room hroom) hdg hf) w.1 w.2.1 w.2.2 isC isR hC hR hn hdis hF (fun v w' H1 locs1 h1 h2 h3 h4 => kk v w' H1 locs1 h1 ⟨h2, h3, h4⟩)
/-- super's method on this -/
theorem mx_callSU (M : MX E l y2 bc2 mL2 rt2 rm (.ref b :: As) wc post2) (B : mB E y bc mL rt mc ms post p s m args below meth c A Q) (w : mW E A s ws H locs)
    (isC isR : List Nat) (hC : isC.map (fun i => ws[i]?) = wc.map some) (hR : isR.map (fun i => ws[i]?) = wr.map some) (hnC : va_nd isC = true) (hn : va_nd isR = true) (hdis : ∀ i ∈ isR, i ∉ isC)
    (q0 : Nat) {C : String} {TT : u_T} {N ci : Nat} {fs : List Value} (hc : CL[ci]? = some (C, TT, N)) (he : ws[q0]? = some (b, .inr (ci, fs)))
    (hw : Cond.code y2 bc2 mL2 rt2 ∈ TB ∧ Cond.sameMethod y2.cls y2.cls y2.name y2.desc ∈ TB ∧ Cond.superclass y.cls y2.cls ∈ TB ∧ Cond.instanceMethod y2 ∈ TB ∧ Cond.initialized y2.cls ∈ TB) (hlk : Cond.methodLink y.cls index y2 ∈ TB) (n : Nat)
    (hd : y2.name ≠ "<init>" ∧ (parseMethodDescriptor y2.desc).map (fun d => d.parameters.length) = some n) (hR2 : rm.frames + 1 ≤ R.frames ∧ 8 + (mL2 + 11) + rm.locals ≤ R.locals)
    (hn2 : As.length = n) (hsz : ls.size = mL) (hstack : st0 = As.reverse ++ .ref b :: rest) (hroom : (rest.map fun v => v.category).sum ≤ 8) (hdg : decode bc pc = .ok (.invokespecial index, 3)) {cells2 slots2 : Nat} (hc2 : cells + rm.cells = cells2) (hs2 : slots + rm.slots = slots2) (hf : cells2 ≤ R.cells ∧ slots2 ≤ R.slots)
    (kk : ∀ (v : Option Value) (w' : va_W) (H1 : Heap) (locs1 : List Loc), post2 v w' → mW E A s (wr ++ w') H1 locs1 → W p l e R s m args below meth c H1 locs1 cells2 slots2 Q (F0 m (pc + 3) ls (v.toList ++ rest))) : W p l e R s m args below meth c H locs cells slots Q (F0 m pc ls st0) := by
  have hts := B.1.2.2.2.2
  have hF := va_free (wc := wc) w.2.1 w.2.2 B.2.2.2.1 isC hC
  have wc1 : mW E A s wc H locs := w.sub isC hnC hC
  have hG0 : GoodIn TB (.code y2 bc2 mL2 rt2 :: TB) := tb_good (fun _ h => h) hw.1
  have hG : GoodIn TB (va_wsSU y.cls index y2 (.code y2 bc2 mL2 rt2 :: TB)) := by
    intro w hw2
    unfold va_wsSU at hw2
    rcases List.mem_append.mp hw2 with h | h
    · have : w ∈ TB := by
        simp only [List.mem_cons, List.not_mem_nil, or_false] at h
        rcases h with rfl | rfl | rfl | rfl | rfl
        · exact hlk
        · exact hw.2.1
        · exact hw.2.2.1
        · exact hw.2.2.2.1
        · exact hw.2.2.2.2
      exact ⟨this, good_of_word (List.mem_filter.mp this).2⟩
    · exact hG0 w h
  subst hc2
  subst hs2
  exact mc_after (D := mD E) (g := F0 m pc ls st0) (av := .ref b :: As) (va_runSU (As := As) (rest := rest) (C := C) (B.2.2.2.2.1.1 ci _ hc).2 B.1 (M H.size) (va_cwSU n hts hG rfl rfl rfl hd hR2) ⟨mc_blind (mZ_ok E), va_recv B.2.2.2.2.1 w.1 hc he, fun U hU hW => mc_pre (mZ_ok E) B.2.2.2.2.2.1 B.2.2.2.2.1 w.2.2 wc1.1 wc1.2.1 hF U hU hW⟩ rfl hn2 hsz hstack (lv_room hroom) hdg hf) w.1 w.2.1 w.2.2 isC isR hC hR hn hdis hF (fun v w' H1 locs1 h1 h2 h3 h4 => kk v w' H1 locs1 h1 ⟨h2, h3, h4⟩)
/-- a method of String on a constant: nothing of the world is its own, or what isC says -/
theorem mx_callK (i : Nat) (hi : i < 5) (M : MX E l y2 bc2 mL2 rt2 rm (.ref (E.2.2.2 (10 + i)) :: As) wc post2) (B : mB E y bc mL rt mc ms post p s m args below meth c A Q) (w : mW E A s ws H locs)
    (isC isR : List Nat) (hC : isC.map (fun i => ws[i]?) = wc.map some) (hR : isR.map (fun i => ws[i]?) = wr.map some) (hnC : va_nd isC = true) (hn : va_nd isR = true) (hdis : ∀ i ∈ isR, i ∉ isC)
    (hw : Cond.code y2 bc2 mL2 rt2 ∈ TB ∧ Cond.instanceMethod y2 ∈ TB ∧ Cond.selects "java/lang/String" y2 y2 ∈ TB ∧ Cond.initialized "java/lang/String" ∈ TB) (hlk : Cond.methodLink y.cls index y2 ∈ TB) (n : Nat)
    (hd : y2.cls = "java/lang/String" ∧ y2.cls ≠ "java/lang/invoke/MethodHandle" ∧ y2.cls ≠ "java/lang/invoke/VarHandle" ∧ (parseMethodDescriptor y2.desc).map (fun d => d.parameters.length) = some n) (hR2 : rm.frames + 1 ≤ R.frames ∧ 8 + (mL2 + 11) + rm.locals ≤ R.locals)
    (hn2 : As.length = n) (hsz : ls.size = mL) (hstack : st0 = As.reverse ++ .ref (E.2.2.2 (10 + i)) :: rest) (hroom : (rest.map fun v => v.category).sum ≤ 8) (hdg : decode bc pc = .ok (.invokevirtual index, 3)) (hcz : rm.cells = 0) (hsl : rm.slots = 0) (hf : cells ≤ R.cells ∧ slots ≤ R.slots)
    (kk : ∀ (v : Option Value) (w' : va_W) (H1 : Heap) (locs1 : List Loc), post2 v w' → mW E A s (wr ++ w') H1 locs1 → W p l e R s m args below meth c H1 locs1 cells slots Q (F0 m (pc + 3) ls (v.toList ++ rest))) : W p l e R s m args below meth c H locs cells slots Q (F0 m pc ls st0) := by
  have hts := B.1.2.2.2.2
  have hF := va_free (wc := wc) w.2.1 w.2.2 B.2.2.2.1 isC hC
  have wc1 : mW E A s wc H locs := w.sub isC hnC hC
  have hG : GoodIn TB (wsV y.cls index "java/lang/String" y2 (.code y2 bc2 mL2 rt2 :: TB)) := by
    intro w hw2
    unfold wsV at hw2
    rcases List.mem_append.mp hw2 with h | h
    · have : w ∈ TB := by
        simp only [List.mem_cons, List.not_mem_nil, or_false] at h
        rcases h with rfl | rfl | rfl | rfl
        · exact hlk
        · exact hw.2.1
        · exact hw.2.2.1
        · exact hw.2.2.2
      exact ⟨this, good_of_word (List.mem_filter.mp this).2⟩
    · exact tb_good (fun _ h => h) hw.1 w h
  refine mc_after (D := mD E) (g := F0 m pc ls st0) (av := .ref (E.2.2.2 (10 + i)) :: As) (va_runV (As := As) (rest := rest) B.1 (M H.size) (cwV n hts hG rfl rfl rfl hd hR2) ⟨mc_blind (mZ_ok E), vk_recv B.2.2.2.2.2.1.2.2.2.2.2.2.2.2.1 hi w.2.2, fun U hU hW => mc_pre (mZ_ok E) B.2.2.2.2.2.1 B.2.2.2.2.1 w.2.2 wc1.1 wc1.2.1 hF U hU hW⟩ rfl hn2 hsz hstack (lv_room hroom) hdg (by rw [hcz, hsl]; exact hf)) w.1 w.2.1 w.2.2 isC isR hC hR hn hdis hF (fun v w' H1 locs1 h1 h2 h3 h4 => ?_)
  rw [hcz, hsl]
  exact kk v w' H1 locs1 h1 ⟨h2, h3, h4⟩
end MTX
section TXL
variable {p : Program} {l : Launch} {e : Env} {R : Room} {s : State} {m : MethodId} {args : Array Value} {below : List Frame} {meth : Method} {c : Code} {H : Heap} {locs : List Loc} {cells slots : Nat} {Q : State → Prop}
variable {cc : ByteArray} {pc : Nat} {ls : Array Slot} {rest : List Value}
theorem tx_ldcwS (hexec : p.tables.exec = Jvm.exec) (hb : c.code = cc) {own tx : String} {index q : Nat} (hown : s.vm.findClass own = some m.cls) (hZ : vk_R own index tx q s) (hdg : decode cc pc = .ok (.ldc_w index, 3))
    (k : W p l e R s m args below meth c H locs cells slots Q (F0 m (pc + 3) ls (.ref q :: rest))) : W p l e R s m args below meth c H locs cells slots Q (F0 m pc ls rest) := by
  intro T hT X
  obtain ⟨t, a1, b1⟩ := k T hT X
  obtain ⟨kk, cf, i, a', hk, hcf, hcp, -, hr, hev'⟩ := Cond.stringRef_spec hown hZ.1
  cases hZ.2.symm.trans hev'
  obtain ⟨k', hk', he⟩ := X.warmed.alike.2.2 _ _ hk
  have hr' : k'.resolved[index]? = some (some (.string q)) := by
    rcases X.warmed.entry hk hk' index with h | ⟨h, -⟩
    · rw [h]; exact hr
    · rw [hr] at h; cases h
  refine ⟨t, ?_, b1⟩
  have hdg' : decode c.code (F0 m pc ls rest).pc = .ok (.ldc_w index, 3) := by rw [hb]; exact hdg
  jvm_step X.here [hexec, hdg', ldc_w.wp_string (e := e) (s := T) (f := F0 m pc ls rest) X.here.top hk' (by rw [he]; exact hcf) hcp hr']
  exact a1
end TXL
theorem mx_alenb {E : mE} {p : Program} {l : Launch} {e : Env} {R : Room} {s : State} {m : MethodId} {args : Array Value} {below : List Frame} {meth : Method} {c : Code} {H : Heap} {locs : List Loc} {cells slots mc ms : Nat} {Q : State → Prop} {pc : Nat} {ls : Array Slot} {rest : List Value} {A : Nat → Prop} {ws : va_W} {y : MethodName} {bc : ByteArray} {mL : Nat} {rt : Option FieldType} {post : Option Value → va_W → Prop} {a : Nat} (B : mB E y bc mL rt mc ms post p s m args below meth c A Q) (w : mW E A s ws H locs) (q0 : Nat) {n : Nat} {f : Nat → Int32} (he : ws[q0]? = some (a, .inl (E.2.2.1, n, .inl f))) (hdg : decode bc pc = .ok (.arraylength, 1))
    (kk : W p l e R s m args below meth c H locs cells slots Q (F0 m (pc + 1) ls (.int (nI n) :: rest))) : W p l e R s m args below meth c H locs cells slots Q (F0 m pc ls (.ref a :: rest)) :=
  va_alen (D := (mD E).1) (cl := (mD E).2.1) (tys := (mD E).2.2) B.1.1 B.1.2.1 B.2.2.2.2.1 w.1 q0 1 he rfl rfl hdg kk
