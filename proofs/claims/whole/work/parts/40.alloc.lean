/-! ===== making objects and arrays; constructors ===== -/
section MAL
variable {E : mE} {p : Program} {l : Launch} {e : Env} {R : Room} {s : State} {m : MethodId} {args : Array Value} {below : List Frame} {meth : Method} {c : Code} {H : Heap} {locs : List Loc} {cells slots mc ms : Nat} {Q : State → Prop} {pc : Nat} {ls : Array Slot} {rest st0 : List Value} {A : Nat → Prop} {ws wc wr : va_W} {y y2 : MethodName} {bc bc2 : ByteArray} {mL mL2 index : Nat} {rt rt2 : Option FieldType} {rm : Room} {post post2 : Option Value → va_W → Prop} {As av : List Value} {a b : Nat}
theorem mx_new (B : mB E y bc mL rt mc ms post p s m args below meth c A Q) (w : mW E A s ws H locs) {ci N : Nat} {C : String} {T : u_T} (hc : CL[ci]? = some (C, T, N)) (hin : ∀ w ∈ u_ws C T N, w ∈ TB) (ty : Nat → FieldType) (hty : ∀ k, k < N → parseFieldDescriptor (T k).2.2.1 = some (ty k)) (hcl : Cond.classLink y.cls index C ∈ TB) (hinst : Cond.instantiable C N ∈ TB) (hini : Cond.initialized C ∈ TB) {fs : List Value} (hfs : ∀ j, j < N → defaultValue (ty j) = vp_V fs j) (hcells : cells + 1 ≤ R.cells) (hslots : slots + N ≤ R.slots) (hdg : decode bc pc = .ok (.new index, 3))
    (kk : ∀ (q : Nat) (H1 : Heap), mW E A s (ws ++ [(q, .inr (ci, fs))]) H1 locs → W p l e R s m args below meth c H1 locs (cells + 1) (slots + N) Q (F0 m (pc + 3) ls (.ref q :: rest))) : W p l e R s m args below meth c H locs cells slots Q (F0 m pc ls rest) :=
  va_new (D := (mD E).1) (cl := (mD E).2.1) (tys := (mD E).2.2) (Ts := TB) B.1.1 B.1.2.1 B.1.2.2.2.2 hin ty hty B.1.2.2.2.1 (B.1.2.2.2.2 _ hcl) (B.1.2.2.2.2 _ hinst) (B.1.2.2.2.2 _ hini) B.2.2.2.2.1 w.1 w.2.1 w.2.2 B.2.2.2.1 hc hfs hcells hslots hdg (fun q H1 h1 h2 h3 => kk q H1 ⟨h1, h2, h3⟩)
theorem mx_newi (B : mB E y bc mL rt mc ms post p s m args below meth c A Q) (w : mW E A s ws H locs) (harr : Cond.arrayClass .int ∈ TB) {n : Int32} {N' : Nat} (hn : ¬ n < 0) (hN : n.toNatClampNeg = N') (hb : N' ≤ 100000) (hcells : cells + 1 ≤ R.cells) (hslots : slots + N' ≤ R.slots) (hdg : decode bc pc = .ok (.newarray .int, 2))
    (kk : ∀ (q : Nat) (H1 : Heap), mW E A s (ws ++ [(q, .inl (E.2.1, N', .inl (fun _ => 0)))]) H1 locs → W p l e R s m args below meth c H1 locs (cells + 1) (slots + N') Q (F0 m (pc + 2) ls (.ref q :: rest))) : W p l e R s m args below meth c H locs cells slots Q (F0 m pc ls (.int n :: rest)) := by
  refine va_newa (D := (mD E).1) (cl := (mD E).2.1) (tys := (mD E).2.2) (atype := .int) (ty := .int) (a0 := (N', .inl (fun _ => 0))) B.1.1 B.1.2.1 (B.1.2.2.2.2 _ harr) rfl B.2.2.2.2.1 w.1 w.2.1 w.2.2 B.2.2.2.1 (fun _ => rfl) hn hN (Nat.le_trans (Nat.mul_le_mul_right _ hb) (Nat.le_of_ble_eq_true rfl)) hcells hslots hdg (fun q cA H1 hK h1 h2 h3 => ?_)
  have e1 : s.vm.findClass ("[" ++ FieldType.int.toString) = some cA := (hK.2 2 _ rfl).2
  have e2 : s.vm.findClass ("[" ++ FieldType.int.toString) = some E.2.1 := (hK.2 0 _ rfl).2
  have e3 : cA = E.2.1 := Option.some.inj (e1.symm.trans e2)
  subst e3
  exact kk q H1 ⟨h1, h2, h3⟩
theorem mx_newb (B : mB E y bc mL rt mc ms post p s m args below meth c A Q) (w : mW E A s ws H locs) (harr : Cond.arrayClass .byte ∈ TB) {n : Int32} {N' : Nat} (hn : ¬ n < 0) (hN : n.toNatClampNeg = N') (hb : N' ≤ 100000) (hcells : cells + 1 ≤ R.cells) (hslots : slots + N' ≤ R.slots) (hdg : decode bc pc = .ok (.newarray .byte, 2))
    (kk : ∀ (q : Nat) (H1 : Heap), mW E A s (ws ++ [(q, .inl (E.2.2.1, N', .inl (fun _ => 0)))]) H1 locs → W p l e R s m args below meth c H1 locs (cells + 1) (slots + N') Q (F0 m (pc + 2) ls (.ref q :: rest))) : W p l e R s m args below meth c H locs cells slots Q (F0 m pc ls (.int n :: rest)) := by
  refine va_newa (D := (mD E).1) (cl := (mD E).2.1) (tys := (mD E).2.2) (atype := .byte) (ty := .byte) (a0 := (N', .inl (fun _ => 0))) B.1.1 B.1.2.1 (B.1.2.2.2.2 _ harr) rfl B.2.2.2.2.1 w.1 w.2.1 w.2.2 B.2.2.2.1 (fun _ => rfl) hn hN (Nat.le_trans (Nat.mul_le_mul_right _ hb) (Nat.le_of_ble_eq_true rfl)) hcells hslots hdg (fun q cA H1 hK h1 h2 h3 => ?_)
  have e1 : s.vm.findClass ("[" ++ FieldType.byte.toString) = some cA := (hK.2 2 _ rfl).2
  have e2 : s.vm.findClass ("[" ++ FieldType.byte.toString) = some E.2.2.1 := (hK.2 1 _ rfl).2
  have e3 : cA = E.2.2.1 := Option.some.inj (e1.symm.trans e2)
  subst e3
  exact kk q H1 ⟨h1, h2, h3⟩
def mFf (own : String) (ci k : Nat) (fin : Bool) (ty : FieldType) : Prop := ∀ (C : String) (T : u_T) (N : Nat), CL[ci]? = some (C, T, N) → (T k).2.2.2 = fin ∧ parseFieldDescriptor (T k).2.2.1 = some ty ∧ (T k).1 = own
theorem mx_putF (B : mB E y bc mL rt mc ms post p s m args below meth c A Q) (w : mW E A s ws H locs) (q0 : Nat) {ci k : Nat} {fs : List Value} {x : Value} {ty : FieldType} (hF : mF y.cls index ci k) (hFi : mFf y.cls ci k true ty) (hy : y.name = "<init>") (he : ws[q0]? = some (a, .inr (ci, fs))) (hl : k < fs.length) (hn : narrow ty x = x) (hfit : fits ty x = true) (hdg : decode bc pc = .ok (.putfield index, 3))
    (kk : ∀ (H1 : Heap) (locs1 : List Loc), mW E A s (ws.set q0 (a, .inr (ci, fs.set k x))) H1 locs1 → W p l e R s m args below meth c H1 locs1 cells slots Q (F0 m (pc + 3) ls rest)) : W p l e R s m args below meth c H locs cells slots Q (F0 m pc ls (x :: .ref a :: rest)) := by
  obtain ⟨C, T, N, ty', hc, hk, hin, hlk, hty, hnm⟩ := hF
  obtain ⟨hfin, hpar, hown⟩ := hFi C T N hc
  exact va_putF (D := (mD E).1) (cl := (mD E).2.1) (tys := (mD E).2.2) (Ts := TB) (ty := ty) B.1.1 B.1.2.1 B.1.2.2.2.2 hin ty' hty hnm B.1.2.2.2.1 B.2.2.2.2.1 w.1 w.2.1 w.2.2 q0 he hc k hk (B.1.2.2.2.2 _ hlk) (fun _ h => h) hfin (B.2.2.2.2.2.2.1 hy) hown hpar hn hfit hl hdg (fun H1 locs1 h1 h2 h3 => kk H1 locs1 ⟨h1, h2, h3⟩)
theorem mx_putv (B : mB E y bc mL rt mc ms post p s m args below meth c A Q) (w : mW E A s ws H locs) (q0 : Nat) {ci k : Nat} {fs : List Value} {x : Value} {ty : FieldType} (hF : mF y.cls index ci k) (hFi : mFf y.cls ci k false ty) (he : ws[q0]? = some (a, .inr (ci, fs))) (hl : k < fs.length) (hn : narrow ty x = x) (hfit : fits ty x = true) (hdg : decode bc pc = .ok (.putfield index, 3))
    (kk : ∀ (H1 : Heap) (locs1 : List Loc), mW E A s (ws.set q0 (a, .inr (ci, fs.set k x))) H1 locs1 → W p l e R s m args below meth c H1 locs1 cells slots Q (F0 m (pc + 3) ls rest)) : W p l e R s m args below meth c H locs cells slots Q (F0 m pc ls (x :: .ref a :: rest)) := by
  obtain ⟨C, T, N, ty', hc, hk, hin, hlk, hty, hnm⟩ := hF
  obtain ⟨hfin, hpar, hown⟩ := hFi C T N hc
  exact va_put (D := (mD E).1) (cl := (mD E).2.1) (tys := (mD E).2.2) (Ts := TB) (ty := ty) B.1.1 B.1.2.1 B.1.2.2.2.2 hin ty' hty hnm B.1.2.2.2.1 B.2.2.2.2.1 w.1 w.2.1 w.2.2 q0 he hc k hk (B.1.2.2.2.2 _ hlk) (fun _ h => h) hfin hpar hn hfit hl hdg (fun H1 locs1 h1 h2 h3 => kk H1 locs1 ⟨h1, h2, h3⟩)
theorem mx_callI (M : MX E l y2 bc2 mL2 none rm (.ref b :: As) wc post2) (B : mB E y bc mL rt mc ms post p s m args below meth c A Q) (w : mW E A s ws H locs)
    (isC isR : List Nat) (hC : isC.map (fun i => ws[i]?) = wc.map some) (hR : isR.map (fun i => ws[i]?) = wr.map some) (hnC : va_nd isC = true) (hn : va_nd isR = true) (hdis : ∀ i ∈ isR, i ∉ isC)
    (hw : Cond.code y2 bc2 mL2 none ∈ TB ∧ Cond.instanceMethod y2 ∈ TB ∧ Cond.initialized y2.cls ∈ TB) (hlk : Cond.methodLink y.cls index y2 ∈ TB) (n : Nat) (hy : y2.name = "<init>")
    (hd : y2.cls ≠ "java/lang/invoke/MethodHandle" ∧ y2.cls ≠ "java/lang/invoke/VarHandle" ∧ (parseMethodDescriptor y2.desc).map (fun d => d.parameters.length) = some n) (hR2 : rm.frames + 1 ≤ R.frames ∧ 8 + (mL2 + 11) + rm.locals ≤ R.locals)
    (hn2 : As.length = n) (hsz : ls.size = mL) (hstack : st0 = As.reverse ++ .ref b :: rest) (hroom : (rest.map fun v => v.category).sum ≤ 8) (hdg : decode bc pc = .ok (.invokespecial index, 3)) {cells2 slots2 : Nat} (hc2 : cells + rm.cells = cells2) (hs2 : slots + rm.slots = slots2) (hf : cells2 ≤ R.cells ∧ slots2 ≤ R.slots)
    (kk : ∀ (v : Option Value) (w' : va_W) (H1 : Heap) (locs1 : List Loc), post2 v w' → mW E A s (wr ++ w') H1 locs1 → W p l e R s m args below meth c H1 locs1 cells2 slots2 Q (F0 m (pc + 3) ls (v.toList ++ rest))) : W p l e R s m args below meth c H locs cells slots Q (F0 m pc ls st0) := by
  have hts := B.1.2.2.2.2
  have hF := va_free (wc := wc) w.2.1 w.2.2 B.2.2.2.1 isC hC
  have wc1 : mW E A s wc H locs := w.sub isC hnC hC
  have hG : GoodIn TB (.code y2 bc2 mL2 none :: TB) := tb_good (fun _ h => h) hw.1
  subst hc2
  subst hs2
  refine mc_after (D := mD E) (g := F0 m pc ls st0) (av := .ref b :: As) (va_runI (As := As) (rest := rest) B.1 (M H.size) ⟨callB_of n hts hG rfl rfl rfl (hts _ hw.2.2) (hts _ hlk) hd hR2, hy, hts _ hw.2.1⟩ ⟨mc_blind (mZ_ok E), fun U hU hW => mc_pre (mZ_ok E) B.2.2.2.2.2.1 B.2.2.2.2.1 w.2.2 wc1.1 wc1.2.1 hF U hU hW⟩ rfl hn2 hsz hstack (lv_room hroom) hdg hf) w.1 w.2.1 w.2.2 isC isR hC hR hn hdis hF (fun v w' H1 locs1 h1 h2 h3 h4 => kk v w' H1 locs1 h1 ⟨h2, h3, h4⟩)
theorem mx_obj (B : mB E y bc mL rt mc ms post p s m args below meth c A Q) (hlk : Cond.methodLink y.cls index Lib.objectInit ∈ TB) (hin : Cond.instanceMethod Lib.objectInit ∈ TB) (hco : Cond.code Lib.objectInit ⟨#[0xb1]⟩ 1 none ∈ TB) (hsz : ls.size = mL) (hdg : decode bc pc = .ok (.invokespecial index, 3)) (hfr : 1 ≤ R.frames) (hlo : (rest.map fun v => v.category).sum + 12 ≤ R.locals)
    (kk : W p l e R s m args below meth c H locs cells slots Q (F0 m (pc + 3) ls rest)) : W p l e R s m args below meth c H locs cells slots Q (F0 m pc ls (.ref a :: rest)) :=
  W.objInit B.1.1 B.1.2.1 B.1.2.2.2.1 (B.1.2.2.2.2 _ hlk) (B.1.2.2.2.2 _ hin) (B.1.2.2.2.2 _ hco) rfl (by rw [B.1.2.2.1]; exact hsz) rfl hdg hfr (by show 2 * 0 + _ + 12 ≤ _; omega) kk
end MAL
