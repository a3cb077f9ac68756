theorem kw_87 : Cond.classLink "FrequencyShelfLaw" 7 "FrequencyShelf" ∈ TB := tb_at 87 (by decide +kernel) (by decide +kernel)
theorem kw_91 : Cond.code yX11_init cX11_init 1 none ∈ TB := tb_at 91 (by decide +kernel) (by decide +kernel)
theorem kw_90 : Cond.instanceMethod yX11_init ∈ TB := tb_at 90 (by decide +kernel) (by decide +kernel)
theorem kw_89 : Cond.methodLink "FrequencyShelfLaw" 9 yX11_init ∈ TB := tb_at 89 (by decide +kernel) (by decide +kernel)
theorem kw_1221 : Cond.classLink "FrequencyShelfLaw" 10 "FrequencyShelfModel" ∈ TB := tb_at 1221 (by decide +kernel) (by decide +kernel)
theorem kw_1225 : Cond.code yX12_init cX12_init 1 none ∈ TB := tb_at 1225 (by decide +kernel) (by decide +kernel)
theorem kw_1224 : Cond.instanceMethod yX12_init ∈ TB := tb_at 1224 (by decide +kernel) (by decide +kernel)
theorem kw_1223 : Cond.methodLink "FrequencyShelfLaw" 12 yX12_init ∈ TB := tb_at 1223 (by decide +kernel) (by decide +kernel)
noncomputable def V00 : Nat → Nat → Int32 := va_up (fun _ _ => 0) 0 (upd (upd (upd (upd (upd (upd (upd (upd (fun _ => 0) 0 20) 1 16) 2 0) 3 0) 4 2) 5 0) 6 0) 7 0)
def g00 : Nat → Int32 := upd (upd (upd (fun _ => 0) 0 20) 1 16) 4 2
theorem g00_0 {p : Nat} (h : 5 ≤ p) : g00 p = 0 := by
  unfold g00 upd
  rw [if_neg (by omega), if_neg (by omega), if_neg (by omega)]
theorem gt00 {cnt off w : Nat} (h : 5 ≤ cnt) : GT g00 cnt off w [] := ⟨g00_0 h, fun i j hi => absurd hi (Nat.not_lt_zero _)⟩
theorem sq0 : SQ 0 [] (fun _ => []) V00 g00 := by
  refine ⟨P.mk 20 0 2 0 0 0 0, 0, ⟨⟨gt00 (by decide), Nat.zero_le _⟩, ⟨gt00 (by decide), Nat.zero_le _⟩, ⟨gt00 (by decide), Nat.zero_le _⟩, ⟨gt00 (by decide), Nat.zero_le _⟩, ⟨gt00 (by decide), Nat.zero_le _⟩, ⟨gt00 (by decide), Nat.zero_le _⟩, ⟨[], gt00 (by decide), rfl, Nat.zero_le _, fun i hi => absurd hi (Nat.not_lt_zero _)⟩, fun a ha => ⟨gt00 (by omega), Nat.zero_le _⟩, ⟨?_, g00_0 (by decide), g00_0 (by decide), g00_0 (by decide), g00_0 (by decide), 0, 16, by decide, by decide, by decide, g00_0 (by decide), rfl, rfl, rfl⟩, fun i hi => g00_0 (by omega), fun i hi => g00_0 (by omega), fun i hi => g00_0 (by omega)⟩, ⟨⟨rfl, by decide, rfl, by decide, rfl, by decide, rfl, by decide⟩, ⟨⟨fun r h => absurd h List.not_mem_nil, List.Pairwise.nil⟩, fun r h => absurd h List.not_mem_nil, fun r h => absurd h List.not_mem_nil, fun r h => absurd h List.not_mem_nil, fun r h => absurd h List.not_mem_nil⟩, ⟨List.Pairwise.nil, fun r h => absurd h List.not_mem_nil⟩, by decide, by decide, ⟨rfl, by decide, rfl, rfl⟩, fun i hi => ⟨0, by decide, rfl⟩, ⟨⟨fun r h => absurd h List.not_mem_nil, fun i hi => absurd hi (Nat.not_lt_zero _), List.Pairwise.nil⟩, fun r h => absurd h List.not_mem_nil, List.Pairwise.nil, ⟨fun _ => 0, fun i hi => absurd hi (Nat.not_lt_zero _), fun i j _ hi => absurd hi (Nat.not_lt_zero _)⟩, fun r h => absurd h List.not_mem_nil, fun r h => absurd h List.not_mem_nil⟩⟩, ⟨by decide, by decide, by decide, by decide⟩, by decide⟩
  intro i hi
  rcases (show i = 0 ∨ i = 1 ∨ i = 2 ∨ i = 3 ∨ i = 4 ∨ i = 5 ∨ i = 6 ∨ i = 7 by omega) with rfl | rfl | rfl | rfl | rfl | rfl | rfl | rfl <;> rfl
theorem tr0 : TR [] (fun _ => 0) 0 (fun _ => 0) 0 := ⟨by decide, rfl, rfl, fun i hi => absurd hi (Nat.not_lt_zero _)⟩
set_option maxHeartbeats 4000000 in
theorem whole_start {p : Program} {e : Env} {s : State} {m : MethodId} {below : List Frame} {meth : Method} {c : Code} (l : Launch) (hflags : l.flags = flags0) {b L : Nat} {xs : Nat → Int32} (hL : L ≤ 2048) (C0 : lw_At p s m meth c b L xs) : W p l e room_1 s m #[Value.ref b] below meth c s.heap [] 0 0 (lw_Z below #[Value.ref b] s) (entryFrame m ([Value.ref b] : List Value).toArray 4) := by
  obtain ⟨hx_, hb, hr, hml, hown, hts, hX, hbl, hlocks, hgv⟩ := id C0
  obtain ⟨E, hK, hZ⟩ := lw_world hts hgv
  have F : LF E p s m c b (fun q : Nat => s.heap.size ≤ q) := ⟨⟨hx_, hb, hml, hown, fun w hw => hts w (List.mem_filter.mp hw).1⟩, fun _ h => h, hK, hZ⟩
  have w : mW E (fun q : Nat => s.heap.size ≤ q) s [] s.heap [] := ⟨fun k q h => by simp at h, ⟨fun i j p q h => by simp at h, fun k q h => by simp at h⟩, va_S.rf⟩
  have hl := lv_entry ([.ref b]) (n := 4) (Nat.le_of_ble_eq_true rfl)
  rw [lg_entry_eq]
  generalize (lg_sl ([.ref b]) ++ List.replicate (4 - (lg_sl ([.ref b])).length) Slot.unset).toArray = ls at hl ⊢
  have hl : lv_has ls 4 [(0, .ref b)] := hl
  refine lw_new (fs := [.null, .null, .null, .null, .null, .null, .null, .null, .null]) F w (ci := 10) (C := RX11) (T := TX11) (N := 9) rfl in_X11 tyX11 tyX11_ok kw_87 kw_88 kw_63 (fun j hj => by rcases (show j = 0 ∨ j = 1 ∨ j = 2 ∨ j = 3 ∨ j = 4 ∨ j = 5 ∨ j = 6 ∨ j = 7 ∨ j = 8 by omega) with rfl | rfl | rfl | rfl | rfl | rfl | rfl | rfl | rfl <;> rfl) (by decide) (by decide) dL_law_0 (fun hx H w => ?_)
  have w : mW E _ s [(hx, .inr (10, [.null, .null, .null, .null, .null, .null, .null, .null, .null]))] H [] := w
  refine lv_dup hx_ hb dL_law_3 rfl ?_
  refine lw_init (As := []) (rest := [.ref hx]) (wr := []) (c_X11_init E l hx) F w (List.Perm.refl _) ⟨kw_91, kw_90, kw_63⟩ kw_89 0 rfl (by decide +kernel) ⟨by decide, by decide⟩ rfl hl.1 rfl (Nat.le_of_ble_eq_true rfl) dL_law_4 ⟨by decide, by decide⟩ (fun v w' H locs hpo w => ?_)
  obtain ⟨rfl, xq1, xq2, xq3, xq4, xq5, xq6, xq7, xq8, xq9, xq10, xq11, xq12, xq13, xq14, xq15, xq16, xq17, xq18, xq19, xq20, xq21, xq22, xq23, xq24, xq25, xq26, xq27, xq28, xq29, xq30, xq31, xq32, xq33, xq34, xq35, xq36, xq37, rfl⟩ := hpo
  refine lv_astore_n (lv' := [(1, .ref hx), (0, .ref b)]) hx_ hb dL_law_7 rfl hl (by decide) rfl (fun ls hl => ?_)
  have ew : [(hx, .inr (10, [.ref xq1, .ref xq3, .ref xq5, .ref xq8, .ref xq9, .ref xq11, .ref xq22, .ref xq31, .null])), (xq1, .inr (9, [.ref xq2, .int 0])), (xq2, .inl (E.2.1, 60, .inl (fun _ => 0))), (xq3, .inr (8, [.int (nI 30), .int (nI 1), .ref xq4, .int 0])), (xq4, .inl (E.2.1, (30 * 1), .inl (fun _ => 0))), (xq5, .inr (3, [.ref xq6])), (xq6, .inr (8, [.int (nI 12), .int (nI 3), .ref xq7, .int 0])), (xq7, .inl (E.2.1, (12 * 3), .inl (fun _ => 0))), (xq9, .inr (4, [.ref xq10, .int 0])), (xq10, .inl (E.2.1, 8, .inl (upd (upd (upd (upd (upd (upd (upd (upd (fun _ => 0) 0 20) 1 16) 2 0) 3 0) 4 2) 5 0) 6 0) 7 0))), (xq11, .inr (1, [.ref xq9, .ref xq12, .ref xq14, .ref xq16, .ref xq18, .ref xq20, .ref xq21])), (xq12, .inr (8, [.int (nI 40), .int (nI 3), .ref xq13, .int 0])), (xq13, .inl (E.2.1, (40 * 3), .inl (fun _ => 0))), (xq14, .inr (8, [.int (nI 60), .int (nI 1), .ref xq15, .int 0])), (xq15, .inl (E.2.1, (60 * 1), .inl (fun _ => 0))), (xq16, .inr (8, [.int (nI 40), .int (nI 2), .ref xq17, .int 0])), (xq17, .inl (E.2.1, (40 * 2), .inl (fun _ => 0))), (xq18, .inr (8, [.int (nI 60), .int (nI 1), .ref xq19, .int 0])), (xq19, .inl (E.2.1, (60 * 1), .inl (fun _ => 0))), (xq20, .inl (E.2.1, 14, .inl (fun _ => 0))), (xq21, .inl (E.2.1, 64, .inl (fun _ => 0))), (xq22, .inr (5, [.ref xq9, .ref xq11, .ref xq23, .ref xq26, .ref xq29, .int 0, .int 0, .int 0, .int 0])), (xq23, .inr (0, [.ref xq9, .ref xq24])), (xq24, .inr (8, [.int (nI 200), .int (nI 9), .ref xq25, .int 0])), (xq25, .inl (E.2.1, (200 * 9), .inl (fun _ => 0))), (xq26, .inr (0, [.ref xq9, .ref xq27])), (xq27, .inr (8, [.int (nI 20), .int (nI 9), .ref xq28, .int 0])), (xq28, .inl (E.2.1, (20 * 9), .inl (fun _ => 0))), (xq29, .inr (6, [.ref xq30])), (xq30, .inl (E.2.1, 64, .inl (fun _ => 0))), (xq31, .inr (2, [.ref xq9, .ref xq11, .ref xq32, .ref xq34, .ref xq36])), (xq32, .inr (8, [.int (nI 256), .int (nI 3), .ref xq33, .int 0])), (xq33, .inl (E.2.1, (256 * 3), .inl (fun _ => 0))), (xq34, .inr (8, [.int (nI 256), .int (nI 2), .ref xq35, .int 0])), (xq35, .inl (E.2.1, (256 * 2), .inl (fun _ => 0))), (xq36, .inr (8, [.int (nI 192), .int (nI 3), .ref xq37, .int 0])), (xq37, .inl (E.2.1, (192 * 3), .inl (fun _ => 0))), (xq8, .inr (7, [.ref xq9, .ref xq11, .ref xq22, .ref xq31]))] = xw E hx xq8 xq9 xq11 xq22 xq31 .null (fun k => ([xq1, xq2, xq3, xq4, xq5, xq6, xq7, xq10, xq12, xq13, xq14, xq15, xq16, xq17, xq18, xq19, xq20, xq21, xq23, xq24, xq25, xq26, xq27, xq28, xq29, xq30, xq32, xq33, xq34, xq35, xq36, xq37] : List Nat).getD k 0) (fun _ => 0) (fun _ _ => 0) (fun _ => 0) 0 [] [] (V00 0) (V00 4 0) [] [] [] [] (V00 1) (V00 2) [] [] (V00 3) (V00 4 1) (V00 4 2) (V00 4 3) (V00 4 4) [] [] [] ++ [(xq8, .inr (7, [.ref xq9, .ref xq11, .ref xq22, .ref xq31]))] := rfl
  have w := w
  rw [List.nil_append] at w
  rw [ew] at w
  generalize hW1 : xw E hx xq8 xq9 xq11 xq22 xq31 .null (fun k => ([xq1, xq2, xq3, xq4, xq5, xq6, xq7, xq10, xq12, xq13, xq14, xq15, xq16, xq17, xq18, xq19, xq20, xq21, xq23, xq24, xq25, xq26, xq27, xq28, xq29, xq30, xq32, xq33, xq34, xq35, xq36, xq37] : List Nat).getD k 0) (fun _ => 0) (fun _ _ => 0) (fun _ => 0) 0 [] [] (V00 0) (V00 4 0) [] [] [] [] (V00 1) (V00 2) [] [] (V00 3) (V00 4 1) (V00 4 2) (V00 4 3) (V00 4 4) [] [] [] = W1 at w
  clear ew
  refine lw_new (fs := [.null, .null, .int 0, .null, .int 0, .int 0, .null, .int 0, .null, .int 0, .null, .null, .null, .null]) F w (ci := 11) (C := RX12) (T := TX12) (N := 14) rfl in_X12 tyX12 tyX12_ok kw_1221 kw_1222 kw_75 (fun j hj => by rcases (show j = 0 ∨ j = 1 ∨ j = 2 ∨ j = 3 ∨ j = 4 ∨ j = 5 ∨ j = 6 ∨ j = 7 ∨ j = 8 ∨ j = 9 ∨ j = 10 ∨ j = 11 ∨ j = 12 ∨ j = 13 by omega) with rfl | rfl | rfl | rfl | rfl | rfl | rfl | rfl | rfl | rfl | rfl | rfl | rfl | rfl <;> rfl) (by decide) (by decide) dL_law_8 (fun hm H w => ?_)
  refine lv_dup hx_ hb dL_law_11 rfl ?_
  refine lw_init (As := []) (rest := [.ref hm]) (wc := [(hm, .inr (11, [.null, .null, .int 0, .null, .int 0, .int 0, .null, .int 0, .null, .int 0, .null, .null, .null, .null]))]) (c_X12_init E l hm) F w List.perm_append_comm ⟨kw_1225, kw_1224, kw_75⟩ kw_1223 0 rfl (by decide +kernel) ⟨by decide, by decide⟩ rfl hl.1 rfl (Nat.le_of_ble_eq_true rfl) dL_law_12 ⟨by decide, by decide⟩ (fun v w' H locs hpo w => ?_)
  obtain ⟨rfl, yq1, yq2, yq3, yq4, yq5, yq6, yq7, yq8, yq9, rfl⟩ := hpo
  refine lv_astore_n (lv' := [(2, .ref hm), (1, .ref hx), (0, .ref b)]) hx_ hb dL_law_15 rfl hl (by decide) rfl (fun ls hl => ?_)
  refine lv_iconst (v := 0) hx_ hb dL_law_16 (by decide) ?_
  refine lv_istore_n (lv' := [(3, .int 0), (2, .ref hm), (1, .ref hx), (0, .ref b)]) hx_ hb dL_law_17 rfl hl (by decide) rfl (fun ls hl => ?_)
  refine W.widen (k := 1000 + 180 * 0) (n := 60000 + 17000 * 0) (by decide) (by decide) ?_
  subst hW1
  exact law_loop hL C0 F rfl (textlaw E l) 513 0 rfl (Nat.zero_le _) _ _ _ H locs ls ⟨xq8, xq9, xq11, xq22, xq31, .null, (fun _ => 0), 0, ⟨fun _ => [], V00, g00, [], fun _ => 0, 0, fun _ => 0, 0, [], [], ⟨(fun k => ([xq1, xq2, xq3, xq4, xq5, xq6, xq7, xq10, xq12, xq13, xq14, xq15, xq16, xq17, xq18, xq19, xq20, xq21, xq23, xq24, xq25, xq26, xq27, xq28, xq29, xq30, xq32, xq33, xq34, xq35, xq36, xq37] : List Nat).getD k 0), fun _ => 0, fun _ _ => 0, ⟨tok0 (by unfold tb_dim; decide), tok0 (by unfold tb_dim; decide), tok0 (by unfold tb_dim; decide), tok0 (by unfold tb_dim; decide), tok0 (by unfold tb_dim; decide), tok0 (by unfold tb_dim; decide), tok0 (by unfold tb_dim; decide), tok0 (by unfold tb_dim; decide), tok0 (by unfold tb_dim; decide), tok0 (by unfold tb_dim; decide), tok0 (by unfold tb_dim; decide)⟩, rfl⟩, ⟨(fun k => ([yq1, yq2, yq3, yq4, yq5, yq6, yq7, yq8, yq9] : List Nat).getD k 0), fun _ _ => 0, fun _ => 0, rfl⟩, sq0, tr0⟩, Or.inl ⟨rfl, rfl, rfl⟩⟩ (w.perm (lz_p2 _ _ _)) (lv_sub hl [3, 2, 1, 0] rfl)
-- ===== YOUR PART ENDS =====
set_option maxHeartbeats 4000000 in
theorem lw_walk (l : Launch) (hflags : l.flags = flags0) (b : Addr) (xs : List Int32) : MetFree l x (headSpec (Jvm.Cond.code x code maxLocals ret :: tables_1) room_1) (lw_P b xs) (fun _ _ _ _ _ => True) lw_Q := by
  refine MetFree.of_bodyS (code := code) (maxLocals := maxLocals) (ret := ret) (by decide) ?_ ?_
  · intro args s m h hn
    obtain ⟨meth, c, h1, h2, h3, h4, h5, h6, -, -⟩ := Cond.code_spec hn (atoms_spec (ws := Jvm.Cond.code x code maxLocals ret :: tables_1) h _ List.mem_cons_self)
    exact ⟨meth, c, h1, h2, h3, h4, h5, h6⟩
  · intro p e s m args below meth c s₁ B hml0 hP _
    obtain ⟨rfl, hx, hbd, hgv⟩ := hP
    obtain ⟨scr, harrAt, hlist, hof, hsmall⟩ := hx
    obtain ⟨hcb, hkn, -, -⟩ := State.arrayAt?_spec harrAt
    have hown : s.vm.findClass R_law = some m.cls := findClass_of_methodNamed B.named
    have hts0 : ∀ c ∈ (Jvm.Cond.code x code maxLocals ret :: tables_1), c.before #[Value.ref b] s = true := atoms_spec (ws := Jvm.Cond.code x code maxLocals ret :: tables_1) B.pre
    have hts : ∀ w ∈ lw_tbl, w.before #[Value.ref b] s = true := k2_hts_sels lw_privs (fun w hw => hts0 w (List.mem_cons_of_mem _ hw)) lw_privs_ok
    have hml : c.maxLocals = 4 := B.maxLocals_eq (hts0 _ List.mem_cons_self)
    have X₀ : Stand p l e room_1 s m #[Value.ref b] below meth c s₁ [] 0 0 := Stand.of_body B
    have hh0 : s₁.heap = s.heap := by rw [B.state]; rfl
    have hsz : scr.slots.size = xs.length := by rw [← Array.length_toList, hlist, List.length_map]
    have hval : ∀ j : Nat, j < xs.length → scr.slots[j]? = some (.int (xs.getD j 0)) := fun j hj => by
      rw [← Array.getElem?_toList, hlist]
      simp [hj]
    have hbl : b < s.heap.size := (Array.getElem?_eq_some_iff.mp hcb).1
    have hX : va_X b xs.length (fun j => xs.getD j 0) s s.heap := ⟨scr, hcb, hof, hkn, hsz, hval⟩
    have K : W p l e room_1 s m #[Value.ref b] below meth c s₁.heap [] 0 0 (lw_Z below #[Value.ref b] s) (entryFrame m ([Value.ref b] : List Value).toArray 4) := by
      rw [hh0]
      exact whole_start l hflags hbd ⟨B.exec, B.bytes, B.returns, hml, hown, hts, hX, hbl, B.notSynchronized, hgv⟩
    obtain ⟨t, a1, o, b1, b2, b3⟩ := K s₁ rfl X₀
    exact ⟨t, o, a1, b1, b2, b3⟩
theorem lw_pre_spec {args : Array Value} {s : State} (h : (Jvm.Cond.and given_1 narrow_1).before args s = true) (hr : rest_1_c.before args s = true) : ∃ (b : Addr) (xs : List Int32), lw_P b xs args s := by
  have hs := flat_of_before _ h
  have hq := flat_of_before _ hr
  have hc : (Cond.count 1).before args s = true := hs _ (by decide +kernel)
  have harr : (Cond.arrayOf (.arg 0) .int).before args s = true := hs _ (by decide +kernel)
  have hle : (Cond.le (.length (.arg 0)) (.int 2048)).before args s = true := hs _ (by decide +kernel)
  have hlen : (Cond.isInt (.length (.arg 0))).before args s = true := hq _ (by decide +kernel)
  have hall : (Cond.all (.arg 0) (.isInt (.elem (.arg 0) (.index 0)))).before args s = true := hq _ (by decide +kernel)
  obtain ⟨b, xs, hb, hx⟩ := State.ints_of_pre rfl harr hlen hall
  have hsm : xs.length < 2 ^ 31 := hx.choose_spec.2.2.2
  have hev : (Term.length (.arg 0)).eval args s none [] s = some (.int xs.length.toInt32) := hx.length_eval hb
  have hv := Cond.le_ints hev (show (Term.int 2048).eval args s none [] s = some (.int 2048) from rfl)
  have hd : xs.length.toInt32 ≤ 2048 := by
    simpa [Cond.before, Cond.holds, hv] using hle
  have hN : xs.length ≤ 2048 := (Int32.ofNat_le_ofNat hsm (by decide)).mp (show Int32.ofNat xs.length ≤ Int32.ofNat 2048 from hd)
  exact ⟨b, xs, Cond.one_arg hc (show args[0]? = some (.ref b) from hb), hx, hN, h⟩
theorem lw_comes (l : Launch) (hflags : l.flags = flags0) : Comes l x (Jvm.Cond.code x code maxLocals ret :: tables_1) room_1 (fun tb e args s => Calls_1 tb e args s ∧ rest_1 tb e args s ∧ Pre_1 tb e args s)
    (fun _ _ args s o t => lw_Q args s o t) := by
  intro p e ha hc hk s m args below hf hfit hheap happ hpre
  obtain ⟨b, xs, hP⟩ := lw_pre_spec hpre.2.2 hpre.2.1
  obtain ⟨k, o, h1, h2, h3, hQ⟩ := lw_walk l hflags b xs p e ha hc hk s m args below hf ((Spec.applies_iff_loose hf).mp happ).1 hP trivial
  exact ⟨k, o, h1, h2, h3, hQ⟩
theorem lw_frame {s t : State} {o : Outcome} {args : Array Value} (h : Framed s o t [] 96002 8814244) :
    Framed s o t (fieldLocs frame_1_writes args s ++ arrayLocs frame_1_arrays args s ++ staticLocs frame_1_statics s) 96002 8814244 := h
theorem lw_limb (L : Cond) (hL : ∀ (args : Array Value) (s t : State), L.after args s (.returned (some (.int 1))) t = true) :
    ArmFor flags0 classFile x code maxLocals ret World_1 tables_1 room_1 Calls_1 rest_1 Pre_1
      (fun tb e a s o t => postC L tb e a s o t ∧ Framed s o t (fieldLocs frame_1_writes a s ++ arrayLocs frame_1_arrays a s ++ staticLocs frame_1_statics s) 96002 8814244) := by
  intro l hflags _ _ p e ha hc hk s m args below hf hfit hheap happ hpre
  obtain ⟨k, o, h1, h2, h3, rfl, hF⟩ := lw_comes l hflags p e ha hc hk s m args below hf hfit hheap happ hpre
  exact ⟨k, _, h1, h2, h3, hL args s _, lw_frame hF⟩
theorem i_vc : Claimed_1_1 ∧ Claimed_1_2 := ⟨lw_limb limb_1_1 (fun args s t => by simp [limb_1_1, Cond.after, Cond.holds, Cond.value]), lw_limb limb_1_2 (fun args s t => Cond.after_iff.mpr (by
  first | (rw [show limb_1_2 = Cond.eq .result (.int 1) from rfl, Cond.eq_ints (x := 1) (y := 1) rfl rfl]; simp; done) | (simp [limb_1_2, Cond.value, Term.eval]; done)))⟩
