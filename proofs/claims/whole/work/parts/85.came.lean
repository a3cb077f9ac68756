/-! ===== failed, came: both sides ===== -/
theorem iv_ld {p : P} {T T' : Nat → Rows} {V V' : Nat → Nat → Int32} (h : Iv p T V) (hl : iLd T' p.t) (h2 : T' 2 = T 2) (h3 : T' 3 = T 3) (h4 : T' 4 = T 4) (h5 : T' 5 = T 5) (v0 : V' 0 = V 0) (v3 : V' 3 = V 3) (v4 : V' 4 = V 4) : Iv p T' V' := by
  refine ⟨by rw [v0]; exact h.r, ⟨by rw [h4, v4]; exact h.i0.1, by rw [h5]; exact h.i0.2.1, hl.2.2.2.2.2, by rw [h2]; exact h.i0.2.2.2.1, by rw [h3]; exact h.i0.2.2.2.2⟩, by rw [h4, h5]; exact h.x, by rw [h4]; exact h.sum, by rw [h5]; exact h.cold, by rw [v4]; exact h.n, by rw [v3]; exact h.sk, hl⟩
theorem run_ld {T T' : Nat → Rows} {V V' : Nat → Nat → Int32} (hr : runP T T' V V') {t : Nat} (h : iLd T t) (hn : V 4 0 = nI t) : iLd T' t := by
  have e7 : T' 7 = T 7 := hr.2.2.2.2.1 7 (by decide) (by decide) (by decide)
  have e8 : T' 8 = T 8 := hr.2.2.2.2.1 8 (by decide) (by decide) (by decide)
  refine ⟨hr.1, ?_, by rw [e7]; exact h.2.2.1, iG_run hr h.2.2.2.1 hn, by rw [e8]; exact h.2.2.2.2.1, hr.2.1⟩
  rw [e7]
  exact iW_keys h.2.1 hr.2.2.1 hr.2.2.2.1
theorem s_running {N : Nat} (hN : 65536 ≤ N) {p : P} {T : Nat → Rows} {V : Nat → Nat → Int32} {g : Nat → Int32} (h : RR T V g) (hI : Iv p T V) {k : Int32} (hk : Vk k) :
    (F_X3_runs (T 6) k = some 0 ∧ F_X12_running N g (kc k) = some (-1)) ∨ ∃ l, l < (T 6).length ∧ cl (rw' (T 6) l) 0 = k ∧ fk 0 (T 6) k = some l ∧ F_X3_runs (T 6) k = some 1 ∧ F_X12_running N g (kc k) = some (nI l) := by
  have h256 : (T 6).length ≤ 256 := by obtain ⟨lr, hG, hle, h6, -⟩ := h.l; exact h6
  unfold F_X12_running
  rw [s_loadOf hN h.l hI.ld.1 hk, bd_some]
  cases hf : fk 0 (T 6) k with
  | none =>
    left
    refine ⟨?_, by rw [if_pos (show oI none < 0 by decide)]⟩
    unfold F_X3_runs
    rw [n_loadRow, bd_some, hf, lt_b, if_neg (show ¬ tget (T 6) (oI none) 1 = 1 by
      have : tget (T 6) (oI none) 1 = 0 := if_pos (show oI none < 0 by decide)
      rw [this]; decide)]
  | some l =>
    obtain ⟨hl, hlk⟩ := fk_lt hf
    have hoe : oI (some l) = nI l := rfl
    rw [if_neg (show ¬ oI (some l) < 0 from nI_pos (by omega)), hoe, (LR16 h.l hl).2.2.2.1, bd_some, n_runs h256 hf]
    by_cases q : cl (rw' (T 6) l) 1 = 1
    · right
      exact ⟨l, hl, hlk, rfl, by rw [if_pos q], by rw [if_pos q, if_pos rfl]⟩
    · left
      exact ⟨by rw [if_neg q], by rw [if_neg q, if_neg (show ¬ (1 : Int32) = 2 by decide)]⟩
theorem m_failed {N : Nat} (hN : 65536 ≤ N) {c : Nat} (hc : c < 512) {tp : List Nat} {T : Nat → Rows} {V : Nat → Nat → Int32} {g : Nat → Int32} (hs : SQ c tp T V g) {tby : Nat → Int32} {tsz : Int32} {tape : Nat → Int32} {taped : Int32} (ht : TR tp tby tsz tape taped) (spot x : Int32) :
    ∃ (r : Int32) (T' : Nat → Rows) (V' : Nat → Nat → Int32) (g' : Nat → Int32) (tp' : List Nat) (tsz' taped' spot' : Int32), F_X11_failed N tby tsz (V 0) (V 4 0) (T 0) (T 1) (V 1) (V 2) (T 6) (T 7) (T 8) x = some (r, tsz', T' 0, T' 1, V' 1, V' 2, T' 6, T' 7, T' 8) ∧ F_X12_failed N g tape taped spot x = some (r, g', taped', spot') ∧ TR tp' tby tsz' tape taped' ∧ SQ (c + 1) tp' T' V' g' ∧ (∀ j, j ≠ 0 → j ≠ 1 → j ≠ 6 → j ≠ 7 → j ≠ 8 → T' j = T j) ∧ ∀ j, j ≠ 1 → j ≠ 2 → V' j = V j := by
  unfold F_X11_failed F_X12_failed
  rcases in01 x 1 99 with ⟨b1, b2⟩ | ⟨b1, b2, b3⟩
  · refine ⟨-1001, T, V, g, tp, tsz, taped, spot, ?_, by rw [b1, bd_some, if_pos rfl], ht, hs.up, fun _ _ _ _ _ _ => rfl, fun _ _ _ => rfl⟩
    by_cases h1 : x < 1
    · rw [if_pos h1]
    · rw [if_neg h1, if_neg (fun z => b2 ⟨Int32.not_lt.mp h1, z⟩)]
  rw [b1, bd_some, if_neg one_ne, if_neg (Int32.not_lt.mpr b2), if_pos b3]
  obtain ⟨k, spot', k1, k2, k3⟩ := take_both hN ht spot
  rw [k1, k2, bd_some, bd_some]
  rcases k3 with rfl | ⟨hk, hne⟩
  · exact ⟨-1002, T, V, g, [], 0, 0, spot', by rw [if_pos rfl], by rw [if_pos kc_0], ht.nil, hs.nil, fun _ _ _ _ _ _ => rfl, fun _ _ _ => rfl⟩
  have hs0 := hs
  obtain ⟨p, q, h, hI, hB, hq⟩ := hs
  have b7 : (T 7).length < 65536 := by have := hB.2.2.2; omega
  rw [if_neg (kc_ne0 hk).1, if_neg (kc_ne0 hk).2]
  rcases s_running hN h hI hk with ⟨r1, r2⟩ | ⟨l, hl, hlk, hf, r1, r2⟩
  · rw [r1, r2, bd_some, bd_some]
    exact ⟨-1005, T, V, g, [], 0, 0, spot', by rw [if_pos rfl], by rw [if_neg (by decide)], ht.nil, hs0.nil, fun _ _ _ _ _ _ => rfl, fun _ _ _ => rfl⟩
  have h256 : (T 6).length ≤ 256 := by obtain ⟨lr, hG, hle, h6, -⟩ := h.l; exact h6
  obtain ⟨T', V', g', c1, c2, c3, c4, c5, -⟩ := s_fail hN h hI.ld hI.n.1 hI.r.2.2.2.2.1 hI.r.2.2.2.2.2.1 b7 hl hlk x
  have I' : Iv p T' V' := iv_ld hI c4 (c5.1 2 (by decide) (by decide) (by decide) (by decide) (by decide)) (c5.1 3 (by decide) (by decide) (by decide) (by decide) (by decide)) (c5.1 4 (by decide) (by decide) (by decide) (by decide) (by decide)) (c5.1 5 (by decide) (by decide) (by decide) (by decide) (by decide)) (c5.2.1 0 (by decide) (by decide)) (c5.2.1 3 (by decide) (by decide)) (c5.2.1 4 (by decide) (by decide))
  refine ⟨nI (wl (T 7) k).length, T', V', g', [], 0, 0, spot', ?_, ?_, ht.nil, ⟨p, q, c3, I', hB.le c5.2.2.1 c5.2.2.2, by rw [ne1_nil]; omega⟩, c5.1, c5.2.1⟩
  · rw [r1, bd_some, if_neg one_ne, c1, bd_some]
  · rw [r2, bd_some, if_pos (nI_pos' (by omega)), c2, bd_some]
theorem upd_add0 (g : Nat → Int32) (k : Nat) : upd g k (g k + 0) = g := by rw [Int32.add_zero]; exact upd_self g k
/-- behind the delivery: what came becomes an entry or not -/
theorem s_settle {N : Nat} (hN : 65536 ≤ N) {p : P} {T : Nat → Rows} {V : Nat → Nat → Int32} {g : Nat → Int32} {s : Nat → Int32} (h : RR T (va_up V 1 (tallyN s 4)) g) (hI : Iv p T V) (hs : V 1 = s) (ha : p.a < 100000) {k v t : Int32} {w : Nat} (hk : Vk k) (hvv : ∃ q, q ≤ 99999 ∧ v = nI q) (hw1 : 1 ≤ w) (hw2 : w ≤ 20) (x6 : Int32) (tape : Nat → Int32) (taped spot : Int32) :
    ∃ (T' : Nat → Rows) (V' : Nat → Nat → Int32) (g' : Nat → Int32) (a' : Nat), F_X6_settle N (V 0) (V 4 0) (T 0) (T 2) s (T 4) (T 5) (V 3) (V 4 1) (V 4 3) k v (nI w) t = some (T' 0, T' 2, V' 1, T' 4, T' 5, V' 4 3) ∧ bd (F_X12_coldOf N g (kc k)) (fun o_9 =>
      if (o_9 < 0 : Prop) then
      J_X12_came_112 N v (nI w) t (kc k) x6 g tape taped spot
      else
      bd (F_X12_takesOut N g 14 1898 5 o_9) (fun o_17 =>
      J_X12_came_112 N v (nI w) t (kc k) x6 o_17 tape taped spot)) = bd (F_X12_runs N g') (fun o_15 => some (x6, o_15, taped, spot)) ∧ RR T' V' g' ∧ Iv (p.wa a') T' V' ∧ a' ≤ p.a + 1 ∧ (∀ j, j ≠ 0 → j ≠ 2 → j ≠ 4 → j ≠ 5 → T' j = T j) ∧ (∀ j, j ≠ 1 → j ≠ 4 → V' j = V j) ∧ ∀ j, j ≠ 3 → V' 4 j = V 4 j := by
  have h21 := h.c.2
  have h200 := h.e.2
  obtain ⟨hr0, hr1, hr2, hr3, hr4, hr5, hr6, hr7⟩ := hI.r
  have hcl := hI.cold
  -- the cold one goes
  have cold : ∃ (T1 : Nat → Rows) (g1 : Nat → Int32), F_X0_remove 20 (T 5) (oI (fk 7 (T 5) k)) = some (T1 5) ∧ bd (F_X12_coldOf N g (kc k)) (fun o_9 =>
      if (o_9 < 0 : Prop) then
      J_X12_came_112 N v (nI w) t (kc k) x6 g tape taped spot
      else
      bd (F_X12_takesOut N g 14 1898 5 o_9) (fun o_17 =>
      J_X12_came_112 N v (nI w) t (kc k) x6 o_17 tape taped spot)) = J_X12_came_112 N v (nI w) t (kc k) x6 g1 tape taped spot ∧ RR T1 (va_up V 1 (tallyN s 4)) g1 ∧ Iv p T1 V ∧ (∀ j, j ≠ 5 → T1 j = T j) ∧ ∀ q ∈ T1 5, ¬ cl q 7 = k := by
    rw [s_coldOf hN h.c hI.i0.2.1 hk, bd_some]
    cases hf : fk 7 (T 5) k with
    | none =>
      refine ⟨T, g, ?_, by rw [if_pos (show oI none < 0 by decide)], h, hI, fun _ _ => rfl, fk_none hf⟩
      unfold F_X0_remove
      rw [lt_b]
      exact congrArg some (if_pos (show oI none < 0 by decide))
    | some i =>
      obtain ⟨hil, hik⟩ := fk_lt hf
      have hoe : oI (some i) = nI i := rfl
      obtain ⟨g1, q1, r1⟩ := s_coldOut hN h hil
      refine ⟨_, g1, ?_, ?_, r1, co_iv hI i, fun j hj => vu_ne hj, cold_gone hI.x.1 hf⟩
      · rw [hoe, n_remove0 (by omega)]; rfl
      · rw [if_neg (show ¬ oI (some i) < 0 from nI_pos (by omega)), hoe, q1, bd_some]
  obtain ⟨T1, g1, c1, c2, r1, I1, t1, hk5⟩ := cold
  have t14 : T1 4 = T 4 := t1 4 (by decide)
  -- behind letIn or renew
  have fin : ∀ (r : Int32) (T3 : Nat → Rows) (V3 : Nat → Nat → Int32) (g3 : Nat → Int32) (s0 : Nat → Int32) (a' : Nat), RR (va_up T3 0 (pushK (T3 0) (if r = 0 then 5 else 4) (V 4 0) k)) V3 g3 → Inv0 T3 V3 → (r = 0 ∨ r = 1) → tallyN s0 4 = V3 1 → (T3 5).length ≤ p.c → wSN (T3 4) ≤ p.room → iX (T3 4) (T3 5) → (∀ j, j ≠ 0 → j ≠ 2 → j ≠ 4 → j ≠ 5 → T3 j = T j) → (∀ j, j ≠ 1 → j ≠ 4 → V3 j = V j) → (∀ j, j ≠ 3 → V3 4 j = V 4 j) → V3 4 3 = nI a' → a' ≤ p.a + 1 →
      J_X12_came_112 N v (nI w) t (kc k) x6 g1 tape taped spot = J_X12_came_153 N r x6 g3 tape taped spot →
      F_X6_settle N (V 0) (V 4 0) (T 0) (T 2) s (T 4) (T 5) (V 3) (V 4 1) (V 4 3) k v (nI w) t = J_X6_settle_54 N r k (V 0) (V 4 0) (T3 0) (T3 2) s0 (T3 4) (T3 5) (V 3) (V 4 1) (V3 4 3) →
      ∃ (T' : Nat → Rows) (V' : Nat → Nat → Int32) (g' : Nat → Int32) (a' : Nat), F_X6_settle N (V 0) (V 4 0) (T 0) (T 2) s (T 4) (T 5) (V 3) (V 4 1) (V 4 3) k v (nI w) t = some (T' 0, T' 2, V' 1, T' 4, T' 5, V' 4 3) ∧ J_X12_came_112 N v (nI w) t (kc k) x6 g1 tape taped spot = bd (F_X12_runs N g') (fun o_15 => some (x6, o_15, taped, spot)) ∧ RR T' V' g' ∧ Iv (p.wa a') T' V' ∧ a' ≤ p.a + 1 ∧ (∀ j, j ≠ 0 → j ≠ 2 → j ≠ 4 → j ≠ 5 → T' j = T j) ∧ (∀ j, j ≠ 1 → j ≠ 4 → V' j = V j) ∧ ∀ j, j ≠ 3 → V' 4 j = V 4 j := by
    intro r T3 V3 g3 s0 a' r3 I3 hr01 es hl5 hsum hX t3 v3 v34 e43 ha' ref cls
    have ivs : ∀ (B : Rows) (S : Nat → Int32), Iv (p.wa a') (va_up T3 0 B) (va_up V3 1 S) := by
      intro B S
      have w0 := v3 0 (by decide) (by decide)
      have w3 := v3 3 (by decide) (by decide)
      refine ⟨?_, ⟨I3.1, I3.2⟩, hX, hsum, hl5, ⟨?_, hI.n.2.1, ?_, ?_⟩, ?_, ?_⟩
      · show iR _ (V3 0)
        rw [w0]; exact hI.r
      · show V3 4 0 = _
        rw [v34 0 (by decide)]; exact hI.n.1
      · show V3 4 5 = _
        rw [v34 5 (by decide)]; exact hI.n.2.2.1
      · exact e43
      · show c15 (V3 3)
        rw [w3]; exact hI.sk
      · have z := hI.ld
        have e1 : va_up T3 0 B 1 = T 1 := t3 1 (by decide) (by decide) (by decide) (by decide)
        have e6 : va_up T3 0 B 6 = T 6 := t3 6 (by decide) (by decide) (by decide) (by decide)
        have e7 : va_up T3 0 B 7 = T 7 := t3 7 (by decide) (by decide) (by decide) (by decide)
        have e8 : va_up T3 0 B 8 = T 8 := t3 8 (by decide) (by decide) (by decide) (by decide)
        unfold iLd at z ⊢
        rw [e1, e6, e7, e8]
        exact z
    rcases hr01 with rfl | rfl
    · rw [if_pos rfl] at r3
      have r4 := s_led r3 (j := 6) (by decide)
      refine ⟨_, _, _, a', ?_, ?_, r4, ivs _ _, ha', fun j h0 h2 h4 h5 => by rw [vu_ne h0, t3 j h0 h2 h4 h5], fun j h1 h4 => by rw [vu_ne h1, v3 j h1 h4], fun j h3 => v34 j h3⟩
      · rw [cls]
        unfold J_X6_settle_54 J_X6_settle_78 J_X6_settle_92
        rw [n_tally s0 (x := 4) (j := 4) rfl (by decide), bd_some, if_pos rfl, es, n_tally (V3 1) (x := 6) (j := 6) rfl (by decide), bd_some, if_pos rfl, n_noteI hN (Or.inr hk) (V 4 0) (T3 0) _ 5 5 rfl (by decide), bd_some]
        rfl
      · rw [ref]
        unfold J_X12_came_153 J_X12_came_173
        rw [gl 26 26 rfl (by decide), if_pos rfl, gs 26 26 rfl (by decide)]
    · rw [if_neg one_ne] at r3
      refine ⟨_, V3, g3, a', ?_, ?_, r3, ?_, ha', fun j h0 h2 h4 h5 => by rw [vu_ne h0, t3 j h0 h2 h4 h5], v3, v34⟩
      · rw [cls]
        unfold J_X6_settle_54 J_X6_settle_78 J_X6_settle_92
        rw [n_tally s0 (x := 4) (j := 4) rfl (by decide), bd_some, if_neg one_ne, es, if_neg one_ne, n_noteI hN (Or.inr hk) (V 4 0) (T3 0) _ 4 4 rfl (by decide), bd_some]
        rfl
      · rw [ref]
        unfold J_X12_came_153 J_X12_came_173
        rw [gl 26 26 rfl (by decide), if_neg one_ne, gs 26 26 rfl (by decide), upd_add0]
      · have := ivs (pushK (T3 0) 4 (V 4 0) k) (V3 1)
        rw [va_same] at this
        exact this
  rw [c2]
  have vv0 : va_up V 1 (tallyN s 4) 0 = V 0 := rfl
  have vv4 : va_up V 1 (tallyN s 4) 4 = V 4 := rfl
  have vv3 : va_up V 1 (tallyN s 4) 3 = V 3 := rfl
  have vv1 : va_up V 1 (tallyN s 4) 1 = tallyN s 4 := rfl
  have I1' : Inv0 T1 (va_up V 1 (tallyN s 4)) := I1.i0
  have has := n_has (dm := 200) (rows := T 4) (by omega) (k := k)
  cases hf : fk 7 (T 4) k with
  | none =>
    obtain ⟨r, T3, V3, g3, d1, d2, d3, d4, d5, d6, d7, d8, d9, d10, d11, ⟨a', ha', ea'⟩, d13⟩ := s_letIn hN r1 I1' hr3 hr2 hr0 hr1 I1.cold hw1 hw2 (a := p.a) hI.n.2.2.2 ha hI.sk hk (by rw [t14]; exact fk_none hf) hvv (s := V 4 0) ⟨p.t, hI.n.2.1, hI.n.1⟩ (t := t) I1.sum
    rw [vv0, vv4, vv3, vv1, sh_letIn, t14] at d1
    obtain ⟨o, o1, o2⟩ := map_of d1
    have s0e : o = (r, T3 0, T3 2, o.2.2.2.1, T3 4, T3 5, V3 4 3) ∧ tallyN o.2.2.2.1 4 = V3 1 := by
      obtain ⟨oa, ob, oc, od, oe, og, oh⟩ := o
      injection o2 with z1 z2
      injection z2 with z2 z3
      injection z3 with z3 z4
      injection z4 with z4 z5
      injection z5 with z5 z6
      injection z6 with z6 z7
      have z1' : oa = r := z1
      have z2' : ob = T3 0 := z2
      have z3' : oc = T3 2 := z3
      have z5' : oe = T3 4 := z5
      have z6' : og = T3 5 := z6
      have z7' : oh = V3 4 3 := z7
      subst z1' z2' z3' z5' z6' z7'
      exact ⟨rfl, z4⟩
    rw [s0e.1] at o1
    refine fin r T3 V3 g3 o.2.2.2.1 a' d3 d4 d5 s0e.2 d7 d8 (d13 I1.x hk5) (fun j h0 h2 h4 h5 => by rw [d9 j h0 h2 h4 h5, t1 j h5]) (fun j h1 h4 => by rw [d10 j h1 h4, vu_ne h1]) (fun j h3 => by rw [d11 j h3, vv4]) ea' ha' ?_ ?_
    · unfold J_X12_came_112
      have e8 : g1 8 = V 4 0 := r1.z.2.1
      rw [s_entry hN r1.e I1.i0.1.iE hk, bd_some, t14, hf, if_pos (show oI none < 0 by decide), gl 8 8 rfl (by decide), e8, d2, bd_some]
    · unfold F_X6_settle F_X5_now
      rw [n_rowOf, bd_some, c1, bd_some, has, bd_some, if_pos hf, if_pos rfl, bd_some]
      have t10 : T1 0 = T 0 := t1 0 (by decide)
      have t12 : T1 2 = T 2 := t1 2 (by decide)
      rw [t10, t12] at o1
      rw [o1, bd_some]
  | some e =>
    obtain ⟨hel, hek⟩ := fk_lt hf
    have hoe : oI (some e) = nI e := rfl
    obtain ⟨r, T3, V3, g3, d1, d2, d3, d4, d5, d6, d7, d8, d9, d10⟩ := s_renew hN r1 I1' hr3 hr2 hr0 hr1 I1.cold hw1 hw2 (k := k) (e := e) (by rw [t14]; exact hf) hvv ⟨p.t, hI.n.2.1, hI.n.1⟩ (t := t) I1.sum
    rw [vv0, vv4, vv1, sh_renew, t14] at d1
    obtain ⟨o, o1, o2⟩ := map_of d1
    have s0e : o = (r, T3 0, T3 2, o.2.2.2.1, T3 4, T3 5) ∧ tallyN o.2.2.2.1 4 = V3 1 := by
      obtain ⟨oa, ob, oc, od, oe, og⟩ := o
      injection o2 with z1 z2
      injection z2 with z2 z3
      injection z3 with z3 z4
      injection z4 with z4 z5
      injection z5 with z5 z6
      have z1' : oa = r := z1
      have z2' : ob = T3 0 := z2
      have z3' : oc = T3 2 := z3
      have z5' : oe = T3 4 := z5
      have z6' : og = T3 5 := z6
      subst z1' z2' z3' z5' z6'
      exact ⟨rfl, z4⟩
    rw [s0e.1] at o1
    have v34 : V3 4 = V 4 := by rw [d9 4 (by decide), vv4]
    refine fin r T3 V3 g3 o.2.2.2.1 p.a d3 d4 d5 s0e.2 d6 d7 (d10 I1.x) (fun j h0 h2 h4 h5 => by rw [d8 j h0 h2 h4 h5, t1 j h5]) (fun j h1 _ => by rw [d9 j h1, vu_ne h1]) (fun j _ => by rw [v34]) (by rw [v34]; exact hI.n.2.2.2) (by omega) ?_ ?_
    · unfold J_X12_came_112
      rw [s_entry hN r1.e I1.i0.1.iE hk, bd_some, t14, hf, if_neg (show ¬ oI (some e) < 0 from nI_pos (by omega)), hoe, d2, bd_some]
    · unfold F_X6_settle
      rw [n_rowOf, bd_some, c1, bd_some, has, bd_some, if_neg (fk_has hf), if_neg one_ne]
      have t10 : T1 0 = T 0 := t1 0 (by decide)
      have t12 : T1 2 = T 2 := t1 2 (by decide)
      rw [t10, t12] at o1
      rw [o1, bd_some, v34]
